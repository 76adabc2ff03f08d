/-! ===== lie as a whole call ===== -/
def laO (v : hM) (p x o : Nat) : Option (Nat × Int32) := if bt (gI v 103 o) (gI v 108 p).toNatClampNeg = true then laS v p o (2399 - x) x (gI v 109 p) 0 false 0 else none
def liB (v : hM) (p x : Nat) : Nat → Option (Nat × Nat × Int32)
  | 0 => none
  | o + 1 => match laO v p x o with
    | none => liB v p x o
    | some (e, u) => (match liB v p x o with | none => some (o, e, u) | some (o', e', u') => if e < e' then some (o, e, u) else some (o', e', u'))
theorem laO_le {v : hM} {p x o e : Nat} {u : Int32} (h : laO v p x o = some (e, u)) (hx : x < 2400) : x < e ∧ e ≤ 2399 := by
  unfold laO at h
  split at h
  · have := laS_le _ _ _ _ _ _ _ _ h; omega
  · cases h
theorem liB_le {v : hM} {p x : Nat} (hx : x < 2400) : ∀ r o e u, liB v p x r = some (o, e, u) → o < r ∧ x < e ∧ e ≤ 2399
  | 0, o, e, u, q => by cases q
  | r + 1, o, e, u, q => by
    rw [liB] at q
    have ih := liB_le (v := v) (p := p) hx r
    cases hl : laO v p x r with
    | none => rw [hl] at q; have := ih o e u q; omega
    | some y =>
      obtain ⟨e1, u1⟩ := y
      have h1 := laO_le hl hx
      rw [hl] at q
      cases hw : liB v p x r with
      | none => rw [hw] at q; cases q; omega
      | some y =>
        obtain ⟨o', e', u'⟩ := y
        have := ih o' e' u' hw
        rw [hw] at q
        simp only [] at q
        split at q
        · cases q; omega
        · cases q; omega
theorem rx_lies {fu : Nat} (hfu : 3000 ≤ fu) {v m : hM} {n c p o x : Nat} (hv : vRel v n) (hp : pRng v n c) (hpc : p < c) (ho : o < n) (hx : x < 2400) (g : eqV v m) : ∃ m', f_X11_lies fu (nI p) (nI o) (nI x) m = some (lR (laO v p x o) (-1), m') ∧ (∀ e u, laO v p x o = some (e, u) → gI m' 96 47 = u) ∧ fr (fun a j => a = 96 ∧ j = 47) m m' := by
  have hc := hp.1
  unfold f_X11_lies laO
  rw [if_pos (hIn_lt (show p < 8 by omega) (by omega)), hLet_n, hLet_n, nI_clamp (show p < 2 ^ 31 by omega), g.a p (show 98 ≤ 109 by omega) (by omega)]
  have g1 : eqV v (sI m 96 47 0) := fun a j z => by rw [gI_sn (by unfold envC at z; omega)]; exact g a j z
  by_cases hk : bt (gI v 103 o) (gI v 108 p).toNatClampNeg = true
  · rw [if_pos hk]
    obtain ⟨m', r1, r2, r3⟩ := rx_lies22 fu hv hp hpc ho hk fu (2399 - x) x (gI v 109 p) 0 false 0 (sI m 96 47 0) (by omega) (by omega) g1 (gI_ss _ _ _ _) (fun z => by cases z)
    exact ⟨m', r1, r2, (fr.rf.si ⟨rfl, rfl⟩).tr r3⟩
  · rw [if_neg hk, rx_lies22n fu hv hp hpc ho hk fu (2399 - x) x (gI v 109 p) 0 (sI m 96 47 0) (by omega) (by omega) g1]
    exact ⟨_, rfl, fun e u q => (by cases q), fr.rf.si ⟨rfl, rfl⟩⟩
theorem cx_alone {fu : Nat} (hfu : 3000 ≤ fu) {v m : hM} {n c p o x M : Nat} (hMx : M ≤ 2399) (hn : n ≤ 6) (he : eRel v m n) (hp : pRng v n c) (hpr : pRel v m c) (hpc : p < c) (ho : o < n) (hx : x < 2400) : ∃ m', f_X8_doneAlone fu (nI p) (nI o) (nI x) (nI M) m = some (lR ((laO v p x o).filter (fun y => decide (y.1 ≤ M))) (-2), m') ∧ (∀ e u, (laO v p x o).filter (fun y => decide (y.1 ≤ M)) = some (e, u) → gI m' 32 7 = u) ∧ fr (fun a j => a = 32 ∧ j = 7) m m' := by
  have hc := hp.1
  have he1 : eRel v (sI m 32 7 0) n := eRel_fr he hn (fun a j z1 z2 => gI_sn (by omega))
  have hp1 : pRel v (sI m 32 7 0) c := ⟨by rw [gI_sn (by omega)]; exact hpr.1, fun p' hp' => by simp (disch := omega) only [gI_sn]; exact hpr.2 p' hp'⟩
  have h8 : hIn (nI p) 8 := hIn_lt (show p < 8 by omega) (by omega)
  unfold f_X8_doneAlone laO
  rw [hLet_n, cx_canWork fu hn he1 hp hp1 hpc ho, hBd_some]
  by_cases hk : bt (gI v 103 o) (gI v 108 p).toNatClampNeg = true
  · rw [if_pos hk, if_pos hk, if_pos (by decide), if_pos h8, hLet_n, if_pos h8, hLet_n, nI_clamp (show p < 2 ^ 31 by omega), (hp1.2 p hpc).2.2.2.2, (hp1.2 p hpc).2.2.1]
    obtain ⟨m', r1, r2, r3⟩ := cx_alone48 fu hMx hn hp hpc ho fu (M - x) x (gI v 109 p) 0 false 0 (sI m 32 7 0) (by omega) (by omega) hx he1 hp1 (gI_ss _ _ _ _) (fun z => by cases z)
    have e : laS v p o (M - x) x (gI v 109 p) 0 false 0 = (laS v p o (2399 - x) x (gI v 109 p) 0 false 0).filter (fun y => decide (y.1 ≤ M)) := by
      rw [laS_less (2399 - x) (M - x) _ _ _ _ _ (by omega)]
      cases hq : laS v p o (2399 - x) x (gI v 109 p) 0 false 0 with
      | none => rfl
      | some y =>
        obtain ⟨e, u⟩ := y
        have := laS_le _ _ _ _ _ _ _ _ hq
        rw [Option.filter_some, Option.filter_some]
        by_cases z : e ≤ M
        · rw [if_pos (by simp; omega), if_pos (by simp; omega)]
        · rw [if_neg (by simp; omega), if_neg (by simp; omega)]
    rw [← e]
    exact ⟨m', r1, r2, (fr.rf.si ⟨rfl, rfl⟩).tr r3⟩
  · rw [if_neg hk, if_neg hk, if_neg (by decide)]
    exact ⟨_, rfl, fun e u q => (by cases q), fr.rf.si ⟨rfl, rfl⟩⟩
def li1 (o : Option (Nat × Nat × Int32)) : Int32 := match o with | none => -2 | some (b, _, _) => nI b
def li2 (o : Option (Nat × Nat × Int32)) (z : Int32) : Int32 := match o with | none => z | some (_, e, _) => nI e
def li3 (o : Option (Nat × Nat × Int32)) : Int32 := match o with | none => 0 | some (_, _, u) => u
theorem cx_lie34 {fu : Nat} (hfu : 3000 ≤ fu) {v : hM} {n c p x : Nat} (hn : n ≤ 6) (hp : pRng v n c) (hpc : p < c) (hx : x < 2400) : ∀ (t o : Nat) (m : hM), o ≤ n → n - o < t → eRel v m n → pRel v m c →
    ∃ m', f_X10_lie_34 fu t (nI p) (nI x) (li1 (liB v p x o)) (li2 (liB v p x o) 2400) (li3 (liB v p x o)) (nI o) m = f_X10_lie_92 fu (li1 (liB v p x n)) (li2 (liB v p x n) 2400) (li3 (liB v p x n)) m' ∧ fr (fun a j => a = 32 ∧ j = 7) m m' := by
  intro t
  induction t with
  | zero => intro o m h1 h2; omega
  | succ t ih =>
    intro o m ho ht he hpr
    rw [f_X10_lie_34_s]
    unfold s_X10_lie_34
    rw [he.1]
    by_cases q : nI n ≤ nI o
    · rw [if_pos q]
      rw [nI_leI (by omega) (by omega)] at q
      have : o = n := by omega
      subst this
      exact ⟨m, rfl, fr.rf⟩
    · rw [if_neg q]
      rw [nI_leI (by omega) (by omega)] at q
      have L2 : ∃ L, L ≤ 2399 ∧ li2 (liB v p x o) 2400 - 1 = nI L ∧ (∀ z h u, liB v p x o = some (z, h, u) → L + 1 = h) ∧ (liB v p x o = none → L = 2399) := by
        cases hw' : liB v p x o with
        | none => exact ⟨2399, by omega, by decide, fun z h u y => (by cases y), fun _ => rfl⟩
        | some y =>
          obtain ⟨z', h', u'⟩ := y
          have := liB_le hx o z' h' u' hw'
          refine ⟨h' - 1, by omega, ?_, fun z h u y => by cases y; omega, fun y => by cases y⟩
          show nI h' - 1 = nI (h' - 1)
          have := nI_pred (h' - 1)
          rwa [show h' - 1 + 1 = h' by omega] at this
      obtain ⟨L, hL, hLe, hL1, hL2⟩ := L2
      obtain ⟨m1, a1, a2, a3⟩ := cx_alone hfu hL hn he hp hpr hpc (show o < n by omega) hx
      have he1 : eRel v m1 n := eRel_fr he hn (fun a j z1 z2 => a3.1 a j (by omega))
      have hp1 : pRel v m1 c := ⟨by rw [a3.1 _ _ (by omega)]; exact hpr.1, fun p' hp' => by rw [a3.1 _ _ (by omega), a3.1 _ _ (by omega), a3.1 _ _ (by omega), a3.1 _ _ (by omega), a3.1 _ _ (by omega)]; exact hpr.2 p' hp'⟩
      obtain ⟨m2, s1, s2⟩ := ih (o + 1) m1 (by omega) (by omega) he1 hp1
      rw [hLe, a1, hBd_some]
      unfold f_X10_lie_86
      simp only [hLet_n, nI_1]
      refine ⟨m2, ?_, a3.tr s2⟩
      rw [← s1, liB]
      cases hl : laO v p x o with
      | none => rw [show lR (Option.filter (fun y => decide (y.1 ≤ L)) (none : Option (Nat × Int32))) (-2) = -2 from rfl, if_pos rfl]
      | some y =>
        obtain ⟨e, u⟩ := y
        have hle := laO_le hl hx
        rw [hl] at a2
        have fy : e ≤ L → (some (e, u) : Option (Nat × Int32)).filter (fun y => decide (y.1 ≤ L)) = some (e, u) := fun z => by rw [Option.filter_some, if_pos (by simpa using z)]
        have fn : ¬ e ≤ L → (some (e, u) : Option (Nat × Int32)).filter (fun y => decide (y.1 ≤ L)) = none := fun z => by rw [Option.filter_some, if_neg (by simpa using z)]
        cases hw : liB v p x o with
        | none =>
          have := hL2 hw
          subst this
          rw [fy hle.2] at a2 ⊢
          rw [show lR (some (e, u)) (-2) = nI e from rfl, if_neg (nI_nm hle.2).1, a2 e u rfl]
          rfl
        | some y =>
          obtain ⟨o', e', u'⟩ := y
          have := hL1 o' e' u' hw
          simp only []
          by_cases y : e ≤ L
          · rw [fy y] at a2 ⊢
            rw [show lR (some (e, u)) (-2) = nI e from rfl, if_neg (nI_nm hle.2).1, a2 e u rfl, if_pos (by omega)]
            rfl
          · rw [fn y, show lR (none : Option (Nat × Int32)) (-2) = -2 from rfl, if_pos rfl, if_neg (by omega)]
theorem rx_lie34 {fu : Nat} (hfu : 3000 ≤ fu) {v : hM} {n c p x : Nat} (hv : vRel v n) (hp : pRng v n c) (hpc : p < c) (hx : x < 2400) : ∀ (t o : Nat) (m : hM), o ≤ n → n - o < t → eqV v m →
    ∃ m', f_X11_lie_34 fu t (nI p) (nI x) (li1 (liB v p x o)) (li2 (liB v p x o) 0) (li3 (liB v p x o)) (nI o) m = f_X11_lie_88 fu (li1 (liB v p x n)) (li2 (liB v p x n) 0) (li3 (liB v p x n)) m' ∧ fr (fun a j => a = 96 ∧ j = 47) m m' := by
  have hn := hv.1
  intro t
  induction t with
  | zero => intro o m h1 h2; omega
  | succ t ih =>
    intro o m ho ht g
    rw [f_X11_lie_34_s]
    unfold s_X11_lie_34
    rw [g 96 3 (by unfold envC; omega), hv.2.1]
    by_cases q : nI n ≤ nI o
    · rw [if_pos q]
      rw [nI_leI (by omega) (by omega)] at q
      have : o = n := by omega
      subst this
      exact ⟨m, rfl, fr.rf⟩
    · rw [if_neg q]
      rw [nI_leI (by omega) (by omega)] at q
      obtain ⟨m1, a1, a2, a3⟩ := rx_lies hfu hv hp hpc (show o < n by omega) hx g
      have g1 : eqV v m1 := fun a j z => (a3.1 a j (by unfold envC at z; omega)).trans (g a j z)
      obtain ⟨m2, s1, s2⟩ := ih (o + 1) m1 (by omega) (by omega) g1
      rw [a1, hBd_some]
      unfold f_X11_lie_69 f_X11_lie_82
      simp only [hLet_n, nI_1]
      refine ⟨m2, ?_, a3.tr s2⟩
      rw [← s1, liB]
      cases hl : laO v p x o with
      | none => rw [if_pos (show lR none (-1) < 0 by unfold lR; decide)]
      | some y =>
        obtain ⟨e, u⟩ := y
        have hle := laO_le hl hx
        rw [show lR (some (e, u)) (-1) = nI e from rfl, if_neg (nI_nm hle.2).2.2.1, a2 e u hl]
        cases hw : liB v p x o with
        | none =>
          rw [if_pos (show li1 none < 0 by unfold li1; decide)]
          rfl
        | some y =>
          obtain ⟨o', e', u'⟩ := y
          have := liB_le hx o o' e' u' hw
          rw [if_neg (show ¬ li1 (some (o', e', u')) < 0 from nI_pos (show o' < 2 ^ 31 by omega))]
          simp only []
          by_cases y : e < e'
          · rw [if_neg (show ¬ li2 (some (o', e', u')) 0 ≤ nI e from nI_ge y (by omega)), if_pos y]; rfl
          · rw [if_pos (show li2 (some (o', e', u')) 0 ≤ nI e from nI_le (by omega) (by omega)), if_neg y]
theorem ok_lie {fu : Nat} (hfu : 3000 ≤ fu) {m : hM} (h : IV m) (x1 x2 : Int32) : okC (f_X10_lie fu x1 x2) (f_X11_lie fu x1 x2) m := by
  obtain ⟨n, c, k, t, h⟩ := h
  have hp := h.2.1.1
  have hn := h.1.1.1
  have hc := hp.1
  have h16 : ∀ M : hM, (∀ a j, 96 ≤ a → gI M a j = gI m a j) → gI (sI M 96 0 0) 96 16 = nI c := fun M z => by rw [gI_sn (by omega), z _ _ (by omega)]; exact hp.2.1
  have id1 : ∀ a j, 96 ≤ a → gI m a j = gI m a j := fun _ _ _ => rfl
  unfold okC f_X10_lie f_X11_lie
  by_cases c1 : hIn x1 c
  rotate_left
  · refine ⟨-1, m, sI m 96 0 0, ?_, ?_, h.th rfl rfl⟩
    · rw [cx_hasP fu x1 m (by omega) h.2.1.2.1.1, hBd_some, if_neg c1, if_pos rfl]
    · rw [hLet_n, rx_isPiece fu x1 _ (by omega) (h16 m id1), hBd_some, if_neg c1, if_pos rfl]
  by_cases c2 : hIn x2 2400
  rotate_left
  · refine ⟨-1, m, sI m 96 0 0, ?_, ?_, h.th rfl rfl⟩
    · rw [cx_hasP fu x1 m (by omega) h.2.1.2.1.1, hBd_some, if_pos c1, if_neg (by decide), cx_isHour, hBd_some, if_neg c2, if_neg (by decide)]
    · rw [hLet_n, rx_isPiece fu x1 _ (by omega) (h16 m id1), hBd_some, if_pos c1, if_neg (by decide), rx_isHour, hBd_some, if_neg c2, if_neg (by decide)]
  obtain ⟨p, hpc, rfl⟩ := hIn_of c1 (by omega)
  obtain ⟨x, hx, rfl⟩ := hIn_of c2 (by omega)
  obtain ⟨m6, s1, s3⟩ := cx_lie34 hfu hn hp hpc hx fu 0 m (by omega) (by omega) h.1.2 h.2.1.2.1
  have s1' : f_X10_lie_34 fu fu (nI p) (nI x) (-2) 2400 0 0 m = _ := s1
  have f6 : fr PE m m6 := s3.mono (fun a j z => by unfold PE PC; omega)
  have k6 := PE_hi f6
  have h6 : IW m m6 n c k t := h.m6 f6 (erR_cg h.1 (fun _ _ _ => rfl) (fun a j z1 z2 => s3.1 a j (by omega))) (jk_cg h.2.2.2.2.2.1 (fun a j z1 z2 => s3.1 a j (by omega)))
  have B : ∀ M0 : hM, (∀ a j, 96 ≤ a → gI M0 a j = gI m a j) → ∃ p1, (∀ M, (hLet (sI M0 96 0 0) fun m1 => hBd (f_X11_isPiece fu (nI p) m1) fun y2 m3 => if y2 = 0 then some ((-1 : Int32), m3) else (hBd (f_X11_isHour fu (nI x) m3) fun y5 m6 => if ¬ y5 = 0 then f_X11_lie_34 fu fu (nI p) (nI x) (-2) 0 0 0 m6 else some ((-1), m6))) = M ↔ f_X11_lie_88 fu (li1 (liB m p x n)) (li2 (liB m p x n) 0) (li3 (liB m p x n)) p1 = M) ∧ fr P0S M0 p1 := fun M0 z => by
    obtain ⟨p1, u1, u3⟩ := rx_lie34 hfu h.1.1 hp hpc hx fu 0 (sI M0 96 0 0) (by omega) (by omega) (eqV_th (eqV_hi z))
    have u1' : f_X11_lie_34 fu fu (nI p) (nI x) (-2) 0 0 0 (sI M0 96 0 0) = _ := u1
    refine ⟨p1, fun M => ?_, fr.th.tr (u3.mono (fun a j y => by unfold P0S; omega))⟩
    rw [hLet_n, rx_isPiece fu _ _ (by omega) (h16 M0 z), hBd_some, if_pos c1, if_neg (by decide), rx_isHour, hBd_some, if_pos c2, if_pos (by decide), u1']
  rw [cx_hasP fu _ m (by omega) h.2.1.2.1.1, hBd_some, if_pos c1, if_neg (by decide), cx_isHour, hBd_some, if_pos c2, if_pos (by decide), s1']
  cases hw : liB m p x n with
  | none =>
    obtain ⟨p1, u1, u2⟩ := B m6 k6
    refine ⟨-2, m6, p1, rfl, (u1 _).mpr ?_, IW.q1 h6 k6 f6.2.1 f6.2.2 u2 (fun a j z => P0S_ok z)⟩
    rw [hw]; rfl
  | some q =>
    obtain ⟨o', e', u'⟩ := q
    have hb' := liB_le hx _ o' e' u' hw
    obtain ⟨p1, u1, u2⟩ := B (setRow m6 67 66 1 ([(nI e').toInt64] ++ [u'.toInt64])) (fun a j z => by rw [sr_In (by omega)]; exact k6 a j z)
    refine ⟨nI o', setRow m6 67 66 1 ([(nI e').toInt64] ++ [u'.toInt64]), setRow p1 97 96 1 ([(nI e').toInt64] ++ [u'.toInt64]), ?_, (u1 _).mpr ?_, IW.q2 h6 k6 f6.2.1 f6.2.2 (by simp) u2 (fun a j z => P0S_ok z) rfl⟩
    · unfold f_X10_lie_92
      rw [if_neg (show ¬ li1 (some (o', e', u')) = -2 from (nI_nm (show o' ≤ 2399 by omega)).1), cx_clear, hBd_some, cx_tell fu m6 (by simp), hBd_some, cx_tell fu m6 (by simp), hBd_some]
      rfl
    · rw [hw]
      unfold f_X11_lie_88
      rw [if_neg (show ¬ li1 (some (o', e', u')) < 0 from (nI_nm (show o' ≤ 2399 by omega)).2.2.1), hLet_n, sr_nil p1 97 96 1, rx_enters fu p1 (by simp), hBd_some, rx_enters fu p1 (by simp), hBd_some]
      rfl
