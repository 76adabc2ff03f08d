/-! ===== march; pairs brought together ===== -/
theorem cx_putClock {fu : Nat} (hfu : 3000 ≤ fu) {v m : hM} {n : Nat} (hv : vRel v n) (he : eRel v m n) {o : Nat} (ho : o < n) {h b : Int32} (hh : hIn h 2400) (hb : -1 ≤ b.toInt ∧ b.toInt ≤ 1) :
    ∃ m', f_X0_refresh fu (nI o) 0 2560 (sI (sI m (6 + 2 * o) 6 h) (6 + 2 * o) 7 b) = some ((), m') ∧ eRel (vClock v o h b) m' n ∧ keepE m m' := by
  have hn := hv.1
  have co : (nI o).toNatClampNeg = o := nI_clamp (by omega)
  have h6 : hIn (nI o) 6 := hIn_lt (by omega) (by omega)
  have hon : hIn (nI o) n := hIn_lt ho (by omega)
  have hok : hIn (nI o) n ∧ hIn h 2400 ∧ (-1 ≤ b.toInt ∧ b.toInt ≤ 1) := ⟨hon, hh, hb⟩
  obtain ⟨m', a1, a2, a3⟩ := cx_clock hfu hv he (nI o) h b
  rw [if_pos hok] at a1
  rw [if_pos hok, co] at a2
  refine ⟨m', ?_, a2, a3⟩
  unfold f_X10_clock at a1
  rw [cx_has fu _ m (by omega) he.1, hBd_some, if_pos hon, if_neg (by decide), cx_isHour, hBd_some, if_pos hh, if_neg (by decide), if_neg (by rw [i_lt]; show ¬ b.toInt < -1; omega), if_pos (by rw [i_le]; show b.toInt ≤ 1; omega), if_pos h6, hLet_n, if_pos h6, hLet_n, co] at a1
  cases hr : f_X0_refresh fu (nI o) 0 2560 (sI (sI m (6 + 2 * o) 6 h) (6 + 2 * o) 7 b) with
  | none => rw [hr] at a1; cases a1
  | some q =>
    obtain ⟨u, m2⟩ := q
    rw [hr, hBd_some] at a1
    cases a1
    rfl
theorem ok_march {fu : Nat} (hfu : 3000 ≤ fu) {m : hM} (h : IV m) (x1 x2 : Int32) : okC (f_X10_march fu x1 x2) (f_X11_march fu x1 x2) m := by
  obtain ⟨n, c, k, t, h⟩ := h
  have hp := h.2.1.1
  have hn := h.1.1.1
  have hc := hp.1
  have h3 : ∀ M : hM, (∀ a j, 96 ≤ a → gI M a j = gI m a j) → gI (sI M 96 0 0) 96 3 = nI n := fun M z => by rw [gI_sn (by omega), z _ _ (by omega)]; exact h.1.1.2.1
  have h16 : ∀ M : hM, (∀ a j, 96 ≤ a → gI M a j = gI m a j) → gI (sI M 96 0 0) 96 16 = nI c := fun M z => by rw [gI_sn (by omega), z _ _ (by omega)]; exact hp.2.1
  have id1 : ∀ a j, 96 ≤ a → gI m a j = gI m a j := fun _ _ _ => rfl
  unfold okC f_X10_march f_X11_march
  by_cases c1 : hIn x1 n
  rotate_left
  · refine ⟨-1, m, sI m 96 0 0, ?_, ?_, h.th rfl rfl⟩
    · rw [cx_has fu x1 m (by omega) h.1.2.1, hBd_some, if_neg c1, if_pos rfl]
    · rw [hLet_n, rx_isOffice fu x1 _ (by omega) (h3 m id1), hBd_some, if_neg c1, if_pos rfl]
  by_cases c2 : hIn x2 2400
  rotate_left
  · refine ⟨-1, m, sI m 96 0 0, ?_, ?_, h.th rfl rfl⟩
    · rw [cx_has fu x1 m (by omega) h.1.2.1, hBd_some, if_pos c1, if_neg (by decide), cx_isHour, hBd_some, if_neg c2, if_pos rfl]
    · rw [hLet_n, rx_isOffice fu x1 _ (by omega) (h3 m id1), hBd_some, if_pos c1, if_neg (by decide), rx_isHour, hBd_some, if_neg c2, if_pos rfl]
  by_cases c0 : c = 0
  · refine ⟨-1, m, sI m 96 0 0, ?_, ?_, h.th rfl rfl⟩
    · rw [cx_has fu x1 m (by omega) h.1.2.1, hBd_some, if_pos c1, if_neg (by decide), cx_isHour, hBd_some, if_pos c2, if_neg (by decide), h.2.1.2.1.1, if_neg (fun z => z (by rw [c0]; rfl))]
    · rw [hLet_n, rx_isOffice fu x1 _ (by omega) (h3 m id1), hBd_some, if_pos c1, if_neg (by decide), rx_isHour, hBd_some, if_pos c2, if_neg (by decide), h16 m id1, if_neg (fun z => z (by rw [c0]; rfl))]
  have nc : ¬ nI c = 0 := nI_ne0 (by omega) (by omega)
  obtain ⟨o, ho, rfl⟩ := hIn_of c1 (by omega)
  have co : (nI o).toNatClampNeg = o := nI_clamp (by omega)
  have h6 : hIn (nI o) 6 := hIn_lt (by omega) (by omega)
  obtain ⟨x, hx, hxe⟩ := h.now
  have rk := h.1.1.2.2.1 o ho
  have hv1 : vRel (vClock m o x2 1) n := vRel_clock h.1.1 c2 (by decide)
  have gv1 : ∀ a j, envC a j → ¬ erV a j → gI (vClock m o x2 1) a j = gI m a j := fun a j z1 z2 => by
    unfold vClock; rw [gI_sn (by unfold erV at z2; omega), gI_sn (by unfold erV at z2; omega)]
  obtain ⟨m1, m2, a1, a2, a3, a4⟩ := h.cw.run hfu hx hxe 2399
  have er2 := (a3.1.2.1.2.2.2.1 o ho).1.1
  have e6 : gI m2 (6 + 2 * o) 6 = gI m 104 o := er2 6 (by omega)
  have e7 : gI m2 (6 + 2 * o) 7 = gI m 105 o := er2 7 (by omega)
  obtain ⟨m3, b1, b2, b3⟩ := cx_putClock hfu h.1.1 a3.1.2.1 ho c2 (b := 1) (by decide)
  have w3 : CW (vClock m o x2 1) m3 n c (sFn m) := a3.earth (Nat.le_refl n) ⟨hv1, b2⟩ gv1 b3.hi
  obtain ⟨m4, m5, d1, d2, d3, d4⟩ := w3.run hfu hx hxe 2399
  have hh4 : hIn (gI m 104 o) 2400 := ⟨rk.2.2.2.2.2.2.1.1, by have := rk.2.2.2.2.2.2.1.2; omega⟩
  obtain ⟨m6, g1, g2, g3⟩ := cx_putClock hfu hv1 d3.1.2.1 ho hh4 (b := gI m 105 o) rk.2.2.2.2.2.2.2.1
  have back : eqV (vClock (vClock m o x2 1) o (gI m 104 o) (gI m 105 o)) m := fun a j z => by
    unfold vClock
    by_cases q : a = 105 ∧ j = o
    · rw [q.1, q.2, gI_ss]
    · rw [gI_sn q]
      by_cases q2 : a = 104 ∧ j = o
      · rw [q2.1, q2.2, gI_ss]
      · rw [gI_sn q2, gI_sn q, gI_sn q2]
  have w6 : CW m m6 n c (sFn m) := d3.earth (Nat.le_refl n) ⟨h.1.1, eRel_v g2 back⟩ (fun a j z1 z2 => (gv1 a j z1 z2).symm) g3.hi
  have f6 : fr PE m m6 := (fr.PEw a4).tr ((fr.PEe b3).tr ((fr.PEw d4).tr (fr.PEe g3)))
  have k6 := PE_hi f6
  obtain ⟨p1, s1, s2, s3⟩ := (h.rw' k6).run hfu hx hxe
  have r2 : RW (vClock m o x2 1) (sI (sI p1 104 o x2) 105 o 1) n c (sFn m) := s2.earth (Nat.le_refl n) hv1 gv1 (fun a j z => by
    unfold vClock; rw [gI_sI, gI_sI, gI_sI, gI_sI, s2.2.2.2.2.1 a j z]) (fun j hj => by rw [gI_sn (by omega), gI_sn (by omega)]; exact s2.2.2.2.2.2 j hj)
  obtain ⟨p2, t1, t2, t3⟩ := r2.run hfu hx hxe
  have p104 : gI p1 104 o = gI m 104 o := s2.2.2.2.2.1 _ _ (by unfold envC; omega)
  have p105 : gI p1 105 o = gI m 105 o := s2.2.2.2.2.1 _ _ (by unfold envC; omega)
  have fl : fr PS p1 (sI (sI p2 104 o (gI m 104 o)) 105 o (gI m 105 o)) := by
    refine ⟨fun a j z => ?_, fun a j => t3.2.1 a j, fun a j => t3.2.2 a j⟩
    by_cases q : a = 105 ∧ j = o
    · rw [q.1, q.2, gI_ss, p105]
    · rw [gI_sn q]
      by_cases q2 : a = 104 ∧ j = o
      · rw [q2.1, q2.2, gI_ss, p104]
      · rw [gI_sn q2, t3.1 a j z, gI_sn q, gI_sn q2]
  refine ⟨ltr (eEnd m n c x (sFn m)) (eEnd (vClock m o x2 1) n c x (sFn m)), m6, sI (sI p2 104 o (gI m 104 o)) 105 o (gI m 105 o), ?_, ?_, ?_⟩
  · rw [cx_has fu _ m (by omega) h.1.2.1, hBd_some, if_pos c1, if_neg (by decide), cx_isHour, hBd_some, if_pos c2, if_neg (by decide), h.2.1.2.1.1, if_pos nc, a1, hBd_some, if_pos rfl, a2, hBd_some, if_pos h6, hLet_n, hLet_n, hLet_n, hLet_n, co, e6, e7, b1, hBd_some, d1, hBd_some, if_pos rfl, d2, hBd_some, hLet_n, hLet_n, g1, hBd_some, cx_later fu hx hx, hBd_some]
  · rw [hLet_n, rx_isOffice fu _ _ (by omega) (h3 m6 k6), hBd_some, if_pos c1, if_neg (by decide), rx_isHour, hBd_some, if_pos c2, if_neg (by decide), h16 m6 k6, if_pos nc, s1, hBd_some, if_pos h6, hLet_n, if_pos h6, hLet_n, if_pos h6, hLet_n, if_pos h6, hLet_n, co, p104, p105, t1, hBd_some, if_pos h6, hLet_n, if_pos h6, hLet_n]
    exact rx_later hx hx _
  · exact IW.q1 (h.m6 f6 ⟨h.1.1, w6.1.2.1⟩ w6.2.2.2.1) k6 f6.2.1 f6.2.2 (fr.th.tr ((fr.p0 s3).tr (fr.p0 fl))) (fun a j z => P0S_ok z)
/-! pairs, brought together by the bits B -/
def m9 (x : Int32) : Int32 := if 9 < x then 9 else x
def pa (v : hM) (i : Nat) : Nat := (gI v 128 i).toNatClampNeg
def pb (v : hM) (i : Nat) : Nat := (gI v 129 i).toNatClampNeg
def pB (v : hM) (B : Int32) : Nat → hM
  | 0 => v
  | i + 1 => if bt B i = true then kn (pB v B i) 107 (pa v i) (pb v i) (m9 (gI v 107 (6 * pa v i + pb v i) + 3)) else pB v B i
theorem pB_k {v : hM} {B : Int32} {a j : Nat} (h : a ≠ 107) : ∀ i, gI (pB v B i) a j = gI v a j
  | 0 => rfl
  | i + 1 => by
    rw [pB]
    split
    · rw [kn_g, if_neg (fun z => h z.1), if_neg (fun z => h z.1)]; exact pB_k h i
    · exact pB_k h i
theorem pB_o {v : hM} {B : Int32} {j : Nat} : ∀ i, (∀ i', i' < i → j ≠ 6 * pa v i' + pb v i' ∧ j ≠ 6 * pb v i' + pa v i') → gI (pB v B i) 107 j = gI v 107 j
  | 0, _ => rfl
  | i + 1, h => by
    rw [pB]
    have ih := pB_o (v := v) (B := B) (j := j) i (fun i' hi' => h i' (by omega))
    have := h i (by omega)
    split
    · rw [kn_g, if_neg (by omega), if_neg (by omega)]; exact ih
    · exact ih
theorem pr_num {v m : hM} {n k i : Nat} (hn : n ≤ 6) (h : prR v m n k) (hi : i < k) : gI v 128 i = nI (pa v i) ∧ gI v 129 i = nI (pb v i) ∧ pa v i < n ∧ pb v i < n ∧ pa v i ≠ pb v i := by
  obtain ⟨_, _, _, a4, a5, a6, _⟩ := h.2.2.2.1 i hi
  obtain ⟨x, hx, hxe⟩ := hIn_of a4 (by omega)
  obtain ⟨y, hy, hye⟩ := hIn_of a5 (by omega)
  unfold pa pb
  rw [hxe, hye, nI_clamp (show x < 2 ^ 31 by omega), nI_clamp (show y < 2 ^ 31 by omega)]
  exact ⟨rfl, rfl, hx, hy, fun z => a6 (by rw [hxe, hye, z])⟩
theorem pr_dis {v m : hM} {n k i j : Nat} (hn : n ≤ 6) (h : prR v m n k) (hij : i < j) (hj : j < k) : 6 * pa v j + pb v j ≠ 6 * pa v i + pb v i ∧ 6 * pa v j + pb v j ≠ 6 * pb v i + pa v i := by
  obtain ⟨a1, a2, a3, a4, a5⟩ := pr_num hn h (show i < k by omega)
  obtain ⟨b1, b2, b3, b4, b5⟩ := pr_num hn h hj
  have := h.2.2.2.2 i j hij hj
  rw [a1, a2, b1, b2] at this
  constructor
  · intro z
    have e1 : pa v j = pa v i := by omega
    have e2 : pb v j = pb v i := by omega
    exact this.1 ⟨by rw [e1], by rw [e2]⟩
  · intro z
    have e1 : pa v j = pb v i := by omega
    have e2 : pb v j = pa v i := by omega
    exact this.2 ⟨by rw [e2], by rw [e1]⟩
theorem m9_rng {x : Int32} (h : 0 ≤ x.toInt ∧ x.toInt ≤ 9) : 0 ≤ (m9 (x + 3)).toInt ∧ (m9 (x + 3)).toInt ≤ 9 := by
  have e3 : (3 : Int32).toInt = 3 := rfl
  have e9 : (9 : Int32).toInt = 9 := rfl
  have e : (x + 3).toInt = x.toInt + 3 := by rw [i_add] <;> rw [e3] <;> omega
  unfold m9
  split
  · rw [e9]; omega
  · rename_i q
    rw [i_lt, e9] at q
    rw [e] at q ⊢; omega
theorem vRel_pB {v m : hM} {n k : Nat} {B : Int32} (hv : vRel v n) (h : prR v m n k) : ∀ i, i ≤ k → vRel (pB v B i) n
  | 0, _ => hv
  | i + 1, hi => by
    rw [pB]
    have ih := vRel_pB (B := B) hv h i (by omega)
    obtain ⟨a1, a2, a3, a4, a5⟩ := pr_num hv.1 h (show i < k by omega)
    split
    · have := hv.2.2.2.1 (pa v i) (pb v i) a3 a4
      exact vRel_kn ih a3 a4 a5 (m9_rng ⟨this.1, this.2.1⟩)
    · exact ih
theorem pB_L {v : hM} {B : Int32} : ∀ i, (∀ p q, gL (pB v B i) p q = gL v p q) ∧ ∀ p q, gR (pB v B i) p q = gR v p q
  | 0 => ⟨fun _ _ => rfl, fun _ _ => rfl⟩
  | i + 1 => by
    rw [pB]
    split
    · exact pB_L i
    · exact pB_L i
def tB (v w : hM) (B : Int32) : Nat → hM
  | 0 => w
  | i + 1 => if bt B i = true then kn (tB v w B i) 107 (pa v i) (pb v i) (gI v 107 (6 * pa v i + pb v i)) else tB v w B i
theorem tB_k {v w : hM} {B : Int32} {a j : Nat} (h : a ≠ 107) : ∀ i, gI (tB v w B i) a j = gI w a j
  | 0 => rfl
  | i + 1 => by
    rw [tB]
    split
    · rw [kn_g, if_neg (fun z => h z.1), if_neg (fun z => h z.1)]; exact tB_k h i
    · exact tB_k h i
/-- taken back: as it was -/
theorem tB_b {v m : hM} {n k : Nat} {B : Int32} (hv : vRel v n) (h : prR v m n k) (j : Nat) : ∀ i, i ≤ k → gI (tB v (pB v B k) B i) 107 j = gI v 107 j ∨ (gI (tB v (pB v B k) B i) 107 j = gI (pB v B k) 107 j ∧ ∀ i', i' < i → bt B i' = true → j ≠ 6 * pa v i' + pb v i' ∧ j ≠ 6 * pb v i' + pa v i')
  | 0, _ => Or.inr ⟨rfl, fun i' hi' => by omega⟩
  | i + 1, hi => by
    rw [tB]
    obtain ⟨a1, a2, a3, a4, a5⟩ := pr_num hv.1 h (show i < k by omega)
    have sy := (hv.2.2.2.1 (pa v i) (pb v i) a3 a4).2.2
    have ih := tB_b (B := B) hv h j i (by omega)
    by_cases hb : bt B i = true
    · rw [if_pos hb, kn_g]
      by_cases e1 : j = 6 * pb v i + pa v i
      · rw [if_pos ⟨rfl, e1⟩, e1]; exact Or.inl sy
      · rw [if_neg (fun z => e1 z.2)]
        by_cases e2 : j = 6 * pa v i + pb v i
        · rw [if_pos ⟨rfl, e2⟩, e2]; exact Or.inl rfl
        · rw [if_neg (fun z => e2 z.2)]
          rcases ih with q | ⟨q1, q2⟩
          · exact Or.inl q
          · refine Or.inr ⟨q1, fun i' hi' hb' => ?_⟩
            by_cases e : i' = i
            · subst e; exact ⟨e2, e1⟩
            · exact q2 i' (by omega) hb'
    · rw [if_neg hb]
      rcases ih with q | ⟨q1, q2⟩
      · exact Or.inl q
      · refine Or.inr ⟨q1, fun i' hi' hb' => ?_⟩
        by_cases e : i' = i
        · subst e; exact absurd hb' hb
        · exact q2 i' (by omega) hb'
theorem pB_ob {v : hM} {B : Int32} {j : Nat} : ∀ i, (∀ i', i' < i → bt B i' = true → j ≠ 6 * pa v i' + pb v i' ∧ j ≠ 6 * pb v i' + pa v i') → gI (pB v B i) 107 j = gI v 107 j
  | 0, _ => rfl
  | i + 1, h => by
    rw [pB]
    have ih := pB_ob (v := v) (B := B) (j := j) i (fun i' hi' => h i' (by omega))
    split
    · rename_i q
      have := h i (by omega) q
      rw [kn_g, if_neg (by omega), if_neg (by omega)]; exact ih
    · exact ih
theorem tB_eq {v m : hM} {n k : Nat} {B : Int32} (hv : vRel v n) (h : prR v m n k) : eqV (tB v (pB v B k) B k) v := fun a j z => by
  by_cases e : a = 107
  · subst e
    rcases tB_b (B := B) hv h j k (Nat.le_refl k) with q | ⟨q1, q2⟩
    · exact q.symm
    · rw [q1, pB_ob k q2]
  · rw [tB_k e, pB_k e]
