/-! ===== cheap: the reference, hour by hour ===== -/
def nwL (v : hM) (n b p k x t : Nat) (m : hM) (N : Nat) : Prop := ∀ n' o' l', n' < 4 → o' < 6 → l' < 128 → mnL (gL m N ((n' * 6 + o') * 128 + l')) (fun z => ∃ (r : List Nat) (q : Nat), r.length = n' ∧ rtL b r = o' ∧ z = 512 * q + rtC r ∧ qQ v n b p k x t r l' q)
def cEn (v : hM) (n b p k x T n' z : Nat) : Prop := ∃ (r : List Nat) (q : Nat), r.length = n' ∧ z = 512 * q + rtC r ∧ qF v n b p k x T r q
theorem rtC_64 {n b : Nat} (hn : n ≤ 6) {r : List Nat} (h : rtV n b r) (hl : r.length ≤ 2) : rtC r < 64 := by
  have := rtC_lt hn h
  have h8 : 8 ^ r.length ≤ 8 ^ 2 := Nat.pow_le_pow_right (by omega) hl
  omega
theorem nwL_src {v : hM} {n b p k x t : Nat} {m : hM} {N : Nat} (h : nwL v n b p k x t m N) {n1 o1 l1 c1 : Nat} (hn : n ≤ 6) (hk : k ≤ 2) (q : pSrc m N n k n1 o1 l1 c1) : ∃ (r : List Nat) (q : Nat), r.length = n1 ∧ rtL b r = o1 ∧ c1 = 512 * q + rtC r ∧ qQ v n b p k x t r l1 q := by
  obtain ⟨q1, q2, q3, q4, q5, q6⟩ := q
  exact (mnL_src (h n1 o1 l1 (by omega) (by omega) q4) (by omega) q6).1
theorem nwL_ex {v : hM} {n c b p k x t : Nat} (hv : vRel v n) (hp : pRng v n c) (hpc : p < c) (hb : b < n) (hk : k ≤ 2) (ht : t ≤ 400) {m : hM} {N : Nat} (h : nwL v n b p k x t m N) {r : List Nat} {l q : Nat} (hq : qQ v n b p k x t r l q) : ∃ c1, c1 ≤ 512 * q + rtC r ∧ pSrc m N n k r.length (rtL b r) l c1 := by
  obtain ⟨a1, a2, a3, a4, a5⟩ := qQ_ok hv hp hpc hb t r l q hq
  have hl := rtL_lt hb a1
  have hn := hv.1
  have h64 := rtC_64 hn a1 (by omega)
  rcases h r.length (rtL b r) l (by omega) (by omega) (by omega) with ⟨c1, c0, e, hc, hm⟩ | ⟨e, hno⟩
  · have := hm _ ⟨r, q, rfl, rfl, rfl, hq⟩
    exact ⟨c1, this, a2, hl, a3, by omega, by omega, e⟩
  · exact absurd ⟨r, q, rfl, rfl, rfl, hq⟩ (hno (512 * q + rtC r))
theorem nwL_next {v : hM} {n c b p k x t : Nat} (hv : vRel v n) (hp : pRng v n c) (hpc : p < c) (hb : b < n) (hk : k ≤ 2) (ht : t < 400) {m0 m : hM} {N X : Nat} (h : nwL v n b p k x t m0 N) (hI : pIn m0 m N X n k (fun a o => loN v (gI v 96 14) a o (x + t + 1)) (fun o => wkP v p o (x + t)) (wgN v) (cEn v n b p k x t) 3072) :
    nwL v n b p k x (t + 1) m X ∧ eqE m (cEn v n b p k x (t + 1)) := by
  have hn := hv.1
  have ex := fun r l q (hq : qQ v n b p k x t r l q) => nwL_ex hv hp hpc hb hk (by omega) h hq
  constructor
  · intro n' o' l' z1 z2 z3
    refine mnL_tr (hI.2.1 n' o' l' z1 z2 z3) (fun z q => ?_) (fun z q => ?_)
    · obtain ⟨n1, o1, l1, c1, q1, q2, q3⟩ := q
      obtain ⟨r, q, r1, r2, r3, r4⟩ := nwL_src h hn hk q2
      obtain ⟨a1, a2, a3, a4, a5⟩ := qQ_ok hv hp hpc hb t r l1 q r4
      have h64 := rtC_64 hn a1 (by omega)
      have give : ∀ l2 q', 1 ≤ l2 → qMid v b p (x + t) (qQ v n b p k x t) r l2 q' → cpb (fun a o => loN v (gI v 96 14) a o (x + t + 1)) n k n1 o1 l2 (512 * q' + rtC r) n' o' l' z → ∃ (r : List Nat) (q : Nat), r.length = n' ∧ rtL b r = o' ∧ z = 512 * q + rtC r ∧ qQ v n b p k x (t + 1) r l' q := by
        intro l2 q' y1 y2 y3
        rcases y3.2 with ⟨rfl, rfl, rfl, rfl⟩ | ⟨p1, rfl, p3, p4, rfl, rfl⟩
        · exact ⟨r, q', r1, r2, rfl, y1, Or.inl y2⟩
        · refine ⟨o' :: r, q', by rw [List.length_cons, r1], rfl, by rw [rtC]; omega, by omega, Or.inr ⟨o', r, l2, rfl, by omega, p3, by rw [r2]; exact p4, y1, y2, by rw [r2]⟩⟩
      rcases q3 with q3 | ⟨q3, q4⟩
      · rw [r3] at q3
        exact give l1 q q3.1 (Or.inl r4) q3
      · rw [r3] at q4
        have q5 := q4.1
        refine give (l1 - 1) (q + wgN v o1) q5 (Or.inr ⟨by rw [r2]; exact q3, q, by rw [show l1 - 1 + 1 = l1 by omega]; exact r4, by rw [r2]⟩) ?_
        rw [show 512 * (q + wgN v o1) + rtC r = 512 * q + rtC r + 512 * wgN v o1 by omega]
        exact q4
    · obtain ⟨r, q, r1, r2, r3, q1, q2⟩ := q
      -- what the middle gives
      have mid : ∀ r l2 q', 1 ≤ l2 → qMid v b p (x + t) (qQ v n b p k x t) r l2 q' → ∃ l1 c1 c2, (r.length * 6 + rtL b r) * 128 + l1 < 3072 ∧ pSrc m0 N n k r.length (rtL b r) l1 c1 ∧ c2 ≤ 512 * q' + rtC r ∧ (∃ (r' : List Nat) (q' : Nat), r'.length = r.length ∧ rtV n b r' ∧ c2 = 512 * q' + rtC r') ∧ rtV n b r ∧ r.length ≤ 2 ∧ ((l2 = l1 ∧ c2 = c1) ∨ (wkP v p (rtL b r) (x + t) = 1 ∧ l2 = l1 - 1 ∧ c2 = c1 + 512 * wgN v (rtL b r))) := by
        intro r l2 q' y1 y2
        rcases y2 with y2 | ⟨y2, q0, y3, rfl⟩
        · obtain ⟨c1, c2, c3⟩ := ex r l2 q' y2
          have c4 := c3
          obtain ⟨d1, d2, d3, d4, d5, d6⟩ := c3
          obtain ⟨a1, a2, -⟩ := qQ_ok hv hp hpc hb t r l2 q' y2
          obtain ⟨r', q9, e1, e2, e3, e4⟩ := nwL_src h hn hk c4
          exact ⟨l2, c1, c1, by omega, c4, c2, ⟨r', q9, e1, (qQ_ok hv hp hpc hb t _ _ _ e4).1, e3⟩, a1, by omega, Or.inl ⟨rfl, rfl⟩⟩
        · obtain ⟨c1, c2, c3⟩ := ex r (l2 + 1) q0 y3
          have c4 := c3
          obtain ⟨d1, d2, d3, d4, d5, d6⟩ := c3
          obtain ⟨a1, a2, -⟩ := qQ_ok hv hp hpc hb t r (l2 + 1) q0 y3
          obtain ⟨r', q9, e1, e2, e3, e4⟩ := nwL_src h hn hk c4
          exact ⟨l2 + 1, c1, c1 + 512 * wgN v (rtL b r), by omega, c4, by omega, ⟨r', q9 + wgN v (rtL b r), e1, (qQ_ok hv hp hpc hb t _ _ _ e4).1, by omega⟩, a1, by omega, Or.inr ⟨y2, by omega, rfl⟩⟩
      rcases q2 with q2 | ⟨o, r', l'', e1, p1, p2, p3, p4, p5, p6⟩
      · obtain ⟨l1, c1, c2, y1, y2, y3, -, -, -, y4⟩ := mid r l' q q1 q2
        refine ⟨c2, by omega, r.length, rtL b r, l1, c1, y1, y2, ?_⟩
        rcases y4 with ⟨rfl, rfl⟩ | ⟨u1, u2, u3⟩
        · exact Or.inl ⟨q1, Or.inl ⟨r1.symm, r2.symm, rfl, rfl⟩⟩
        · exact Or.inr ⟨u1, by rw [← u2]; exact q1, Or.inl ⟨r1.symm, r2.symm, by rw [← u2], u3⟩⟩
      · subst e1
        rw [rtL] at r2
        subst r2
        rw [rtC] at r3
        rw [List.length_cons] at r1
        obtain ⟨l1, c1, c2, y1, y2, y3, ⟨r9, q9, w1, w2, w3⟩, w4, w5, y4⟩ := mid r' l'' q p4 p5
        have h9 := rtC_64 hn w2 (by omega)
        have h64 := rtC_64 hn w4 (by omega)
        refine ⟨c2 / 512 * 512 + (c2 % 512 * 8 + o), by omega, r'.length, rtL b r', l1, c1, y1, y2, ?_⟩
        rcases y4 with ⟨rfl, rfl⟩ | ⟨u1, u2, u3⟩
        · exact Or.inl ⟨p4, Or.inr ⟨p1, r1.symm, p2, p3, p6, rfl⟩⟩
        · exact Or.inr ⟨u1, by rw [← u2]; exact p4, Or.inr ⟨p1, r1.symm, p2, p3, by rw [← u2]; exact p6, by rw [u3]⟩⟩
  · refine eqE_tr hI.2.2 (fun n' z q => ?_) (fun n' z q => ?_)
    · rcases q with ⟨r, q, r1, r2, r3⟩ | ⟨o1, c1, q1, q2, q3, q4⟩
      · exact ⟨r, q, r1, r2, qF_s.mpr (Or.inl r3)⟩
      · obtain ⟨r, q, r1, r2, r3, r4⟩ := nwL_src h hn hk q2
        refine ⟨r, q + wgN v o1, r1, by omega, qF_s.mpr (Or.inr ⟨by rw [r2]; exact q3, q, r4, by rw [r2]⟩)⟩
    · obtain ⟨r, q, r1, r2, r3⟩ := q
      rcases qF_s.mp r3 with y | ⟨y1, q0, y2, y3⟩
      · exact ⟨n', z, Or.inl ⟨r, q, r1, r2, y⟩, by unfold lxL; omega⟩
      · obtain ⟨c1, c2, c3⟩ := ex r 1 q0 y2
        have c4 := c3
        obtain ⟨d1, d2, d3, d4, d5, d6⟩ := c3
        refine ⟨r.length, c1 + 512 * wgN v (rtL b r), Or.inr ⟨rtL b r, c1, by omega, c4, y1, rfl⟩, ?_⟩
        unfold lxL
        omega
def PU (a j : Nat) : Prop := a = 123 ∨ (a = 96 ∧ j = 46)
def frU (m m' : hM) : Prop := (∀ a j, ¬ PU a j → gI m' a j = gI m a j) ∧ (∀ a j, ¬ (a = 124 ∨ a = 125 ∨ (a = 96 ∧ j = 45)) → gL m' a j = gL m a j) ∧ ∀ a j, ¬ (a = 96 ∧ (j = 43 ∨ j = 44)) → gR m' a j = gR m a j
theorem frU.tr {m m1 m2 : hM} (h : frU m m1) (g : frU m1 m2) : frU m m2 := ⟨fun a j z => (g.1 a j z).trans (h.1 a j z), fun a j z => (g.2.1 a j z).trans (h.2.1 a j z), fun a j z => (g.2.2 a j z).trans (h.2.2 a j z)⟩
theorem frU.eqV {v m m1 : hM} (h : frU m m1) (g : eqV v m) : eqV v m1 := fun a j z => (h.1 a j (by unfold envC at z; unfold PU; omega)).trans (g a j z)
theorem frU.rf {m : hM} : frU m m := ⟨fun _ _ _ => rfl, fun _ _ _ => rfl, fun _ _ _ => rfl⟩
theorem fl.U {P : Nat → Nat → Prop} {X : Nat} (hX : X = 124 ∨ X = 125) {m m' : hM} (f : fl P X m m') (h : ∀ a j, P a j → PU a j) : frU m m' := ⟨fun a j z => f.1 a j (fun y => z (h a j y)), fun a j z => f.2.1 a j (fun y => by omega) (fun y => by omega), fun a j _ => f.2.2 a j⟩
def rf3 (m : hM) : Prop := (gR m 96 43 = 124 ∧ gR m 96 44 = 125) ∨ (gR m 96 43 = 125 ∧ gR m 96 44 = 124)
theorem rx_ch95 {fu : Nat} (hfu : 4000 ≤ fu) {v : hM} {n c p b k x e : Nat} (hv : vRel v n) (hp : pRng v n c) (hpc : p < c) (hb : b < n) (hk : k ≤ 2) (he1 : x ≤ e) (he2 : e ≤ 2399) (he3 : e ≤ x + 400) : ∀ (f t : Nat) (m1 : hM), e - (x + t) < f → x + t ≤ e → eqV v m1 → rf3 m1 → nwL v n b p k x t m1 (gR m1 96 43) → eqE m1 (cEn v n b p k x t) →
    ∃ m2, f_X11_cheap_95 fu f (nI p) (nI k) (nI e) (nI (x + t)) m1 = f_X11_cheap_303 fu m2 ∧ frU m1 m2 ∧ rf3 m2 ∧ eqE m2 (cEn v n b p k x (e - x)) := by
  have hL := hv.2.2.2.2.2.1
  have hn := hv.1
  intro f
  induction f with
  | zero => intro t m1 h1; exact absurd h1 (Nat.not_lt_zero _)
  | succ f ih =>
    intro t m1 hf ht hE hr hI hEn
    rw [f_X11_cheap_95_s]
    unfold s_X11_cheap_95
    by_cases c0 : nI e ≤ nI (x + t)
    · rw [if_pos c0]
      rw [nI_leI (by omega) (by omega)] at c0
      have : t = e - x := by omega
      subst this
      exact ⟨m1, rfl, frU.rf, hr, hEn⟩
    rw [if_neg c0]
    rw [nI_leI (by omega) (by omega)] at c0
    have hX : gR m1 96 44 = 124 ∨ gR m1 96 44 = 125 := by rcases hr with z | z <;> omega
    have hNX : (gR m1 96 43 = 124 ∧ gR m1 96 44 = 125) ∨ (gR m1 96 43 = 125 ∧ gR m1 96 44 = 124) := hr
    generalize eN : gR m1 96 43 = N at *
    generalize eX : gR m1 96 44 = X at *
    have hl' : hAr LY[X]? 3 3072 = true := by rcases hX with rfl | rfl <;> decide +kernel
    have hl2 : hAr LY[N]? 3 3072 = true := by rcases hNX with ⟨rfl, -⟩ | ⟨rfl, -⟩ <;> decide +kernel
    obtain ⟨m2, a1, a2, a3, a4⟩ := rx_emptiesPaid hfu hX m1
    have f2 : frU m1 m2 := a3.U hX (fun a j z => z.elim)
    have E2 := f2.eqV hE
    obtain ⟨m4, u1, u2, u3⟩ := rx_losesAll (show 100 ≤ fu by omega) hv E2 (show x + t + 1 ≤ 2400 by omega)
    have f24 : frU m2 m4 := ⟨fun a j z => u3.1 a j (fun y => z (Or.inl y)), fun a j _ => u3.2.1 a j, fun a j _ => u3.2.2 a j⟩
    have f14 := f2.tr f24
    have E4 := f14.eqV hE
    rw [if_pos hl', a1, hBd_some, nI_1, u1, hBd_some]
    have n4 : ∀ j, gL m4 N j = gL m1 N j := fun j => (u3.2.1 _ _).trans (a3.2.1 N j (by omega) (by omega))
    have x4 : ∀ j, j < 3072 → gL m4 X j = -1 := fun j hj => (u3.2.1 _ _).trans (a2 j hj)
    have r4 : ∀ a j, gR m4 a j = gR m1 a j := fun a j => (u3.2.2 a j).trans (a3.2.2 a j)
    have hI4 : nwL v n b p k x t m4 N := fun n' o' l' z1 z2 z3 => by rw [n4]; exact hI n' o' l' z1 z2 z3
    have hEn4 : eqE m4 (cEn v n b p k x t) := eqE_cg hEn ((u3.1 _ _ (by omega)).trans (a3.1 _ _ (fun z => z))) ((u3.2.1 _ _).trans a4)
    have S : pHy m4 N X n k (fun a o => loN v (gI v 96 14) a o (x + t + 1)) (fun o => wkP v p o (x + t)) (wgN v) := by
      refine ⟨hNX, by rw [r4]; exact eN, by rw [r4]; exact eX, by rw [E4 96 3 (by unfold envC; omega)]; exact hv.2.1, hn, by omega, fun o => (wH_of hv hp hpc hb (show k ≤ 3 by omega) hL).2.2.2.2.2.2 o (x + t), fun o o' z1 z2 z3 => ?_, fun o z => ?_, fun n1 o1 l1 z1 z2 z3 z4 => ?_⟩
      · have := loN_ok (h := x + t + 1) hv z1 z2 hL
        exact ⟨by rw [u2 o o' z1 z2, ← lsL_lst (fun u => z3 u.symm)]; exact this.1, this.2⟩
      · rw [E4 101 o (by unfold envC; omega)]; exact wgN_ok hv z
      · rcases hI4 n1 o1 l1 (by omega) (by omega) z4 with ⟨cc, q0, q1, ⟨r, q, r1, r2, r3, r4⟩, q3⟩ | ⟨q1, -⟩
        · obtain ⟨b1, b2, b3, b4, b5⟩ := qQ_ok hv hp hpc hb t _ _ _ r4
          have h64 := rtC_64 hn b1 (by omega)
          exact Or.inr ⟨cc, by omega, q1, fun z => by omega⟩
        · exact Or.inl q1
    obtain ⟨m5, s1, s2⟩ := rx_c121 (show 200 ≤ fu by omega) (E0 := cEn v n b p k x t) S hp hpc E4 (f_X11_cheap_95 fu f) (nI e) fu 0 m4 (by omega) (by omega) ⟨fl.rf, fun n' o' l' z1 z2 z3 => by
        rw [x4 _ (by omega)]
        exact Or.inr ⟨rfl, fun c' ⟨n1, o1, l1, c1, q1, _⟩ => by omega⟩, eqE_iff hEn4 (fun n' z => ⟨Or.inl, fun y => y.elim id (fun ⟨o1, c1, q1, _⟩ => by omega)⟩)⟩
    have f45 : frU m4 m5 := s2.1.U hX (fun a j z => Or.inr z)
    have f15 := f14.tr f45
    have r5 : ∀ a j, gR m5 a j = gR m1 a j := fun a j => (s2.1.2.2 a j).trans (r4 a j)
    obtain ⟨nx1, nx2⟩ := nwL_next hv hp hpc hb hk (show t < 400 by omega) hI4 s2
    rw [show (0 : Int32) = nI 0 from rfl, s1]
    unfold f_X11_cheap_277
    rw [r5, r5, eN, eX, if_pos hl2, if_pos hl', hLet_n, hLet_n, hLet_n, nI_1]
    have hr6 : gR (sR (sR m5 96 43 X) 96 44 N) 96 43 = X := by rw [gR_sR, if_neg (by omega), gR_sR, if_pos ⟨rfl, rfl⟩]
    have hr7 : gR (sR (sR m5 96 43 X) 96 44 N) 96 44 = N := by rw [gR_sR, if_pos ⟨rfl, rfl⟩]
    have f56 : frU m5 (sR (sR m5 96 43 X) 96 44 N) := ⟨fun _ _ _ => rfl, fun _ _ _ => rfl, fun a j z => by rw [gR_sR, if_neg (by omega), gR_sR, if_neg (by omega)]⟩
    obtain ⟨m7, y1, y2, y3, y4⟩ := ih (t + 1) (sR (sR m5 96 43 X) 96 44 N) (by omega) (by omega) (f56.eqV (f15.eqV hE)) (by unfold rf3; rw [hr6, hr7]; omega) (by rw [hr6]; exact nx1) nx2
    exact ⟨m7, y1, (f15.tr f56).tr y2, y3, y4⟩
