/-! ===== the soonest: the reference, hour by hour ===== -/
def nwI (lo : Nat → Nat → Nat → Nat) (wk : Nat → Nat → Nat) (n b len k x t : Nat) (m : hM) (N : Nat) : Prop := ∀ n' o' l', n' < 4 → o' < 6 → l' < 128 → mnC (gI m N ((n' * 6 + o') * 128 + l')) (fun c => ∃ r : List Nat, r.length = n' ∧ rtL b r = o' ∧ rtC r = c ∧ wR lo wk n b len k x t r l')
/-- what stands there is a route's code -/
theorem nwI_src {lo : Nat → Nat → Nat → Nat} {wk : Nat → Nat → Nat} {n b len k x t : Nat} {m : hM} {N : Nat} (h : nwI lo wk n b len k x t m N) {n1 o1 l1 c1 : Nat} (hn : n ≤ 6) (hk : k ≤ 3) (q : sSrc m N n k n1 o1 l1 c1) : ∃ r : List Nat, r.length = n1 ∧ rtL b r = o1 ∧ rtC r = c1 ∧ wR lo wk n b len k x t r l1 := by
  obtain ⟨q1, q2, q3, q4, q5, q6⟩ := q
  exact (mnC_src (h n1 o1 l1 (by omega) (by omega) q4) q5 q6).1
theorem nwI_ex {lo : Nat → Nat → Nat → Nat} {wk : Nat → Nat → Nat} {n b len k x t : Nat} (H : wH lo wk n b len k) {m : hM} {N : Nat} (h : nwI lo wk n b len k x t m N) {r : List Nat} {l : Nat} (ht : x + t ≤ 2400) (q : wR lo wk n b len k x t r l) : ∃ c, c ≤ rtC r ∧ sSrc m N n k r.length (rtL b r) l c := by
  obtain ⟨a1, a2, a3, a4, -⟩ := H.ok ht q
  have hl := rtL_lt H.2.2.1 a1
  have hn := H.2.2.2.1
  have hk := H.2.2.2.2.1
  rcases h r.length (rtL b r) l (by omega) (by omega) (by omega) with ⟨c, c0, e, hc, hm⟩ | ⟨e, hno⟩
  · exact ⟨c, hm _ ⟨r, rfl, rfl, rfl, q⟩, a2, hl, a3, by omega, c0, e⟩
  · exact absurd ⟨r, rfl, rfl, rfl, q⟩ (hno (rtC r))
theorem nwI_next {lo : Nat → Nat → Nat → Nat} {wk : Nat → Nat → Nat} {n b len k x t : Nat} (H : wH lo wk n b len k) {m0 m : hM} {N X : Nat} (h : nwI lo wk n b len k x t m0 N) (ht : x + t < 2400) (hI : sIn m0 m N X n k (fun a o => lo a o (x + t + 1)) (fun o => wk o (x + t)) 3072) : nwI lo wk n b len k x (t + 1) m X := by
  have hn := H.2.2.2.1
  have hk := H.2.2.2.2.1
  intro n' o' l' z1 z2 z3
  refine mnC_tr (hI.2.1 n' o' l' z1 z2 z3) (fun c q => ?_) (fun c q => ?_)
  · obtain ⟨n1, o1, l1, c1, q1, q2, q3, q4⟩ := q
    have q3' : 1 ≤ l1 - wk o1 (x + t) := q3
    obtain ⟨r, r1, r2, r3, r4⟩ := nwI_src h hn hk q2
    rcases q4 with ⟨rfl, rfl, rfl, rfl⟩ | ⟨p1, rfl, p3, p4, rfl, rfl⟩
    · refine ⟨r, r1, r2, r3, q3, Or.inl ?_⟩
      rw [r2, show l1 - wk o' (x + t) + wk o' (x + t) = l1 by omega]; exact r4
    · refine ⟨o' :: r, by rw [List.length_cons, r1], rfl, by rw [rtC, r3], by omega, Or.inr ⟨o', r, l1 - wk o1 (x + t), rfl, by omega, p3, by rw [r2]; exact p4, q3, ?_, by rw [r2]⟩⟩
      rw [r2, show l1 - wk o1 (x + t) + wk o1 (x + t) = l1 by omega]; exact r4
  · obtain ⟨r, r1, r2, r3, q1, q2 | ⟨o, r', l'', e1, p1, p2, p3, p4, p5, p6⟩⟩ := q
    · obtain ⟨c1, c2, c3⟩ := nwI_ex H h (by omega) q2
      have c6 := c3
      obtain ⟨d1, d2, d3, d4, d5, d6⟩ := c3
      refine ⟨c1, by omega, r.length, rtL b r, l' + wk (rtL b r) (x + t), c1, by omega, c6, ?_⟩
      unfold ctb
      have e : l' + wk (rtL b r) (x + t) - wk (rtL b r) (x + t) = l' := by omega
      rw [e]
      exact ⟨q1, Or.inl ⟨r1.symm, r2.symm, rfl, rfl⟩⟩
    · subst e1
      obtain ⟨c1, c2, c3⟩ := nwI_ex H h (by omega) p5
      have c6 := c3
      obtain ⟨d1, d2, d3, d4, d5, d6⟩ := c3
      rw [rtL] at r2
      subst r2
      rw [rtC] at r3
      refine ⟨8 * c1 + o, by omega, r'.length, rtL b r', l'' + wk (rtL b r') (x + t), c1, by omega, c6, ?_⟩
      unfold ctb
      have e : l'' + wk (rtL b r') (x + t) - wk (rtL b r') (x + t) = l'' := by omega
      rw [e]
      exact ⟨p4, Or.inr ⟨p1, by rw [← r1, List.length_cons], p2, p3, p6, rfl⟩⟩
def PT (a j : Nat) : Prop := a = 121 ∨ a = 122 ∨ a = 123 ∨ (a = 96 ∧ (j = 41 ∨ j = 42))
def frT (m m' : hM) : Prop := (∀ a j, ¬ PT a j → gI m' a j = gI m a j) ∧ (∀ a j, gL m' a j = gL m a j) ∧ ∀ a j, ¬ (a = 96 ∧ (j = 38 ∨ j = 39)) → gR m' a j = gR m a j
theorem fr.T {P : Nat → Nat → Prop} {m m' : hM} (f : fr P m m') (h : ∀ a j, P a j → PT a j) : frT m m' := ⟨fun a j z => f.1 a j (fun y => z (h a j y)), f.2.1, fun a j _ => f.2.2 a j⟩
theorem frT.tr {m m1 m2 : hM} (h : frT m m1) (g : frT m1 m2) : frT m m2 := ⟨fun a j z => (g.1 a j z).trans (h.1 a j z), fun a j => (g.2.1 a j).trans (h.2.1 a j), fun a j z => (g.2.2 a j z).trans (h.2.2 a j z)⟩
theorem frT.eqV {v m m1 : hM} (h : frT m m1) (g : eqV v m) : eqV v m1 := fun a j z => (h.1 a j (by unfold envC at z; unfold PT; omega)).trans (g a j z)
def rf2 (m : hM) : Prop := (gR m 96 38 = 121 ∧ gR m 96 39 = 122) ∨ (gR m 96 38 = 122 ∧ gR m 96 39 = 121)
def soR (v : hM) (n b p k x : Nat) (res : Int32) (m' : hM) : Prop :=
  (∃ t r, x + t < 2399 ∧ wN (loN v (gI v 96 14)) (wkP v p) n b (gI v 109 p).toNatClampNeg k x t ∧ wE (loN v (gI v 96 14)) (wkP v p) n b (gI v 109 p).toNatClampNeg k x t r ∧ (∀ r' : List Nat, wE (loN v (gI v 96 14)) (wkP v p) n b (gI v 109 p).toNatClampNeg k x t r' → r.length < r'.length ∨ (r.length = r'.length ∧ rtC r ≤ rtC r')) ∧ res = nI (x + t + 1) ∧ gI m' 96 41 = nI r.length ∧ gI m' 96 42 = nI (rtC r)) ∨ (wN (loN v (gI v 96 14)) (wkP v p) n b (gI v 109 p).toNatClampNeg k x (2399 - x) ∧ res = -1)
theorem rx_soon33 {fu : Nat} (hfu : 4000 ≤ fu) {v : hM} {n c p b k x : Nat} (hv : vRel v n) (hp : pRng v n c) (hpc : p < c) (hb : b < n) (hk : k ≤ 3) : ∀ (f t : Nat) (m1 : hM), 2399 - (x + t) < f → x + t ≤ 2400 → eqV v m1 → rf2 m1 → wN (loN v (gI v 96 14)) (wkP v p) n b (gI v 109 p).toNatClampNeg k x t → nwI (loN v (gI v 96 14)) (wkP v p) n b (gI v 109 p).toNatClampNeg k x t m1 (gR m1 96 38) →
    ∃ res m2, f_X11_soonest_33 fu f (nI p) (nI k) (nI (x + t)) m1 = some (res, m2) ∧ frT m1 m2 ∧ rf2 m2 ∧ soR v n b p k x res m2 := by
  have hL := hv.2.2.2.2.2.1
  have H := wH_of hv hp hpc hb hk hL
  have hn := hv.1
  intro f
  induction f with
  | zero => intro t m1 h1; exact absurd h1 (Nat.not_lt_zero _)
  | succ f ih =>
    intro t m1 hf ht hE hr hw hI
    rw [f_X11_soonest_33_s]
    unfold s_X11_soonest_33
    by_cases c0 : nI 2399 ≤ nI (x + t)
    · rw [if_pos (show (2399 : Int32) ≤ nI (x + t) from c0)]
      rw [nI_leI (by omega) (by omega)] at c0
      exact ⟨-1, m1, rfl, ⟨fun _ _ _ => rfl, fun _ _ => rfl, fun _ _ _ => rfl⟩, hr, Or.inr ⟨wN_mono hw (by omega), rfl⟩⟩
    rw [if_neg (show ¬ (2399 : Int32) ≤ nI (x + t) from c0)]
    rw [nI_leI (by omega) (by omega)] at c0
    have hX : gR m1 96 39 = 121 ∨ gR m1 96 39 = 122 := by rcases hr with z | z <;> omega
    have hNX : (gR m1 96 38 = 121 ∧ gR m1 96 39 = 122) ∨ (gR m1 96 38 = 122 ∧ gR m1 96 39 = 121) := hr
    generalize eN : gR m1 96 38 = N at *
    generalize eX : gR m1 96 39 = X at *
    have hl' : hAr LY[X]? 0 3072 = true := by rcases hX with rfl | rfl <;> decide +kernel
    have hl2 : hAr LY[N]? 0 3072 = true := by rcases hNX with ⟨rfl, -⟩ | ⟨rfl, -⟩ <;> decide +kernel
    obtain ⟨m2, a1, a2, a3⟩ := rx_empties hfu hX m1
    rw [if_pos hl', a1, hBd_some, hLet_n]
    have f3 : frT m1 (sI m2 96 41 (-1)) := (fr.T (a3.mono (fun a j z => (Or.inl z : (a = X ∧ j < 3072) ∨ (a = 96 ∧ j = 41)))) (fun a j z => by unfold PT; omega)).tr (fr.T (P := PT) (fr.rf.si (by unfold PT; omega)) (fun a j z => z))
    have e3 : ∀ j, j < 3072 → gI (sI m2 96 41 (-1)) X j = -1 := fun j hj => by rw [gI_sn (by omega)]; exact a2 j hj
    have n3 : ∀ j, gI (sI m2 96 41 (-1)) N j = gI m1 N j := fun j => by rw [gI_sn (by omega)]; exact a3.1 N j (by omega)
    have E3 := f3.eqV hE
    have r38 : ∀ a j, gR (sI m2 96 41 (-1)) a j = gR m1 a j := fun a j => a3.2.2 a j
    have g41 : gI (sI m2 96 41 (-1)) 96 41 = -1 := gI_ss _ _ _ _
    generalize sI m2 96 41 (-1) = m3 at *
    -- an hour, from a memory where the losses stand
    have hour : ∀ m4 : hM, fr (fun a _ => a = 123) m3 m4 → (0 < k → ∀ a o, a < n → o < n → gI m4 123 (6 * a + o) = lst v a o (x + t + 1)) → ∃ res m5, f_X11_soonest_66 fu (f_X11_soonest_33 fu f) (nI p) (nI k) (nI (x + t)) m4 = some (res, m5) ∧ frT m1 m5 ∧ rf2 m5 ∧ soR v n b p k x res m5 := by
      intro m4 f4 h123
      have f14 : frT m1 m4 := f3.tr (fr.T f4 (fun a j z => by unfold PT; omega))
      have E4 := f14.eqV hE
      have r4 : ∀ a j, gR m4 a j = gR m1 a j := fun a j => (f4.2.2 a j).trans (r38 a j)
      have n4 : ∀ j, gI m4 N j = gI m1 N j := fun j => (f4.1 N j (by omega)).trans (n3 j)
      have hI4 : nwI (loN v (gI v 96 14)) (wkP v p) n b (gI v 109 p).toNatClampNeg k x t m4 N := fun n' o' l' z1 z2 z3 => by rw [n4]; exact hI n' o' l' z1 z2 z3
      have S : sHy m4 N X n k (fun a o => loN v (gI v 96 14) a o (x + t + 1)) (fun o => wkP v p o (x + t)) := by
        refine ⟨hNX, by rw [r4]; exact eN, by rw [r4]; exact eX, by rw [E4 96 3 (by unfold envC; omega)]; exact hv.2.1, hn, hk, fun o => H.2.2.2.2.2.2 o (x + t), fun o o' z1 z2 z3 z4 => ?_, fun n1 o1 l1 z1 z2 z3 z4 => ?_⟩
        · have := loN_ok (h := x + t + 1) hv z1 z2 hL
          exact ⟨by rw [h123 z4 o o' z1 z2, ← lsL_lst (fun u => z3 u.symm)]; exact this.1, this.2⟩
        · rcases hI4 n1 o1 l1 (by omega) (by omega) z4 with ⟨cc, q0, q1, ⟨r, r1, r2, r3, r4⟩, q3⟩ | ⟨q1, -⟩
          · obtain ⟨b1, b2, b3, b4, b5⟩ := H.ok (show x + t ≤ 2400 by omega) r4
            have h1 := rtC_lt hn b1
            have h60 := H.2.1
            refine Or.inr ⟨cc, ?_, q1, fun z => by omega⟩
            have : 8 ^ r.length ≤ 8 ^ 3 := Nat.pow_le_pow_right (by omega) (by omega)
            omega
          · exact Or.inl q1
      obtain ⟨m5, s1, s2⟩ := rx_s69 (show 200 ≤ fu by omega) S hp hpc E4 (f_X11_soonest_33 fu f) fu 0 m4 (by omega) (by omega) ⟨fr.rf, fun n' o' l' z1 z2 z3 => by
          rw [f4.1 X _ (by omega), e3 _ (by omega)]
          exact Or.inr ⟨rfl, fun c' ⟨n1, o1, l1, c1, q1, _⟩ => by omega⟩, Or.inl ⟨by rw [f4.1 96 41 (by omega)]; exact g41, fun n1 o1 c1 q1 => by omega⟩⟩
      have f45 : frT m4 m5 := fr.T s2.1 (fun a j z => by unfold PT; omega)
      have f15 := f14.tr f45
      have r5 : ∀ a j, gR m5 a j = gR m1 a j := fun a j => (s2.1.2.2 a j).trans (r4 a j)
      unfold f_X11_soonest_66
      rw [show (0 : Int32) = nI 0 from rfl, s1]
      unfold f_X11_soonest_193
      rw [r5, r5, eN, eX]
      rcases s2.2.2 with ⟨q1, q2⟩ | ⟨n1, o1, c1, q1, q2, q3, q4, q5, q6⟩
      · rw [q1, if_pos (by decide), if_pos hl2, if_pos hl', hLet_n, hLet_n, hLet_n, nI_1]
        have hw2 : wN (loN v (gI v 96 14)) (wkP v p) n b (gI v 109 p).toNatClampNeg k x (t + 1) := by
          intro t' ht' r y
          rcases Nat.lt_or_ge t' t with u | u
          · exact hw t' u r y
          · have : t' = t := by omega
            subst this
            obtain ⟨cc, y1, y2⟩ := nwI_ex H hI4 (by omega) y.1
            have y3 := y2.1
            have y4 := y2.2.1
            exact q2 _ _ _ (by omega) y2 y.2
        have hr6 : gR (sR (sR m5 96 38 X) 96 39 N) 96 38 = X := by rw [gR_sR, if_neg (by omega), gR_sR, if_pos ⟨rfl, rfl⟩]
        have hr7 : gR (sR (sR m5 96 38 X) 96 39 N) 96 39 = N := by rw [gR_sR, if_pos ⟨rfl, rfl⟩]
        have f56 : frT m5 (sR (sR m5 96 38 X) 96 39 N) := ⟨fun _ _ _ => rfl, fun _ _ => rfl, fun a j z => by rw [gR_sR, if_neg (by omega), gR_sR, if_neg (by omega)]⟩
        obtain ⟨res, m7, y1, y2, y3, y4⟩ := ih (t + 1) (sR (sR m5 96 38 X) 96 39 N) (by omega) (by omega) (f56.eqV (f15.eqV hE)) (by unfold rf2; rw [hr6, hr7]; omega) hw2 (by rw [hr6]; have nx := nwI_next H hI4 (by omega) s2; exact nx)
        exact ⟨res, m7, y1, (f15.tr f56).tr y2, y3, y4⟩
      · have hn1 := q1.1
        rw [q4, if_neg (nI_pos (by omega)), nI_1]
        obtain ⟨r, r1, r2, r3, r4'⟩ := nwI_src hI4 hn hk q1
        refine ⟨nI (x + t + 1), m5, rfl, f15, by unfold rf2; rw [r5, r5, eN, eX]; exact hNX, Or.inl ⟨t, r, by omega, hw, ⟨r4', by rw [r2]; exact q3⟩, fun r' y => ?_, rfl, by rw [r1]; exact q4, by rw [r3]; exact q5⟩⟩
        obtain ⟨cc, y1, y2⟩ := nwI_ex H hI4 (by omega) y.1
        have y3 := y2.1
        have y4 := y2.2.1
        have := q6 _ _ _ (by omega) y2 y.2
        omega
    by_cases ck : nI k ≤ 0
    · rw [if_pos ck]
      refine hour m3 fr.rf (fun z => ?_)
      exact absurd ck (nI_nle z (by omega))
    · rw [if_neg ck]
      obtain ⟨m4, u1, u2, u3⟩ := rx_losesAll (show 100 ≤ fu by omega) hv E3 (show x + t + 1 ≤ 2400 by omega)
      rw [nI_1, u1, hBd_some]
      exact hour m4 u3 (fun _ => u2)
theorem rx_soonest {fu : Nat} (hfu : 4000 ≤ fu) {v m : hM} {n c p b k x : Nat} (hv : vRel v n) (hp : pRng v n c) (hpc : p < c) (hb : b < n) (hbe : gI v 111 p = nI b) (hk : k ≤ 3) (hx : x < 2400) (hE : eqV v m) (hr : rf2 m) :
    ∃ res m', f_X11_soonest fu (nI p) (nI x) (nI k) m = some (res, m') ∧ frT m m' ∧ rf2 m' ∧ soR v n b p k x res m' := by
  have hn := hv.1
  have hc := hp.1
  have hN : gR m 96 38 = 121 ∨ gR m 96 38 = 122 := by unfold rf2 at hr; omega
  have hr' := hr
  have h8 : hIn (nI p) 8 := hIn_lt (show p < 8 by omega) (by omega)
  have cp : (nI p).toNatClampNeg = p := nI_clamp (by omega)
  have h1 := (hp.2.2 p hpc).2.2.1
  have e1 := i_cl (a := gI v 109 p) (by omega)
  have hlen : gI v 109 p = nI (gI v 109 p).toNatClampNeg := by rw [i_eq, nI_toInt (by omega), e1]
  generalize elen : (gI v 109 p).toNatClampNeg = len at *
  obtain ⟨m2, a1, a2, a3⟩ := rx_empties hfu hN m
  have hl' : hAr LY[gR m 96 38]? 0 3072 = true := by rcases hN with q | q <;> rw [q] <;> decide +kernel
  obtain ⟨p1, p2⟩ := pl_at (n := 0) (o := b) (l := len) (by omega) (by omega) (by omega) fu m2
  have E2 : eqV v m2 := fun a j z => (a3.1 a j (by unfold envC at z; omega)).trans (hE a j z)
  unfold f_X11_soonest
  rw [if_pos hl', a1, hBd_some, a3.2.2, if_pos hl', if_pos h8, if_pos h8, cp, E2 111 p (by unfold envC; omega), hbe, E2 109 p (by unfold envC; omega), hlen, show (0 : Int32) = nI 0 from rfl, p1, hBd_some, if_pos (hIn_lt p2 (by omega)), hLet_n, nI_clamp (by omega)]
  generalize eN : gR m 96 38 = N at *
  have f3 : frT m (sI m2 N ((0 * 6 + b) * 128 + len) (nI 0)) := (fr.T (P := PT) (a3.mono (fun a j z => by unfold PT; omega)) (fun a j z => z)).tr (fr.T (P := PT) (fr.rf.si (by unfold PT; omega)) (fun a j z => z))
  have r3 : ∀ a j, gR (sI m2 N ((0 * 6 + b) * 128 + len) (nI 0)) a j = gR m a j := fun a j => a3.2.2 a j
  obtain ⟨res, m', y1, y2, y3, y4⟩ := rx_soon33 hfu hv hp hpc hb hk (x := x) fu 0 (sI m2 N ((0 * 6 + b) * 128 + len) (nI 0)) (by omega) (by omega) (f3.eqV hE) (by unfold rf2; rw [r3, r3]; exact hr) (fun t' ht' => absurd ht' (Nat.not_lt_zero _)) (fun n' o' l' z1 z2 z3 => by
    rw [r3, eN, elen]
    by_cases e : n' = 0 ∧ o' = b ∧ l' = len
    · obtain ⟨rfl, rfl, rfl⟩ := e
      rw [gI_ss]
      exact Or.inl ⟨0, by omega, rfl, ⟨[], rfl, rfl, rfl, rfl, rfl⟩, fun _ _ => Nat.zero_le _⟩
    · rw [gI_sn (by omega), a2 _ (by omega)]
      refine Or.inr ⟨rfl, fun c' ⟨r, q1, q2, q3, q4, q5⟩ => e ?_⟩
      subst q4
      exact ⟨q1.symm, q2.symm, q5⟩)
  exact ⟨res, m', y1, f3.tr y2, y3, y4⟩
