/-! ===== the soonest: the class, hour by hour ===== -/
def wkP (v : hM) (p o h : Nat) : Nat := if opn v o (nI h) = 1 ∧ bt (gI v 103 o) (gI v 108 p).toNatClampNeg = true then 1 else 0
def loN (v : hM) (L : Int32) (a b h : Nat) : Nat := (lsL v L a b h).toInt.toNat
theorem loN_ok {v : hM} {n a b h : Nat} {L : Int32} (hv : vRel v n) (ha : a < n) (hb : b < n) (hL : 0 ≤ L.toInt ∧ L.toInt ≤ 20) : lsL v L a b h = nI (loN v L a b h) ∧ loN v L a b h ≤ 22 := by
  have k := hv.2.2.2.1 a b ha hb
  have e : (L - gI v 107 (6 * a + b)).toInt = L.toInt - (gI v 107 (6 * a + b)).toInt := i_sub (by omega) (by omega)
  have e0 : (0 : Int32).toInt = 0 := rfl
  have e2 : (2 : Int32).toInt = 2 := rfl
  have h1 : 0 ≤ (if 0 < L - gI v 107 (6 * a + b) then L - gI v 107 (6 * a + b) else 0).toInt ∧ (if 0 < L - gI v 107 (6 * a + b) then L - gI v 107 (6 * a + b) else 0).toInt ≤ 20 := by
    by_cases c : 0 < L - gI v 107 (6 * a + b)
    · rw [if_pos c]; rw [i_lt, e0, e] at c; rw [e]; omega
    · rw [if_neg c, e0]; omega
  have h2 : 0 ≤ (if ovl v a b h 24 = 0 then (2 : Int32) else 0).toInt ∧ (if ovl v a b h 24 = 0 then (2 : Int32) else 0).toInt ≤ 2 := by
    by_cases c : ovl v a b h 24 = 0
    · rw [if_pos c, e2]; omega
    · rw [if_neg c, e0]; omega
  have hz : 0 ≤ (lsL v L a b h).toInt ∧ (lsL v L a b h).toInt ≤ 22 := by
    unfold lsL
    rw [i_add (by omega) (by omega)]; omega
  obtain ⟨j, hj, ej⟩ := nI_of (x := lsL v L a b h) (by rw [i_lt, e0]; omega)
  unfold loN
  rw [ej, nI_toInt hj] at hz ⊢
  rw [Int.toNat_natCast]
  exact ⟨rfl, by omega⟩
theorem wH_of {v : hM} {n c p b k : Nat} {L : Int32} (hv : vRel v n) (hp : pRng v n c) (hpc : p < c) (hb : b < n) (hk : k ≤ 3) (hL : 0 ≤ L.toInt ∧ L.toInt ≤ 20) : wH (loN v L) (wkP v p) n b (gI v 109 p).toNatClampNeg k := by
  have h := (hp.2.2 p hpc).2.2.1
  have e := i_cl (a := gI v 109 p) (by omega)
  refine ⟨by omega, by omega, hb, hv.1, hk, fun a o h ha ho _ => (loN_ok hv ha ho hL).2, fun o h => ?_⟩
  unfold wkP
  split <;> omega
theorem wN_mono {lo : Nat → Nat → Nat → Nat} {wk : Nat → Nat → Nat} {n b len k x t t' : Nat} (h : wN lo wk n b len k x t) (ht : t' ≤ t) : wN lo wk n b len k x t' := fun s hs r => h s (by omega) r
theorem eRel_q {v m m' : hM} {n : Nat} (hn : n ≤ 6) (h : eRel v m n) (f : fr PQ m m') : eRel v m' n := eRel_fr h hn (fun a j z1 z2 => f.1 a j (by unfold PQ; omega))
def soC (v : hM) (L : Int32) (n b p k x lim : Nat) (res : Int32) (m' : hM) : Prop :=
  (∃ t i, x + t < lim ∧ wN (loN v L) (wkP v p) n b (gI v 109 p).toNatClampNeg k x t ∧ i < rtN (n - 1) k ∧ wE (loN v L) (wkP v p) n b (gI v 109 p).toNatClampNeg k x t (rtW (n - 1) b i) ∧ (∀ j, j < i → ¬ wE (loN v L) (wkP v p) n b (gI v 109 p).toNatClampNeg k x t (rtW (n - 1) b j)) ∧ res = nI (x + t + 1) ∧ gI m' 34 5 = nI i) ∨ (wN (loN v L) (wkP v p) n b (gI v 109 p).toNatClampNeg k x (lim - x) ∧ res = -2)
theorem cx_soon47 {fu : Nat} (hfu : 3000 ≤ fu) {v : hM} {n c p b k x lim : Nat} {L able : Int32} (hv : vRel v n) (hp : pRng v n c) (hpc : p < c) (hb : b < n) (hk : k ≤ 3) (hL : 0 ≤ L.toInt ∧ L.toInt ≤ 20) (hLv : gI v 96 14 = L) (hl : lim ≤ 2399)
    (hz : ∀ i, i < 32 → bt able i = (decide (i < n) && bt (gI v 103 i) (gI v 108 p).toNatClampNeg)) : ∀ (f t : Nat) (m1 : hM), lim - (x + t) < f → x + t ≤ 2400 → eRel v m1 n → gwR n b m1 (rtN (n - 1) k) → wN (loN v L) (wkP v p) n b (gI v 109 p).toNatClampNeg k x t →
    (∀ j, j < rtN (n - 1) k → lfP (wR (loN v L) (wkP v p) n b (gI v 109 p).toNatClampNeg k x t (rtW (n - 1) b j)) t (gI m1 38 j)) →
    ∃ res m2, f_X9_soonest_47 fu f (nI lim) able (nI (x + t)) m1 = some (res, m2) ∧ fr PQ m1 m2 ∧ soC v L n b p k x lim res m2 := by
  have H := wH_of hv hp hpc hb hk hL
  have hn := hv.1
  have hC : rtN (n - 1) k ≤ 156 := rtN_le (show n - 1 ≤ 5 by omega) _ hk
  have hC1 : 0 < rtN (n - 1) k := by have := rtN_F (n - 1) k; omega
  intro f
  induction f with
  | zero => intro t m1 h1; exact absurd h1 (Nat.not_lt_zero _)
  | succ f ih =>
    intro t m1 hf ht he g hw r
    rw [f_X9_soonest_47_s]
    unfold s_X9_soonest_47
    by_cases c : nI lim ≤ nI (x + t)
    · rw [if_pos c]
      rw [nI_leI (by omega) (by omega)] at c
      exact ⟨-2, m1, rfl, fr.rf, Or.inr ⟨wN_mono hw (by omega), rfl⟩⟩
    · rw [if_neg c]
      rw [nI_leI (by omega) (by omega)] at c
      rw [if_pos (hIn_lt (show x + t < 2560 by omega) (by omega)), hLet_n, nI_clamp (show x + t < 2 ^ 31 by omega)]
      have hW : ∀ o, o < n → ((gI m1 4 (x + t) &&& able) >>> (nI o &&& 31)) &&& 1 = nI (wkP v p o (x + t)) := by
        intro o ho
        rw [b_rd (by omega), b_and, hz o (by omega), (he.2.2.2.1 o ho).2.1 (x + t) (by omega), decide_eq_true ho, Bool.true_and]
        unfold wkP
        by_cases c1 : opn v o (nI (x + t)) = 1
        · cases c2 : bt (gI v 103 o) (gI v 108 p).toNatClampNeg
          · rw [if_neg (by simp), if_neg (by simp)]; rfl
          · rw [if_pos (by simp [c1]), if_pos ⟨c1, rfl⟩]; rfl
        · rw [if_neg (by simp [c1]), if_neg (fun z => c1 z.1)]; rfl
      obtain ⟨m2, s1, ⟨i, i1, i2, i3, i4, i5⟩ | ⟨s2, s3⟩⟩ := cx_soon72 (fu := fu) H (show x + t < 2400 by omega) (f_X9_soonest_47 fu f) (nI lim) able _ hW fu 0 m1 (by omega) (by omega) g (fun j hj => absurd hj (Nat.not_lt_zero _)) (fun j _ hj => r j hj)
      · exact ⟨nI (x + t + 1), m2, i4, s1, Or.inl ⟨t, i, by omega, hw, i1, i2, i3, rfl, i5⟩⟩
      · have he2 := eRel_q hn he s1
        have g2 := gwR_q g s1
        obtain ⟨m3, u1, u2, u3⟩ := cx_loseFrom (fu := fu) (show 100 ≤ fu by omega) hv hLv he2 (show x + t + 1 ≤ 2400 by omega)
        have f3 : fr PQ m2 m3 := u3.mono (fun a j z => Or.inr (Or.inl z))
        have g3 := gwR_q g2 f3
        obtain ⟨m4, w1, w2, w3⟩ := cx_soon148 (fu := fu) H (show x + t < 2400 by omega) (f_X9_soonest_47 fu f) (nI lim) able fu (rtN (n - 1) k - 1) m3 (by omega) (by omega) g3 (fun a o z1 z2 z3 => by
            rw [← (loN_ok (h := x + t + 1) hv z1 z2 hL).1]
            rcases Nat.lt_or_ge a o with y | y
            · exact (u2 a o y z2).1
            · rw [(u2 o a (by omega) z1).2]; exact lsL_sym hv z2 z1) (fun j z1 z2 => by omega) (fun j z => by rw [u3.1 38 j (by omega)]; exact (s3 j (by omega)).2)
        obtain ⟨res, m5, y1, y2, y3⟩ := ih (t + 1) m4 (by omega) (by omega) (eRel_q hn (eRel_q hn he2 f3) w1) (gwR_q g3 w1) (wN_s H (by omega) hw (fun i hi => (s3 i hi).1)) w3
        refine ⟨res, m5, ?_, ((s1.tr f3).tr w1).tr y2, y3⟩
        rw [show (0 : Int32) = nI 0 from rfl, s2]
        unfold f_X9_soonest_130
        rw [nI_1, u1, hBd_some, hLet_n, g3.1, show (1 : Int32) = nI 1 from rfl, pk_sub (by omega), w2]
        exact y1
theorem cx_soonest {fu : Nat} (hfu : 3000 ≤ fu) {v m : hM} {n c p b k x lim : Nat} {L : Int32} (hv : vRel v n) (hp : pRng v n c) (hpr : pRel v m c) (he : eRel v m n) (hpc : p < c) (hb : b < n) (hk : k ≤ 3) (hL : 0 ≤ L.toInt ∧ L.toInt ≤ 20) (hLv : gI v 96 14 = L) (hx : x < 2400) (hl : lim ≤ 2399) (g : gwR n b m (rtN (n - 1) k)) :
    ∃ res m', f_X9_soonest fu (nI p) (nI x) (nI lim) m = some (res, m') ∧ fr PQ m m' ∧ soC v L n b p k x lim res m' := by
  have H := wH_of hv hp hpc hb hk hL
  have hn := hv.1
  have hc := hp.1
  have h8 : hIn (nI p) 8 := hIn_lt (show p < 8 by omega) (by omega)
  have cp : (nI p).toNatClampNeg = p := nI_clamp (by omega)
  obtain ⟨cr, hcr, ecr⟩ := hIn_of (hp.2.2 p hpc).1 (by omega)
  obtain ⟨z, z1, z2⟩ := cx_officesWith (fu := fu) (show 100 ≤ fu by omega) hn he hcr
  have ecr2 : (gI v 108 p).toNatClampNeg = cr := by rw [ecr, nI_clamp (by omega)]
  unfold f_X9_soonest
  rw [if_pos h8, cp, (hpr.2 p hpc).1, ecr, z1, hBd_some]
  by_cases c0 : z = 0
  · rw [if_neg (fun u => u c0)]
    refine ⟨-2, m, rfl, fr.rf, Or.inr ⟨fun t' ht' r q => ?_, rfl⟩⟩
    have hr := rtL_lt hb (H.ok (show x + t' ≤ 2400 by omega) q.1).1
    have q2 := q.2
    unfold wkP at q2
    have q3 := z2 (rtL b r) (by omega)
    rw [c0, b_0, decide_eq_true hr, Bool.true_and] at q3
    rw [if_neg (fun u => by rw [ecr2, ← q3] at u; exact absurd u.2 (by decide))] at q2
    exact absurd q2 (by decide)
  · rw [if_pos c0]
    obtain ⟨m5, s1, s2, s3⟩ := cx_fill (fu := fu) (n0 := 156) (a0 := 38) 1000000 (by omega) (by omega) (by decide +kernel) m
    have f5 : fr PQ m m5 := s3.mono (fun a j z => Or.inl z.1)
    have f6 : ∀ y, fr PQ m (sI m5 38 0 y) := fun y => f5.si (by unfold PQ; omega)
    rw [s1, hBd_some, if_pos h8, hLet_n, s3.1 21 p (by omega), (hpr.2 p hpc).2.2.1]
    have h1 := (hp.2.2 p hpc).2.2.1
    have e1 := i_cl (a := gI v 109 p) (by omega)
    have hlen : gI v 109 p = nI (gI v 109 p).toNatClampNeg := by rw [i_eq, nI_toInt (by omega), e1]
    obtain ⟨res, m7, y1, y2, y3⟩ := cx_soon47 hfu hv hp hpc hb hk hL hLv hl (x := x) (able := z) (by intro i hi; rw [z2 i hi, ecr2]) fu 0 (sI m5 38 0 (gI v 109 p)) (by omega) (by omega) (eRel_q hn he (f6 _)) (gwR_q g (f6 _)) (fun t' ht' => absurd ht' (Nat.not_lt_zero _)) (fun j hj => by
      rcases Nat.eq_zero_or_pos j with rfl | hj0
      · rw [gI_ss, rtW_0]
        exact Or.inl ⟨(gI v 109 p).toNatClampNeg, by omega, ⟨rfl, rfl⟩, hlen, fun l' q => Nat.le_of_eq q.2.symm⟩
      · rw [gI_sn (by omega), s2 j (by have := rtN_le (show n - 1 ≤ 5 by omega) k hk; omega)]
        refine Or.inr ⟨fun l q => ?_, by decide, by decide⟩
        have hq : 0 < n - 1 := by
          rcases Nat.eq_zero_or_pos (n - 1) with q | q
          · rw [q] at hj
            have := rtN_F 0 k; omega
          · exact q
        obtain ⟨pp, kk, hkk, e1, e2, e3⟩ := rt_child (q := n - 1) (i := j) hq hj0
        have eW : rtW (n - 1) b j = oth (rtL b (rtW (n - 1) b pp)) kk :: rtW (n - 1) b pp := by rw [e1, rtW_s hkk]
        have := q.1
        rw [eW] at this
        cases this)
    exact ⟨res, m7, y1, (f6 _).tr y2, y3⟩
