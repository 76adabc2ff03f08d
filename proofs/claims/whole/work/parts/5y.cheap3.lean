/-! ===== cheap: the class's cheapest as a whole ===== -/
theorem cx_ch50 {fu : Nat} (hfu : 3000 ≤ fu) {v : hM} {n c p b k x e : Nat} {able : Int32} (hv : vRel v n) (hp : pRng v n c) (hpc : p < c) (hb : b < n) (hk : k ≤ 2) (he1 : x ≤ e) (he2 : e ≤ 2399) (he3 : e ≤ x + 400)
    (hz : ∀ i, i < 32 → bt able i = (decide (i < n) && bt (gI v 103 i) (gI v 108 p).toNatClampNeg)) : ∀ (f t : Nat) (m1 : hM), e - (x + t) < f → x + t ≤ e → eRel v m1 n → gwR n b m1 (rtN (n - 1) k) → (∀ j, j < rtN (n - 1) k → pyR v n b p k x t j m1) →
    ∃ res m2, f_X9_cheapest_50 fu f (nI e) able (nI (rtN (n - 1) k)) (nI (x + t)) m1 = some (res, m2) ∧ fr PY m1 m2 ∧ chC v n b p k x (e - x) res m2 := by
  have hn := hv.1
  have hL := hv.2.2.2.2.2.1
  have hC : rtN (n - 1) k ≤ 31 := rtN_le2 (show n - 1 ≤ 5 by omega) _ hk
  have hC1 : 0 < rtN (n - 1) k := by have := rtN_F (n - 1) k; omega
  intro f
  induction f with
  | zero => intro t m1 h1; exact absurd h1 (Nat.not_lt_zero _)
  | succ f ih =>
    intro t m1 hf ht he g r
    rw [f_X9_cheapest_50_s]
    unfold s_X9_cheapest_50
    by_cases c0 : nI e ≤ nI (x + t)
    · rw [if_pos c0]
      rw [nI_leI (by omega) (by omega)] at c0
      unfold f_X9_cheapest_147
      rw [hLet_n]
      have : t = e - x := by omega
      subst this
      obtain ⟨res, m2, u1, u2, u3⟩ := cx_ch162 (fu := fu) (v := v) (n := n) (b := b) (p := p) (k := k) (x := x) (T := e - x) hn hk fu 1 0 (sI m1 34 5 0) (by omega) (by omega) (by omega) (gI_ss _ _ _ _) (fun j hj => by rw [gI_sn (by omega)]; exact (r j hj).2) (fun j q' z1 z2 => by
        have : j = 0 := by omega
        subst this
        exact ⟨q', z2, Nat.le_refl _, fun u => by omega⟩)
      exact ⟨res, m2, u1, (fr.rf.si (by unfold PY; omega)).tr u2, u3⟩
    · rw [if_neg c0]
      rw [nI_leI (by omega) (by omega)] at c0
      rw [if_pos (hIn_lt (show x + t < 2560 by omega) (by omega)), hLet_n, nI_clamp (show x + t < 2 ^ 31 by omega)]
      have hW : ∀ o, o < n → ((gI m1 4 (x + t) &&& able) >>> (nI o &&& 31)) &&& 1 = nI (wkP v p o (x + t)) := by
        intro o ho
        rw [b_rd (by omega), b_and, hz o (by omega), (he.2.2.2.1 o ho).2.1 (x + t) (by omega), decide_eq_true ho, Bool.true_and]
        unfold wkP
        by_cases c1 : opn v o (nI (x + t)) = 1
        · cases c2 : bt (gI v 103 o) (gI v 108 p).toNatClampNeg
          · rw [if_neg (by simp), if_neg (by simp)]; rfl
          · rw [if_pos (by simp [c1]), if_pos ⟨c1, rfl⟩]; rfl
        · rw [if_neg (by simp [c1]), if_neg (fun z => c1 z.1)]; rfl
      obtain ⟨m2, s1, s2, s3⟩ := cx_ch75 (fu := fu) (show 200 ≤ fu by omega) hv hp hpc hb hk (show t ≤ 400 by omega) (f_X9_cheapest_50 fu f) (nI e) able _ hW fu 0 m1 (by omega) (by omega) g he (fun j hj => absurd hj (Nat.not_lt_zero _)) (fun j _ hj => r j hj)
      have he2' := eRel_y hn he s1
      have g2 := gwR_y g s1
      obtain ⟨m3, u1, u2, u3⟩ := cx_loseFrom (fu := fu) (show 100 ≤ fu by omega) hv rfl he2' (show x + t + 1 ≤ 2400 by omega)
      have f3 : fr PY m2 m3 := u3.mono (fun a j z => Or.inr (Or.inl z))
      have g3 := gwR_y g2 f3
      obtain ⟨m4, w1, w2, w3⟩ := cx_ch131 (fu := fu) (show 200 ≤ fu by omega) (p := p) (t := t) (x := x) hv hb hk (f_X9_cheapest_50 fu f) (nI e) able (nI (rtN (n - 1) k)) fu (rtN (n - 1) k - 1) m3 (by omega) (by omega) g3 (fun a o z1 z2 z3 => by
          rw [← (loN_ok (h := x + t + 1) hv z1 z2 hL).1]
          rcases Nat.lt_or_ge a o with y | y
          · exact (u2 a o y z2).1
          · rw [(u2 o a (by omega) z1).2]; exact lsL_sym hv z2 z1) (fun j z1 z2 => by omega) (fun j z => pyM_cg (s3 j (by omega)) (fun l hl => u3.1 39 _ (by omega)))
      obtain ⟨res, m5, y1, y2, y3⟩ := ih (t + 1) m4 (by omega) (by omega) (eRel_y hn (eRel_y hn he2' f3) w1) (gwR_y g3 w1) w3
      refine ⟨res, m5, ?_, ((s1.tr f3).tr w1).tr y2, y3⟩
      rw [show (0 : Int32) = nI 0 from rfl, s2]
      unfold f_X9_cheapest_110
      rw [nI_1, u1, hBd_some, hLet_n, show (1 : Int32) = nI 1 from rfl, pk_sub (by omega), w2]
      exact y1
theorem cx_cheapest {fu : Nat} (hfu : 4000 ≤ fu) {v m : hM} {n c p b k x e : Nat} (hv : vRel v n) (hp : pRng v n c) (hpr : pRel v m c) (he : eRel v m n) (hpc : p < c) (hb : b < n) (hk : k ≤ 2) (he1 : x ≤ e) (he2 : e ≤ 2399) (he3 : e ≤ x + 400) (g : gwR n b m (rtN (n - 1) k)) :
    ∃ res m', f_X9_cheapest fu (nI p) (nI x) (nI e) m = some (res, m') ∧ fr PY m m' ∧ chC v n b p k x (e - x) res m' := by
  have hn := hv.1
  have hc := hp.1
  have h8 : hIn (nI p) 8 := hIn_lt (show p < 8 by omega) (by omega)
  have cp : (nI p).toNatClampNeg = p := nI_clamp (by omega)
  have hC : rtN (n - 1) k ≤ 31 := rtN_le2 (show n - 1 ≤ 5 by omega) _ hk
  obtain ⟨cr, hcr, ecr⟩ := hIn_of (hp.2.2 p hpc).1 (by omega)
  obtain ⟨z, z1, z2⟩ := cx_officesWith (fu := fu) (show 100 ≤ fu by omega) hn he hcr
  have ecr2 : (gI v 108 p).toNatClampNeg = cr := by rw [ecr, nI_clamp (by omega)]
  obtain ⟨hl0, hl1, hl2⟩ := len_ok hp hpc
  obtain ⟨m5, s1, s2, s3⟩ := cx_fill (fu := fu) (n0 := 3255) (a0 := 39) 1000000 (by omega) (by omega) (by decide +kernel) m
  have f5 : fr PY m m5 := s3.mono (fun a j z => Or.inl z.1)
  have f6 : ∀ j y, fr PY m (sI m5 39 j y) := fun j y => f5.si (by unfold PY; omega)
  unfold f_X9_cheapest
  rw [if_pos h8, cp, (hpr.2 p hpc).1, ecr, z1, hBd_some, e_min, hBd_some, g.1, if_neg (show ¬ (31 : Int32) < nI (rtN (n - 1) k) from nI_nlt (a := 31) (by omega) (by omega)), s1, hBd_some, if_pos h8, s3.1 21 p (by omega), (hpr.2 p hpc).2.2.1]
  generalize elen : (gI v 109 p).toNatClampNeg = len at *
  rw [hl0, if_pos (hIn_lt (show len < 3255 by omega) (by omega)), hLet_n]
  have noF : ∀ r q, ¬ qF v n b p k x 0 r q := fun r q ⟨t, h, _⟩ => absurd h (Nat.not_lt_zero _)
  obtain ⟨res, m7, y1, y2, y3⟩ := cx_ch50 (fu := fu) (by omega) hv hp hpc hb hk he1 he2 he3 (able := z) (by intro i hi; rw [z2 i hi, ecr2]) fu 0 (sI m5 39 len 0) (by omega) (by omega) (eRel_y hn he (f6 _ _)) (gwR_y g (f6 _ _)) (fun j hj => by
    rcases Nat.eq_zero_or_pos j with rfl | hj0
    · unfold pyR
      rw [rtW_0]
      refine ⟨fun l z1 z2 => ?_, ?_⟩
      · by_cases el : l = len
        · subst el
          rw [show 105 * 0 + l = l by omega, gI_ss]
          exact Or.inl ⟨0, by omega, ⟨rfl, elen.symm, rfl⟩, rfl, fun q' _ => Nat.zero_le _⟩
        · rw [gI_sn (by omega), s2 _ (by omega)]
          exact Or.inr ⟨fun q y => el (by rw [y.2.1]; exact elen), rfl⟩
      · rw [gI_sn (by omega), s2 _ (by omega)]
        exact Or.inr ⟨noF _, rfl⟩
    · have hq : 0 < n - 1 := by
        rcases Nat.eq_zero_or_pos (n - 1) with q | q
        · rw [q] at hj
          have := rtN_F 0 k; omega
        · exact q
      obtain ⟨pp, kk, hkk, e1, e2, e3⟩ := rt_child (q := n - 1) (i := j) hq hj0
      have eW : rtW (n - 1) b j = oth (rtL b (rtW (n - 1) b pp)) kk :: rtW (n - 1) b pp := by rw [e1, rtW_s hkk]
      refine ⟨fun l z1 z2 => ?_, ?_⟩
      · rw [gI_sn (by omega), s2 _ (by omega)]
        refine Or.inr ⟨fun q y => ?_, rfl⟩
        have := y.1
        rw [eW] at this
        cases this
      · rw [gI_sn (by omega), s2 _ (by omega)]
        exact Or.inr ⟨noF _, rfl⟩)
  exact ⟨res, m7, y1, (f6 _ _).tr y2, y3⟩
