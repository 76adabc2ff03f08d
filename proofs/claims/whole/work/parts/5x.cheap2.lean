/-! ===== cheap: the class, hour by hour ===== -/
def pyR (v : hM) (n b p k x t i : Nat) (m : hM) : Prop := (∀ l, 1 ≤ l → l ≤ 104 → pyP (qQ v n b p k x t (rtW (n - 1) b i) l) (gI m 39 (105 * i + l))) ∧ pyP (qF v n b p k x t (rtW (n - 1) b i)) (gI m 39 (105 * i))
def pyM (v : hM) (n b p k x t i : Nat) (m : hM) : Prop := (∀ l, 1 ≤ l → l ≤ 104 → pyP (qMid v b p (x + t) (qQ v n b p k x t) (rtW (n - 1) b i) l) (gI m 39 (105 * i + l))) ∧ pyP (qF v n b p k x (t + 1) (rtW (n - 1) b i)) (gI m 39 (105 * i))
theorem pyR_cg {v : hM} {n b p k x t i : Nat} {m m' : hM} (h : pyR v n b p k x t i m) (g : ∀ l, l ≤ 104 → gI m' 39 (105 * i + l) = gI m 39 (105 * i + l)) : pyR v n b p k x t i m' := ⟨fun l z1 z2 => by rw [g l z2]; exact h.1 l z1 z2, by rw [show 105 * i = 105 * i + 0 by omega, g 0 (by omega)]; exact h.2⟩
theorem pyM_cg {v : hM} {n b p k x t i : Nat} {m m' : hM} (h : pyM v n b p k x t i m) (g : ∀ l, l ≤ 104 → gI m' 39 (105 * i + l) = gI m 39 (105 * i + l)) : pyM v n b p k x t i m' := ⟨fun l z1 z2 => by rw [g l z2]; exact h.1 l z1 z2, by rw [show 105 * i = 105 * i + 0 by omega, g 0 (by omega)]; exact h.2⟩
theorem py_idle {v : hM} {n b p k x t i : Nat} {m : hM} (h : pyR v n b p k x t i m) (hw : ¬ wkP v p (rtL b (rtW (n - 1) b i)) (x + t) = 1) : pyM v n b p k x t i m :=
  ⟨fun l z1 z2 => pyP_iff (h.1 l z1 z2) (fun q => ⟨Or.inl, fun y => y.elim id (fun y => absurd y.1 hw)⟩), pyP_iff h.2 (fun q => by rw [qF_s]; exact ⟨Or.inl, fun y => y.elim id (fun y => absurd y.1 hw)⟩)⟩
theorem py_worked {v : hM} {n c b p k x t i : Nat} (hv : vRel v n) (hp : pRng v n c) (hpc : p < c) (hb : b < n) (hk : k ≤ 2) (ht : t ≤ 400) {m m' : hM} (h : pyR v n b p k x t i m) (hw : wkP v p (rtL b (rtW (n - 1) b i)) (x + t) = 1) (hV : rtV n b (rtW (n - 1) b i))
    (g : ∀ l, l < 104 → gI m' 39 (105 * i + l) = if gI m 39 (105 * i + l) ≤ gI m 39 (105 * i + (l + 1)) + nI (wgN v (rtL b (rtW (n - 1) b i))) then gI m 39 (105 * i + l) else gI m 39 (105 * i + (l + 1)) + nI (wgN v (rtL b (rtW (n - 1) b i)))) (g4 : gI m' 39 (105 * i + 104) = gI m 39 (105 * i + 104)) : pyM v n b p k x t i m' := by
  have w99 := (wgN_ok hv (rtL_lt hb hV)).2
  have hB : ∀ l q, qQ v n b p k x t (rtW (n - 1) b i) l q → q + wgN v (rtL b (rtW (n - 1) b i)) < 500000 := fun l q z => by have := (qQ_ok hv hp hpc hb t _ _ _ z).2.2.2.2; omega
  constructor
  · intro l z1 z2
    rcases Nat.lt_or_ge l 104 with u | u
    · rw [g l u]
      exact pyP_work (h.1 l z1 z2) (h.1 (l + 1) (by omega) (by omega)) w99 (hB (l + 1)) (fun q => ⟨fun y => y.elim Or.inl (fun y => Or.inr y.2), fun y => y.elim Or.inl (fun y => Or.inr ⟨hw, y⟩)⟩)
    · have : l = 104 := by omega
      subst this
      rw [g4]
      refine pyP_iff (h.1 104 z1 z2) (fun q => ⟨Or.inl, fun y => y.elim id (fun y => ?_)⟩)
      obtain ⟨-, q0, y2, -⟩ := y
      have := qQ_ok hv hp hpc hb t _ _ _ y2
      omega
  · have := g 0 (by omega)
    rw [show 105 * i + 0 = 105 * i by omega] at this
    rw [this]
    exact pyP_work h.2 (h.1 1 (by omega) (by omega)) w99 (hB 1) (fun q => by rw [qF_s]; exact ⟨fun y => y.elim Or.inl (fun y => Or.inr y.2), fun y => y.elim Or.inl (fun y => Or.inr ⟨hw, y⟩)⟩)
theorem py_nil {v : hM} {n b p k x t : Nat} {m : hM} (h : pyM v n b p k x t 0 m) : pyR v n b p k x (t + 1) 0 m := by
  unfold pyM at h
  unfold pyR
  rw [rtW_0] at h ⊢
  refine ⟨fun l z1 z2 => pyP_iff (h.1 l z1 z2) (fun q => ⟨fun y => ⟨z1, Or.inl y⟩, fun y => ?_⟩), h.2⟩
  rcases y.2 with y | ⟨o, r', l', y, -⟩
  · exact y
  · cases y
theorem py_hand {v : hM} {n b p k x t i pp o w : Nat} {m m' : hM} (e : rtW (n - 1) b i = o :: rtW (n - 1) b pp) (hlen : (rtW (n - 1) b pp).length < k) (ho : o < n) (hne : o ≠ rtL b (rtW (n - 1) b pp)) (hw : loN v (gI v 96 14) (rtL b (rtW (n - 1) b pp)) o (x + t + 1) = w) (h : pyM v n b p k x t i m) (hp : pyM v n b p k x t pp m)
    (g : ∀ l, l ≤ 104 → gI m' 39 (105 * i + l) = if l ≤ w then gI m 39 (105 * i + l) else (if gI m 39 (105 * i + l) ≤ gI m 39 (105 * pp + (l - w)) then gI m 39 (105 * i + l) else gI m 39 (105 * pp + (l - w)))) : pyR v n b p k x (t + 1) i m' := by
  have hiff : ∀ l q, qQ v n b p k x (t + 1) (rtW (n - 1) b i) l q ↔ (1 ≤ l ∧ (qMid v b p (x + t) (qQ v n b p k x t) (rtW (n - 1) b i) l q ∨ ∃ l', 1 ≤ l' ∧ qMid v b p (x + t) (qQ v n b p k x t) (rtW (n - 1) b pp) l' q ∧ l = l' + w)) := by
    intro l q
    constructor
    · rintro ⟨y1, y2 | ⟨o', r', l', y3, y4, y5, y6, y7, y8, y9⟩⟩
      · exact ⟨y1, Or.inl y2⟩
      · rw [e] at y3
        injection y3 with e1 e2
        subst e1; subst e2
        exact ⟨y1, Or.inr ⟨l', y7, y8, by rw [← hw]; exact y9⟩⟩
    · rintro ⟨y1, y2 | ⟨l', y3, y4, y5⟩⟩
      · exact ⟨y1, Or.inl y2⟩
      · exact ⟨y1, Or.inr ⟨o, _, l', e, hlen, ho, hne, y3, y4, by rw [hw]; exact y5⟩⟩
  constructor
  · intro l z1 z2
    rw [g l z2]
    by_cases c : l ≤ w
    · rw [if_pos c]
      refine pyP_iff (h.1 l z1 z2) (fun q => ?_)
      rw [hiff]
      exact ⟨fun y => ⟨z1, Or.inl y⟩, fun y => y.2.elim id (fun ⟨l', y1, y2, y3⟩ => by omega)⟩
    · rw [if_neg c]
      refine pyP_min (h.1 l z1 z2) (hp.1 (l - w) (by omega) (by omega)) (fun q => ?_)
      rw [hiff]
      constructor
      · rintro ⟨y1, y2 | ⟨l', y3, y4, y5⟩⟩
        · exact Or.inl y2
        · have : l' = l - w := by omega
          subst this
          exact Or.inr y4
      · rintro (y | y)
        · exact ⟨z1, Or.inl y⟩
        · exact ⟨z1, Or.inr ⟨l - w, by omega, y, by omega⟩⟩
  · have := g 0 (by omega)
    rw [if_pos (Nat.zero_le w), show 105 * i + 0 = 105 * i by omega] at this
    rw [this]; exact h.2
def PY (a j : Nat) : Prop := a = 39 ∨ a = 40 ∨ (a = 34 ∧ j = 5)
theorem gwR_y {n b C : Nat} {m m' : hM} (h : gwR n b m C) (f : fr PY m m') : gwR n b m' C := gwR_fr h (fun a j z => f.1 a j (by unfold PW at z; unfold PY; omega))
theorem eRel_y {v m m' : hM} {n : Nat} (hn : n ≤ 6) (h : eRel v m n) (f : fr PY m m') : eRel v m' n := eRel_fr h hn (fun a j z1 z2 => f.1 a j (by unfold PY; omega))
theorem cx_ch75 {fu : Nat} (hfu : 200 ≤ fu) {v : hM} {n c b p k x t : Nat} (hv : vRel v n) (hp : pRng v n c) (hpc : p < c) (hb : b < n) (hk : k ≤ 2) (ht : t ≤ 400) (K : Int32 → Int32 → Int32 → Int32 → hM → Option (Int32 × hM)) (lim able W : Int32) (hW : ∀ o, o < n → (W >>> (nI o &&& 31)) &&& 1 = nI (wkP v p o (x + t))) : ∀ (f i : Nat) (m1 : hM), i ≤ rtN (n - 1) k → rtN (n - 1) k - i < f → gwR n b m1 (rtN (n - 1) k) → eRel v m1 n →
    (∀ j, j < i → pyM v n b p k x t j m1) → (∀ j, i ≤ j → j < rtN (n - 1) k → pyR v n b p k x t j m1) →
    ∃ m2, fr PY m1 m2 ∧ f_X9_cheapest_75 fu K f lim able (nI (rtN (n - 1) k)) (nI (x + t)) W (nI i) m1 = f_X9_cheapest_110 fu K lim able (nI (rtN (n - 1) k)) (nI (x + t)) m2 ∧ ∀ j, j < rtN (n - 1) k → pyM v n b p k x t j m2 := by
  have hn := hv.1
  have hC : rtN (n - 1) k ≤ 31 := rtN_le2 (show n - 1 ≤ 5 by omega) _ hk
  intro f
  induction f with
  | zero => intro i m1 h1 h2; exact absurd h2 (Nat.not_lt_zero _)
  | succ f ih =>
    intro i m1 hi hf g he r1 r2
    rw [f_X9_cheapest_75_s]
    unfold s_X9_cheapest_75 f_X9_cheapest_104
    simp only [hLet_n, nI_1]
    by_cases c0 : nI (rtN (n - 1) k) ≤ nI i
    · rw [if_pos c0]
      rw [nI_leI (by omega) (by omega)] at c0
      exact ⟨m1, fr.rf, rfl, fun j hj => r1 j (by omega)⟩
    · rw [if_neg c0]
      rw [nI_leI (by omega) (by omega)] at c0
      have hV := (rt_rowV (n := n) (b := b) (k := k) (i := i) hb (by omega)).1
      have hlt := rtL_lt hb hV
      have h36 := (g.2 i (by omega)).1
      rw [if_pos (hIn_lt (show i < 156 by omega) (by omega)), nI_clamp (show i < 2 ^ 31 by omega), h36, hW _ hlt]
      by_cases cw : wkP v p (rtL b (rtW (n - 1) b i)) (x + t) = 1
      · rw [cw, if_neg (fun z => z rfl)]
        have hpay : gI m1 (6 + 2 * rtL b (rtW (n - 1) b i)) 3 = nI (wgN v (rtL b (rtW (n - 1) b i))) := by
          rw [← (wgN_ok hv hlt).1]
          exact (he.2.2.2.1 _ hlt).1.1 3 (by omega)
        obtain ⟨m2, s1, s2, s3⟩ := cx_workForPay hfu (show i < 31 by omega) (show rtL b (rtW (n - 1) b i) < 6 by omega) h36 hpay
        have f1 : fr PY m1 m2 := s3.mono (fun a j z => Or.inl z.1)
        obtain ⟨m3, u1, u2, u3⟩ := ih (i + 1) m2 (by omega) (by omega) (gwR_y g f1) (eRel_y hn he f1) (fun j hj => by
          by_cases ej : j = i
          · subst ej; exact py_worked hv hp hpc hb hk ht (r2 j (by omega) (by omega)) cw hV s2 (s3.1 39 _ (by omega))
          · exact pyM_cg (r1 j (by omega)) (fun l hl => s3.1 39 _ (by omega))) (fun j hj1 hj2 => pyR_cg (r2 j (by omega) hj2) (fun l hl => s3.1 39 _ (by omega)))
        rw [s1, hBd_some]
        exact ⟨m3, f1.tr u1, u2, u3⟩
      · have cw0 : wkP v p (rtL b (rtW (n - 1) b i)) (x + t) = 0 := by
          unfold wkP at cw ⊢
          split at cw
          · exact absurd rfl cw
          · next z => rw [if_neg z]
        rw [cw0, if_pos (by decide)]
        exact ih (i + 1) m1 (by omega) (by omega) g he (fun j hj => by
          by_cases ej : j = i
          · subst ej; exact py_idle (r2 j (by omega) (by omega)) cw
          · exact r1 j (by omega)) (fun j hj1 hj2 => r2 j (by omega) hj2)
theorem cx_ch131 {fu : Nat} (hfu : 200 ≤ fu) {v : hM} {n b p k x t : Nat} (hv : vRel v n) (hb : b < n) (hk : k ≤ 2) (K : Int32 → Int32 → Int32 → Int32 → hM → Option (Int32 × hM)) (lim able N : Int32) : ∀ (f i : Nat) (m1 : hM), i < rtN (n - 1) k → i < f → gwR n b m1 (rtN (n - 1) k) →
    (∀ a o, a < n → o < n → a ≠ o → gI m1 40 (6 * a + o) = nI (loN v (gI v 96 14) a o (x + t + 1))) →
    (∀ j, i < j → j < rtN (n - 1) k → pyR v n b p k x (t + 1) j m1) → (∀ j, j ≤ i → pyM v n b p k x t j m1) →
    ∃ m2, fr PY m1 m2 ∧ f_X9_cheapest_124 fu K f lim able N (nI (x + t)) (nI i) m1 = K lim able N (nI (x + t + 1)) m2 ∧ ∀ j, j < rtN (n - 1) k → pyR v n b p k x (t + 1) j m2 := by
  have hn := hv.1
  have hC : rtN (n - 1) k ≤ 31 := rtN_le2 (show n - 1 ≤ 5 by omega) _ hk
  intro f
  induction f with
  | zero => intro i m1 h1 h2; exact absurd h2 (Nat.not_lt_zero _)
  | succ f ih =>
    intro i m1 hi hf g g4 r1 r2
    rw [f_X9_cheapest_124_s]
    unfold s_X9_cheapest_124 f_X9_cheapest_141
    simp only [hLet_n, nI_1]
    cases i with
    | zero =>
      rw [if_pos (show nI 0 ≤ 0 by decide)]
      refine ⟨m1, fr.rf, rfl, fun j hj => ?_⟩
      rcases Nat.eq_zero_or_pos j with rfl | q
      · exact py_nil (r2 0 (Nat.le_refl 0))
      · exact r1 j q hj
    | succ i =>
      rw [if_neg (nI_nle (by omega) (by omega))]
      have hq : 0 < n - 1 := by
        rcases Nat.eq_zero_or_pos (n - 1) with q | q
        · rw [q] at hi
          have := rtN_F 0 k; omega
        · exact q
      obtain ⟨pp, kk, hkk, e1, e2, e3⟩ := rt_child (q := n - 1) (i := i + 1) hq (by omega)
      have eW : rtW (n - 1) b (i + 1) = oth (rtL b (rtW (n - 1) b pp)) kk :: rtW (n - 1) b pp := by rw [e1, rtW_s hkk]
      have hV := rt_rowV (n := n) (b := b) (k := k) (i := i + 1) hb (by omega)
      have g35 := (g.2 (i + 1) hi).2.2 (by omega)
      rw [e3] at g35
      have g36 := (g.2 (i + 1) hi).1
      rw [eW] at hV g36
      rw [rtL] at g36
      have g36p := (g.2 pp (by omega)).1
      have ha : rtL b (rtW (n - 1) b pp) < n := rtL_lt hb hV.1.2.2
      have ho := hV.1.1
      have hao := hV.1.2.1
      have hlen : (rtW (n - 1) b pp).length < k := by have := hV.2; rw [List.length_cons] at this; omega
      have hlo := (loN_ok (h := x + t + 1) hv ha ho hv.2.2.2.2.2.1).2
      obtain ⟨m2, s1, s2, s3⟩ := cx_handForPay hfu (show i + 1 < 31 by omega) e2 (show _ < 6 by omega) (show _ < 6 by omega) g35 g36 g36p (g4 _ _ ha ho (fun z => hao z.symm)) hlo
      have f1 : fr PY m1 m2 := s3.mono (fun a j z => Or.inl z.1)
      rw [s1, hBd_some, pk_m1]
      obtain ⟨m3, u1, u2, u3⟩ := ih i m2 (by omega) (by omega) (gwR_y g f1) (fun a o z1 z2 z3 => by rw [s3.1 40 _ (by omega)]; exact g4 a o z1 z2 z3) (fun j z1 z2 => by
        by_cases ej : j = i + 1
        · subst ej
          exact py_hand eW hlen ho hao rfl (r2 (i + 1) (Nat.le_refl _)) (r2 pp (by omega)) s2
        · exact pyR_cg (r1 j (by omega) z2) (fun l hl => s3.1 39 _ (by omega))) (fun j z => pyM_cg (r2 j (by omega)) (fun l hl => s3.1 39 _ (by omega)))
      exact ⟨m3, f1.tr u1, u2, u3⟩
/-! the cheapest row -/
def chC (v : hM) (n b p k x T : Nat) (res : Int32) (m' : hM) : Prop :=
  (∃ i q, i < rtN (n - 1) k ∧ q < 500000 ∧ qF v n b p k x T (rtW (n - 1) b i) q ∧ res = nI q ∧ gI m' 34 5 = nI i ∧ ∀ j q', j < rtN (n - 1) k → qF v n b p k x T (rtW (n - 1) b j) q' → q ≤ q' ∧ (j < i → q < q')) ∨ (res = -2 ∧ ∀ j q', j < rtN (n - 1) k → ¬ qF v n b p k x T (rtW (n - 1) b j) q')
theorem pyP_le {P Q : Nat → Prop} {y z : Int32} (h : pyP P y) (g : pyP Q z) : (y ≤ z → ∀ q', Q q' → ∃ q, P q ∧ q ≤ q') ∧ (¬ y ≤ z → ∃ q', Q q' ∧ ∀ q, P q → q' < q) := by
  rcases h with ⟨q, h0, h1, rfl, h3⟩ | ⟨h1, rfl⟩ <;> rcases g with ⟨q2, g0, g1, rfl, g3⟩ | ⟨g1, rfl⟩
  · rw [nI_leI (by omega) (by omega)]
    exact ⟨fun c q' u => ⟨q, h1, by have := g3 _ u; omega⟩, fun c => ⟨q2, g1, fun q' u => by have := h3 _ u; omega⟩⟩
  · exact ⟨fun _ q' u => absurd u (g1 q'), fun c => absurd (by rw [far_e]; exact nI_le (by omega) (by omega)) c⟩
  · refine ⟨fun c => ?_, fun c => ⟨q2, g1, fun q u => absurd u (h1 q)⟩⟩
    rw [far_e, nI_leI (by omega) (by omega)] at c; omega
  · exact ⟨fun _ q' u => absurd u (g1 q'), fun c => absurd (by rw [far_e]; exact nI_le (by omega) (by omega)) c⟩
theorem cx_ch162 {fu : Nat} {v : hM} {n b p k x T : Nat} (hn : n ≤ 6) (hk : k ≤ 2) : ∀ (f i bst : Nat) (m1 : hM), i ≤ rtN (n - 1) k → bst < i → rtN (n - 1) k - i < f → gI m1 34 5 = nI bst → (∀ j, j < rtN (n - 1) k → pyP (qF v n b p k x T (rtW (n - 1) b j)) (gI m1 39 (105 * j))) →
    (∀ j q', j < i → qF v n b p k x T (rtW (n - 1) b j) q' → (∃ q, qF v n b p k x T (rtW (n - 1) b bst) q ∧ q ≤ q' ∧ (j < bst → q < q'))) →
    ∃ res m2, f_X9_cheapest_155 fu f (nI (rtN (n - 1) k)) (nI i) m1 = some (res, m2) ∧ fr PY m1 m2 ∧ chC v n b p k x T res m2 := by
  have hC : rtN (n - 1) k ≤ 31 := rtN_le2 (show n - 1 ≤ 5 by omega) _ hk
  intro f
  induction f with
  | zero => intro i bst m1 h1 h2 h3; exact absurd h3 (Nat.not_lt_zero _)
  | succ f ih =>
    intro i bst m1 hi hbi hf h5 hP hB
    rw [f_X9_cheapest_155_s]
    unfold s_X9_cheapest_155 f_X9_cheapest_193 f_X9_cheapest_199
    simp only [hLet_n, nI_1]
    rw [h5, show (105 : Int32) = nI 105 from rfl, pk_mul, pk_mul, show i * 105 = 105 * i by omega, show bst * 105 = 105 * bst by omega]
    have ib : hIn (nI (105 * bst)) 3255 := hIn_lt (by omega) (by omega)
    have eb : (nI (105 * bst)).toNatClampNeg = 105 * bst := nI_clamp (by omega)
    by_cases c0 : nI (rtN (n - 1) k) ≤ nI i
    · rw [if_pos c0]
      rw [nI_leI (by omega) (by omega)] at c0
      rw [if_pos ib, eb]
      have hi2 : i = rtN (n - 1) k := by omega
      rcases hP bst (by omega) with ⟨q, q0, q1, q2, q3⟩ | ⟨q1, q2⟩
      · rw [q2, far_e, if_pos (nI_lt (by omega) (by omega))]
        refine ⟨nI q, m1, rfl, fr.rf, Or.inl ⟨bst, q, by omega, q0, q1, rfl, h5, fun j q' z1 z2 => ?_⟩⟩
        obtain ⟨q9, y1, y2, y3⟩ := hB j q' (by omega) z2
        have := q3 _ y1
        exact ⟨by omega, fun u => by have := y3 u; omega⟩
      · rw [q2, if_neg (by decide)]
        refine ⟨-2, m1, rfl, fr.rf, Or.inr ⟨rfl, fun j q' z1 z2 => ?_⟩⟩
        obtain ⟨q9, y1, -⟩ := hB j q' (by omega) z2
        exact q1 _ y1
    · rw [if_neg c0]
      rw [nI_leI (by omega) (by omega)] at c0
      rw [if_pos (hIn_lt (show 105 * i < 3255 by omega) (by omega)), if_pos ib, eb, nI_clamp (show 105 * i < 2 ^ 31 by omega)]
      have L := pyP_le (hP bst (by omega)) (hP i (by omega))
      by_cases c1 : gI m1 39 (105 * bst) ≤ gI m1 39 (105 * i)
      · rw [if_pos c1]
        refine ih (i + 1) bst m1 (by omega) (by omega) (by omega) h5 hP (fun j q' z1 z2 => ?_)
        by_cases ej : j = i
        · subst ej
          obtain ⟨q, y1, y2⟩ := L.1 c1 q' z2
          exact ⟨q, y1, y2, fun u => by omega⟩
        · exact hB j q' (by omega) z2
      · rw [if_neg c1]
        obtain ⟨q1, y1, y2⟩ := L.2 c1
        obtain ⟨res, m2, u1, u2, u3⟩ := ih (i + 1) i (sI m1 34 5 (nI i)) (by omega) (by omega) (by omega) (gI_ss _ _ _ _) (fun j hj => by rw [gI_sn (by omega)]; exact hP j hj) (fun j q' z1 z2 => by
          by_cases ej : j = i
          · subst ej; exact ⟨q', z2, Nat.le_refl _, fun u => by omega⟩
          · obtain ⟨q9, w1, w2, w3⟩ := hB j q' (by omega) z2
            have := y2 _ w1
            exact ⟨q1, y1, by omega, fun u => by omega⟩)
        exact ⟨res, m2, u1, (fr.rf.si (by unfold PY; omega)).tr u2, u3⟩
