/-! ===== the class's value of a rule ===== -/
/-- what an evaluation of the class touches -/
def PV (a j : Nat) : Prop := a = 27 ∨ (a = 25 ∧ j = 3)
theorem cx_push (fu : Nat) {m : hM} {d : Nat} (hd : d < 40) (h : gI m 25 3 = nI d) (x : Int32) : f_X5_push fu x m = some ((), sI (sI m 27 d x) 25 3 (nI (d + 1))) := by
  unfold f_X5_push
  have e : gI (sI m 27 d x) 25 3 = nI d := by rw [gI_sI, if_neg (by omega)]; exact h
  rw [h, if_neg (show ¬ (40 : Int32) ≤ nI d from nI_ge (b := 40) hd (by omega)), if_pos (hIn_lt hd (by omega)), nI_clamp (show d < 2 ^ 31 by omega), hLet_n, e, nI_1, hLet_n]
theorem cx_pop (fu : Nat) {m : hM} {d : Nat} (hd : d < 40) (h : gI m 25 3 = nI (d + 1)) : f_X5_pop fu m = some (gI m 27 d, sI m 25 3 (nI d)) := by
  unfold f_X5_pop
  have e : gI (sI m 25 3 (nI d)) 25 3 = nI d := by rw [gI_sI, if_pos ⟨rfl, rfl⟩]
  rw [h, if_pos (nI_ne (by omega) (by omega)), nI_pred, hLet_n, e, if_pos (hIn_lt hd (by omega)), nI_clamp (show d < 2 ^ 31 by omega), gI_sI, if_neg (by omega)]
theorem st_p {m m1 : hM} {d : Nat} {x : Int32} {T : Nat → Int32} (h : gI m1 25 3 = nI d) (hd : d < 40) (ht : ∀ j, j < d → gI m1 27 j = T j) : gI (sI (sI m1 27 d x) 25 3 (nI (d + 1))) 25 3 = nI (d + 1) ∧ ∀ j, j < d + 1 → gI (sI (sI m1 27 d x) 25 3 (nI (d + 1))) 27 j = up T d x j := by
  refine ⟨by rw [gI_sI, if_pos ⟨rfl, rfl⟩], fun j hj => ?_⟩
  rw [gI_sI, if_neg (by omega), gI_sI, up_e]
  by_cases z : j = d
  · rw [if_pos ⟨rfl, z⟩, if_pos z]
  · rw [if_neg (fun y => z y.2), if_neg z]; exact ht j (by omega)
theorem fr_pv {m m1 : hM} {d : Nat} {x : Int32} (h : fr PV m m1) : fr PV m (sI (sI m1 27 d x) 25 3 (nI (d + 1))) := (h.si (Or.inl rfl)).si (Or.inr ⟨rfl, rfl⟩)
/-- one step of the class's code is one of the pure one -/
theorem cx_apply (fu : Nat) {m : hM} {d : Nat} {x : Int32} {T : Nat → Int32} (hd : d ≤ 40) (h : gI m 25 3 = nI d) (ht : ∀ j, j < d → gI m 27 j = T j) (hx : (isUn x ∧ 1 ≤ d) ∨ (isBi x ∧ 2 ≤ d)) :
    ∃ m', f_X5_apply fu (x - 2000) m = some ((), m') ∧ fr PV m m' ∧ gI m' 25 3 = nI (if x = 2033 ∨ x = 2126 then d else d - 1) ∧ ∀ j, j < (if x = 2033 ∨ x = 2126 then d else d - 1) → gI m' 27 j = (if x = 2033 then up T (d - 1) (if T (d - 1) = 0 then 1 else 0) else if x = 2126 then up T (d - 1) (-(T (d - 1))) else up T (d - 2) (act (x - 2000) (T (d - 2)) (T (d - 1)))) j := by
  unfold f_X5_apply
  rcases hx with ⟨hx, h1⟩ | ⟨hx, h1⟩
  · obtain ⟨e, rfl⟩ : ∃ e, d = e + 1 := ⟨d - 1, by omega⟩
    rw [cx_pop fu (by omega) h, hBd_some, if_pos (show x = 2033 ∨ x = 2126 from hx), ht e (by omega), Nat.add_sub_cancel]
    have ha : gI (sI m 25 3 (nI e)) 25 3 = nI e := by rw [gI_sI, if_pos ⟨rfl, rfl⟩]
    have hb : ∀ j, j < e → gI (sI m 25 3 (nI e)) 27 j = T j := fun j hj => by rw [gI_sI, if_neg (by omega)]; exact ht j (by omega)
    have f0 : fr PV m (sI m 25 3 (nI e)) := fr.rf.si (Or.inr ⟨rfl, rfl⟩)
    rcases hx with rfl | rfl
    · rw [show (2033 : Int32) - 2000 = 33 by decide, if_neg (by decide), if_pos rfl]
      unfold f_X5_apply_21
      rw [cx_push fu (by omega) ha, cx_push fu (by omega) ha, hBd_some, hBd_some]
      by_cases y : T e = 0
      · rw [if_neg (fun z => z y), if_pos y]
        exact ⟨_, rfl, fr_pv f0, st_p (m := m) ha (by omega) hb⟩
      · rw [if_pos y, if_neg y]
        exact ⟨_, rfl, fr_pv f0, st_p (m := m) ha (by omega) hb⟩
    · rw [show (2126 : Int32) - 2000 = 126 by decide, if_pos (by decide), if_neg (by decide), cx_push fu (by omega) ha, hBd_some, if_neg (by decide), if_pos rfl]
      exact ⟨_, rfl, fr_pv f0, st_p (m := m) ha (by omega) hb⟩
  · obtain ⟨e, rfl⟩ : ∃ e, d = e + 2 := ⟨d - 2, by omega⟩
    obtain ⟨b1, b2, b3, b4⟩ := bi_no hx
    have nu : ¬ (x = 2033 ∨ x = 2126) := fun w => w.elim b3 b4
    have n33 : ¬ x - 2000 = 33 := by
      rcases hx with rfl | rfl | rfl | rfl | rfl | rfl | rfl | rfl <;> decide
    have n126 : ¬ x - 2000 = 126 := by
      rcases hx with rfl | rfl | rfl | rfl | rfl | rfl | rfl | rfl <;> decide
    rw [cx_pop fu (d := e + 1) (by omega) h, hBd_some, if_pos n33, if_pos n126]
    have ha : gI (sI m 25 3 (nI (e + 1))) 25 3 = nI (e + 1) := by rw [gI_sI, if_pos ⟨rfl, rfl⟩]
    rw [cx_pop fu (d := e) (by omega) ha, hBd_some, cx_joined fu hx, hBd_some]
    have hc : gI (sI (sI m 25 3 (nI (e + 1))) 25 3 (nI e)) 25 3 = nI e := by rw [gI_sI, if_pos ⟨rfl, rfl⟩]
    have hb : ∀ j, j < e → gI (sI (sI m 25 3 (nI (e + 1))) 25 3 (nI e)) 27 j = T j := fun j hj => by rw [gI_sI, if_neg (by omega), gI_sI, if_neg (by omega)]; exact ht j (by omega)
    rw [cx_push fu (d := e) (by omega) hc, hBd_some, gI_sI, if_neg (by omega), ht e (by omega), ht (e + 1) (by omega), if_neg nu, if_neg b3, if_neg b4, show e + 2 - 1 = e + 1 by omega, show e + 2 - 2 = e by omega]
    exact ⟨_, rfl, fr_pv ((fr.rf.si (Or.inr ⟨rfl, rfl⟩)).si (Or.inr ⟨rfl, rfl⟩)), st_p (m := m) hc (by omega) hb⟩
theorem cx_value_loop {fu : Nat} (hfu : 300 ≤ fu) {v : hM} {S : Nat → Int32} {n c s L : Nat} (hs : s ∈ stL) (hv : vRel v n) (hc : pRng v n c) (hL : 0 < L) {p o h : Nat} (hpc : p < c) (ho : o < n) (hh : h ≤ 2400) (hat : hIn (S (3 + p)) n) :
    ∀ (t k : Nat) (m : hM), k ≤ L → L - k < t → eRel v m n → pRel v m c → rRel v m L → gI m 23 p = gI v 111 p → gI m (s + 1) p = S (3 + p) → gI m (s + 2) p = S (11 + p) → gI m 25 3 = nI (dpt v k) → (∀ j, j < dpt v k → gI m 27 j = evN v S p o h k j) →
      ∃ m', f_X8_valueFor_11 fu t s (nI p) (nI o) (nI h) (nI k) m = some (evN v S p o h L 0, m') ∧ fr PV m m' := by
  intro t
  induction t with
  | zero => intro k m h1 h2; omega
  | succ t ih =>
    intro k m hk ht he hp hr hb h1 h2 hD hT
    have hL40 := hr.1
    have hsr := st_rng hs
    rw [f_X8_valueFor_11_s]
    unfold s_X8_valueFor_11
    rw [hr.2.2.1]
    by_cases q : nI L ≤ nI k
    · rw [if_pos q]
      rw [nI_leI (by omega) (by omega)] at q
      have : k = L := by omega
      subst this
      unfold f_X8_valueFor_107
      have hd := hr.2.2.2.2 hL
      rw [hd] at hD
      rw [cx_pop fu (d := 0) (by omega) hD, hBd_some, hT 0 (by omega)]
      exact ⟨_, rfl, fr.rf.si (Or.inr ⟨rfl, rfl⟩)⟩
    · rw [if_neg q]
      rw [nI_leI (by omega) (by omega)] at q
      have hd := dpt_le v k
      rw [if_pos (hIn_lt (show k < 40 by omega) (by omega)), nI_clamp (show k < 2 ^ 31 by omega), hLet_n]
      have ed : dpt v (k + 1) = if gI v 116 k < 2000 then dpt v k + 1 else if gI v 116 k = 2033 ∨ gI v 116 k = 2126 then dpt v k else dpt v k - 1 := by rw [dpt]
      have ee : evN v S p o h (k + 1) = if gI v 116 k < 2000 then up (evN v S p o h k) (dpt v k) (if gI v 116 k < 1000 then gI v 116 k else lv v S p o h (gI v 116 k - 1000).toNatClampNeg)
        else if gI v 116 k = 2033 then up (evN v S p o h k) (dpt v k - 1) (if evN v S p o h k (dpt v k - 1) = 0 then 1 else 0)
        else if gI v 116 k = 2126 then up (evN v S p o h k) (dpt v k - 1) (-(evN v S p o h k (dpt v k - 1)))
        else up (evN v S p o h k) (dpt v k - 2) (act (gI v 116 k - 2000) (evN v S p o h k (dpt v k - 2)) (evN v S p o h k (dpt v k - 1))) := by rw [evN]
      have go : ∀ m1 : hM, fr PV m m1 → gI m1 25 3 = nI (dpt v (k + 1)) → (∀ j, j < dpt v (k + 1) → gI m1 27 j = evN v S p o h (k + 1) j) → ∃ m', f_X8_valueFor_101 fu (f_X8_valueFor_11 fu t) s (nI p) (nI o) (nI h) (nI k) m1 = some (evN v S p o h L 0, m') ∧ fr PV m m' := by
        intro m1 f1 e1 e2
        unfold f_X8_valueFor_101
        rw [nI_1, hLet_n]
        have q1 : ∀ a j, ¬ PV a j → gI m1 a j = gI m a j := f1.1
        obtain ⟨m', r1, r2⟩ := ih (k + 1) m1 (by omega) (by omega) (eRel_fr he hv.1 (fun a j z1 z2 => q1 a j (by unfold PV; omega)))
          ⟨by rw [q1 _ _ (by unfold PV; omega)]; exact hp.1, fun p' hp' => by rw [q1 19 _ (by unfold PV; omega), q1 20 _ (by unfold PV; omega), q1 21 _ (by unfold PV; omega), q1 22 _ (by unfold PV; omega), q1 24 _ (by unfold PV; omega)]; exact hp.2 p' hp'⟩
          ⟨hr.1, hr.2.1, by rw [q1 _ _ (by unfold PV; omega)]; exact hr.2.2.1, fun k' hk' => by rw [q1 26 _ (by unfold PV; omega)]; exact hr.2.2.2.1 k' hk', hr.2.2.2.2⟩
          (by rw [q1 _ _ (by unfold PV; omega)]; exact hb) (by rw [q1 _ _ (by unfold PV; omega)]; exact h1) (by rw [q1 _ _ (by unfold PV; omega)]; exact h2) e1 e2
        exact ⟨m', r1, f1.tr r2⟩
      have one : ∀ x : Int32, gI v 116 k < 2000 → evN v S p o h (k + 1) = up (evN v S p o h k) (dpt v k) x → ∃ m', hBd (f_X5_push fu x m) (fun _ m9 => f_X8_valueFor_101 fu (f_X8_valueFor_11 fu t) s (nI p) (nI o) (nI h) (nI k) m9) = some (evN v S p o h L 0, m') ∧ fr PV m m' := by
        intro x a1 a2
        rw [cx_push fu (by omega) hD, hBd_some]
        have z := st_p (m := m) (x := x) hD (show dpt v k < 40 by omega) hT
        refine go _ (fr_pv fr.rf) ?_ ?_
        · rw [ed, if_pos a1]; exact z.1
        · rw [ed, if_pos a1, a2]; exact z.2
      rcases hr.2.2.2.1 k (by omega) with ⟨hy, h3, h4⟩ | ⟨i, hi, hx, hy⟩ | ⟨hy, hx, h3⟩ | ⟨hy, hx, h3⟩
      · obtain ⟨a1, a2, a3, a4⟩ := lt_k h3 h4
        clear h3 h4
        rw [← hy, if_pos a1, if_pos a2]
        exact one _ a1 (by rw [ee, if_pos a1, if_pos a2])
      · obtain ⟨a1, a2, a3, a4, a5⟩ := lt_l (lett_lt i hi)
        obtain ⟨b1, b2, b3, b4, b5⟩ := lt_l (show i < 200 by omega)
        rw [hy, if_pos a1, if_neg a2, a5, cx_letterFor hfu hs hv he hc hp hpc ho hh hat hi hb h1 h2, hBd_some]
        exact one _ (by rw [hx]; exact b1) (by rw [ee, hx, if_pos b1, if_neg b2, b5, nI_clamp (show i < 2 ^ 31 by omega)])
      · have nl : ¬ gI v 116 k < 2000 := by rcases hx with z | z <;> rw [z] <;> decide
        obtain ⟨m', r1, r2, r3, r4⟩ := cx_apply fu (by omega) hD hT (Or.inl ⟨hx, h3⟩)
        rw [if_pos (show gI v 116 k = 2033 ∨ gI v 116 k = 2126 from hx)] at r3 r4
        rw [← hy, if_neg nl, r1, hBd_some]
        refine go m' r2 ?_ ?_
        · rw [ed, if_neg nl, if_pos (show gI v 116 k = 2033 ∨ gI v 116 k = 2126 from hx)]; exact r3
        · rw [ed, if_neg nl, if_pos (show gI v 116 k = 2033 ∨ gI v 116 k = 2126 from hx), ee, if_neg nl]; exact r4
      · obtain ⟨b1, b2, b3, b4⟩ := bi_no hx
        have nu : ¬ (gI v 116 k = 2033 ∨ gI v 116 k = 2126) := fun w => w.elim b3 b4
        obtain ⟨m', r1, r2, r3, r4⟩ := cx_apply fu (by omega) hD hT (Or.inr ⟨hx, h3⟩)
        rw [if_neg nu] at r3 r4
        rw [← hy, if_neg b1, r1, hBd_some]
        refine go m' r2 ?_ ?_
        · rw [ed, if_neg b1, if_neg nu]; exact r3
        · rw [ed, if_neg b1, if_neg nu, ee, if_neg b1]; exact r4
theorem cx_valueFor {fu : Nat} (hfu : 300 ≤ fu) {v m : hM} {S : Nat → Int32} {n c s L : Nat} (hs : s ∈ stL) (hv : vRel v n) (hc : pRng v n c) (hL : 0 < L) {p o h : Nat} (hpc : p < c) (ho : o < n) (hh : h ≤ 2400) (hat : hIn (S (3 + p)) n)
    (he : eRel v m n) (hp : pRel v m c) (hr : rRel v m L) (hb : gI m 23 p = gI v 111 p) (h1 : gI m (s + 1) p = S (3 + p)) (h2 : gI m (s + 2) p = S (11 + p)) :
    ∃ m', f_X8_valueFor fu s (nI p) (nI o) (nI h) m = some (evR v S p o h, m') ∧ fr PV m m' := by
  have hsr := st_rng hs
  have h40 := hr.1
  unfold f_X8_valueFor evR
  rw [if_pos hs, hLet_n, hr.2.1, nI_clamp (show L < 2 ^ 31 by omega)]
  have q1 : ∀ a j, ¬ PV a j → gI (sI m 25 3 0) a j = gI m a j := fun a j z => by rw [gI_sI, if_neg (by unfold PV at z; omega)]
  obtain ⟨m', r1, r2⟩ := cx_value_loop hfu hs hv hc hL hpc ho hh hat fu 0 (sI m 25 3 0) (by omega) (by omega) (eRel_fr he hv.1 (fun a j z1 z2 => q1 a j (by unfold PV; omega)))
    ⟨by rw [q1 _ _ (by unfold PV; omega)]; exact hp.1, fun p' hp' => by rw [q1 19 _ (by unfold PV; omega), q1 20 _ (by unfold PV; omega), q1 21 _ (by unfold PV; omega), q1 22 _ (by unfold PV; omega), q1 24 _ (by unfold PV; omega)]; exact hp.2 p' hp'⟩
    ⟨hr.1, hr.2.1, by rw [q1 _ _ (by unfold PV; omega)]; exact hr.2.2.1, fun k' hk' => by rw [q1 26 _ (by unfold PV; omega)]; exact hr.2.2.2.1 k' hk', hr.2.2.2.2⟩
    (by rw [q1 _ _ (by unfold PV; omega)]; exact hb) (by rw [q1 _ _ (by unfold PV; omega)]; exact h1) (by rw [q1 _ _ (by unfold PV; omega)]; exact h2) (by rw [gI_sI, if_pos ⟨rfl, rfl⟩]; rfl) (fun j hj => absurd hj (by simp [dpt]))
  exact ⟨m', r1, (fr.rf.si (Or.inr ⟨rfl, rfl⟩)).tr r2⟩
