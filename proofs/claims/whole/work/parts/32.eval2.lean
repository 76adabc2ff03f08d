/-! ===== a rule's code, run on both sides ===== -/
theorem hLet_n {α β : Type} (x : α) (f : α → β) : hLet x f = f x := by
  have h := hLet_e x f
  exact h
theorem bi_no {x : Int32} (h : isBi x) : ¬ x < 2000 ∧ 2000 ≤ x ∧ ¬ x = 2033 ∧ ¬ x = 2126 := by
  rcases h with rfl | rfl | rfl | rfl | rfl | rfl | rfl | rfl <;> decide
theorem lt_k {x : Int32} (h1 : 0 ≤ x.toInt) (h2 : x.toInt < 1000) : x < 2000 ∧ x < 1000 ∧ ¬ 2000 ≤ x ∧ ¬ 1000 ≤ x := by
  rw [i_lt, i_lt, i_le, i_le, show (2000 : Int32).toInt = 2000 from rfl, show (1000 : Int32).toInt = 1000 from rfl]
  omega
theorem lt_l {i : Nat} (h : i < 200) : nI (1000 + i) < 2000 ∧ ¬ nI (1000 + i) < 1000 ∧ ¬ 2000 ≤ nI (1000 + i) ∧ 1000 ≤ nI (1000 + i) ∧ nI (1000 + i) - 1000 = nI i := by
  rw [i_lt, i_lt, i_le, i_le, show (2000 : Int32).toInt = 2000 from rfl, show (1000 : Int32).toInt = 1000 from rfl, nI_toInt (by omega)]
  exact ⟨by omega, by omega, by omega, by omega, sub_k 1000 i⟩
theorem lett_lt : ∀ i, i < 12 → lett i < 200 := by decide +kernel
theorem rx_worked_loop {fu : Nat} (hfu : 300 ≤ fu) {v mc : hM} {S : Nat → Int32} {n c L : Nat} (hv : vRel v n) (hp : pRng v n c) (hL : 0 < L) (hr : rRel v mc L) {p o h : Nat} (hpc : p < c) (ho : o < n) (hh : h ≤ 2400) (hat : hIn (S (3 + p)) n) :
    ∀ (t k : Nat) (m : hM), k ≤ L → L - k < t → eqV v m → (∀ j, j < 127 → gI m 114 j = S j) → (∀ j, j < dpt v k → gI m 118 j = evN v S p o h k j) →
      ∃ m', f_X11_worked_6 fu t (nI p) (nI o) (nI h) (nI (dpt v k)) (nI k) m = some (evN v S p o h L 0, m') ∧ fr (fun a _ => a = 118) m m' := by
  intro t
  induction t with
  | zero => intro k m h1 h2; omega
  | succ t ih =>
    intro k m hk ht g hS hT
    have hL40 := hr.1
    rw [f_X11_worked_6_s]
    unfold s_X11_worked_6
    rw [g 117 0 (by unfold envC; omega), hr.2.1]
    by_cases q : nI L ≤ nI k
    · rw [if_pos q]
      rw [nI_leI (by omega) (by omega)] at q
      have : k = L := by omega
      subst this
      unfold f_X11_worked_186
      have hd := hr.2.2.2.2 hL
      refine ⟨m, ?_, fr.rf⟩
      rw [hT 0 (by omega)]
    · rw [if_neg q]
      rw [nI_leI (by omega) (by omega)] at q
      have hd := dpt_le v k
      rw [if_pos (hIn_lt (show k < 96 by omega) (by omega)), nI_clamp (show k < 2 ^ 31 by omega), g 116 k (by unfold envC; omega)]
      simp only [hLet_n]
      have ed : dpt v (k + 1) = if gI v 116 k < 2000 then dpt v k + 1 else if gI v 116 k = 2033 ∨ gI v 116 k = 2126 then dpt v k else dpt v k - 1 := by rw [dpt]
      have ee : evN v S p o h (k + 1) = if gI v 116 k < 2000 then up (evN v S p o h k) (dpt v k) (if gI v 116 k < 1000 then gI v 116 k else lv v S p o h (gI v 116 k - 1000).toNatClampNeg)
        else if gI v 116 k = 2033 then up (evN v S p o h k) (dpt v k - 1) (if evN v S p o h k (dpt v k - 1) = 0 then 1 else 0)
        else if gI v 116 k = 2126 then up (evN v S p o h k) (dpt v k - 1) (-(evN v S p o h k (dpt v k - 1)))
        else up (evN v S p o h k) (dpt v k - 2) (act (gI v 116 k - 2000) (evN v S p o h k (dpt v k - 2)) (evN v S p o h k (dpt v k - 1))) := by rw [evN]
      have go : ∀ (d' j0 : Nat) (x : Int32), dpt v (k + 1) = d' → (∀ j, j < d' → (if j = j0 then x else gI m 118 j) = evN v S p o h (k + 1) j) → ∃ m', f_X11_worked_180 fu (f_X11_worked_6 fu t) (nI p) (nI o) (nI h) (nI d') (nI k) (sI m 118 j0 x) = some (evN v S p o h L 0, m') ∧ fr (fun a _ => a = 118) m m' := by
        intro d' j0 x e1 e2
        unfold f_X11_worked_180
        simp only [hLet_n, nI_1]
        rw [← e1]
        obtain ⟨m', r1, r2⟩ := ih (k + 1) (sI m 118 j0 x) (by omega) (by omega) (fun a j z => by rw [gI_sI, if_neg (by unfold envC at z; omega)]; exact g a j z) (fun j hj => by rw [gI_sI, if_neg (by omega)]; exact hS j hj) (fun j hj => by
          rw [gI_sI, ← e2 j (by omega)]
          by_cases z : j = j0
          · rw [if_pos ⟨rfl, z⟩, if_pos z]
          · rw [if_neg (fun y => z y.2), if_neg z])
        exact ⟨m', r1, (fr.si (P := fun a _ => a = 118) fr.rf rfl).tr r2⟩
      have hT' : ∀ j, j < dpt v k → gI m 118 j = evN v S p o h k j := hT
      rcases hr.2.2.2.1 k (by omega) with ⟨_, h0, h1⟩ | ⟨i, hi, hx, _⟩ | ⟨_, hx, h1⟩ | ⟨_, hx, h1⟩
      · obtain ⟨a1, a2, a3, a4⟩ := lt_k h0 h1
        clear h0 h1
        rw [if_neg a3, if_neg a4]
        unfold f_X11_worked_66
        rw [if_pos (hIn_lt (show dpt v k < 48 by omega) (by omega)), nI_clamp (show dpt v k < 2 ^ 31 by omega)]
        simp only [hLet_n, nI_1]
        refine go _ _ _ (by rw [ed, if_pos a1]) (fun j hj => ?_)
        rw [ee, if_pos a1, if_pos a2, up_e]
        by_cases z : j = dpt v k
        · rw [if_pos z, if_pos z]
        · rw [if_neg z, if_neg z]; exact hT' j (by omega)
      · obtain ⟨a1, a2, a3, a4, a5⟩ := lt_l (show i < 200 by omega)
        rw [← hx] at a1 a2 a3 a4
        rw [if_neg a3, if_pos a4]
        have a5' : gI v 116 k - 1000 = nI i := by rw [hx]; exact a5
        rw [a5', rx_valueOf hfu hv hp g hS hpc ho hh hat hi, hBd_some]
        unfold f_X11_worked_66
        rw [if_pos (hIn_lt (show dpt v k < 48 by omega) (by omega)), nI_clamp (show dpt v k < 2 ^ 31 by omega)]
        simp only [hLet_n, nI_1]
        refine go _ _ _ (by rw [ed, if_pos a1]) (fun j hj => ?_)
        rw [ee, if_pos a1, if_neg a2, up_e, a5', nI_clamp (show i < 2 ^ 31 by omega)]
        by_cases z : j = dpt v k
        · rw [if_pos z, if_pos z]
        · rw [if_neg z, if_neg z]; exact hT' j (by omega)
      · have e1 : nI (dpt v k) - 1 = nI (dpt v k - 1) := pk_sub (a := dpt v k) (b := 1) h1
        have ed2 : dpt v (k + 1) = dpt v k := by
          rw [ed]
          rcases hx with z | z
          · rw [if_neg (show ¬ gI v 116 k < 2000 by rw [z]; decide), if_pos (Or.inl z)]
          · rw [if_neg (show ¬ gI v 116 k < 2000 by rw [z]; decide), if_pos (Or.inr z)]
        rcases hx with z | z
        · rw [if_pos (show 2000 ≤ gI v 116 k by rw [z]; decide), if_neg (show ¬ ¬ gI v 116 k = 2033 from fun y => y z), e1, if_pos (hIn_lt (show dpt v k - 1 < 48 by omega) (by omega)), nI_clamp (show dpt v k - 1 < 2 ^ 31 by omega), hT' _ (by omega)]
          unfold f_X11_worked_106
          have z48 : hIn (nI (dpt v k - 1)) 48 := hIn_lt (show dpt v k - 1 < 48 by omega) (by omega)
          have zc : (nI (dpt v k - 1)).toNatClampNeg = dpt v k - 1 := nI_clamp (by omega)
          simp only [rx_flag, hBd_some, if_pos z48, zc, hLet_n]
          have fin : ∀ x, x = (if evN v S p o h k (dpt v k - 1) = 0 then (1 : Int32) else 0) → ∃ m', f_X11_worked_180 fu (f_X11_worked_6 fu t) (nI p) (nI o) (nI h) (nI (dpt v k)) (nI k) (sI m 118 (dpt v k - 1) x) = some (evN v S p o h L 0, m') ∧ fr (fun a _ => a = 118) m m' := by
            intro x hxx
            refine go _ _ _ ed2 (fun j hj => ?_)
            rw [ee, if_neg (show ¬ gI v 116 k < 2000 by rw [z]; decide), if_pos z, up_e, hxx]
            by_cases y : j = dpt v k - 1
            · rw [if_pos y, if_pos y]
            · rw [if_neg y, if_neg y]; exact hT' j (by omega)
          by_cases y : evN v S p o h k (dpt v k - 1) = 0
          · rw [if_neg (fun w => w y)]
            exact fin _ (by rw [if_pos y, if_neg (by decide)])
          · rw [if_pos y]
            exact fin _ (by rw [if_neg y, if_pos trivial])
        · rw [if_pos (show 2000 ≤ gI v 116 k by rw [z]; decide), if_pos (show ¬ gI v 116 k = 2033 by rw [z]; decide), if_neg (show ¬ ¬ gI v 116 k = 2126 from fun y => y z), e1, if_pos (hIn_lt (show dpt v k - 1 < 48 by omega) (by omega)), if_pos (hIn_lt (show dpt v k - 1 < 48 by omega) (by omega)), nI_clamp (show dpt v k - 1 < 2 ^ 31 by omega), hT' _ (by omega)]
          refine go _ _ _ ed2 (fun j hj => ?_)
          rw [ee, if_neg (show ¬ gI v 116 k < 2000 by rw [z]; decide), if_neg (show ¬ gI v 116 k = 2033 by rw [z]; decide), if_pos z, up_e]
          by_cases y : j = dpt v k - 1
          · rw [if_pos y, if_pos y]
          · rw [if_neg y, if_neg y]; exact hT' j (by omega)
      · obtain ⟨b1, b2, b3, b4⟩ := bi_no hx
        have e1 : nI (dpt v k) + (-1) = nI (dpt v k - 1) := by
          have := pk_m1 (dpt v k - 1)
          rwa [show dpt v k - 1 + 1 = dpt v k by omega] at this
        have e2 : nI (dpt v k - 1) - 1 = nI (dpt v k - 2) := pk_sub (a := dpt v k - 1) (b := 1) (by omega)
        rw [if_pos b2, if_pos b3, if_pos b4, e1, e2, if_pos (hIn_lt (show dpt v k - 2 < 48 by omega) (by omega)), if_pos (hIn_lt (show dpt v k - 1 < 48 by omega) (by omega)), rx_acted fu hx, hBd_some, if_pos (hIn_lt (show dpt v k - 2 < 48 by omega) (by omega)), nI_clamp (show dpt v k - 2 < 2 ^ 31 by omega), nI_clamp (show dpt v k - 1 < 2 ^ 31 by omega), hT' _ (by omega), hT' _ (by omega)]
        refine go _ _ _ (by rw [ed, if_neg b1, if_neg (fun w => w.elim b3 b4)]) (fun j hj => ?_)
        rw [ee, if_neg b1, if_neg b3, if_neg b4, up_e]
        by_cases y : j = dpt v k - 2
        · rw [if_pos y, if_pos y]
        · rw [if_neg y, if_neg y]; exact hT' j (by omega)
theorem rx_worked {fu : Nat} (hfu : 300 ≤ fu) {v mc : hM} {S : Nat → Int32} {n c L : Nat} (hv : vRel v n) (hp : pRng v n c) (hL : 0 < L) (hr : rRel v mc L) {p o h : Nat} (hpc : p < c) (ho : o < n) (hh : h ≤ 2400) (hat : hIn (S (3 + p)) n) {m : hM} (g : eqV v m) (hS : ∀ j, j < 127 → gI m 114 j = S j) :
    ∃ m', f_X11_worked fu (nI p) (nI o) (nI h) m = some (evR v S p o h, m') ∧ fr (fun a _ => a = 118) m m' := by
  unfold f_X11_worked evR
  have h40 := hr.1
  rw [hr.2.1, nI_clamp (by omega)]
  exact rx_worked_loop hfu hv hp hL hr hpc ho hh hat fu 0 m (by omega) (by omega) g hS (fun j hj => absurd hj (by simp [dpt]))
theorem cx_canWork (fu : Nat) {v m : hM} {n c : Nat} (hn : n ≤ 6) (hv : eRel v m n) (hc : pRng v n c) (hp : pRel v m c) {p o : Nat} (hpc : p < c) (ho : o < n) : f_X8_canWork fu (nI p) (nI o) m = some (if bt (gI v 103 o) (gI v 108 p).toNatClampNeg then 1 else 0, m) := by
  have hc8 := hc.1
  obtain ⟨k, hk, hke⟩ := hIn_of (hc.2.2 p hpc).1 (by omega)
  unfold f_X8_canWork
  have e5 : gI m (6 + 2 * o) 5 = gI v 103 o := (hv.2.2.2.1 o ho).1.1 5 (by omega)
  rw [if_pos (hIn_lt (show o < 6 by omega) (by omega)), if_pos (hIn_lt (show p < 8 by omega) (by omega)), nI_clamp (show o < 2 ^ 31 by omega), nI_clamp (show p < 2 ^ 31 by omega), e5, (hp.2 p hpc).1, hke, nI_clamp (by omega), b_rd (by omega)]
  cases bt (gI v 103 o) k <;> rfl
theorem cx_letterFor {fu : Nat} (hfu : 300 ≤ fu) {v m : hM} {S : Nat → Int32} {n c s : Nat} (hs : s ∈ stL) (hv : vRel v n) (he : eRel v m n) (hc : pRng v n c) (hp : pRel v m c) {p o h i : Nat} (hpc : p < c) (ho : o < n) (hh : h ≤ 2400) (hat : hIn (S (3 + p)) n) (hi : i < 12)
    (hb : gI m 23 p = gI v 111 p) (h1 : gI m (s + 1) p = S (3 + p)) (h2 : gI m (s + 2) p = S (11 + p)) : f_X8_letterFor fu (nI (lett i)) s (nI p) (nI o) (nI h) m = some (lv v S p o h i, m) := by
  have hn := hv.1
  have hc8 := hc.1
  have hp8 : hIn (nI p) 8 := hIn_lt (show p < 8 by omega) (by omega)
  have ho6 : hIn (nI o) 6 := hIn_lt (show o < 6 by omega) (by omega)
  have cp : (nI p).toNatClampNeg = p := nI_clamp (by omega)
  have co : (nI o).toNatClampNeg = o := nI_clamp (by omega)
  obtain ⟨a, ha, hae⟩ := hIn_of hat (by omega)
  have ca : (nI a).toNatClampNeg = a := nI_clamp (by omega)
  have kx := kn_ix (show a < 6 by omega) (show o < 6 by omega)
  unfold f_X8_letterFor
  rw [if_pos hs, if_pos hp8, cp, h1, hae]
  simp only [hLet_n]
  have el : ∀ i, lv v S p o h i = if i = 0 then gI v 107 (6 * a + o) else if i = 1 then lst v a o h else if i = 2 then nI (ovl v a o h 24)
    else if i = 3 then opn v o (nI h) else if i = 4 then nI (nxt v o h 99) else if i = 5 then (if bt (gI v 103 o) (gI v 108 p).toNatClampNeg then 1 else 0)
    else if i = 6 then (if nI a = nI o then 1 else 0) else if i = 7 then (if gI v 111 p = nI o then 1 else 0) else if i = 8 then (if gI v 112 p = nI o then 1 else 0)
    else if i = 9 then gI v 101 o else if i = 10 then S (11 + p) else nI o := by
    intro i
    unfold lv
    rw [hae, ca]
  obtain ⟨z, z1, z2⟩ := cx_bothFrom fu (show a < 6 by omega) (show o < 6 by omega) (show h + 24 ≤ 2500 by omega) (he.2.2.2.1 a ha).2.2 (he.2.2.2.1 o ho).2.2
  rcases (by omega : i = 0 ∨ i = 1 ∨ i = 2 ∨ i = 3 ∨ i = 4 ∨ i = 5 ∨ i = 6 ∨ i = 7 ∨ i = 8 ∨ i = 9 ∨ i = 10 ∨ i = 11) with rfl | rfl | rfl | rfl | rfl | rfl | rfl | rfl | rfl | rfl | rfl | rfl
  · rw [show lv v S p o h 0 = gI v 107 (6 * a + o) from el 0, show lett 0 = 107 from rfl, if_neg (show ¬ nI 107 = 98 by decide), if_neg (show ¬ nI 107 = 99 by decide), if_neg (show ¬ nI 107 = 102 by decide), if_pos (show nI 107 = 107 by decide), kx.1, if_pos kx.2.2.1, kx.2.2.2, he.2.2.2.2.2.1 a o ha ho]
  · rw [show lv v S p o h 1 = lst v a o h from el 1, show lett 1 = 108 from rfl, if_neg (show ¬ nI 108 = 98 by decide), if_neg (show ¬ nI 108 = 99 by decide), if_neg (show ¬ nI 108 = 102 by decide), if_neg (show ¬ nI 108 = 107 by decide), if_pos (show nI 108 = 108 by decide), z1, hBd_some, cx_lostBy fu (by omega) (by omega) z2 he.2.1 (he.2.2.2.2.2.1 a o ha ho), hBd_some]
  · rw [show lv v S p o h 2 = nI (ovl v a o h 24) from el 2, show lett 2 = 111 from rfl, if_neg (show ¬ nI 111 = 98 by decide), if_neg (show ¬ nI 111 = 99 by decide), if_neg (show ¬ nI 111 = 102 by decide), if_neg (show ¬ nI 111 = 107 by decide), if_neg (show ¬ nI 111 = 108 by decide), if_pos (show nI 111 = 111 by decide), z1, hBd_some, cx_both_cnt fu z2, hBd_some]
  · rw [show lv v S p o h 3 = opn v o (nI h) from el 3, show lett 3 = 119 from rfl, if_neg (show ¬ nI 119 = 98 by decide), if_neg (show ¬ nI 119 = 99 by decide), if_neg (show ¬ nI 119 = 102 by decide), if_neg (show ¬ nI 119 = 107 by decide), if_neg (show ¬ nI 119 = 108 by decide), if_neg (show ¬ nI 119 = 111 by decide), if_neg (show ¬ nI 119 = 112 by decide), if_neg (show ¬ nI 119 = 113 by decide), if_neg (show ¬ nI 119 = 114 by decide), if_neg (show ¬ nI 119 = 115 by decide), if_pos (show nI 119 = 119 by decide), if_pos (hIn_lt (show h < 2560 by omega) (by omega)), nI_clamp (by omega), b_rd (by omega), (he.2.2.2.1 o ho).2.1 h (by omega)]
    rcases opn_01 v o (nI h) with e | e <;> rw [e] <;> rfl
  · rw [show lv v S p o h 4 = nI (nxt v o h 99) from el 4, show lett 4 = 114 from rfl, if_neg (show ¬ nI 114 = 98 by decide), if_neg (show ¬ nI 114 = 99 by decide), if_neg (show ¬ nI 114 = 102 by decide), if_neg (show ¬ nI 114 = 107 by decide), if_neg (show ¬ nI 114 = 108 by decide), if_neg (show ¬ nI 114 = 111 by decide), if_neg (show ¬ nI 114 = 112 by decide), if_neg (show ¬ nI 114 = 113 by decide), if_pos (show nI 114 = 114 by decide), cx_nextWork (by omega) (by omega) hh (he.2.2.2.1 o ho).2.1, hBd_some]
  · rw [show lv v S p o h 5 = (if bt (gI v 103 o) (gI v 108 p).toNatClampNeg then 1 else 0) from el 5, show lett 5 = 99 from rfl, if_neg (show ¬ nI 99 = 98 by decide), if_pos (show nI 99 = 99 by decide), cx_canWork fu hn he hc hp hpc ho, hBd_some]
    cases bt (gI v 103 o) (gI v 108 p).toNatClampNeg <;> rfl
  · rw [show lv v S p o h 6 = (if nI a = nI o then 1 else 0) from el 6, show lett 6 = 115 from rfl, if_neg (show ¬ nI 115 = 98 by decide), if_neg (show ¬ nI 115 = 99 by decide), if_neg (show ¬ nI 115 = 102 by decide), if_neg (show ¬ nI 115 = 107 by decide), if_neg (show ¬ nI 115 = 108 by decide), if_neg (show ¬ nI 115 = 111 by decide), if_neg (show ¬ nI 115 = 112 by decide), if_neg (show ¬ nI 115 = 113 by decide), if_neg (show ¬ nI 115 = 114 by decide), if_pos (show nI 115 = 115 by decide)]
    by_cases q : nI a = nI o
    · rw [if_neg (fun z => z q), if_pos q]
    · rw [if_pos q, if_neg q]
  · rw [show lv v S p o h 7 = (if gI v 111 p = nI o then 1 else 0) from el 7, show lett 7 = 98 from rfl, if_pos (show nI 98 = 98 by decide), if_pos hp8, hb]
    by_cases q : gI v 111 p = nI o
    · rw [if_neg (fun z => z q), if_pos q]
    · rw [if_pos q, if_neg q]
  · rw [show lv v S p o h 8 = (if gI v 112 p = nI o then 1 else 0) from el 8, show lett 8 = 113 from rfl, if_neg (show ¬ nI 113 = 98 by decide), if_neg (show ¬ nI 113 = 99 by decide), if_neg (show ¬ nI 113 = 102 by decide), if_neg (show ¬ nI 113 = 107 by decide), if_neg (show ¬ nI 113 = 108 by decide), if_neg (show ¬ nI 113 = 111 by decide), if_neg (show ¬ nI 113 = 112 by decide), if_pos (show nI 113 = 113 by decide), if_pos hp8, (hp.2 p hpc).2.2.2.2]
    by_cases q : gI v 112 p = nI o
    · rw [if_neg (fun z => z q), if_pos q]
    · rw [if_pos q, if_neg q]
  · rw [show lv v S p o h 9 = gI v 101 o from el 9, show lett 9 = 112 from rfl, if_neg (show ¬ nI 112 = 98 by decide), if_neg (show ¬ nI 112 = 99 by decide), if_neg (show ¬ nI 112 = 102 by decide), if_neg (show ¬ nI 112 = 107 by decide), if_neg (show ¬ nI 112 = 108 by decide), if_neg (show ¬ nI 112 = 111 by decide), if_pos (show nI 112 = 112 by decide), if_pos ho6, co, show gI m (6 + 2 * o) 3 = gI v 101 o from (he.2.2.2.1 o ho).1.1 3 (by omega)]
  · rw [show lv v S p o h 10 = S (11 + p) from el 10, show lett 10 = 102 from rfl, if_neg (show ¬ nI 102 = 98 by decide), if_neg (show ¬ nI 102 = 99 by decide), if_pos (show nI 102 = 102 by decide), if_pos hp8, h2]
  · rw [show lv v S p o h 11 = nI o from el 11, show lett 11 = 110 from rfl, if_neg (show ¬ nI 110 = 98 by decide), if_neg (show ¬ nI 110 = 99 by decide), if_neg (show ¬ nI 110 = 102 by decide), if_neg (show ¬ nI 110 = 107 by decide), if_neg (show ¬ nI 110 = 108 by decide), if_neg (show ¬ nI 110 = 111 by decide), if_neg (show ¬ nI 110 = 112 by decide), if_neg (show ¬ nI 110 = 113 by decide), if_neg (show ¬ nI 110 = 114 by decide), if_neg (show ¬ nI 110 = 115 by decide), if_neg (show ¬ nI 110 = 119 by decide)]
