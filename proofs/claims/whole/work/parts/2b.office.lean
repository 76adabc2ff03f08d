/-! ===== office on both sides ===== -/
theorem mext {m m' : hM} (h1 : ∀ a j, gI m a j = gI m' a j) (h2 : ∀ a j, gL m a j = gL m' a j) (h3 : ∀ a j, gR m a j = gR m' a j) : m = m' := by
  obtain ⟨x, y, z⟩ := m
  obtain ⟨x', y', z'⟩ := m'
  have e1 : x = x' := by funext a j; exact h1 a j
  have e2 : y = y' := by funext a j; exact h2 a j
  have e3 : z = z' := by funext a j; exact h3 a j
  rw [e1, e2, e3]
/-- what v tells when an office more is opened -/
def vOpen (v : hM) (n : Nat) (z f l p pe c : Int32) : hM := (fun a j =>
  if a = 98 ∧ j = n then z else if a = 99 ∧ j = n then f else if a = 100 ∧ j = n then l else if a = 101 ∧ j = n then p else if a = 102 ∧ j = n then pe else if a = 103 ∧ j = n then c else if a = 104 ∧ j = n then 0 else if a = 105 ∧ j = n then 0
  else if a = 106 ∧ 100 * n ≤ j ∧ j < 100 * n + 100 then 0 else if a = 107 ∧ j = 6 * n + n then 9 else if a = 107 ∧ (j < 36 ∧ (j / 6 = n ∨ j % 6 = n)) then 0 else if a = 96 ∧ j = 3 then nI (n + 1) else gI v a j, v.2.1, v.2.2)
theorem vOpen_g (v : hM) (n : Nat) (z f l p pe c : Int32) (a j : Nat) : gI (vOpen v n z f l p pe c) a j = if a = 98 ∧ j = n then z else if a = 99 ∧ j = n then f else if a = 100 ∧ j = n then l else if a = 101 ∧ j = n then p else if a = 102 ∧ j = n then pe else if a = 103 ∧ j = n then c else if a = 104 ∧ j = n then 0 else if a = 105 ∧ j = n then 0
  else if a = 106 ∧ 100 * n ≤ j ∧ j < 100 * n + 100 then 0 else if a = 107 ∧ j = 6 * n + n then 9 else if a = 107 ∧ (j < 36 ∧ (j / 6 = n ∨ j % 6 = n)) then 0 else if a = 96 ∧ j = 3 then nI (n + 1) else gI v a j := rfl
theorem rx_opens_1 (fu : Nat) {n : Nat} (hn : n < 6) : ∀ (t d : Nat) (m : hM), d ≤ 100 → 100 - d < t → (∀ j, 100 * n ≤ j → j < 100 * n + d → gI m 106 j = 0) →
    ∃ m', f_X11_opens_76 fu t (nI n) (nI d) m = f_X11_opens_103 fu (nI n) m' ∧ only 106 m m' ∧ (∀ j, gI m' 106 j = if 100 * n ≤ j ∧ j < 100 * n + 100 then 0 else gI m 106 j) := by
  intro t
  induction t with
  | zero => intro d m h1 h2; omega
  | succ t ih =>
    intro d m hd ht hz
    rw [f_X11_opens_76_s]
    unfold s_X11_opens_76
    have e100 : (100 : Int32) = nI 100 := rfl
    by_cases c : (100 : Int32) ≤ nI d
    · rw [if_pos c]
      rw [e100, nI_leI (by omega) (by omega)] at c
      have : d = 100 := by omega
      subst this
      refine ⟨m, rfl, only.rf, fun j => ?_⟩
      by_cases q : 100 * n ≤ j ∧ j < 100 * n + 100
      · rw [if_pos q]; exact hz j q.1 q.2
      · rw [if_neg q]
    · rw [if_neg c]
      rw [e100, nI_leI (by omega) (by omega)] at c
      have hd1 : hIn (nI d) 100 := hIn_lt (by omega) (by omega)
      obtain ⟨q1, q2⟩ := fe_ix hn hd1
      rw [if_pos q1, q2, nI_clamp (by omega)]
      simp only [hLet_e, nI_1]
      rw [nar_b (Or.inl rfl)]
      obtain ⟨m', f1, f2, f3⟩ := ih (d + 1) (sI m 106 (100 * n + d) 0) (by omega) (by omega) (fun j h1 h2 => by
        rw [gI_sI]
        by_cases q : j = 100 * n + d
        · rw [if_pos ⟨rfl, q⟩]
        · rw [if_neg (fun z => q z.2)]; exact hz j h1 (by omega))
      refine ⟨m', f1, only.sI.tr f2, fun j => ?_⟩
      rw [f3 j, gI_sI]
      by_cases q : 100 * n ≤ j ∧ j < 100 * n + 100
      · rw [if_pos q, if_pos q]
      · rw [if_neg q, if_neg q, if_neg (by omega)]
theorem rx_opens_2 (fu : Nat) {n : Nat} (hn : n < 6) : ∀ (t k : Nat) (m : hM), k ≤ 6 → 6 - k < t →
    ∃ m', f_X11_opens_106 fu t (nI n) (nI k) m = f_X11_opens_147 fu (nI n) m' ∧ only 107 m m' ∧ (∀ j, gI m' 107 j = if j < 36 ∧ ((j / 6 = n ∧ k ≤ j % 6) ∨ (j % 6 = n ∧ k ≤ j / 6)) then 0 else gI m 107 j) := by
  intro t
  induction t with
  | zero => intro k m h1 h2; omega
  | succ t ih =>
    intro k m hk ht
    rw [f_X11_opens_106_s]
    unfold s_X11_opens_106
    have e6 : (6 : Int32) = nI 6 := rfl
    by_cases c : (6 : Int32) ≤ nI k
    · rw [if_pos c]
      rw [e6, nI_leI (by omega) (by omega)] at c
      refine ⟨m, rfl, only.rf, fun j => ?_⟩
      rw [if_neg (by omega)]
    · rw [if_neg c]
      rw [e6, nI_leI (by omega) (by omega)] at c
      obtain ⟨-, k1, k3, k4⟩ := kn_ix hn (show k < 6 by omega)
      obtain ⟨-, j1, j3, j4⟩ := kn_ix (show k < 6 by omega) hn
      simp only [hLet_e, nI_1]
      rw [k1, j1, if_pos k3, if_pos j3, k4, j4]
      obtain ⟨m', f1, f2, f3⟩ := ih (k + 1) (sI (sI m 107 (6 * n + k) 0) 107 (6 * k + n) 0) (by omega) (by omega)
      refine ⟨m', f1, (only.sI.tr only.sI).tr f2, fun j => ?_⟩
      rw [f3 j, gI_sI, gI_sI]
      by_cases q : j < 36 ∧ ((j / 6 = n ∧ k + 1 ≤ j % 6) ∨ (j % 6 = n ∧ k + 1 ≤ j / 6))
      · rw [if_pos q, if_pos (by omega)]
      · rw [if_neg q]
        by_cases q1 : j = 6 * k + n
        · rw [if_pos ⟨rfl, q1⟩, if_pos (by omega)]
        · rw [if_neg (fun z => q1 z.2)]
          by_cases q2 : j = 6 * n + k
          · rw [if_pos ⟨rfl, q2⟩, if_pos (by omega)]
          · rw [if_neg (fun z => q2 z.2), if_neg (by omega)]
theorem rx_opens {fu : Nat} (hfu : 200 ≤ fu) {n : Nat} (hn : n < 6) {m : hM} (h3 : gI m 96 3 = nI n) (z f l p pe c : Int32) : f_X11_opens fu z f l p pe c m = some ((), vOpen m n z f l p pe c) := by
  have h6 : hIn (nI n) 6 := hIn_lt hn (by omega)
  unfold f_X11_opens
  simp only [hLet_e, h3, if_pos h6]
  rw [nI_clamp (show n < 2 ^ 31 by omega)]
  generalize hm1 : sI (sI (sI (sI (sI (sI (sI (sI m 98 n z) 99 n f) 100 n l) 101 n p) 102 n pe) 103 n c) 104 n 0) 105 n 0 = m1
  obtain ⟨m2, f1, f2, f3⟩ := rx_opens_1 fu hn fu 0 m1 (by omega) (by omega) (fun j h1 h2 => by omega)
  have e0 : nI 0 = 0 := rfl
  rw [e0] at f1
  rw [f1]
  unfold f_X11_opens_103
  obtain ⟨m3, g1, g2, g3⟩ := rx_opens_2 fu hn fu 0 m2 (by omega) (by omega)
  rw [e0] at g1
  rw [g1]
  unfold f_X11_opens_147
  obtain ⟨-, k1, k3, k4⟩ := kn_ix hn hn
  rw [k1, if_pos k3, k4]
  simp only [hLet_e]
  have c3 : gI (sI m3 107 (6 * n + n) 9) 96 3 = nI n := by
    rw [gI_sI, if_neg (by omega), g2.1 96 3 (by omega), f2.1 96 3 (by omega), ← hm1]
    exact h3
  rw [c3, nI_1]
  have : sI (sI m3 107 (6 * n + n) 9) 96 3 (nI (n + 1)) = vOpen m n z f l p pe c := by
    refine mext (fun a j => ?_) (fun a j => ?_) (fun a j => ?_)
    · rw [vOpen_g, gI_sI, gI_sI]
      by_cases a6 : a = 96
      · subst a6
        by_cases j3 : j = 3
        · subst j3; simp
        · rw [if_neg (fun q => j3 q.2), if_neg (by omega), g2.1 96 j (by omega), f2.1 96 j (by omega), ← hm1]
          simp [gI_sI, j3]
      · rw [if_neg (fun q => a6 q.1)]
        by_cases a7 : a = 107
        · subst a7
          by_cases jn : j = 6 * n + n
          · subst jn; simp
          · rw [if_neg (fun q => jn q.2), g3 j, f2.1 107 j (by omega), ← hm1]
            simp [gI_sI, jn]
        · rw [if_neg (fun q => a7 q.1), g2.1 a j a7]
          by_cases a0 : a = 106
          · subst a0
            rw [f3 j, ← hm1]
            simp [gI_sI]
          · rw [f2.1 a j a0, ← hm1]
            simp only [gI_sI, a6, a7, a0, false_and, if_false]
            by_cases b8 : a = 98 ∧ j = n
            · obtain ⟨rfl, rfl⟩ := b8; simp
            · by_cases b9 : a = 99 ∧ j = n
              · obtain ⟨rfl, rfl⟩ := b9; simp
              · by_cases b0 : a = 100 ∧ j = n
                · obtain ⟨rfl, rfl⟩ := b0; simp
                · by_cases b1 : a = 101 ∧ j = n
                  · obtain ⟨rfl, rfl⟩ := b1; simp
                  · by_cases b2 : a = 102 ∧ j = n
                    · obtain ⟨rfl, rfl⟩ := b2; simp
                    · by_cases b3 : a = 103 ∧ j = n
                      · obtain ⟨rfl, rfl⟩ := b3; simp
                      · by_cases b4 : a = 104 ∧ j = n
                        · obtain ⟨rfl, rfl⟩ := b4; simp
                        · by_cases b5 : a = 105 ∧ j = n
                          · obtain ⟨rfl, rfl⟩ := b5; simp
                          · simp only [b8, b9, b0, b1, b2, b3, b4, b5, if_false]
    · show gL m3 a j = gL m a j
      rw [g2.2.1, f2.2.1, ← hm1]; rfl
    · show gR m3 a j = gR m a j
      rw [g2.2.2, f2.2.2, ← hm1]; rfl
  rw [this]
/-- an office that may be opened: its number n, its times, hours, pay, people and crafts -/
def offOk (n : Nat) (x1 x2 x3 x4 : Int32) : Prop := n < 6 ∧ (0 ≤ x1.toInt ∧ x1.toInt < 576) ∧ (1 ≤ x2.toInt ∧ x2.toInt ≤ 16) ∧ (1 ≤ x3.toInt ∧ x3.toInt ≤ 99) ∧ (64 ≤ x4.toInt ∧ x4.toInt < 640) ∧ x4.toInt % 64 ≠ 0
/-- what v tells then -/
def vOff (v : hM) (n : Nat) (x1 x2 x3 x4 : Int32) : hM := vOpen v n (nI (x1.toNatClampNeg / 24)) (nI (x1.toNatClampNeg % 24)) x2 x3 (nI (x4.toNatClampNeg / 64)) (nI (x4.toNatClampNeg % 64))
theorem st_num {x4 : Int32} (h : 0 ≤ x4.toInt) : x4 / 64 = nI (x4.toNatClampNeg / 64) ∧ x4 - x4 / 64 * 64 = nI (x4.toNatClampNeg % 64) ∧ x4 &&& 63 = nI (x4.toNatClampNeg % 64) ∧ (x4.toNatClampNeg : Int) = x4.toInt ∧ x4.toNatClampNeg < 2 ^ 31 := by
  obtain ⟨j, hj, rfl⟩ := nI_of (x := x4) (by rw [i_lt]; simpa using h)
  rw [nI_clamp hj, nI_toInt hj, show (64 : Int32) = nI 64 from rfl]
  exact ⟨pk_div hj (by omega) (by omega), pk_rem hj (by omega) (by omega), pk_andN (by omega) 6 (by decide), rfl, hj⟩
theorem ti_num {x1 : Int32} (h : 0 ≤ x1.toInt) : x1 / 24 = nI (x1.toNatClampNeg / 24) ∧ x1 - x1 / 24 * 24 = nI (x1.toNatClampNeg % 24) ∧ (x1.toNatClampNeg : Int) = x1.toInt := by
  obtain ⟨j, hj, rfl⟩ := nI_of (x := x1) (by rw [i_lt]; simpa using h)
  rw [nI_clamp hj, nI_toInt hj, show (24 : Int32) = nI 24 from rfl]
  exact ⟨pk_div hj (by omega) (by omega), pk_rem hj (by omega) (by omega), rfl⟩
theorem cx_isStaff (fu : Nat) (x : Int32) (m : hM) : f_X10_isStaff fu x m = some (if (64 ≤ x.toInt ∧ x.toInt < 640) ∧ x.toInt % 64 ≠ 0 then 1 else 0, m) := by
  have e64 : (64 : Int32).toInt = 64 := rfl
  have e640 : (640 : Int32).toInt = 640 := rfl
  unfold f_X10_isStaff
  by_cases c1 : x < 64
  · rw [if_pos c1]
    rw [i_lt, e64] at c1
    rw [if_neg (by omega)]
  · rw [if_neg c1]
    rw [i_lt, e64] at c1
    by_cases c2 : 640 ≤ x
    · rw [if_pos c2]
      rw [i_le, e640] at c2
      rw [if_neg (by omega)]
    · rw [if_neg c2]
      rw [i_le, e640] at c2
      obtain ⟨-, -, s3, s4, s5⟩ := st_num (x4 := x) (by omega)
      rw [s3]
      by_cases c3 : nI (x.toNatClampNeg % 64) = 0
      · rw [if_pos c3]
        have : x.toNatClampNeg % 64 = 0 := by
          by_cases z : x.toNatClampNeg % 64 = 0
          · exact z
          · exact absurd c3 (nI_ne (by omega) z)
        rw [if_neg (by omega)]
      · rw [if_neg c3]
        have : x.toNatClampNeg % 64 ≠ 0 := fun z => c3 (by rw [z]; rfl)
        rw [if_pos (by omega)]
theorem cx_settle (fu : Nat) {k : Nat} (hk : k < 6) {x1 x2 x3 x4 : Int32} (h1 : 0 ≤ x1.toInt) (h4 : 0 ≤ x4.toInt) (m : hM) : f_X2_settle fu (6 + 2 * k) x1 x2 x3 x4 m = some ((), sI (sI (sI (sI (sI (sI m (6 + 2 * k) 0 (nI (x1.toNatClampNeg / 24))) (6 + 2 * k) 1 (nI (x1.toNatClampNeg % 24))) (6 + 2 * k) 2 x2) (6 + 2 * k) 3 x3) (6 + 2 * k) 4 (nI (x4.toNatClampNeg / 64))) (6 + 2 * k) 5 (nI (x4.toNatClampNeg % 64))) := by
  obtain ⟨t1, t2, -⟩ := ti_num h1
  obtain ⟨s1, -, s3, -, -⟩ := st_num h4
  unfold f_X2_settle
  rw [if_pos (of_ob k hk), t2, t1, s1, s3]
  rfl
theorem cx_office {fu : Nat} (hfu : 3000 ≤ fu) {v m : hM} {n : Nat} (hv : vRel v n) (he : eRel v m n) (x1 x2 x3 x4 : Int32) :
    (¬ offOk n x1 x2 x3 x4 → f_X10_office fu x1 x2 x3 x4 m = some (-1, m)) ∧ (offOk n x1 x2 x3 x4 → ∃ m', f_X10_office fu x1 x2 x3 x4 m = some (nI n, m') ∧ eRel (vOff v n x1 x2 x3 x4) m' (n + 1) ∧ keepE m m') := by
  have hn := hv.1
  have e0 : (0 : Int32).toInt = 0 := rfl
  have e1 : (1 : Int32).toInt = 1 := rfl
  have e6 : (6 : Int32).toInt = 6 := rfl
  have e16 : (16 : Int32).toInt = 16 := rfl
  have e99 : (99 : Int32).toInt = 99 := rfl
  have e576 : (576 : Int32).toInt = 576 := rfl
  have en : (nI n).toInt = (n : Int) := nI_toInt (by omega)
  unfold f_X10_office offOk
  rw [he.1]
  by_cases c0 : 6 ≤ nI n
  · rw [if_pos c0]
    rw [i_le, e6, en] at c0
    exact ⟨fun _ => rfl, fun q => by omega⟩
  rw [if_neg c0]
  rw [i_le, e6, en] at c0
  by_cases c1 : x1 < 0
  · rw [if_pos c1]
    rw [i_lt, e0] at c1
    exact ⟨fun _ => rfl, fun q => by omega⟩
  rw [if_neg c1]
  rw [i_lt, e0] at c1
  by_cases c2 : ¬ x1 < 576
  · rw [if_neg c2]
    rw [i_lt, e576] at c2
    exact ⟨fun _ => rfl, fun q => by omega⟩
  replace c2 := Classical.not_not.mp c2
  rw [if_pos c2]
  rw [i_lt, e576] at c2
  by_cases c3 : x2 < 1
  · rw [if_pos c3]
    rw [i_lt, e1] at c3
    exact ⟨fun _ => rfl, fun q => by omega⟩
  rw [if_neg c3]
  rw [i_lt, e1] at c3
  by_cases c4 : 16 < x2
  · rw [if_pos c4]
    rw [i_lt, e16] at c4
    exact ⟨fun _ => rfl, fun q => by omega⟩
  rw [if_neg c4]
  rw [i_lt, e16] at c4
  by_cases c5 : x3 < 1
  · rw [if_pos c5]
    rw [i_lt, e1] at c5
    exact ⟨fun _ => rfl, fun q => by omega⟩
  rw [if_neg c5]
  rw [i_lt, e1] at c5
  by_cases c6 : 99 < x3
  · rw [if_pos c6]
    rw [i_lt, e99] at c6
    exact ⟨fun _ => rfl, fun q => by omega⟩
  rw [if_neg c6]
  rw [i_lt, e99] at c6
  rw [cx_isStaff, hBd_some]
  by_cases c7 : ¬ ((64 ≤ x4.toInt ∧ x4.toInt < 640) ∧ x4.toInt % 64 ≠ 0)
  · rw [if_neg c7, if_neg (fun q => q rfl)]
    exact ⟨fun _ => rfl, fun q => absurd ⟨q.2.2.2.2.1, q.2.2.2.2.2⟩ c7⟩
  replace c7 := Classical.not_not.mp c7
  rw [if_pos c7, if_pos (by decide)]
  refine ⟨fun q => absurd ⟨by omega, by omega, by omega, by omega, c7.1, c7.2⟩ q, fun _ => ?_⟩
  have hn6 : n < 6 := by omega
  simp only [hLet_e]
  rw [he.1, if_pos (hIn_lt hn6 (by omega)), nI_clamp (show n < 2 ^ 31 by omega), cx_settle fu hn6 (by omega) (by omega), hBd_some, nI_1]
  obtain ⟨k5, k6, k7⟩ := he.2.2.2.2.1 n (by omega) hn6
  generalize hZ : nI (x1.toNatClampNeg / 24) = z
  generalize hF : nI (x1.toNatClampNeg % 24) = f
  generalize hP : nI (x4.toNatClampNeg / 64) = pe
  generalize hC : nI (x4.toNatClampNeg % 64) = cr
  generalize hm2 : sI (sI (sI (sI (sI (sI (sI m (6 + 2 * n) 0 z) (6 + 2 * n) 1 f) (6 + 2 * n) 2 x2) (6 + 2 * n) 3 x3) (6 + 2 * n) 4 pe) (6 + 2 * n) 5 cr) 1 4 (nI (n + 1)) = m2
  have hv' : vOff v n x1 x2 x3 x4 = vOpen v n z f x2 x3 pe cr := by unfold vOff; rw [hZ, hF, hP, hC]
  rw [hv']
  generalize hvv : vOpen v n z f x2 x3 pe cr = v'
  have gv : ∀ a j, gI v' a j = if a = 98 ∧ j = n then z else if a = 99 ∧ j = n then f else if a = 100 ∧ j = n then x2 else if a = 101 ∧ j = n then x3 else if a = 102 ∧ j = n then pe else if a = 103 ∧ j = n then cr else if a = 104 ∧ j = n then 0 else if a = 105 ∧ j = n then 0
      else if a = 106 ∧ 100 * n ≤ j ∧ j < 100 * n + 100 then 0 else if a = 107 ∧ j = 6 * n + n then 9 else if a = 107 ∧ (j < 36 ∧ (j / 6 = n ∨ j % 6 = n)) then 0 else if a = 96 ∧ j = 3 then nI (n + 1) else gI v a j := fun a j => by rw [← hvv]; rfl
  have g2 : ∀ a j, a ≠ 6 + 2 * n → a ≠ 1 → gI m2 a j = gI m a j := fun a j h1 h2 => by
    rw [← hm2]; simp only [gI_sI, h1, h2, false_and, if_false]
  have g21 : ∀ j, j ≠ 4 → gI m2 1 j = gI m 1 j := fun j h => by
    rw [← hm2, gI_sI, if_neg (fun q => h q.2)]
    simp only [gI_sI, show ¬ (1 = 6 + 2 * n) from by omega, false_and, if_false]
  have g14 : gI m2 1 4 = nI (n + 1) := by rw [← hm2, gI_sI, if_pos ⟨rfl, rfl⟩]
  have hr : oRel v' m2 n := by
    refine ⟨fun j hj => ?_, fun d hd => ?_⟩
    · rw [gv, ← hm2]
      have : j = 0 ∨ j = 1 ∨ j = 2 ∨ j = 3 ∨ j = 4 ∨ j = 5 ∨ j = 6 ∨ j = 7 := by omega
      rcases this with rfl | rfl | rfl | rfl | rfl | rfl | rfl | rfl <;> simp [gI_sI, k5, k6, show ¬ (6 + 2 * n = 1) from by omega]
    · rw [g2 _ _ (by omega) (by omega), k7 d hd, gv]
      simp [show 100 * n + d < 100 * n + 100 from by omega]
  obtain ⟨m3, f1, f2, f3, f4, f5, f6, f7, f8⟩ := cx_all hfu hn6 hr
  rw [f1, hBd_some]
  have vk : ∀ a j, a ≠ 96 → (a < 98 ∨ 107 < a) → gI v' a j = gI v a j := fun a j h1 h2 => by
    rw [gv]; simp only [show a ≠ 98 from by omega, show a ≠ 99 from by omega, show a ≠ 100 from by omega, show a ≠ 101 from by omega, show a ≠ 102 from by omega, show a ≠ 103 from by omega, show a ≠ 104 from by omega, show a ≠ 105 from by omega, show a ≠ 106 from by omega, show a ≠ 107 from by omega, h1, false_and, if_false]
  have v96 : ∀ j, j ≠ 3 → gI v' 96 j = gI v 96 j := fun j h1 => by rw [gv]; simp [h1]
  have vo : ∀ o, o < n → (∀ j, j < 8 → gI v' (98 + j) o = gI v (98 + j) o) ∧ ∀ d, d < 100 → gI v' 106 (100 * o + d) = gI v 106 (100 * o + d) := by
    intro o ho
    refine ⟨fun j hj => ?_, fun d hd => ?_⟩
    · rw [gv]; simp only [show o ≠ n from by omega, show 98 + j ≠ 106 from by omega, show 98 + j ≠ 107 from by omega, show 98 + j ≠ 96 from by omega, and_false, false_and, if_false]
    · rw [gv]; simp [show ¬ (100 * n ≤ 100 * o + d) from by omega]
  refine ⟨m3, rfl, ⟨?_, ?_, ?_, fun o ho => ?_, fun o ho ho6 => ?_, fun a b ha hb => ?_, fun a b ha hb hq => ?_⟩, ?_⟩
  · rw [f2 1 4 (by omega) (by omega), g14]
  · rw [f2 1 5 (by omega) (by omega), g21 5 (by omega), v96 14 (by omega)]; exact he.2.1
  · rw [f2 1 6 (by omega) (by omega), g21 6 (by omega), v96 15 (by omega)]; exact he.2.2.1
  · by_cases hon : o = n
    · subst hon
      exact ⟨hr.keep (fun j => f2 _ j (by omega) (by omega)) (fun j => f2 _ j (by omega) (by omega)), f5, f6⟩
    · have ho' : o < n := by omega
      refine off_keep (he.2.2.2.1 o ho') (vo o ho').1 (vo o ho').2 (fun j => ?_) (fun j => ?_) (fun j => ?_) (fun j h1 h2 => ?_)
      · rw [f2 _ j (by omega) (by omega), g2 _ j (by omega) (by omega)]
      · rw [f2 _ j (by omega) (by omega), g2 _ j (by omega) (by omega)]
      · rw [f7 o j (by omega) hon, g2 4 j (by omega) (by omega)]
      · rw [f8 j (by omega), g2 5 j (by omega) (by omega)]
  · obtain ⟨p1, p2, p3⟩ := he.2.2.2.2.1 o (by omega) ho6
    exact ⟨by rw [f2 _ _ (by omega) (by omega), g2 _ _ (by omega) (by omega)]; exact p1, by rw [f2 _ _ (by omega) (by omega), g2 _ _ (by omega) (by omega)]; exact p2, fun d hd => by rw [f2 _ _ (by omega) (by omega), g2 _ _ (by omega) (by omega)]; exact p3 d hd⟩
  · rw [f2 3 _ (by omega) (by omega), g2 3 _ (by omega) (by omega), gv]
    by_cases q : a < n ∧ b < n
    · rw [he.2.2.2.2.2.1 a b q.1 q.2]
      simp [show ¬ (6 * a + b = 6 * n + n) from by omega, show ¬ ((6 * a + b) / 6 = n) from by omega, show ¬ ((6 * a + b) % 6 = n) from by omega]
      intro h1 h2
      omega
    · rw [he.2.2.2.2.2.2 a b (by omega) (by omega) (by omega)]
      by_cases hab : a = b
      · subst hab
        have : a = n := by omega
        subst this
        simp
      · rw [if_neg hab]
        simp [show ¬ (6 * a + b = 6 * n + n) from by omega, show 6 * a + b < 36 from by omega]
        intro h1 h2
        omega
  · rw [f2 3 _ (by omega) (by omega), g2 3 _ (by omega) (by omega)]
    exact he.2.2.2.2.2.2 a b ha hb (by omega)
  · refine ⟨fun a j ha => ?_, fun a j => (f3 a j).trans (by rw [← hm2]; rfl), fun a j => (f4 a j).trans (by rw [← hm2]; rfl)⟩
    rw [f2 a j (by omega) (by omega), g2 a j (by omega) (by omega)]
theorem rx_office {fu : Nat} (hfu : 200 ≤ fu) {m : hM} {n : Nat} (hv : vRel m n) (x1 x2 x3 x4 : Int32) :
    (¬ offOk n x1 x2 x3 x4 → f_X11_office fu x1 x2 x3 x4 m = some (-1, sI m 96 0 0)) ∧ (offOk n x1 x2 x3 x4 → f_X11_office fu x1 x2 x3 x4 m = some (nI n, vOff (sI m 96 0 0) n x1 x2 x3 x4)) := by
  have hn := hv.1
  have h3 : gI (sI m 96 0 0) 96 3 = nI n := hv.2.1
  have e0 : (0 : Int32).toInt = 0 := rfl
  have e10 : ¬ (1 : Int32) = 0 := by decide
  unfold f_X11_office
  simp only [hLet_e]
  generalize sI m 96 0 0 = m1 at h3 ⊢
  have no : f_X11_office_82 fu x1 x2 x3 x4 m1 = some (-1, m1) := by
    unfold f_X11_office_82 f_X11_office_83
    rw [if_pos rfl]
  rw [rx_inI, hBd_some]
  show (_ → (if (if (0 : Int) ≤ x1.toInt ∧ x1.toInt ≤ 575 then (1 : Int32) else 0) = 0 then _ else _) = _) ∧ (_ → (if (if (0 : Int) ≤ x1.toInt ∧ x1.toInt ≤ 575 then (1 : Int32) else 0) = 0 then _ else _) = _)
  by_cases c1 : ¬ ((0 : Int) ≤ x1.toInt ∧ x1.toInt ≤ 575)
  · rw [if_neg c1, if_pos rfl, no]
    exact ⟨fun _ => rfl, fun q => by unfold offOk at q; omega⟩
  replace c1 := Classical.not_not.mp c1
  rw [if_pos c1, if_neg e10, rx_inI, hBd_some]
  show (_ → (if (if (1 : Int) ≤ x2.toInt ∧ x2.toInt ≤ 16 then (1 : Int32) else 0) = 0 then _ else _) = _) ∧ (_ → (if (if (1 : Int) ≤ x2.toInt ∧ x2.toInt ≤ 16 then (1 : Int32) else 0) = 0 then _ else _) = _)
  by_cases c2 : ¬ ((1 : Int) ≤ x2.toInt ∧ x2.toInt ≤ 16)
  · rw [if_neg c2, if_pos rfl, no]
    exact ⟨fun _ => rfl, fun q => by unfold offOk at q; omega⟩
  replace c2 := Classical.not_not.mp c2
  rw [if_pos c2, if_neg e10, rx_inI, hBd_some]
  show (_ → (if (if (1 : Int) ≤ x3.toInt ∧ x3.toInt ≤ 99 then (1 : Int32) else 0) = 0 then _ else _) = _) ∧ (_ → (if (if (1 : Int) ≤ x3.toInt ∧ x3.toInt ≤ 99 then (1 : Int32) else 0) = 0 then _ else _) = _)
  by_cases c3 : ¬ ((1 : Int) ≤ x3.toInt ∧ x3.toInt ≤ 99)
  · rw [if_neg c3, if_pos rfl, no]
    exact ⟨fun _ => rfl, fun q => by unfold offOk at q; omega⟩
  replace c3 := Classical.not_not.mp c3
  rw [if_pos c3, if_neg e10]
  by_cases c4 : x4 < 0
  · rw [if_pos c4, no]
    rw [i_lt, e0] at c4
    exact ⟨fun _ => rfl, fun q => by unfold offOk at q; omega⟩
  rw [if_neg c4]
  rw [i_lt, e0] at c4
  obtain ⟨s1, s2, s3, s4, s5⟩ := st_num (x4 := x4) (by omega)
  obtain ⟨t1, t2, t3⟩ := ti_num (x1 := x1) c1.1
  rw [s2, s1, rx_inI, hBd_some, nI_toInt (show x4.toNatClampNeg / 64 < 2 ^ 31 by omega)]
  show (_ → (if (if (1 : Int) ≤ ((x4.toNatClampNeg / 64 : Nat) : Int) ∧ ((x4.toNatClampNeg / 64 : Nat) : Int) ≤ 9 then (1 : Int32) else 0) = 0 then _ else _) = _) ∧ (_ → (if (if (1 : Int) ≤ ((x4.toNatClampNeg / 64 : Nat) : Int) ∧ ((x4.toNatClampNeg / 64 : Nat) : Int) ≤ 9 then (1 : Int32) else 0) = 0 then _ else _) = _)
  by_cases c5 : ¬ ((1 : Int) ≤ ((x4.toNatClampNeg / 64 : Nat) : Int) ∧ ((x4.toNatClampNeg / 64 : Nat) : Int) ≤ 9)
  · rw [if_neg c5, if_pos rfl, no]
    exact ⟨fun _ => rfl, fun q => by unfold offOk at q; omega⟩
  replace c5 := Classical.not_not.mp c5
  rw [if_pos c5, if_neg e10, rx_inI, hBd_some, nI_toInt (show x4.toNatClampNeg % 64 < 2 ^ 31 by omega)]
  show (_ → (if (if (1 : Int) ≤ ((x4.toNatClampNeg % 64 : Nat) : Int) ∧ ((x4.toNatClampNeg % 64 : Nat) : Int) ≤ 63 then (1 : Int32) else 0) = 0 then _ else _) = _) ∧ (_ → (if (if (1 : Int) ≤ ((x4.toNatClampNeg % 64 : Nat) : Int) ∧ ((x4.toNatClampNeg % 64 : Nat) : Int) ≤ 63 then (1 : Int32) else 0) = 0 then _ else _) = _)
  by_cases c6 : ¬ ((1 : Int) ≤ ((x4.toNatClampNeg % 64 : Nat) : Int) ∧ ((x4.toNatClampNeg % 64 : Nat) : Int) ≤ 63)
  · rw [if_neg c6, if_pos rfl, no]
    exact ⟨fun _ => rfl, fun q => by unfold offOk at q; omega⟩
  replace c6 := Classical.not_not.mp c6
  rw [if_pos c6, if_neg e10]
  unfold f_X11_office_83
  rw [if_neg e10, h3]
  by_cases c7 : nI n = 6
  · have : n = 6 := (nI_eq (show n < 2 ^ 31 by omega) (show 6 < 2 ^ 31 by omega)).mp c7
    rw [if_neg (fun q => q c7)]
    exact ⟨fun _ => rfl, fun q => by unfold offOk at q; omega⟩
  · have hn6 : n < 6 := by
      rcases Nat.lt_or_ge n 6 with q | q
      · exact q
      · exact absurd (by rw [show n = 6 by omega]; rfl) c7
    rw [if_pos c7, t2, t1, s2, s1, rx_opens hfu hn6 h3, hBd_some]
    refine ⟨fun q => absurd ⟨hn6, by omega, c2, c3, by omega, by omega⟩ q, fun _ => ?_⟩
    have e3 : gI (vOpen m1 n (nI (x1.toNatClampNeg / 24)) (nI (x1.toNatClampNeg % 24)) x2 x3 (nI (x4.toNatClampNeg / 64)) (nI (x4.toNatClampNeg % 64))) 96 3 = nI (n + 1) := by
      rw [vOpen_g]; simp
    rw [e3, nI_pred]
    rfl
/-! what v tells stays within bounds -/
theorem vRel.thrown {v : hM} {n : Nat} (h : vRel v n) (x : Int32) : vRel (sI v 96 0 x) n := by
  have g : ∀ a j, ¬ (a = 96 ∧ j = 0) → gI (sI v 96 0 x) a j = gI v a j := fun a j q => by rw [gI_sI, if_neg q]
  have g98 : ∀ j, gI (sI v 96 0 x) 98 j = gI v 98 j := fun j => g 98 j (by omega)
  have g99 : ∀ j, gI (sI v 96 0 x) 99 j = gI v 99 j := fun j => g 99 j (by omega)
  have g100 : ∀ j, gI (sI v 96 0 x) 100 j = gI v 100 j := fun j => g 100 j (by omega)
  have g101 : ∀ j, gI (sI v 96 0 x) 101 j = gI v 101 j := fun j => g 101 j (by omega)
  have g102 : ∀ j, gI (sI v 96 0 x) 102 j = gI v 102 j := fun j => g 102 j (by omega)
  have g103 : ∀ j, gI (sI v 96 0 x) 103 j = gI v 103 j := fun j => g 103 j (by omega)
  have g104 : ∀ j, gI (sI v 96 0 x) 104 j = gI v 104 j := fun j => g 104 j (by omega)
  have g105 : ∀ j, gI (sI v 96 0 x) 105 j = gI v 105 j := fun j => g 105 j (by omega)
  have g106 : ∀ j, gI (sI v 96 0 x) 106 j = gI v 106 j := fun j => g 106 j (by omega)
  have g107 : ∀ j, gI (sI v 96 0 x) 107 j = gI v 107 j := fun j => g 107 j (by omega)
  refine ⟨h.1, by rw [g _ _ (by omega)]; exact h.2.1, fun o ho => ?_, fun a b ha hb => ?_, fun a ha => ?_, ?_, ?_⟩
  · have := h.2.2.1 o ho
    unfold oRng at this ⊢
    simp only [g98, g99, g100, g101, g102, g103, g104, g105, g106]
    exact this
  · simp only [g107]; exact h.2.2.2.1 a b ha hb
  · simp only [g107]; exact h.2.2.2.2.1 a ha
  · rw [g _ _ (by omega)]; exact h.2.2.2.2.2.1
  · rw [g _ _ (by omega)]; exact h.2.2.2.2.2.2
