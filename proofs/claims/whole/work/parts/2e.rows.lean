/-! ===== the ROW on both sides; the offices with a craft ===== -/
/-- a row of longs in cell c, its length in the field fj of cell fc -/
def setRow (m : hM) (c fc fj : Nat) (xs : List Int64) : hM := (fun a j => if a = fc ∧ j = fj then nI xs.length else gI m a j, fun a j => if a = c ∧ j < xs.length then xs.getD j 0 else gL m a j, m.2.2)
theorem sr_I (m : hM) (c fc fj : Nat) (xs : List Int64) (a j : Nat) : gI (setRow m c fc fj xs) a j = if a = fc ∧ j = fj then nI xs.length else gI m a j := rfl
theorem sr_L (m : hM) (c fc fj : Nat) (xs : List Int64) (a j : Nat) : gL (setRow m c fc fj xs) a j = if a = c ∧ j < xs.length then xs.getD j 0 else gL m a j := rfl
theorem sr_R (m : hM) (c fc fj : Nat) (xs : List Int64) (a j : Nat) : gR (setRow m c fc fj xs) a j = gR m a j := rfl
theorem sr_nil (m : hM) (c fc fj : Nat) : sI m fc fj 0 = setRow m c fc fj [] := by
  refine mext (fun a j => ?_) (fun a j => ?_) (fun a j => rfl)
  · rw [gI_sI, sr_I]; rfl
  · rw [sr_L, if_neg (by simp)]; rfl
theorem sr_app (m : hM) (c fc fj : Nat) (xs : List Int64) (x : Int64) : sI (sL (setRow m c fc fj xs) c xs.length x) fc fj (nI (xs.length + 1)) = setRow m c fc fj (xs ++ [x]) := by
  refine mext (fun a j => ?_) (fun a j => ?_) (fun a j => rfl)
  · rw [gI_sI, gI_sL, sr_I, sr_I, List.length_append]
    by_cases q : a = fc ∧ j = fj
    · rw [if_pos q, if_pos q]; rfl
    · rw [if_neg q, if_neg q, if_neg q]
  · rw [gL_sI, gL_sL, sr_L, sr_L, List.length_append]
    show _ = if a = c ∧ j < xs.length + 1 then _ else _
    by_cases q : a = c
    · by_cases q2 : j = xs.length
      · rw [if_pos ⟨q, q2⟩, if_pos ⟨q, by omega⟩, q2]
        simp
      · rw [if_neg (fun z => q2 z.2)]
        by_cases q3 : j < xs.length
        · rw [if_pos ⟨q, q3⟩, if_pos ⟨q, by omega⟩]
          simp [List.getElem?_append_left q3]
        · rw [if_neg (fun z => q3 z.2), if_neg (by omega)]
    · rw [if_neg (fun z => q z.1), if_neg (fun z => q z.1), if_neg (fun z => q z.1)]
theorem cx_clear (fu : Nat) (m : hM) : f_X1_clear fu m = some ((), setRow m 67 66 1 []) := by
  unfold f_X1_clear
  rw [← sr_nil]; rfl
theorem cx_tell (fu : Nat) (m : hM) {xs : List Int64} (h : xs.length < 11) (x : Int64) : f_X1_tell fu x (setRow m 67 66 1 xs) = some ((), setRow m 67 66 1 (xs ++ [x])) := by
  have e : gI (setRow m 67 66 1 xs) 66 1 = nI xs.length := by rw [sr_I, if_pos ⟨rfl, rfl⟩]
  unfold f_X1_tell
  simp only [hLet_e, gI_sL]
  rw [e, if_neg (by rw [show (11 : Int32) = nI 11 from rfl, nI_leI (by omega) (by omega)]; omega), if_pos (hIn_lt h (by omega)), nI_clamp (show xs.length < 2 ^ 31 by omega), nI_1, sr_app]
theorem rx_enters (fu : Nat) (m : hM) {xs : List Int64} (h : xs.length < 24) (x : Int64) : f_X11_enters fu x (setRow m 97 96 1 xs) = some ((), setRow m 97 96 1 (xs ++ [x])) := by
  have e : gI (setRow m 97 96 1 xs) 96 1 = nI xs.length := by rw [sr_I, if_pos ⟨rfl, rfl⟩]
  unfold f_X11_enters
  simp only [hLet_e, gI_sL]
  rw [e, if_pos (hIn_lt h (by omega)), nI_clamp (show xs.length < 2 ^ 31 by omega), nI_1, sr_app]
/-- both rows are one -/
def nRel (v m : hM) : Prop := ∃ xs : List Int64, xs.length ≤ 11 ∧ gI m 66 1 = nI xs.length ∧ gI v 96 1 = nI xs.length ∧ ∀ j, j < xs.length → gL m 67 j = xs.getD j 0 ∧ gL v 97 j = xs.getD j 0
theorem nRel_set {v m : hM} {xs : List Int64} (h : xs.length ≤ 11) : nRel (setRow v 97 96 1 xs) (setRow m 67 66 1 xs) := by
  refine ⟨xs, h, ?_, ?_, fun j hj => ⟨?_, ?_⟩⟩
  · rw [sr_I, if_pos ⟨rfl, rfl⟩]
  · rw [sr_I, if_pos ⟨rfl, rfl⟩]
  · rw [sr_L, if_pos ⟨rfl, hj⟩]
  · rw [sr_L, if_pos ⟨rfl, hj⟩]
/-- the offices with a craft, as bits -/
theorem cx_officesWith {fu : Nat} (hfu : 100 ≤ fu) {v m : hM} {n : Nat} (hn : n ≤ 6) (he : eRel v m n) {c : Nat} (hc : c < 6) : ∃ z, f_X0_officesWith fu (nI c) m = some (z, m) ∧ ∀ i, i < 32 → bt z i = (decide (i < n) && bt (gI v 103 i) c) := by
  have key : ∀ (t o : Nat) (z : Int32), o ≤ n → n - o < t → (∀ i, i < 32 → bt z i = (decide (i < o) && bt (gI v 103 i) c)) → ∃ z', f_X0_officesWith_4 fu t (nI c) z (nI o) m = some (z', m) ∧ ∀ i, i < 32 → bt z' i = (decide (i < n) && bt (gI v 103 i) c) := by
    intro t
    induction t with
    | zero => intro o z h1 h2; omega
    | succ t ih =>
      intro o z ho ht hz
      rw [f_X0_officesWith_4_s]
      unfold s_X0_officesWith_4
      rw [he.1]
      by_cases q : nI n ≤ nI o
      · rw [if_pos q]
        rw [nI_leI (by omega) (by omega)] at q
        have : o = n := by omega
        subst this
        exact ⟨z, rfl, hz⟩
      · rw [if_neg q]
        rw [nI_leI (by omega) (by omega)] at q
        rw [if_pos (hIn_lt (show o < 6 by omega) (by omega)), nI_clamp (show o < 2 ^ 31 by omega)]
        simp only [hLet_e, nI_1]
        have e5 : gI m (6 + 2 * o) 5 = gI v 103 o := (he.2.2.2.1 o (by omega)).1.1 5 (by omega)
        rw [e5]
        refine ih (o + 1) _ (by omega) (by omega) (fun i hi => ?_)
        rw [b_or, hz i hi, b_shl o (by omega) _ hi, b_rd (by omega)]
        by_cases c1 : i < o
        · simp [c1, show i < o + 1 from by omega, show ¬ o ≤ i from by omega]
        · by_cases c2 : i = o
          · subst c2
            rw [Nat.sub_self]
            simp only [Nat.lt_irrefl, decide_false, Bool.false_and, Bool.false_or, Nat.le_refl, decide_true, Bool.true_and, Nat.lt_succ_self]
            cases bt (gI v 103 i) c
            · exact b_0 0
            · exact b_1 0 (by omega)
          · have : bt (if bt (gI v 103 o) c = true then (1 : Int32) else 0) (i - o) = false := by
              cases bt (gI v 103 o) c
              · exact b_0 _
              · rw [if_pos rfl, b_1 _ (by omega)]
                simp [show i - o ≠ 0 from by omega]
            rw [this]
            simp [c1, show ¬ i < o + 1 from by omega]
  unfold f_X0_officesWith
  exact key fu 0 0 (by omega) (by omega) (fun i hi => by rw [b_0]; simp)
/-! ===== dark on both sides ===== -/
/-- how many offices with a craft are at work in an hour -/
def wkN (v : hM) (n c h : Nat) : Nat := cnt (fun o => bt (gI v 103 o) c && decide (opn v o (nI h) = 1)) n
theorem cnt_le (f : Nat → Bool) (k : Nat) : cnt f k ≤ k := by
  induction k with
  | zero => exact Nat.le_refl _
  | succ k ih => unfold cnt; split <;> omega
def dD (w : Nat → Nat) : Nat → Nat
  | 0 => 0
  | k + 1 => dD w k + (if w k = 0 then 1 else 0)
def dF (w : Nat → Nat) (h : Nat) : Nat → Int32
  | 0 => -1
  | k + 1 => if w k = 0 ∧ dD w k = 0 then nI (h + k) else dF w h k
def dM (w : Nat → Nat) : Nat → Nat
  | 0 => 0
  | k + 1 => if dM w k < w k then w k else dM w k
def dW (w : Nat → Nat) (h : Nat) : Nat → Nat
  | 0 => h
  | k + 1 => if dM w k < w k then h + k else dW w h k
theorem dD_le (w : Nat → Nat) (k : Nat) : dD w k ≤ k := by
  induction k with
  | zero => exact Nat.le_refl _
  | succ k ih => unfold dD; split <;> omega
theorem dM_le {w : Nat → Nat} {B : Nat} (hw : ∀ k, w k ≤ B) (k : Nat) : dM w k ≤ B := by
  induction k with
  | zero => exact Nat.zero_le _
  | succ k ih => unfold dM; split; exact hw k; exact ih
/-- what dark tells -/
def dkRow (w : Nat → Nat) (h : Nat) : List Int64 := [(dF w h 24).toInt64, (nI (dM w 24)).toInt64, (nI (dW w h 24)).toInt64]
theorem cx_dark_loop (fu : Nat) {v m : hM} {n c h : Nat} (hn : n ≤ 6) (he : eRel v m n) (hh : h < 2400) {z : Int32} (hz : ∀ i, i < 32 → bt z i = (decide (i < n) && bt (gI v 103 i) c)) : ∀ (t k : Nat), k ≤ 24 → 24 - k < t →
    f_X10_dark_53 fu t (nI h) z (nI (dD (fun i => wkN v n c (h + i)) k)) (dF (fun i => wkN v n c (h + i)) h k) (nI (dM (fun i => wkN v n c (h + i)) k)) (nI (dW (fun i => wkN v n c (h + i)) h k)) (nI (h + k)) m = some (nI (dD (fun i => wkN v n c (h + i)) 24), setRow m 67 66 1 (dkRow (fun i => wkN v n c (h + i)) h)) := by
  generalize hw : (fun i => wkN v n c (h + i)) = w
  have hwk : ∀ k, w k = wkN v n c (h + k) := fun k => by rw [← hw]
  have hw6 : ∀ k, w k ≤ 6 := fun k => by rw [hwk]; exact Nat.le_trans (cnt_le _ _) hn
  intro t
  induction t with
  | zero => intro k h1 h2; omega
  | succ t ih =>
    intro k hk ht
    have d1 := dD_le w k
    have d2 := dM_le hw6 k
    rw [f_X10_dark_53_s]
    unfold s_X10_dark_53
    rw [show nI h + 24 = nI (h + 24) from nI_add h 24]
    by_cases q : nI (h + 24) ≤ nI (h + k)
    · rw [if_pos q]
      rw [nI_leI (by omega) (by omega)] at q
      have : k = 24 := by omega
      subst this
      unfold f_X10_dark_122 dkRow
      rw [cx_clear, hBd_some, cx_tell fu m (by simp), hBd_some, cx_tell fu m (by simp), hBd_some, cx_tell fu m (by simp), hBd_some]
      rfl
    · rw [if_neg q]
      rw [nI_leI (by omega) (by omega)] at q
      rw [if_pos (hIn_lt (show h + k < 2560 by omega) (by omega)), nI_clamp (show h + k < 2 ^ 31 by omega)]
      have hb : ∀ i, i < 32 → bt (gI m 4 (h + k) &&& z) i = (decide (i < n) && (bt (gI v 103 i) c && decide (opn v i (nI (h + k)) = 1))) := by
        intro i hi
        rw [b_and, hz i hi]
        by_cases c1 : i < n
        · rw [(he.2.2.2.1 i c1).2.1 (h + k) (by omega)]
          simp [c1, Bool.and_comm]
        · simp [c1]
      obtain ⟨x, hx, hxe⟩ := nI_of24 (x := gI m 4 (h + k) &&& z) (fun i h1 h2 => by rw [hb i h2]; simp [show ¬ i < n from by omega])
      rw [hxe] at hb ⊢
      have hcnt : cnt (fun i => x.testBit i) 24 = w k := by
        rw [hwk]
        unfold wkN
        have e1 : cnt (fun i => x.testBit i) 24 = cnt (fun i => decide (i < n) && (bt (gI v 103 i) c && decide (opn v i (nI (h + k)) = 1))) 24 := cnt_congr (fun i hi => by
          have := hb i (by omega)
          rw [bt_nI _ _ (by omega)] at this
          exact this)
        rw [e1, show 24 = n + (24 - n) by omega, cnt_add]
        have e2 : cnt (fun i => decide (i < n) && (bt (gI v 103 i) c && decide (opn v i (nI (h + k)) = 1))) n = cnt (fun o => bt (gI v 103 o) c && decide (opn v o (nI (h + k)) = 1)) n := cnt_congr (fun i hi => by simp [hi])
        have e3 : ∀ j, cnt (fun i => decide (n + i < n) && (bt (gI v 103 (n + i)) c && decide (opn v (n + i) (nI (h + k)) = 1))) j = 0 := by
          intro j
          induction j with
          | zero => rfl
          | succ j ih => unfold cnt; rw [ih]; simp [show ¬ n + j < n from by omega]
        rw [e2, e3]
        rfl
      rw [cx_bitCount fu hx, hBd_some, hcnt]
      have w6 := hw6 k
      have last : ∀ (d : Nat) (f : Int32), dD w (k + 1) = d → dF w h (k + 1) = f → f_X10_dark_101 fu (f_X10_dark_53 fu t) (nI h) z (nI d) f (nI (dM w k)) (nI (dW w h k)) (nI (h + k)) (nI (w k)) m = some (nI (dD w 24), setRow m 67 66 1 (dkRow w h)) := by
        intro d f e1 e2
        have e := ih (k + 1) (by omega) (by omega)
        rw [e1, e2] at e
        unfold f_X10_dark_101 f_X10_dark_116
        simp only [hLet_e, nI_1]
        by_cases c1 : w k ≤ dM w k
        · rw [if_pos (by rw [nI_leI (by omega) (by omega)]; exact c1)]
          have a1 : dM w (k + 1) = dM w k := by rw [dM, if_neg (by omega)]
          have a2 : dW w h (k + 1) = dW w h k := by rw [dW, if_neg (by omega)]
          rw [a1, a2] at e
          exact e
        · rw [if_neg (by rw [nI_leI (by omega) (by omega)]; exact c1)]
          have a1 : dM w (k + 1) = w k := by rw [dM, if_pos (by omega)]
          have a2 : dW w h (k + 1) = h + k := by rw [dW, if_pos (by omega)]
          rw [a1, a2] at e
          exact e
      by_cases c0 : w k = 0
      · rw [if_neg (fun z => z (by rw [c0]; rfl))]
        unfold f_X10_dark_96
        simp only [hLet_e, nI_1]
        have a0 : dD w (k + 1) = dD w k + 1 := by rw [dD, if_pos c0]
        by_cases c1 : dD w k = 0
        · rw [if_neg (fun z => z (by rw [c1]; rfl))]
          exact last _ _ a0 (by rw [dF, if_pos ⟨c0, c1⟩])
        · rw [if_pos (nI_ne (by omega) c1)]
          exact last _ _ a0 (by rw [dF, if_neg (fun z => c1 z.2)])
      · rw [if_pos (nI_ne (by omega) c0)]
        exact last _ _ (by rw [dD, if_neg c0]; rfl) (by rw [dF, if_neg (fun z => c0 z.1)])
def dkOk (c h : Int32) (n : Nat) : Prop := hIn c 6 ∧ hIn h 2400 ∧ n ≠ 0
theorem cx_dark {fu : Nat} (hfu : 100 ≤ fu) {v m : hM} {n : Nat} (hv : vRel v n) (he : eRel v m n) (c h : Int32) :
    (¬ dkOk c h n → f_X10_dark fu c h m = some (-1, m)) ∧ (dkOk c h n → f_X10_dark fu c h m = some (nI (dD (fun i => wkN v n c.toNatClampNeg (h.toNatClampNeg + i)) 24), setRow m 67 66 1 (dkRow (fun i => wkN v n c.toNatClampNeg (h.toNatClampNeg + i)) h.toNatClampNeg))) := by
  have hn := hv.1
  have e0 : (0 : Int32).toInt = 0 := rfl
  have e6 : (6 : Int32).toInt = 6 := rfl
  unfold f_X10_dark dkOk
  by_cases c1 : c < 0
  · rw [if_pos c1]
    rw [i_lt, e0] at c1
    exact ⟨fun _ => rfl, fun q => by have := q.1.1; omega⟩
  rw [if_neg c1]
  rw [i_lt, e0] at c1
  by_cases c2 : 6 ≤ c
  · rw [if_pos c2]
    rw [i_le, e6] at c2
    exact ⟨fun _ => rfl, fun q => by have := q.1.2; omega⟩
  rw [if_neg c2, cx_isHour, hBd_some]
  rw [i_le, e6] at c2
  by_cases c3 : ¬ hIn h 2400
  · rw [if_neg c3, if_pos rfl]
    exact ⟨fun _ => rfl, fun q => absurd q.2.1 c3⟩
  replace c3 := Classical.not_not.mp c3
  rw [if_pos c3, if_neg (by decide), he.1]
  by_cases c4 : n = 0
  · rw [if_neg (fun z => z (by rw [c4]; rfl))]
    exact ⟨fun _ => rfl, fun q => absurd c4 q.2.2⟩
  rw [if_pos (nI_ne (by omega) c4)]
  have hc6 : hIn c 6 := ⟨by omega, by omega⟩
  refine ⟨fun q => absurd ⟨hc6, c3, c4⟩ q, fun _ => ?_⟩
  obtain ⟨j, hj, rfl⟩ := hIn_of hc6 (by omega)
  obtain ⟨x, hx, rfl⟩ := hIn_of c3 (by omega)
  obtain ⟨z, z1, z2⟩ := cx_officesWith hfu hn he hj
  rw [z1, hBd_some, nI_clamp (show j < 2 ^ 31 by omega), nI_clamp (show x < 2 ^ 31 by omega)]
  exact cx_dark_loop fu hn he hx z2 fu 0 (by omega) (by omega)
