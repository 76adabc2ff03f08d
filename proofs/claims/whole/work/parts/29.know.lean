/-! ===== set, know, sheet on both sides ===== -/
/-- KNOWN of two, both ways, in cell c -/
def kn (m : hM) (c a b : Nat) (x : Int32) : hM := sI (sI m c (6 * a + b) x) c (6 * b + a) x
theorem kn_g (m : hM) (c a b : Nat) (x : Int32) (p q : Nat) : gI (kn m c a b x) p q = if p = c ∧ q = 6 * b + a then x else if p = c ∧ q = 6 * a + b then x else gI m p q := rfl
theorem cx_putKnown (fu : Nat) {a b : Nat} (ha : a < 6) (hb : b < 6) (x : Int32) (m : hM) : f_X0_putKnown fu (nI a) (nI b) x m = some ((), kn m 3 a b x) := by
  obtain ⟨k1, -, k3, k4⟩ := kn_ix ha hb
  obtain ⟨j1, -, j3, j4⟩ := kn_ix hb ha
  unfold f_X0_putKnown
  simp only [hLet_e]
  rw [k1, j1, if_pos k3, if_pos j3, k4, j4]
  rfl
theorem rx_knows (fu : Nat) {a b : Nat} (ha : a < 6) (hb : b < 6) (x : Int32) (m : hM) : f_X11_knows fu (nI a) (nI b) x m = some ((), kn m 107 a b x) := by
  obtain ⟨-, k1, k3, k4⟩ := kn_ix ha hb
  obtain ⟨-, j1, j3, j4⟩ := kn_ix hb ha
  unfold f_X11_knows
  simp only [hLet_e]
  rw [k1, j1, if_pos k3, if_pos j3, k4, j4]
  rfl
theorem e_know {v m : hM} {n a b : Nat} (hn : n ≤ 6) (he : eRel v m n) (ha : a < n) (hb : b < n) (x : Int32) : eRel (kn v 107 a b x) (kn m 3 a b x) n := by
  refine ⟨?_, ?_, ?_, fun o ho => ?_, fun o ho ho6 => ?_, fun p q hp hq => ?_, fun p q hp hq hz => ?_⟩
  · rw [kn_g, if_neg (by omega), if_neg (by omega)]; exact he.1
  · rw [kn_g, if_neg (by omega), if_neg (by omega), kn_g, if_neg (by omega), if_neg (by omega)]; exact he.2.1
  · rw [kn_g, if_neg (by omega), if_neg (by omega), kn_g, if_neg (by omega), if_neg (by omega)]; exact he.2.2.1
  · exact off_keep (he.2.2.2.1 o ho) (fun j hj => by rw [kn_g, if_neg (by omega), if_neg (by omega)]) (fun d hd => by rw [kn_g, if_neg (by omega), if_neg (by omega)]) (fun j => by rw [kn_g, if_neg (by omega), if_neg (by omega)]) (fun j => by rw [kn_g, if_neg (by omega), if_neg (by omega)]) (fun j => by rw [kn_g, if_neg (by omega), if_neg (by omega)]) (fun j _ _ => by rw [kn_g, if_neg (by omega), if_neg (by omega)])
  · have hx := he.2.2.2.2.1 o ho ho6
    exact ⟨by rw [kn_g, if_neg (by omega), if_neg (by omega)]; exact hx.1, by rw [kn_g, if_neg (by omega), if_neg (by omega)]; exact hx.2.1, fun d hd => by rw [kn_g, if_neg (by omega), if_neg (by omega)]; exact hx.2.2 d hd⟩
  · have h0 := he.2.2.2.2.2.1 p q hp hq
    simp only [kn_g, true_and]
    by_cases c1 : 6 * p + q = 6 * b + a
    · simp only [if_pos c1]
    · by_cases c2 : 6 * p + q = 6 * a + b
      · simp only [if_neg c1, if_pos c2]
      · simp only [if_neg c1, if_neg c2]
        exact h0
  · rw [kn_g, if_neg (by omega), if_neg (by omega)]; exact he.2.2.2.2.2.2 p q hp hq hz
theorem keepE_kn {m : hM} {a b : Nat} {x : Int32} : keepE m (kn m 3 a b x) := (keepE.sI (by omega)).tr (keepE.sI (by omega))
def knOk (a b x : Int32) (n : Nat) : Prop := hIn a n ∧ hIn b n ∧ ¬ a = b ∧ (0 ≤ x.toInt ∧ x.toInt ≤ 9)
theorem cx_know (fu : Nat) {v m : hM} {n : Nat} (hv : vRel v n) (he : eRel v m n) (a b x : Int32) :
    (knOk a b x n → ∃ m', f_X10_know fu a b x m = some (gI v 107 (6 * a.toNatClampNeg + b.toNatClampNeg), m') ∧ eRel (kn v 107 a.toNatClampNeg b.toNatClampNeg x) m' n ∧ keepE m m') ∧ (¬ knOk a b x n → f_X10_know fu a b x m = some (-1, m)) := by
  have hn := hv.1
  have e0 : (0 : Int32).toInt = 0 := rfl
  have e9 : (9 : Int32).toInt = 9 := rfl
  unfold f_X10_know knOk
  rw [cx_has fu a m (by omega) he.1, hBd_some]
  by_cases c1 : hIn a n
  · rw [if_pos c1, if_neg (by decide), cx_has fu b m (by omega) he.1, hBd_some]
    by_cases c2 : hIn b n
    · rw [if_pos c2, if_neg (by decide)]
      by_cases c3 : a = b
      · rw [if_pos c3]
        exact ⟨fun q => absurd c3 q.2.2.1, fun _ => rfl⟩
      · rw [if_neg c3]
        by_cases c4 : x < 0
        · rw [if_pos c4]
          rw [i_lt, e0] at c4
          exact ⟨fun q => by omega, fun _ => rfl⟩
        · rw [if_neg c4]
          rw [i_lt, e0] at c4
          by_cases c5 : x ≤ 9
          · rw [if_pos c5]
            rw [i_le, e9] at c5
            refine ⟨fun _ => ?_, fun q => absurd ⟨c1, c2, c3, by omega, c5⟩ q⟩
            obtain ⟨k, hk, rfl⟩ := hIn_of c1 (by omega)
            obtain ⟨l, hl, rfl⟩ := hIn_of c2 (by omega)
            obtain ⟨k1, -, k3, k4⟩ := kn_ix (show k < 6 by omega) (show l < 6 by omega)
            simp only [hLet_e]
            rw [k1, if_pos k3, k4, cx_putKnown fu (show k < 6 by omega) (show l < 6 by omega), hBd_some, he.2.2.2.2.2.1 k l hk hl, nI_clamp (show k < 2 ^ 31 by omega), nI_clamp (show l < 2 ^ 31 by omega)]
            exact ⟨_, rfl, e_know hn he hk hl x, keepE_kn⟩
          · rw [if_neg c5]
            rw [i_le, e9] at c5
            exact ⟨fun q => by omega, fun _ => rfl⟩
    · rw [if_neg c2, if_pos rfl]
      exact ⟨fun q => absurd q.2.1 c2, fun _ => rfl⟩
  · rw [if_neg c1, if_pos rfl]
    exact ⟨fun q => absurd q.1 c1, fun _ => rfl⟩
theorem rx_know (fu : Nat) {m : hM} {n : Nat} (hv : vRel m n) (a b x : Int32) :
    (knOk a b x n → f_X11_know fu a b x m = some (gI m 107 (6 * a.toNatClampNeg + b.toNatClampNeg), kn (sI m 96 0 0) 107 a.toNatClampNeg b.toNatClampNeg x)) ∧ (¬ knOk a b x n → f_X11_know fu a b x m = some (-1, sI m 96 0 0)) := by
  have hn := hv.1
  have h3 : gI (sI m 96 0 0) 96 3 = nI n := hv.2.1
  unfold f_X11_know knOk
  simp only [hLet_e]
  rw [rx_isOffice fu a _ (by omega) h3, hBd_some]
  by_cases c1 : hIn a n
  · rw [if_pos c1, if_neg (by decide), rx_isOffice fu b _ (by omega) h3, hBd_some]
    by_cases c2 : hIn b n
    · rw [if_pos c2, if_neg (by decide)]
      by_cases c3 : a = b
      · rw [if_pos c3]
        exact ⟨fun q => absurd c3 q.2.2.1, fun _ => rfl⟩
      · rw [if_neg c3, rx_inI, hBd_some]
        show (_ → (if ¬ (if (0 : Int) ≤ x.toInt ∧ x.toInt ≤ 9 then (1 : Int32) else 0) = 0 then _ else _) = _) ∧ (_ → (if ¬ (if (0 : Int) ≤ x.toInt ∧ x.toInt ≤ 9 then (1 : Int32) else 0) = 0 then _ else _) = _)
        by_cases c4 : (0 : Int) ≤ x.toInt ∧ x.toInt ≤ 9
        · rw [if_pos c4, if_pos (by decide)]
          refine ⟨fun _ => ?_, fun q => absurd ⟨c1, c2, c3, c4⟩ q⟩
          obtain ⟨k, hk, rfl⟩ := hIn_of c1 (by omega)
          obtain ⟨l, hl, rfl⟩ := hIn_of c2 (by omega)
          obtain ⟨-, k1, k3, k4⟩ := kn_ix (show k < 6 by omega) (show l < 6 by omega)
          rw [k1, if_pos k3, k4, rx_knows fu (show k < 6 by omega) (show l < 6 by omega), hBd_some, nI_clamp (show k < 2 ^ 31 by omega), nI_clamp (show l < 2 ^ 31 by omega), gI_sI, if_neg (by omega)]
        · rw [if_neg c4, if_neg (fun q => q rfl)]
          exact ⟨fun q => absurd q.2.2.2 c4, fun _ => rfl⟩
    · rw [if_neg c2, if_pos rfl]
      exact ⟨fun q => absurd q.2.1 c2, fun _ => rfl⟩
  · rw [if_neg c1, if_pos rfl]
    exact ⟨fun q => absurd q.1 c1, fun _ => rfl⟩
/-- LOSE, MISS -/
theorem e_set {v m : hM} {n : Nat} (he : eRel v m n) (x : Int32) : eRel (sI v 96 14 x) (sI m 1 5 x) n ∧ eRel (sI v 96 15 x) (sI m 1 6 x) n := by
  have key : ∀ (p q : Nat), (p = 14 ∧ q = 5) ∨ (p = 15 ∧ q = 6) → eRel (sI v 96 p x) (sI m 1 q x) n := by
    intro p q hpq
    refine ⟨?_, ?_, ?_, fun o ho => ?_, fun o ho ho6 => ?_, fun a b ha hb => ?_, fun a b ha hb hz => ?_⟩
    · rw [gI_sI, if_neg (by omega)]; exact he.1
    · rw [gI_sI, gI_sI]
      rcases hpq with ⟨rfl, rfl⟩ | ⟨rfl, rfl⟩
      · rfl
      · exact he.2.1
    · rw [gI_sI, gI_sI]
      rcases hpq with ⟨rfl, rfl⟩ | ⟨rfl, rfl⟩
      · exact he.2.2.1
      · rfl
    · exact off_keep (he.2.2.2.1 o ho) (fun j hj => by rw [gI_sI, if_neg (by omega)]) (fun d hd => by rw [gI_sI, if_neg (by omega)]) (fun j => by rw [gI_sI, if_neg (by omega)]) (fun j => by rw [gI_sI, if_neg (by omega)]) (fun j => by rw [gI_sI, if_neg (by omega)]) (fun j _ _ => by rw [gI_sI, if_neg (by omega)])
    · have hx := he.2.2.2.2.1 o ho ho6
      exact ⟨by rw [gI_sI, if_neg (by omega)]; exact hx.1, by rw [gI_sI, if_neg (by omega)]; exact hx.2.1, fun d hd => by rw [gI_sI, if_neg (by omega)]; exact hx.2.2 d hd⟩
    · rw [gI_sI, if_neg (by omega), gI_sI, if_neg (by omega)]; exact he.2.2.2.2.2.1 a b ha hb
    · rw [gI_sI, if_neg (by omega)]; exact he.2.2.2.2.2.2 a b ha hb hz
  exact ⟨key 14 5 (Or.inl ⟨rfl, rfl⟩), key 15 6 (Or.inr ⟨rfl, rfl⟩)⟩
/-- what set answers, and what v tells then -/
def setA (v : hM) (w x : Int32) : Int32 := if w = 0 ∧ 0 ≤ x.toInt ∧ x.toInt ≤ 20 then gI v 96 14 else if w = 1 ∧ 0 ≤ x.toInt ∧ x.toInt ≤ 100 then gI v 96 15 else -1
def setV (v : hM) (w x : Int32) : hM := if w = 0 ∧ 0 ≤ x.toInt ∧ x.toInt ≤ 20 then sI v 96 14 x else if w = 1 ∧ 0 ≤ x.toInt ∧ x.toInt ≤ 100 then sI v 96 15 x else v
theorem cx_set (fu : Nat) {v m : hM} {n : Nat} (he : eRel v m n) (w x : Int32) : ∃ m', f_X10_set fu w x m = some (setA v w x, m') ∧ eRel (setV v w x) m' n ∧ keepE m m' := by
  have e0 : (0 : Int32).toInt = 0 := rfl
  have e20 : (20 : Int32).toInt = 20 := rfl
  have e100 : (100 : Int32).toInt = 100 := rfl
  have key : ¬ (w = 0 ∧ 0 ≤ x.toInt ∧ x.toInt ≤ 20) → ∃ m', f_X10_set_32 fu w x m = some (setA v w x, m') ∧ eRel (setV v w x) m' n ∧ keepE m m' := by
    intro h0
    unfold f_X10_set_32 setA setV
    simp only [hLet_e]
    rw [if_neg h0, if_neg h0]
    by_cases c1 : w = 1
    · rw [if_neg (fun q => q c1)]
      by_cases c2 : x < 0
      · rw [if_pos c2]
        rw [i_lt, e0] at c2
        rw [if_neg (fun q => by omega), if_neg (fun q => by omega)]
        exact ⟨m, rfl, he, keepE.rf⟩
      · rw [if_neg c2]
        rw [i_lt, e0] at c2
        by_cases c3 : 100 < x
        · rw [if_pos c3]
          rw [i_lt, e100] at c3
          rw [if_neg (fun q => by omega), if_neg (fun q => by omega)]
          exact ⟨m, rfl, he, keepE.rf⟩
        · rw [if_neg c3]
          rw [i_lt, e100] at c3
          have ok : w = 1 ∧ 0 ≤ x.toInt ∧ x.toInt ≤ 100 := ⟨c1, by omega, by omega⟩
          rw [if_pos ok, if_pos ok, he.2.2.1]
          exact ⟨_, rfl, (e_set he x).2, keepE.sI (by omega)⟩
    · rw [if_pos c1, if_neg (fun q => c1 q.1), if_neg (fun q => c1 q.1)]
      exact ⟨m, rfl, he, keepE.rf⟩
  unfold f_X10_set
  by_cases c1 : w = 0
  · rw [if_neg (fun q => q c1)]
    by_cases c2 : x < 0
    · rw [if_pos c2]
      rw [i_lt, e0] at c2
      exact key (fun q => by omega)
    · rw [if_neg c2]
      rw [i_lt, e0] at c2
      by_cases c3 : 20 < x
      · rw [if_pos c3]
        rw [i_lt, e20] at c3
        exact key (fun q => by omega)
      · rw [if_neg c3]
        rw [i_lt, e20] at c3
        have ok : w = 0 ∧ 0 ≤ x.toInt ∧ x.toInt ≤ 20 := ⟨c1, by omega, by omega⟩
        unfold setA setV
        rw [if_pos ok, if_pos ok]
        simp only [hLet_e]
        rw [he.2.1]
        exact ⟨_, rfl, (e_set he x).1, keepE.sI (by omega)⟩
  · rw [if_pos c1]
    exact key (fun q => c1 q.1)
theorem rx_set (fu : Nat) (m : hM) (w x : Int32) : f_X11_set fu w x m = some (setA m w x, setV (sI m 96 0 0) w x) := by
  have e0 : (0 : Int32).toInt = 0 := rfl
  have e1 : (1 : Int32).toInt = 1 := rfl
  unfold f_X11_set setA setV
  simp only [hLet_e, rx_inI, hBd_some]
  show (if (if (0 : Int) ≤ w.toInt ∧ w.toInt ≤ 1 then (1 : Int32) else 0) = 0 then _ else _) = _
  have e10 : ¬ (1 : Int32) = 0 := by decide
  by_cases c : w = 0
  · have cw : (0 : Int) ≤ w.toInt ∧ w.toInt ≤ 1 := by rw [c, e0]; omega
    have hn1 : ¬ w = 1 := by rw [c]; decide
    rw [if_pos cw, if_neg e10, if_neg (fun q => q c)]
    unfold f_X11_set_31 f_X11_set_54
    rw [rx_inI, hBd_some]
    show (if ¬ (if (0 : Int) ≤ x.toInt ∧ x.toInt ≤ 20 then (1 : Int32) else 0) = 0 then _ else _) = _
    by_cases c2 : (0 : Int) ≤ x.toInt ∧ x.toInt ≤ 20
    · simp only [if_pos c2, if_pos e10, if_neg (show ¬ ¬ w = 0 from fun q => q c), if_pos (show w = 0 ∧ 0 ≤ x.toInt ∧ x.toInt ≤ 20 from ⟨c, c2⟩)]
      rfl
    · simp only [if_neg c2, if_neg (show ¬ ¬ (0 : Int32) = 0 from fun q => q rfl), if_neg (show ¬ (w = 0 ∧ 0 ≤ x.toInt ∧ x.toInt ≤ 20) from fun q => c2 q.2), if_neg (show ¬ (w = 1 ∧ 0 ≤ x.toInt ∧ x.toInt ≤ 100) from fun q => hn1 q.1)]
      rw [if_neg (fun q => q trivial)]
  · have hz : ¬ (w = 0 ∧ 0 ≤ x.toInt ∧ x.toInt ≤ 20) := fun q => c q.1
    by_cases c1 : w = 1
    · have cw : (0 : Int) ≤ w.toInt ∧ w.toInt ≤ 1 := by rw [c1, e1]; omega
      rw [if_pos cw, if_neg e10, if_pos c]
      unfold f_X11_set_31 f_X11_set_54
      rw [rx_inI, hBd_some]
      show (if ¬ (if (0 : Int) ≤ x.toInt ∧ x.toInt ≤ 100 then (1 : Int32) else 0) = 0 then _ else _) = _
      by_cases c2 : (0 : Int) ≤ x.toInt ∧ x.toInt ≤ 100
      · simp only [if_pos c2, if_pos e10, if_pos c, if_neg hz, if_pos (show w = 1 ∧ 0 ≤ x.toInt ∧ x.toInt ≤ 100 from ⟨c1, c2⟩)]
        rfl
      · simp only [if_neg c2, if_neg (show ¬ ¬ (0 : Int32) = 0 from fun q => q rfl), if_neg hz, if_neg (show ¬ (w = 1 ∧ 0 ≤ x.toInt ∧ x.toInt ≤ 100) from fun q => c2 q.2)]
        rw [if_neg (fun q => q trivial)]
    · have cw : ¬ ((0 : Int) ≤ w.toInt ∧ w.toInt ≤ 1) := by
        intro q
        have : w.toInt = 0 ∨ w.toInt = 1 := by omega
        rcases this with h | h
        · exact c (by rw [i_eq, h, e0])
        · exact c1 (by rw [i_eq, h, e1])
      simp only [if_neg cw, if_neg hz, if_neg (show ¬ (w = 1 ∧ 0 ≤ x.toInt ∧ x.toInt ≤ 100) from fun q => c1 q.1)]
      rfl
