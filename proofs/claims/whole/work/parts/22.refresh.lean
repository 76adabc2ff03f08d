/-! ===== the tables of the class: who is at work in which hour, and the 24 hours ahead ===== -/
/-- office o's bits in the table of hours; its 24 hours ahead -/
def wRel (v m : hM) (o : Nat) : Prop := ∀ h, h < 2500 → bt (gI m 4 h) o = decide (opn v o (nI h) = 1)
def aAt (v m : hM) (o h : Nat) : Prop := ∀ i, i < 32 → bt (gI m 5 (2500 * o + h)) i = (decide (i < 24 ∧ h + i < 2500) && decide (opn v o (nI (h + i)) = 1))
def aRel (v m : hM) (o : Nat) : Prop := ∀ h, h < 2500 → aAt v m o h
/-- nothing but cell k is another -/
def only (k : Nat) (m m' : hM) : Prop := (∀ a j, a ≠ k → gI m' a j = gI m a j) ∧ (∀ a j, gL m' a j = gL m a j) ∧ ∀ a j, gR m' a j = gR m a j
theorem only.rf {k : Nat} {m : hM} : only k m m := ⟨fun _ _ _ => rfl, fun _ _ => rfl, fun _ _ => rfl⟩
theorem only.tr {k : Nat} {m m1 m2 : hM} (h : only k m m1) (g : only k m1 m2) : only k m m2 := ⟨fun a j ha => (g.1 a j ha).trans (h.1 a j ha), fun a j => (g.2.1 a j).trans (h.2.1 a j), fun a j => (g.2.2 a j).trans (h.2.2 a j)⟩
theorem only.sI {k j : Nat} {m : hM} {x : Int32} : only k m (sI m k j x) := ⟨fun a b ha => by rw [gI_sI, if_neg (fun z => ha z.1)], fun _ _ => rfl, fun _ _ => rfl⟩
theorem oRel.keep {v m m' : hM} {o : Nat} (h : oRel v m o) (h2 : ∀ j, gI m' (6 + 2 * o) j = gI m (6 + 2 * o) j) (h3 : ∀ j, gI m' (6 + 2 * o + 1) j = gI m (6 + 2 * o + 1) j) : oRel v m' o :=
  ⟨fun j hj => (h2 j).trans (h.1 j hj), fun d hd => (h3 d).trans (h.2 d hd)⟩
theorem i_n0 {h : Nat} (hh : h < 2 ^ 31) : (nI h).toInt = (h : Int) := nI_toInt hh
theorem rf_loop1 (fu : Nat) {v : hM} {o : Nat} (ho : o < 6) (x2 x3 : Int32) : ∀ (n h : Nat) (m : hM), h ≤ 2500 → 2500 - h < n → oRel v m o →
    ∃ m', f_X0_refresh_12 fu n (nI o) x2 x3 (1 <<< (nI o &&& 31)) (nI h) m = f_X0_refresh_78 fu (nI o) x2 x3 m' ∧ only 4 m m' ∧
      ∀ j i, i < 32 → bt (gI m' 4 j) i = if i = o ∧ h ≤ j ∧ j < 2500 ∧ (j : Int) < x3.toInt then decide (opn v o (nI j) = 1) else bt (gI m 4 j) i := by
  have h6 : hIn (nI o) 6 := hIn_lt ho (by omega)
  have hc : (nI o).toNatClampNeg = o := nI_clamp (by omega)
  intro n
  induction n with
  | zero => intro h m h1 h2; omega
  | succ n ih =>
    intro h m hh hn hr
    have eh : (nI h).toInt = (h : Int) := nI_toInt (by omega)
    rw [f_X0_refresh_12_s]
    unfold s_X0_refresh_12
    by_cases c1 : x3 ≤ nI h
    · rw [if_pos c1]
      rw [i_le, eh] at c1
      refine ⟨m, rfl, only.rf, fun j i hi => ?_⟩
      rw [if_neg (by omega)]
    · rw [if_neg c1]
      rw [i_le, eh] at c1
      by_cases c2 : (2500 : Int32) ≤ nI h
      · rw [if_pos c2]
        rw [i_le, eh] at c2
        have e25 : (2500 : Int32).toInt = 2500 := rfl
        refine ⟨m, rfl, only.rf, fun j i hi => ?_⟩
        rw [if_neg (by omega)]
      · rw [if_neg c2]
        rw [i_le, eh] at c2
        have e25 : (2500 : Int32).toInt = 2500 := rfl
        have hlt : h < 2500 := by omega
        have hin : hIn (nI h) 2500 := hIn_lt hlt (by omega)
        have hch : (nI h).toNatClampNeg = h := nI_clamp (by omega)
        rw [if_pos h6, hc, cx_atWork fu ho _ hr, hBd_some]
        have step : ∀ (w : Int32), (∀ i, i < 32 → bt w i = if i = o then decide (opn v o (nI h) = 1) else bt (gI m 4 h) i) →
            ∃ m', f_X0_refresh_71 fu (f_X0_refresh_12 fu n) (nI o) x2 x3 (1 <<< (nI o &&& 31)) (nI h) (nI h) w m = f_X0_refresh_78 fu (nI o) x2 x3 m' ∧ only 4 m m' ∧
              ∀ j i, i < 32 → bt (gI m' 4 j) i = if i = o ∧ h ≤ j ∧ j < 2500 ∧ (j : Int) < x3.toInt then decide (opn v o (nI j) = 1) else bt (gI m 4 j) i := by
          intro w hw
          unfold f_X0_refresh_71
          rw [if_pos hin, hch]
          simp only [hLet_e, nI_1]
          have hr' : oRel v (sI m 4 h w) o := hr.keep (fun j => by rw [gI_sI, if_neg (by omega)]) (fun j => by rw [gI_sI, if_neg (by omega)])
          obtain ⟨m', e1, e2, e3⟩ := ih (h + 1) (sI m 4 h w) (by omega) (by omega) hr'
          refine ⟨m', e1, only.sI.tr e2, fun j i hi => ?_⟩
          rw [e3 j i hi, gI_sI]
          by_cases hj : j = h
          · subst hj
            rw [if_neg (by omega), if_pos ⟨rfl, rfl⟩, hw i hi]
            by_cases hio : i = o
            · rw [if_pos hio, if_pos ⟨hio, by omega, hlt, by omega⟩]
            · rw [if_neg hio, if_neg (fun z => hio z.1)]
          · rw [if_neg (fun z => hj z.2)]
            by_cases hq : i = o ∧ h + 1 ≤ j ∧ j < 2500 ∧ (j : Int) < x3.toInt
            · rw [if_pos hq, if_pos ⟨hq.1, by omega, hq.2.2⟩]
            · rw [if_neg hq, if_neg (fun z => hq ⟨z.1, by omega, z.2.2⟩)]
        by_cases c3 : opn v o (nI h) = 0
        · rw [if_pos c3, if_pos hin, hch]
          refine step _ (fun i hi => ?_)
          rw [b_and, b_not hi, b_one (by omega) hi]
          by_cases hio : i = o
          · rw [if_pos hio, c3]
            simp [hio]
          · rw [if_neg hio]
            simp [hio]
        · rw [if_neg c3, if_pos hin, hch]
          have c4 : opn v o (nI h) = 1 := (opn_01 v o (nI h)).resolve_left c3
          refine step _ (fun i hi => ?_)
          rw [b_or, b_one (by omega) hi]
          by_cases hio : i = o
          · rw [if_pos hio, c4]
            simp [hio]
          · rw [if_neg hio]
            simp [hio]
/-- the second loop of refresh: the hours ahead, from the last one down -/
theorem rf_loop2 (fu : Nat) {v : hM} {o : Nat} (ho : o < 6) (x2 : Int32) (hx2 : -1000000 ≤ x2.toInt ∧ x2.toInt ≤ 1000000) : ∀ (n : Nat) (x7 : Int32) (m : hM), -1000000 ≤ x7.toInt → x7.toInt ≤ 2499 → x7.toInt + 1 < n →
    wRel v m o → (∀ h : Nat, h < 2500 → x7.toInt < h → aAt v m o h) →
    ∃ m', f_X0_refresh_100 fu n (nI o) x2 (nI (2500 * o)) x7 m = some ((), m') ∧ only 5 m m' ∧ (∀ j, (j < 2500 * o ∨ 2500 * o + 2500 ≤ j) → gI m' 5 j = gI m 5 j) ∧
      (∀ h : Nat, h < 2500 → (x7.toInt < h ∨ x2.toInt - 24 < h) → aAt v m' o h) ∧ (∀ h : Nat, h < 2500 → (h : Int) ≤ x2.toInt - 24 → gI m' 5 (2500 * o + h) = gI m 5 (2500 * o + h)) := by
  have hc : (nI o).toNatClampNeg = o := nI_clamp (by omega)
  intro n
  induction n with
  | zero => intro x7 m h1 h2 h3; omega
  | succ n ih =>
    intro x7 m h1 h2 h3 hw ha
    have e0 : (0 : Int32).toInt = 0 := rfl
    have e24 : (x2 - 24).toInt = x2.toInt - 24 := by
      have : (24 : Int32).toInt = 24 := rfl
      rw [i_sub] <;> rw [this] <;> omega
    rw [f_X0_refresh_100_s]
    unfold s_X0_refresh_100
    by_cases c1 : x7 < 0
    · rw [if_pos c1]
      rw [i_lt, e0] at c1
      exact ⟨m, rfl, only.rf, fun _ _ => rfl, fun h hh _ => ha h hh (by omega), fun _ _ _ => rfl⟩
    · rw [if_neg c1]
      rw [i_lt, e0] at c1
      by_cases c2 : x7 ≤ x2 - 24
      · rw [if_pos c2]
        rw [i_le, e24] at c2
        exact ⟨m, rfl, only.rf, fun _ _ => rfl, fun h hh hq => ha h hh (by omega), fun _ _ _ => rfl⟩
      · rw [if_neg c2]
        rw [i_le, e24] at c2
        obtain ⟨h, hh, rfl⟩ := nI_of (x := x7) (by rw [i_lt, e0]; exact c1)
        have eh : (nI h).toInt = (h : Int) := nI_toInt hh
        rw [eh] at h1 h2 h3 c2 ha
        have hlt : h < 2500 := by omega
        have hin : hIn (nI h) 2500 := hIn_lt hlt (by omega)
        have hch : (nI h).toNatClampNeg = h := nI_clamp (by omega)
        have e57 : nI (2500 * o) + nI h = nI (2500 * o + h) := nI_add _ _
        have hin2 : hIn (nI (2500 * o + h)) 15000 := hIn_lt (by omega) (by omega)
        have hc2 : (nI (2500 * o + h)).toNatClampNeg = 2500 * o + h := nI_clamp (by omega)
        have edec : nI h + (-1) = nI h - 1 := by rfl
        have step : ∀ s0 : Int32, (∀ i, i < 32 → bt s0 i = (decide (1 ≤ i ∧ i < 25 ∧ h + i < 2500) && decide (opn v o (nI (h + i)) = 1))) →
            ∃ m', f_X0_refresh_142 fu (f_X0_refresh_100 fu n) (nI o) x2 (nI (2500 * o)) (nI h) s0 m = some ((), m') ∧ only 5 m m' ∧ (∀ j, (j < 2500 * o ∨ 2500 * o + 2500 ≤ j) → gI m' 5 j = gI m 5 j) ∧
              (∀ h' : Nat, h' < 2500 → ((h : Int) < h' ∨ x2.toInt - 24 < h') → aAt v m' o h') ∧ (∀ h' : Nat, h' < 2500 → (h' : Int) ≤ x2.toInt - 24 → gI m' 5 (2500 * o + h') = gI m 5 (2500 * o + h')) := by
          intro s0 hs0
          unfold f_X0_refresh_142
          rw [if_pos hin, e57, if_pos hin2, hch, hc2]
          simp only [hLet_e]
          generalize hz : ((s0 &&& 16777215) ||| ((gI m 4 h >>> (nI o &&& 31)) &&& 1)) = z
          have hzb : ∀ i, i < 32 → bt z i = (decide (i < 24 ∧ h + i < 2500) && decide (opn v o (nI (h + i)) = 1)) := by
            intro i hi
            rw [← hz, b_or, b_and, b_24 i hi, hs0 i hi, b_rd (by omega), hw h hlt]
            by_cases hi0 : i = 0
            · subst hi0
              simp only [Nat.add_zero, hlt]
              by_cases hq : opn v o (nI h) = 1
              · simp [hq, b_1 0 (by omega)]
              · simp [hq, b_0]
            · have : bt (if decide (opn v o (nI h) = 1) = true then 1 else 0) i = false := by
                split
                · rw [b_1 i hi]; simp [hi0]
                · exact b_0 i
              rw [this]
              by_cases hq : i < 24
              · simp [hq, show 1 ≤ i by omega, show i < 25 by omega]
              · simp [hq]
          have hw' : wRel v (sI m 5 (2500 * o + h) z) o := fun h' hh' => by rw [gI_sI, if_neg (by omega)]; exact hw h' hh'
          have e1m : (nI h + (-1)).toInt = (h : Int) - 1 := by
            rw [edec]; exact nI_m1 (by omega)
          have ha' : ∀ h' : Nat, h' < 2500 → (nI h + (-1)).toInt < h' → aAt v (sI m 5 (2500 * o + h) z) o h' := by
            intro h' hh' hq
            rw [e1m] at hq
            intro i hi
            rw [gI_sI]
            by_cases he : h' = h
            · subst he
              rw [if_pos ⟨rfl, rfl⟩]
              exact hzb i hi
            · rw [if_neg (by omega)]
              exact ha h' hh' (by omega) i hi
          obtain ⟨m', f1, f2, f3, f4, f5⟩ := ih (nI h + (-1)) (sI m 5 (2500 * o + h) z) (by rw [e1m]; omega) (by rw [e1m]; omega) (by rw [e1m]; omega) hw' ha'
          refine ⟨m', f1, only.sI.tr f2, fun j hj => ?_, fun h' hh' hq => f4 h' hh' ?_, fun h' hh' hq => ?_⟩
          · rw [f3 j hj, gI_sI, if_neg (by omega)]
          · rw [e1m]; omega
          · rw [f5 h' hh' hq, gI_sI, if_neg (by omega)]
        rw [eh]
        by_cases c3 : (2500 : Int32) ≤ nI h + 1
        · rw [if_pos c3]
          rw [nI_1, i_le, nI_toInt (by omega)] at c3
          have e25 : (2500 : Int32).toInt = 2500 := rfl
          refine step 0 (fun i hi => ?_)
          rw [b_0, decide_eq_false (by omega)]
          rfl
        · rw [if_neg c3]
          rw [nI_1, i_le, nI_toInt (by omega)] at c3
          have e25 : (2500 : Int32).toInt = 2500 := rfl
          have e58 : nI (2500 * o) + nI h + 1 = nI (2500 * o + h + 1) := by rw [e57, nI_1]
          rw [e58, if_pos (hIn_lt (by omega) (by omega)), nI_clamp (by omega)]
          refine step _ (fun i hi => ?_)
          have ha1 := ha (h + 1) (by omega) (by omega)
          rw [show (1 : Int32) &&& 31 = nI 1 &&& 31 from rfl, b_shl 1 (by omega) _ hi]
          by_cases hi0 : i = 0
          · subst hi0; simp
          · have ha2 := ha1 (i - 1) (by omega)
            rw [show 2500 * o + (h + 1) = 2500 * o + h + 1 by omega] at ha2
            rw [ha2, show h + 1 + (i - 1) = h + i by omega]
            have : (i - 1 < 24 ∧ h + i < 2500) ↔ (1 ≤ i ∧ i < 25 ∧ h + i < 2500) := by omega
            simp only [this]
            simp [show 1 ≤ i by omega]
/-- refresh of an office's hours: all is right behind it that was right outside of the told hours -/
theorem cx_refresh {fu : Nat} (hfu : 3000 ≤ fu) {v : hM} {o : Nat} (ho : o < 6) {x2 x3 : Int32} (h2 : -1000000 ≤ x2.toInt ∧ x2.toInt ≤ 2500) (h3 : -1000000 ≤ x3.toInt ∧ x3.toInt ≤ 1000000) {m : hM} (hr : oRel v m o)
    (hw : ∀ h : Nat, h < 2500 → ((h : Int) < x2.toInt ∨ x3.toInt ≤ h) → bt (gI m 4 h) o = decide (opn v o (nI h) = 1))
    (ha : ∀ h : Nat, h < 2500 → (x3.toInt ≤ h ∨ (h : Int) ≤ x2.toInt - 24) → aAt v m o h) :
    ∃ m', f_X0_refresh fu (nI o) x2 x3 m = some ((), m') ∧ (∀ a j, a ≠ 4 → a ≠ 5 → gI m' a j = gI m a j) ∧ (∀ a j, gL m' a j = gL m a j) ∧ (∀ a j, gR m' a j = gR m a j) ∧ wRel v m' o ∧ aRel v m' o ∧
      (∀ o' j, o' < 32 → o' ≠ o → bt (gI m' 4 j) o' = bt (gI m 4 j) o') ∧ (∀ j, (j < 2500 * o ∨ 2500 * o + 2500 ≤ j) → gI m' 5 j = gI m 5 j) := by
  unfold f_X0_refresh
  simp only [hLet_e]
  rw [e_max, hBd_some]
  have e0 : (0 : Int32).toInt = 0 := rfl
  have e25 : (2500 : Int32).toInt = 2500 := rfl
  have e1 : (1 : Int32).toInt = 1 := rfl
  obtain ⟨h0, hh0, hq0⟩ : ∃ h0 : Nat, (if x2 < 0 then (0 : Int32) else x2) = nI h0 ∧ h0 ≤ 2500 ∧ ((h0 : Int) = x2.toInt ∨ (h0 = 0 ∧ x2.toInt < 0)) := by
    by_cases c : x2 < 0
    · rw [if_pos c]
      rw [i_lt, e0] at c
      exact ⟨0, rfl, by omega, Or.inr ⟨rfl, c⟩⟩
    · rw [if_neg c]
      obtain ⟨j, hj, rfl⟩ := nI_of c
      rw [nI_toInt hj] at h2
      exact ⟨j, rfl, by omega, Or.inl (nI_toInt hj).symm⟩
  rw [hh0]
  obtain ⟨m1, f1, f2, f3⟩ := rf_loop1 fu ho x2 x3 fu h0 m hq0.1 (by omega) hr
  rw [f1]
  have hw1 : wRel v m1 o := by
    intro j hj
    rw [f3 j o (by omega)]
    by_cases c : o = o ∧ h0 ≤ j ∧ j < 2500 ∧ (j : Int) < x3.toInt
    · rw [if_pos c]
    · rw [if_neg c]
      exact hw j hj (by omega)
  unfold f_X0_refresh_78
  simp only [hLet_e]
  rw [e_min, hBd_some]
  have e5 : nI o * 2500 = nI (2500 * o) := by rw [show (2500 : Int32) = nI 2500 from rfl, pk_mul, Nat.mul_comm]
  rw [e5]
  generalize hy : (if (2500 : Int32) < x3 then (2500 : Int32) else x3) = y
  have hyv : y.toInt ≤ 2500 ∧ -1000000 ≤ y.toInt ∧ (∀ h : Nat, h < 2500 → y.toInt ≤ h → x3.toInt ≤ h) := by
    rw [← hy]
    by_cases c : (2500 : Int32) < x3
    · rw [if_pos c, e25]
      exact ⟨by omega, by omega, fun h a b => by omega⟩
    · rw [if_neg c]
      rw [i_lt, e25] at c
      exact ⟨by omega, h3.1, fun h a b => b⟩
  have ey : (y - 1).toInt = y.toInt - 1 := by rw [i_sub] <;> rw [e1] <;> omega
  have ha1 : ∀ h : Nat, h < 2500 → (y - 1).toInt < h → aAt v m1 o h := by
    intro h hh hq i hi
    rw [ey] at hq
    rw [f2.1 5 _ (by omega)]
    exact ha h hh (Or.inl (hyv.2.2 h hh (by omega))) i hi
  obtain ⟨m2, g1, g2, g3, g4, g5⟩ := rf_loop2 fu ho x2 (by omega) fu (y - 1) m1 (by rw [ey]; omega) (by rw [ey]; omega) (by rw [ey]; omega) hw1 ha1
  refine ⟨m2, g1, fun a j h4 h5 => (g2.1 a j h5).trans (f2.1 a j h4), fun a j => (g2.2.1 a j).trans (f2.2.1 a j), fun a j => (g2.2.2 a j).trans (f2.2.2 a j), fun h hh => ?_, fun h hh => ?_, fun o' j ho' hne => ?_, fun j hj => ?_⟩
  · rw [g2.1 4 _ (by omega)]
    exact hw1 h hh
  · by_cases c : (y - 1).toInt < h ∨ x2.toInt - 24 < h
    · exact g4 h hh c
    · intro i hi
      rw [g5 h hh (by omega), f2.1 5 _ (by omega)]
      exact ha h hh (Or.inr (by omega)) i hi
  · rw [g2.1 4 _ (by omega), f3 j o' ho', if_neg (fun z => hne z.1)]
  · rw [g3 j hj, f2.1 5 _ (by omega)]
