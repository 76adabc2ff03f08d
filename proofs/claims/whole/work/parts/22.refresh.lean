/-! ===== the tables of the class: who is at work in which hour, and the 24 hours ahead ===== -/
/-- office o's bits in the table of hours; its 24 hours ahead -/
def wRel (v m : hM) (o : Nat) : Prop := ∀ h, h < 2500 → bt (gI m 4 h) o = decide (opn v o (nI h) = 1)
def aAt (v m : hM) (o h : Nat) : Prop := ∀ i, i < 32 → bt (gI m 5 (2500 * o + h)) i = (decide (i < 24 ∧ h + i < 2500) && decide (opn v o (nI (h + i)) = 1))
def aRel (v m : hM) (o : Nat) : Prop := ∀ h, h < 2500 → aAt v m o h
/-- nothing but cell k is another -/
def only (k : Nat) (m m' : hM) : Prop := (∀ a j, a ≠ k → gI m' a j = gI m a j) ∧ (∀ a j, gL m' a j = gL m a j) ∧ ∀ a j, gR m' a j = gR m a j
theorem only.rf {k : Nat} {m : hM} : only k m m := ⟨fun _ _ _ => rfl, fun _ _ => rfl, fun _ _ => rfl⟩
theorem only.tr {k : Nat} {m m1 m2 : hM} (h : only k m m1) (g : only k m1 m2) : only k m m2 := ⟨fun a j ha => (g.1 a j ha).trans (h.1 a j ha), fun a j => (g.2.1 a j).trans (h.2.1 a j), fun a j => (g.2.2 a j).trans (h.2.2 a j)⟩
theorem only.sI {k j : Nat} {m : hM} {x : Int32} : only k m (sI m k j x) := ⟨fun a b ha => by rw [gI_sI, if_neg (fun z => ha z.1)], fun _ _ => rfl, fun _ _ => rfl⟩
theorem oRel.keep {v m m' : hM} {o : Nat} (h : oRel v m o) (h2 : ∀ j, gI m' (6 + 2 * o) j = gI m (6 + 2 * o) j) (h3 : ∀ j, gI m' (6 + 2 * o + 1) j = gI m (6 + 2 * o + 1) j) : oRel v m' o :=
  ⟨fun j hj => (h2 j).trans (h.1 j hj), fun d hd => (h3 d).trans (h.2 d hd)⟩
theorem i_n0 {h : Nat} (hh : h < 2 ^ 31) : (nI h).toInt = (h : Int) := nI_toInt hh
theorem rf_loop1 (fu : Nat) {v : hM} {o : Nat} (ho : o < 6) (x2 x3 : Int32) : ∀ (n h : Nat) (m : hM), h ≤ 2500 → 2500 - h < n → oRel v m o →
    ∃ m', f_X0_refresh_12 fu n (nI o) x2 x3 (1 <<< (nI o &&& 31)) (nI h) m = f_X0_refresh_78 fu (nI o) x2 x3 m' ∧ only 4 m m' ∧
      ∀ j i, i < 32 → bt (gI m' 4 j) i = if i = o ∧ h ≤ j ∧ j < 2500 ∧ (j : Int) < x3.toInt then decide (opn v o (nI j) = 1) else bt (gI m 4 j) i := by
  have h6 : hIn (nI o) 6 := hIn_lt ho (by omega)
  have hc : (nI o).toNatClampNeg = o := nI_clamp (by omega)
  intro n
  induction n with
  | zero => intro h m h1 h2; omega
  | succ n ih =>
    intro h m hh hn hr
    have eh : (nI h).toInt = (h : Int) := nI_toInt (by omega)
    rw [f_X0_refresh_12_s]
    unfold s_X0_refresh_12
    by_cases c1 : x3 ≤ nI h
    · rw [if_pos c1]
      rw [i_le, eh] at c1
      refine ⟨m, rfl, only.rf, fun j i hi => ?_⟩
      rw [if_neg (by omega)]
    · rw [if_neg c1]
      rw [i_le, eh] at c1
      by_cases c2 : (2500 : Int32) ≤ nI h
      · rw [if_pos c2]
        rw [i_le, eh] at c2
        have e25 : (2500 : Int32).toInt = 2500 := rfl
        refine ⟨m, rfl, only.rf, fun j i hi => ?_⟩
        rw [if_neg (by omega)]
      · rw [if_neg c2]
        rw [i_le, eh] at c2
        have e25 : (2500 : Int32).toInt = 2500 := rfl
        have hlt : h < 2500 := by omega
        have hin : hIn (nI h) 2500 := hIn_lt hlt (by omega)
        have hch : (nI h).toNatClampNeg = h := nI_clamp (by omega)
        rw [if_pos h6, hc, cx_atWork fu ho _ hr, hBd_some]
        have step : ∀ (w : Int32), (∀ i, i < 32 → bt w i = if i = o then decide (opn v o (nI h) = 1) else bt (gI m 4 h) i) →
            ∃ m', f_X0_refresh_71 fu (f_X0_refresh_12 fu n) (nI o) x2 x3 (1 <<< (nI o &&& 31)) (nI h) (nI h) w m = f_X0_refresh_78 fu (nI o) x2 x3 m' ∧ only 4 m m' ∧
              ∀ j i, i < 32 → bt (gI m' 4 j) i = if i = o ∧ h ≤ j ∧ j < 2500 ∧ (j : Int) < x3.toInt then decide (opn v o (nI j) = 1) else bt (gI m 4 j) i := by
          intro w hw
          unfold f_X0_refresh_71
          rw [if_pos hin, hch]
          simp only [hLet_e, nI_1]
          have hr' : oRel v (sI m 4 h w) o := hr.keep (fun j => by rw [gI_sI, if_neg (by omega)]) (fun j => by rw [gI_sI, if_neg (by omega)])
          obtain ⟨m', e1, e2, e3⟩ := ih (h + 1) (sI m 4 h w) (by omega) (by omega) hr'
          refine ⟨m', e1, only.sI.tr e2, fun j i hi => ?_⟩
          rw [e3 j i hi, gI_sI]
          by_cases hj : j = h
          · subst hj
            rw [if_neg (by omega), if_pos ⟨rfl, rfl⟩, hw i hi]
            by_cases hio : i = o
            · rw [if_pos hio, if_pos ⟨hio, by omega, hlt, by omega⟩]
            · rw [if_neg hio, if_neg (fun z => hio z.1)]
          · rw [if_neg (show ¬ (4 = 4 ∧ j = h) from fun z => hj z.2)]
            by_cases hq : i = o ∧ h + 1 ≤ j ∧ j < 2500 ∧ (j : Int) < x3.toInt
            · rw [if_pos hq, if_pos ⟨hq.1, by omega, hq.2.2⟩]
            · rw [if_neg hq, if_neg (fun z => hq ⟨z.1, by omega, z.2.2⟩)]
        by_cases c3 : opn v o (nI h) = 0
        · rw [if_pos c3, if_pos hin, hch]
          refine step _ (fun i hi => ?_)
          rw [b_and, b_not hi, b_one (by omega) hi]
          by_cases hio : i = o
          · rw [if_pos hio, c3]
            simp [hio]
          · rw [if_neg hio]
            simp [hio]
        · rw [if_neg c3, if_pos hin, hch]
          have c4 : opn v o (nI h) = 1 := (opn_01 v o (nI h)).resolve_left c3
          refine step _ (fun i hi => ?_)
          rw [b_or, b_one (by omega) hi]
          by_cases hio : i = o
          · rw [if_pos hio, c4]
            simp [hio]
          · rw [if_neg hio]
            simp [hio]
