/-! ===== the earth: what v tells, and what the class holds ===== -/
def oRng (v : hM) (o : Nat) : Prop := (0 ≤ (gI v 98 o).toInt ∧ (gI v 98 o).toInt ≤ 23) ∧ (0 ≤ (gI v 99 o).toInt ∧ (gI v 99 o).toInt ≤ 23) ∧ (1 ≤ (gI v 100 o).toInt ∧ (gI v 100 o).toInt ≤ 16) ∧ (1 ≤ (gI v 101 o).toInt ∧ (gI v 101 o).toInt ≤ 99) ∧ (1 ≤ (gI v 102 o).toInt ∧ (gI v 102 o).toInt ≤ 9) ∧ (1 ≤ (gI v 103 o).toInt ∧ (gI v 103 o).toInt ≤ 63) ∧ (0 ≤ (gI v 104 o).toInt ∧ (gI v 104 o).toInt ≤ 2399) ∧ (-1 ≤ (gI v 105 o).toInt ∧ (gI v 105 o).toInt ≤ 1) ∧ ∀ d, d < 100 → gI v 106 (100 * o + d) = 0 ∨ gI v 106 (100 * o + d) = 1
def vRel (v : hM) (n : Nat) : Prop := n ≤ 6 ∧ gI v 96 3 = nI n ∧ (∀ o, o < n → oRng v o) ∧ (∀ a b, a < n → b < n → 0 ≤ (gI v 107 (6 * a + b)).toInt ∧ (gI v 107 (6 * a + b)).toInt ≤ 9 ∧ gI v 107 (6 * a + b) = gI v 107 (6 * b + a)) ∧ (∀ a, a < n → gI v 107 (6 * a + a) = 9) ∧ (0 ≤ (gI v 96 14).toInt ∧ (gI v 96 14).toInt ≤ 20) ∧ (0 ≤ (gI v 96 15).toInt ∧ (gI v 96 15).toInt ≤ 100)
def eRel (v m : hM) (n : Nat) : Prop := gI m 1 4 = nI n ∧ gI m 1 5 = gI v 96 14 ∧ gI m 1 6 = gI v 96 15 ∧ (∀ o, o < n → oRel v m o ∧ wRel v m o ∧ aRel v m o) ∧ (∀ o, n ≤ o → o < 6 → gI m (6 + 2 * o) 6 = 0 ∧ gI m (6 + 2 * o) 7 = 0 ∧ ∀ d, d < 100 → gI m (6 + 2 * o + 1) d = 0) ∧ (∀ a b, a < n → b < n → gI m 3 (6 * a + b) = gI v 107 (6 * a + b)) ∧ (∀ a b, a < 6 → b < 6 → (n ≤ a ∨ n ≤ b) → gI m 3 (6 * a + b) = if a = b then 9 else 0)
/-- nothing but the earth's cells is another -/
def keepE (m m' : hM) : Prop := (∀ a j, ¬ (1 ≤ a ∧ a ≤ 17) → gI m' a j = gI m a j) ∧ (∀ a j, gL m' a j = gL m a j) ∧ ∀ a j, gR m' a j = gR m a j
theorem keepE.rf {m : hM} : keepE m m := ⟨fun _ _ _ => rfl, fun _ _ => rfl, fun _ _ => rfl⟩
theorem keepE.tr {m m1 m2 : hM} (h : keepE m m1) (g : keepE m1 m2) : keepE m m2 := ⟨fun a j ha => (g.1 a j ha).trans (h.1 a j ha), fun a j => (g.2.1 a j).trans (h.2.1 a j), fun a j => (g.2.2 a j).trans (h.2.2 a j)⟩
theorem keepE.sI {m : hM} {k j : Nat} {x : Int32} (h : 1 ≤ k ∧ k ≤ 17) : keepE m (sI m k j x) := ⟨fun a b ha => by rw [gI_sI, if_neg (fun z => ha (by rw [z.1]; exact h))], fun _ _ => rfl, fun _ _ => rfl⟩
theorem opn_congr {v v' : hM} {o : Nat} (h1 : ∀ j, j < 8 → gI v' (98 + j) o = gI v (98 + j) o) (h2 : ∀ d, d < 100 → gI v' 106 (100 * o + d) = gI v 106 (100 * o + d)) (h : Int32) : opn v' o h = opn v o h := by
  have e0 : gI v' 98 o = gI v 98 o := h1 0 (by omega)
  have e1 : gI v' 99 o = gI v 99 o := h1 1 (by omega)
  have e2 : gI v' 100 o = gI v 100 o := h1 2 (by omega)
  have e6 : gI v' 104 o = gI v 104 o := h1 6 (by omega)
  have e7 : gI v' 105 o = gI v 105 o := h1 7 (by omega)
  have l1 : locI v' o h = locI v o h := by unfold locI; rw [e0, e6, e7]
  have l2 : gonI v' o h = gonI v o h := by unfold gonI; rw [l1, e1]
  have l3 : dayI v' o h = dayI v o h := by unfold dayI; rw [l1, l2]
  unfold opn
  rw [e2, l2, l3]
  by_cases c : hIn (dayI v o h) 100
  · rw [if_pos c, if_pos c, h2 _ (cl_lt c)]
  · rw [if_neg c, if_neg c]
/-- an office whose cells and whose tale are as they were -/
theorem off_keep {v v' m m' : hM} {o : Nat} (h : oRel v m o ∧ wRel v m o ∧ aRel v m o) (h1 : ∀ j, j < 8 → gI v' (98 + j) o = gI v (98 + j) o) (h2 : ∀ d, d < 100 → gI v' 106 (100 * o + d) = gI v 106 (100 * o + d)) (h3 : ∀ j, gI m' (6 + 2 * o) j = gI m (6 + 2 * o) j) (h4 : ∀ j, gI m' (6 + 2 * o + 1) j = gI m (6 + 2 * o + 1) j) (h5 : ∀ j, bt (gI m' 4 j) o = bt (gI m 4 j) o) (h6 : ∀ j, 80 * o ≤ j → j < 80 * o + 80 → gI m' 5 j = gI m 5 j) : oRel v' m' o ∧ wRel v' m' o ∧ aRel v' m' o := by
  refine ⟨⟨fun j hj => ?_, fun d hd => ?_⟩, fun x hx => ?_, fun x hx => ?_⟩
  · rw [h3, h1 j hj]; exact h.1.1 j hj
  · rw [h4, h2 d hd]; exact h.1.2 d hd
  · rw [h5, opn_congr h1 h2]; exact h.2.1 x hx
  · rw [gH_k (h6 _ (by omega) (by omega)) (h6 _ (by omega) (by omega)), opn_congr h1 h2]; exact h.2.2 x hx
/-- all the hours of an office are told anew -/
theorem cx_all {fu : Nat} (hfu : 3000 ≤ fu) {v m : hM} {o : Nat} (ho : o < 6) (hr : oRel v m o) :
    ∃ m', f_X0_refresh fu (nI o) 0 2560 m = some ((), m') ∧ (∀ a j, a ≠ 4 → a ≠ 5 → gI m' a j = gI m a j) ∧ (∀ a j, gL m' a j = gL m a j) ∧ (∀ a j, gR m' a j = gR m a j) ∧ wRel v m' o ∧ aRel v m' o ∧
      (∀ o' j, o' < 32 → o' ≠ o → bt (gI m' 4 j) o' = bt (gI m 4 j) o') ∧ (∀ j, (j < 80 * o ∨ 80 * o + 80 ≤ j) → gI m' 5 j = gI m 5 j) := by
  have e0 : (0 : Int32).toInt = 0 := rfl
  have e25 : (2560 : Int32).toInt = 2560 := rfl
  exact cx_refresh hfu ho (by rw [e0]; omega) hr (fun h hh q => by rw [e0, e25] at q; omega) (fun h hh q => by rw [e0, e25] at q; omega)
theorem cx_open (fu : Nat) {v m : hM} {n : Nat} (hv : vRel v n) (he : eRel v m n) (o h : Int32) : f_X10_open fu o h m = some (if hIn o n ∧ hIn h 2400 then opn v o.toNatClampNeg h else -1, m) := by
  have hn := hv.1
  unfold f_X10_open
  rw [cx_has fu o m (by omega) he.1, hBd_some]
  by_cases c1 : hIn o n
  · rw [if_pos c1, if_neg (by decide), cx_isHour, hBd_some]
    by_cases c2 : hIn h 2400
    · obtain ⟨k, hk, rfl⟩ := hIn_of c1 (by omega)
      obtain ⟨x, hx, rfl⟩ := hIn_of c2 (by omega)
      rw [if_pos c2, if_pos (by decide), if_pos (hIn_lt (show x < 2560 by omega) (by omega)), if_pos ⟨c1, c2⟩, nI_clamp (by omega), nI_clamp (by omega), b_rd (by omega), (he.2.2.2.1 k hk).2.1 x (by omega)]
      rcases opn_01 v k (nI x) with e | e
      · rw [e]; rfl
      · rw [e]; rfl
    · rw [if_neg c2, if_neg (fun q => q rfl), if_neg (fun q => c2 q.2)]
  · rw [if_neg c1, if_pos rfl, if_neg (fun q => c1 q.1)]
theorem rx_open (fu : Nat) {m : hM} {n : Nat} (hv : vRel m n) (o h : Int32) : f_X11_open fu o h m = some (if hIn o n ∧ hIn h 2400 then opn m o.toNatClampNeg h else -1, sI m 96 0 0) := by
  have hn := hv.1
  unfold f_X11_open
  simp only [hLet_e]
  have h3 : gI (sI m 96 0 0) 96 3 = nI n := hv.2.1
  rw [rx_isOffice fu o _ (by omega) h3, hBd_some]
  by_cases c1 : hIn o n
  · rw [if_pos c1, if_neg (by decide), rx_isHour, hBd_some]
    by_cases c2 : hIn h 2400
    · obtain ⟨k, hk, rfl⟩ := hIn_of c1 (by omega)
      rw [if_pos c2, if_neg (by decide), rx_isOpen fu (show k < 6 by omega), hBd_some, rx_flag, hBd_some, if_pos (show hIn (nI k) n ∧ hIn h 2400 from ⟨c1, c2⟩), nI_clamp (by omega)]
      have e : opn (sI m 96 0 0) k h = opn m k h := opn_congr (fun j hj => by rw [gI_sI, if_neg (by omega)]) (fun d hd => by rw [gI_sI, if_neg (by omega)]) h
      rw [e]
      rcases opn_01 m k h with e | e
      · rw [e]; rfl
      · rw [e]; rfl
    · rw [if_neg c2, if_pos rfl, if_neg (fun q => c2 q.2)]
  · rw [if_neg c1, if_pos rfl, if_neg (fun q => c1 q.1)]
/-- clock: what v tells then -/
def vClock (v : hM) (o : Nat) (h b : Int32) : hM := sI (sI v 104 o h) 105 o b
theorem cx_clock {fu : Nat} (hfu : 3000 ≤ fu) {v m : hM} {n : Nat} (hv : vRel v n) (he : eRel v m n) (o h b : Int32) :
    ∃ m', f_X10_clock fu o h b m = some (if hIn o n ∧ hIn h 2400 ∧ (-1 ≤ b.toInt ∧ b.toInt ≤ 1) then 1 else 0, m') ∧ eRel (if hIn o n ∧ hIn h 2400 ∧ (-1 ≤ b.toInt ∧ b.toInt ≤ 1) then vClock v o.toNatClampNeg h b else v) m' n ∧ keepE m m' := by
  have hn := hv.1
  have em1 : (-1 : Int32).toInt = -1 := rfl
  have e1 : (1 : Int32).toInt = 1 := rfl
  unfold f_X10_clock
  rw [cx_has fu o m (by omega) he.1, hBd_some]
  by_cases c1 : hIn o n
  · rw [if_pos c1, if_neg (by decide), cx_isHour, hBd_some]
    by_cases c2 : hIn h 2400
    · rw [if_pos c2, if_neg (by decide)]
      by_cases c3 : b < -1
      · rw [if_pos c3]
        rw [i_lt, em1] at c3
        rw [if_neg (fun q => by omega), if_neg (fun q => by omega)]
        exact ⟨m, rfl, he, keepE.rf⟩
      · rw [if_neg c3]
        rw [i_lt, em1] at c3
        by_cases c4 : b ≤ 1
        · rw [if_pos c4]
          rw [i_le, e1] at c4
          obtain ⟨k, hk, rfl⟩ := hIn_of c1 (by omega)
          have h6 : hIn (nI k) 6 := hIn_lt (by omega) (by omega)
          simp only [hLet_e, if_pos h6]
          rw [nI_clamp (by omega)]
          have hok : hIn (nI k) n ∧ hIn h 2400 ∧ (-1 ≤ b.toInt ∧ b.toInt ≤ 1) := ⟨c1, c2, by omega, c4⟩
          rw [if_pos hok]
          generalize hm2 : sI (sI m (6 + 2 * k) 6 h) (6 + 2 * k) 7 b = m2
          have g2 : ∀ a j, gI m2 a j = if a = 6 + 2 * k ∧ j = 7 then b else if a = 6 + 2 * k ∧ j = 6 then h else gI m a j := fun a j => by rw [← hm2]; rfl
          have hr : oRel (vClock v k h b) m2 k := by
            refine ⟨fun j hj => ?_, fun d hd => ?_⟩
            · rw [g2]
              unfold vClock
              rw [gI_sI, gI_sI]
              by_cases j7 : j = 7
              · subst j7; rw [if_pos ⟨rfl, rfl⟩, if_pos ⟨rfl, rfl⟩]
              · rw [if_neg (fun q => j7 q.2), if_neg (show ¬ (98 + j = 105 ∧ k = k) from fun q => j7 (by omega))]
                by_cases j6 : j = 6
                · subst j6; rw [if_pos ⟨rfl, rfl⟩, if_pos ⟨rfl, rfl⟩]
                · rw [if_neg (fun q => j6 q.2), if_neg (show ¬ (98 + j = 104 ∧ k = k) from fun q => j6 (by omega))]
                  exact (he.2.2.2.1 k hk).1.1 j hj
            · rw [g2, if_neg (by omega), if_neg (by omega)]
              unfold vClock
              rw [gI_sI, if_neg (by omega), gI_sI, if_neg (by omega)]
              exact (he.2.2.2.1 k hk).1.2 d hd
          obtain ⟨m3, f1, f2, f3, f4, f5, f6, f7, f8⟩ := cx_all hfu (show k < 6 by omega) hr
          rw [f1, hBd_some]
          refine ⟨m3, rfl, ?_, ?_⟩
          · have gm : ∀ a j, a ≠ 4 → a ≠ 5 → a ≠ 6 + 2 * k → gI m3 a j = gI m a j := fun a j h4 h5 h6 => by rw [f2 a j h4 h5, g2, if_neg (fun q => h6 q.1), if_neg (fun q => h6 q.1)]
            have gv : ∀ a j, a ≠ 104 → a ≠ 105 → gI (vClock v k h b) a j = gI v a j := fun a j h4 h5 => by unfold vClock; rw [gI_sI, if_neg (fun q => h5 q.1), gI_sI, if_neg (fun q => h4 q.1)]
            have gv2 : ∀ a j, j ≠ k → gI (vClock v k h b) a j = gI v a j := fun a j h4 => by unfold vClock; rw [gI_sI, if_neg (fun q => h4 q.2), gI_sI, if_neg (fun q => h4 q.2)]
            rw [if_pos hok]
            refine ⟨?_, ?_, ?_, fun o ho => ?_, fun o ho ho6 => ?_, fun a b ha hb => ?_, fun a b ha hb hq => ?_⟩
            · rw [gm 1 4 (by omega) (by omega) (by omega)]; exact he.1
            · rw [gm 1 5 (by omega) (by omega) (by omega), gv 96 14 (by omega) (by omega)]; exact he.2.1
            · rw [gm 1 6 (by omega) (by omega) (by omega), gv 96 15 (by omega) (by omega)]; exact he.2.2.1
            · by_cases hok2 : o = k
              · subst hok2
                exact ⟨hr.keep (fun j => f2 _ j (by omega) (by omega)) (fun j => f2 _ j (by omega) (by omega)), f5, f6⟩
              · refine off_keep (he.2.2.2.1 o ho) (fun j hj => gv2 _ _ hok2) (fun d hd => gv _ _ (by omega) (by omega)) (fun j => gm _ j (by omega) (by omega) (by omega)) (fun j => gm _ j (by omega) (by omega) (by omega)) (fun j => ?_) (fun j h1 h2 => ?_)
                · rw [f7 o j (by omega) hok2, g2, if_neg (by omega), if_neg (by omega)]
                · rw [f8 j (by omega), g2, if_neg (by omega), if_neg (by omega)]
            · have hx := he.2.2.2.2.1 o ho ho6
              exact ⟨by rw [gm _ _ (by omega) (by omega) (by omega)]; exact hx.1, by rw [gm _ _ (by omega) (by omega) (by omega)]; exact hx.2.1, fun d hd => by rw [gm _ _ (by omega) (by omega) (by omega)]; exact hx.2.2 d hd⟩
            · rw [gm _ _ (by omega) (by omega) (by omega), gv _ _ (by omega) (by omega)]; exact he.2.2.2.2.2.1 a b ha hb
            · rw [gm _ _ (by omega) (by omega) (by omega)]; exact he.2.2.2.2.2.2 a b ha hb hq
          · refine ⟨fun a j ha => ?_, fun a j => (f3 a j).trans (by rw [← hm2]; rfl), fun a j => (f4 a j).trans (by rw [← hm2]; rfl)⟩
            rw [f2 a j (by omega) (by omega), g2, if_neg (by omega), if_neg (by omega)]
        · rw [if_neg c4]
          rw [i_le, e1] at c4
          rw [if_neg (fun q => by omega), if_neg (fun q => by omega)]
          exact ⟨m, rfl, he, keepE.rf⟩
    · rw [if_neg c2, if_pos rfl, if_neg (fun q => c2 q.2.1), if_neg (fun q => c2 q.2.1)]
      exact ⟨m, rfl, he, keepE.rf⟩
  · rw [if_neg c1, if_pos rfl, if_neg (fun q => c1 q.1), if_neg (fun q => c1 q.1)]
    exact ⟨m, rfl, he, keepE.rf⟩
