/-! ===== feast, clock, set, know on both sides ===== -/
theorem nar_b {x : Int32} (h : x = 0 ∨ x = 1) : vp_nar .boolean x = x := by
  rcases h with rfl | rfl <;> decide
theorem cx_putFeast {fu : Nat} (hfu : 3000 ≤ fu) {v m : hM} {n : Nat} (hv : vRel v n) (he : eRel v m n) {k d : Nat} (hk : k < n) (hd : d < 100) {x : Int32} (hx : x = 0 ∨ x = 1) :
    ∃ m', f_X0_putFeast fu (nI k) (nI d) x m = some ((), m') ∧ eRel (sI v 106 (100 * k + d) x) m' n ∧ keepE m m' := by
  have hn := hv.1
  have rk := hv.2.2.1 k hk
  obtain ⟨ho, hw, ha⟩ := he.2.2.2.1 k hk
  have h6 : hIn (nI k) 6 := hIn_lt (by omega) (by omega)
  have h100 : hIn (nI d) 100 := hIn_lt (by omega) (by omega)
  unfold f_X0_putFeast
  simp only [hLet_e, if_pos h6, if_pos h100, nar_b hx]
  rw [nI_clamp (show k < 2 ^ 31 by omega), nI_clamp (show d < 2 ^ 31 by omega)]
  generalize hm3 : sI m (6 + 2 * k + 1) d x = m3
  have g3 : ∀ a j, gI m3 a j = if a = 6 + 2 * k + 1 ∧ j = d then x else gI m a j := fun a j => by rw [← hm3]; rfl
  have g30 : gI m3 (6 + 2 * k) 0 = gI v 98 k := by rw [g3, if_neg (by omega)]; exact ho.1 0 (by omega)
  have g31 : gI m3 (6 + 2 * k) 1 = gI v 99 k := by rw [g3, if_neg (by omega)]; exact ho.1 1 (by omega)
  have g32 : gI m3 (6 + 2 * k) 2 = gI v 100 k := by rw [g3, if_neg (by omega)]; exact ho.1 2 (by omega)
  rw [g30, g31, g32]
  obtain ⟨r0, r1, r2, r3, r4, r5, r6, r7, r8⟩ := id rk
  have ed : (nI d).toInt = (d : Int) := nI_toInt (by omega)
  have e24 : (24 : Int32).toInt = 24 := rfl
  have e1 : (1 : Int32).toInt = 1 := rfl
  have q1 : (nI d * 24).toInt = 24 * (d : Int) := by rw [i_mul] <;> rw [ed, e24] <;> omega
  have q2 : (nI d * 24 + gI v 99 k).toInt = 24 * (d : Int) + (gI v 99 k).toInt := by rw [i_add] <;> rw [q1] <;> omega
  have q3 : (nI d * 24 + gI v 99 k - gI v 98 k).toInt = 24 * (d : Int) + (gI v 99 k).toInt - (gI v 98 k).toInt := by rw [i_sub] <;> rw [q2] <;> omega
  generalize nI d * 24 + gI v 99 k - gI v 98 k = y4 at q3 ⊢
  have q4 : (y4 - 1).toInt = y4.toInt - 1 := by rw [i_sub] <;> rw [e1] <;> omega
  have q5 : (y4 + gI v 100 k).toInt = y4.toInt + (gI v 100 k).toInt := by rw [i_add] <;> omega
  have q6 : (y4 + gI v 100 k + 1).toInt = y4.toInt + (gI v 100 k).toInt + 1 := by rw [i_add] <;> rw [q5, e1] <;> omega
  generalize y4 - 1 = x2 at q4 ⊢
  generalize y4 + gI v 100 k + 1 = x3 at q6 ⊢
  clear q1 q2 q5
  generalize hv' : sI v 106 (100 * k + d) x = v'
  have gv : ∀ a j, gI v' a j = if a = 106 ∧ j = 100 * k + d then x else gI v a j := fun a j => by rw [← hv']; rfl
  have hv1 : ∀ j, j < 8 → gI v' (98 + j) k = gI v (98 + j) k := fun j hj => by rw [gv, if_neg (by omega)]
  have hv2 : ∀ e, e < 100 → e ≠ d → gI v' 106 (100 * k + e) = gI v 106 (100 * k + e) := fun e h1 h2 => by rw [gv, if_neg (by omega)]
  have hop : ∀ h : Nat, h < 2560 → ((h : Int) < x2.toInt ∨ x3.toInt ≤ h) → opn v' k (nI h) = opn v k (nI h) := fun h hh hq => opn_feast rk hd hv1 hv2 (by omega) (by omega)
  have hr : oRel v' m3 k := by
    refine ⟨fun j hj => ?_, fun e hz => ?_⟩
    · rw [g3, if_neg (by omega), hv1 j hj]; exact ho.1 j hj
    · rw [g3, gv]
      by_cases c : e = d
      · subst c; rw [if_pos ⟨rfl, rfl⟩, if_pos ⟨rfl, rfl⟩]
      · rw [if_neg (fun q => c q.2), if_neg (by omega)]; exact ho.2 e hz
  obtain ⟨m4, f1, f2, f3, f4, f5, f6, f7, f8⟩ := cx_refresh hfu (show k < 6 by omega) (x2 := x2) (x3 := x3) (by omega) hr
    (fun h hh hq => by rw [g3, if_neg (by omega), hop h hh hq]; exact hw h hh)
    (fun h hh hq => by rw [gH_k (m := m) (by rw [g3, if_neg (by omega)]) (by rw [g3, if_neg (by omega)]), hop h hh hq]; exact ha h hh)
  rw [f1, hBd_some]
  refine ⟨m4, rfl, e_upd hn hk he (fun a j h4 h5 h6 h7 => by rw [f2 a j h4 h5, g3, if_neg (fun q => h7 q.1)]) (by rw [gv, if_neg (by omega)]) (by rw [gv, if_neg (by omega)]) (fun j => by rw [gv, if_neg (by omega)]) (fun o ho2 hne => ⟨fun j hj => by rw [gv, if_neg (by omega)], fun e hz => by rw [gv, if_neg (by omega)]⟩) ⟨hr.keep (fun j => f2 _ j (by omega) (by omega)) (fun j => f2 _ j (by omega) (by omega)), f5, f6⟩ (fun o' j h1 h2 => by rw [f7 o' j h1 h2, g3, if_neg (by omega)]) (fun j hj => by rw [f8 j hj, g3, if_neg (by omega)]), ?_⟩
  refine ⟨fun a j hz => ?_, fun a j => (f3 a j).trans (by rw [← hm3]; rfl), fun a j => (f4 a j).trans (by rw [← hm3]; rfl)⟩
  rw [f2 a j (by omega) (by omega), g3, if_neg (by omega)]
theorem cx_feast {fu : Nat} (hfu : 3000 ≤ fu) {v m : hM} {n : Nat} (hv : vRel v n) (he : eRel v m n) (o d : Int32) {x : Int32} (hx : x = 0 ∨ x = 1) :
    ∃ m', f_X10_feast fu o d x m = some (if hIn o n ∧ hIn d 100 then 1 else 0, m') ∧ eRel (if hIn o n ∧ hIn d 100 then sI v 106 (100 * o.toNatClampNeg + d.toNatClampNeg) x else v) m' n ∧ keepE m m' := by
  have hn := hv.1
  unfold f_X10_feast
  rw [cx_has fu o m (by omega) he.1, hBd_some]
  by_cases c1 : hIn o n
  · rw [if_pos c1, if_neg (by decide), cx_isDay, hBd_some]
    by_cases c2 : hIn d 100
    · obtain ⟨k, hk, rfl⟩ := hIn_of c1 (by omega)
      obtain ⟨e, hz, rfl⟩ := hIn_of c2 (by omega)
      obtain ⟨m', f1, f2, f3⟩ := cx_putFeast hfu hv he hk hz hx
      rw [if_pos c2, if_pos (by decide), f1, hBd_some, if_pos (show hIn (nI k) n ∧ hIn (nI e) 100 from ⟨c1, c2⟩), if_pos (show hIn (nI k) n ∧ hIn (nI e) 100 from ⟨c1, c2⟩), nI_clamp (show k < 2 ^ 31 by omega), nI_clamp (show e < 2 ^ 31 by omega)]
      exact ⟨m', rfl, f2, f3⟩
    · rw [if_neg c2, if_neg (fun q => q rfl), if_neg (fun q => c2 q.2), if_neg (fun q => c2 q.2)]
      exact ⟨m, rfl, he, keepE.rf⟩
  · rw [if_neg c1, if_pos rfl, if_neg (fun q => c1 q.1), if_neg (fun q => c1 q.1)]
    exact ⟨m, rfl, he, keepE.rf⟩
theorem rx_feast (fu : Nat) {m : hM} {n : Nat} (hv : vRel m n) (o d : Int32) {x : Int32} (hx : x = 0 ∨ x = 1) :
    f_X11_feast fu o d x m = some (if hIn o n ∧ hIn d 100 then 1 else 0, if hIn o n ∧ hIn d 100 then sI (sI m 96 0 0) 106 (100 * o.toNatClampNeg + d.toNatClampNeg) x else sI m 96 0 0) := by
  have hn := hv.1
  unfold f_X11_feast
  simp only [hLet_e]
  have h3 : gI (sI m 96 0 0) 96 3 = nI n := hv.2.1
  rw [rx_isOffice fu o _ (by omega) h3, hBd_some]
  by_cases c1 : hIn o n
  · rw [if_pos c1, if_neg (by decide), rx_isDay, hBd_some]
    by_cases c2 : hIn d 100
    · obtain ⟨k, hk, rfl⟩ := hIn_of c1 (by omega)
      obtain ⟨q1, q2⟩ := fe_ix (show k < 6 by omega) c2
      rw [if_pos c2, if_pos (by decide), if_pos q1, q2, nar_b hx, if_pos (show hIn (nI k) n ∧ hIn d 100 from ⟨c1, c2⟩), if_pos (show hIn (nI k) n ∧ hIn d 100 from ⟨c1, c2⟩), nI_clamp (show k < 2 ^ 31 by omega)]
    · rw [if_neg c2, if_neg (fun q => q rfl), if_neg (fun q => c2 q.2), if_neg (fun q => c2 q.2)]
  · rw [if_neg c1, if_pos rfl, if_neg (fun q => c1 q.1), if_neg (fun q => c1 q.1)]
theorem rx_clock (fu : Nat) {m : hM} {n : Nat} (hv : vRel m n) (o h b : Int32) :
    f_X11_clock fu o h b m = some (if hIn o n ∧ hIn h 2400 ∧ (-1 ≤ b.toInt ∧ b.toInt ≤ 1) then 1 else 0, if hIn o n ∧ hIn h 2400 ∧ (-1 ≤ b.toInt ∧ b.toInt ≤ 1) then vClock (sI m 96 0 0) o.toNatClampNeg h b else sI m 96 0 0) := by
  have hn := hv.1
  unfold f_X11_clock
  simp only [hLet_e]
  have h3 : gI (sI m 96 0 0) 96 3 = nI n := hv.2.1
  rw [rx_isOffice fu o _ (by omega) h3, hBd_some]
  by_cases c1 : hIn o n
  · rw [if_pos c1, if_neg (by decide), rx_isHour, hBd_some]
    by_cases c2 : hIn h 2400
    · rw [if_pos c2, if_neg (by decide), rx_inI, hBd_some]
      show (if ¬ (if (-1 : Int) ≤ b.toInt ∧ b.toInt ≤ 1 then (1 : Int32) else 0) = 0 then _ else _) = _
      by_cases c3 : (-1 : Int) ≤ b.toInt ∧ b.toInt ≤ 1
      · obtain ⟨k, hk, rfl⟩ := hIn_of c1 (by omega)
        have h6 : hIn (nI k) 6 := hIn_lt (by omega) (by omega)
        rw [if_pos c3, if_pos (by decide), if_pos h6, if_pos h6, if_pos (show hIn (nI k) n ∧ hIn h 2400 ∧ (-1 ≤ b.toInt ∧ b.toInt ≤ 1) from ⟨c1, c2, c3⟩), if_pos (show hIn (nI k) n ∧ hIn h 2400 ∧ (-1 ≤ b.toInt ∧ b.toInt ≤ 1) from ⟨c1, c2, c3⟩)]
        rfl
      · rw [if_neg c3, if_neg (fun q => q rfl), if_neg (fun q => c3 q.2.2), if_neg (fun q => c3 q.2.2)]
    · rw [if_neg c2, if_pos rfl, if_neg (fun q => c2 q.2.1), if_neg (fun q => c2 q.2.1)]
  · rw [if_neg c1, if_pos rfl, if_neg (fun q => c1 q.1), if_neg (fun q => c1 q.1)]
