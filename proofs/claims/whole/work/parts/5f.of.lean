/-! ===== value, of, row: what the reference answers, and when it refuses ===== -/
theorem IW.th2 {m m1 : hM} {n c k t : Nat} (h : IW m m n c k t) (f : fr PE m m1) (he : erR m m1 n) (j : jk m1 55 c) {x : Int32} : IV (sI (sI m1 96 0 0) 96 0 x) :=
  IW.q1 (h.m6 f he j) (PE_hi f) f.2.1 f.2.2 (fr.th.tr fr.th) (fun a j z => P0S_ok z)
theorem IW.thr {m : hM} {n c k t : Nat} (h : IW m m n c k t) {x : Int32} : IV (sI (sI m 96 0 0) 96 0 x) := h.th2 fr.rf h.1 h.2.2.2.2.2.1
def ofV (v : hM) (S : Nat → Int32) (p j : Nat) : Int32 := if j < 8 then S (3 + 8 * j + p) else if rdy v S p then 1 else 0
theorem rx_of {fu : Nat} (hfu : 100 ≤ fu) {m : hM} {n c k t : Nat} (h : IW m m n c k t) (x1 x2 : Int32) :
    (¬ (hIn x1 c ∧ hIn x2 9) → f_X11_of fu x1 x2 m = some (0, sI (sI m 96 0 0) 96 0 1)) ∧ (hIn x1 c → hIn x2 9 → f_X11_of fu x1 x2 m = some (ofV m (sFn m) x1.toNatClampNeg x2.toNatClampNeg, sI m 96 0 0)) := by
  have hp := h.2.1.1
  have hc := hp.1
  have q0 : (0 : Int64).toInt = 0 := rfl
  have q8 : (8 : Int64).toInt = 8 := rfl
  have g16 : gI (sI m 96 0 0) 96 16 = nI c := by rw [gI_sn (by omega)]; exact hp.2.1
  have e9 : hIn x2 9 ↔ ((0 : Int64).toInt ≤ x2.toInt ∧ x2.toInt ≤ (8 : Int64).toInt) := by
    rw [q0, q8]
    exact ⟨fun z => ⟨z.1, by have := z.2; omega⟩, fun z => ⟨z.1, by omega⟩⟩
  unfold f_X11_of f_X11_of_25 f_X11_refuse
  simp only [hLet_n, hBd_some]
  rw [rx_isPiece fu x1 _ (by omega) g16, hBd_some]
  by_cases c1 : hIn x1 c
  rotate_left
  · rw [if_neg c1, if_pos rfl]
    exact ⟨fun _ => rfl, fun z => absurd z c1⟩
  rw [if_pos c1, if_neg (by decide), rx_inI, hBd_some]
  by_cases c2 : hIn x2 9
  rotate_left
  · rw [if_neg (fun z => c2 (e9.mpr z)), if_neg (by decide)]
    exact ⟨fun _ => rfl, fun _ z => absurd z c2⟩
  rw [if_pos (e9.mp c2), if_pos (by decide)]
  refine ⟨fun z => absurd ⟨c1, c2⟩ z, fun _ _ => ?_⟩
  obtain ⟨p, hpc, rfl⟩ := hIn_of c1 (by omega)
  obtain ⟨j, hj, rfl⟩ := hIn_of c2 (by omega)
  rw [nI_clamp (show p < 2 ^ 31 by omega), nI_clamp (show j < 2 ^ 31 by omega)]
  have g : ∀ i, i < 127 → gI (sI m 96 0 0) 114 i = sFn m i := fun i hi => by rw [gI_sn (by omega)]; rfl
  have E : ∀ b : Nat, b ≤ 59 → (if hIn (nI (b + p)) 127 then some (gI (sI m 96 0 0) 114 (nI (b + p)).toNatClampNeg, sI m 96 0 0) else none) = some (sFn m (b + p), sI m 96 0 0) := fun b hb => by
    rw [if_pos (hIn_lt (show b + p < 127 by omega) (by omega)), nI_clamp (show b + p < 2 ^ 31 by omega), g _ (by omega)]
  have ne : ∀ a b : Nat, a < 9 → b < 9 → a ≠ b → ¬ nI a = nI b := fun a b ha hb hab z => hab ((nI_eq (by omega) (by omega)).mp z)
  rw [q_3, q_11, q_19, q_27, q_35, q_43, q_51, q_59, E 3 (by omega), E 11 (by omega), E 19 (by omega), E 27 (by omega), E 35 (by omega), E 43 (by omega), E 51 (by omega), E 59 (by omega)]
  rw [rx_isReady hfu (eqV_th eqV.rf) g (show p < 8 by omega), hBd_some, rx_flag, hBd_some]
  unfold ofV
  by_cases j0 : j = 0
  · subst j0; rw [if_pos (show nI 0 = 0 from rfl), if_pos (by omega)]
  rw [if_neg (show ¬ nI j = 0 from ne j 0 hj (by omega) j0)]
  by_cases j1 : j = 1
  · subst j1; rw [if_pos (show nI 1 = 1 from rfl), if_pos (by omega)]
  rw [if_neg (show ¬ nI j = 1 from ne j 1 hj (by omega) j1)]
  by_cases j2 : j = 2
  · subst j2; rw [if_pos (show nI 2 = 2 from rfl), if_pos (by omega)]
  rw [if_neg (show ¬ nI j = 2 from ne j 2 hj (by omega) j2)]
  by_cases j3 : j = 3
  · subst j3; rw [if_pos (show nI 3 = 3 from rfl), if_pos (by omega)]
  rw [if_neg (show ¬ nI j = 3 from ne j 3 hj (by omega) j3)]
  by_cases j4 : j = 4
  · subst j4; rw [if_pos (show nI 4 = 4 from rfl), if_pos (by omega)]
  rw [if_neg (show ¬ nI j = 4 from ne j 4 hj (by omega) j4)]
  by_cases j5 : j = 5
  · subst j5; rw [if_pos (show nI 5 = 5 from rfl), if_pos (by omega)]
  rw [if_neg (show ¬ nI j = 5 from ne j 5 hj (by omega) j5)]
  by_cases j6 : j = 6
  · subst j6; rw [if_pos (show nI 6 = 6 from rfl), if_pos (by omega)]
  rw [if_neg (show ¬ nI j = 6 from ne j 6 hj (by omega) j6)]
  by_cases j7 : j = 7
  · subst j7; rw [if_pos (show nI 7 = 7 from rfl), if_pos (by omega)]
  rw [if_neg (show ¬ nI j = 7 from ne j 7 hj (by omega) j7), if_neg (show ¬ j < 8 by omega)]
  by_cases r : rdy m (sFn m) p = true
  · rw [if_pos r, if_neg (by decide)]
  · rw [if_neg r, if_pos rfl]
theorem rx_row {fu : Nat} {m : hM} {L : Nat} (hL : L ≤ 24) (h : gI m 96 1 = nI L) (x1 : Int32) :
    (¬ hIn x1 L → f_X11_row fu x1 m = some (0, sI (sI m 96 0 0) 96 0 1)) ∧ (hIn x1 L → f_X11_row fu x1 m = some (gL m 97 x1.toNatClampNeg, sI m 96 0 0)) := by
  have g : gI (sI m 96 0 0) 96 1 = nI L := by rw [gI_sn (by omega)]; exact h
  have e : ((0 : Int64) ≤ x1.toInt64 ∧ x1.toInt64 ≤ (nI L - 1).toInt64) ↔ hIn x1 L := by
    rw [w_le0, w_le, nI_m1 (by omega)]
    have q0 : (0 : Int64).toInt = 0 := rfl
    rw [q0]
    exact ⟨fun z => ⟨z.1, by omega⟩, fun z => ⟨z.1, by have := z.2; omega⟩⟩
  unfold f_X11_row
  rw [hLet_n, g, rx_in, hBd_some]
  by_cases c1 : hIn x1 L
  · rw [if_pos (e.mpr c1), if_pos (by decide), if_pos (show hIn x1 24 from ⟨c1.1, by have := c1.2; omega⟩)]
    exact ⟨fun z => absurd c1 z, fun _ => rfl⟩
  · rw [if_neg (fun z => c1 (e.mp z)), if_neg (by decide), hLet_n]
    exact ⟨fun _ => rfl, fun z => absurd z c1⟩
theorem rx_value {fu : Nat} (hfu : 300 ≤ fu) {v M mc : hM} {n c x : Nat} {S : Nat → Int32} (hv : vRel v n) (hp : pRng v n c) (hr : gI v 117 0 = 0 ∨ ∃ L, 0 < L ∧ rRel v mc L) (g : eqV v M) (hS : rS S M) (hI : sInv v S n c) (hx : x < 2400) (h0 : S 0 = nI x) (x1 x2 : Int32) :
    (¬ (hIn x1 c ∧ hIn x2 n ∧ gI v 117 0 ≠ 0) → f_X11_value fu x1 x2 M = some (0, sI (sI M 96 0 0) 96 0 1)) ∧ (hIn x1 c → hIn x2 n → gI v 117 0 ≠ 0 → ∃ M', f_X11_value fu x1 x2 M = some (evR v S x1.toNatClampNeg x2.toNatClampNeg (x + 1), M') ∧ fr P0S M M') := by
  have hn := hv.1
  have hc := hp.1
  have g1 : eqV v (sI M 96 0 0) := eqV_th g
  have s1 : rS S (sI M 96 0 0) := fun j hj => by rw [gI_sn (by omega)]; exact hS j hj
  unfold f_X11_value f_X11_value_30 f_X11_refuse
  simp only [hLet_n, hBd_some]
  rw [rx_isPiece fu x1 _ (show c < 2 ^ 31 by omega) (by rw [g1 _ _ (by unfold envC; omega)]; exact hp.2.1), hBd_some]
  by_cases c1 : hIn x1 c
  rotate_left
  · rw [if_neg c1, if_pos rfl]
    exact ⟨fun _ => rfl, fun z => absurd z c1⟩
  rw [if_pos c1, if_neg (by decide), rx_isOffice fu x2 _ (show n < 2 ^ 31 by omega) (by rw [g1 _ _ (by unfold envC; omega)]; exact hv.2.1), hBd_some]
  by_cases c2 : hIn x2 n
  rotate_left
  · rw [if_neg c2, if_pos rfl]
    exact ⟨fun _ => rfl, fun _ z => absurd z c2⟩
  rw [if_pos c2, if_neg (by decide), g1 117 0 (by unfold envC; omega)]
  by_cases c3 : gI v 117 0 = 0
  · rw [if_neg (fun z => z c3)]
    exact ⟨fun _ => rfl, fun _ _ z => absurd c3 z⟩
  rw [if_pos c3]
  refine ⟨fun z => absurd ⟨c1, c2, c3⟩ z, fun _ _ _ => ?_⟩
  obtain ⟨L, hL, hrr⟩ := hr.resolve_left c3
  obtain ⟨p, hpc, rfl⟩ := hIn_of c1 (by omega)
  obtain ⟨o, ho, rfl⟩ := hIn_of c2 (by omega)
  rw [nI_clamp (show p < 2 ^ 31 by omega), nI_clamp (show o < 2 ^ 31 by omega), s1 0 (by omega), h0, nI_1]
  obtain ⟨M', a1, a2⟩ := rx_worked hfu hv hp hL hrr hpc ho (show x + 1 ≤ 2400 by omega) (hI.1 p hpc).1 g1 s1
  exact ⟨M', by rw [a1, hBd_some], fr.th.tr (a2.mono (fun a j z => Or.inl (by unfold PS; omega)))⟩
