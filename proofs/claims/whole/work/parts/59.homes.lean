/-! ===== homes: the ways to house the pieces of a set ===== -/
def qsN (X : Int32) (n u : Nat) : Nat → Nat
  | 0 => u
  | t + 1 => if bt X (7 - t) = true then qsN X n u t / n else qsN X n u t
/-- what is left of the way's number u at the t-th place from above -/
def qOk (X : Int32) (n : Nat) (Q : Nat → Nat → Nat) : Prop := (∀ u, Q u 0 = u) ∧ (∀ u t, bt X (7 - t) = true → Q u (t + 1) = Q u t / n) ∧ ∀ u t, ¬ bt X (7 - t) = true → Q u (t + 1) = Q u t
theorem qsN_ok (X : Int32) (n : Nat) : qOk X n (qsN X n) := ⟨fun _ => rfl, fun u t h => by rw [qsN, if_pos h], fun u t h => by rw [qsN, if_neg h]⟩
theorem dv_up {q n : Nat} (h1 : 1 ≤ n) (h6 : n ≤ 6) : (q % n + 1 = n → (q + 1) / n = q / n + 1 ∧ (q + 1) % n = 0) ∧ (q % n + 1 < n → (q + 1) / n = q / n ∧ (q + 1) % n = q % n + 1) := by
  have : n = 1 ∨ n = 2 ∨ n = 3 ∨ n = 4 ∨ n = 5 ∨ n = 6 := by omega
  rcases this with rfl | rfl | rfl | rfl | rfl | rfl <;> exact ⟨fun h => by omega, fun h => by omega⟩
theorem dc_n : ∀ k, k < 9 → nI (k + 1) + (-1) = nI k := by decide
def dgN (Q : Nat → Nat → Nat) (n w p : Nat) : Nat := Q w (7 - p) % n
theorem dgN_lt {Q : Nat → Nat → Nat} {n w p : Nat} (h : 1 ≤ n) : dgN Q n w p < n := Nat.mod_lt _ h
theorem qOk.le {X : Int32} {n : Nat} {Q : Nat → Nat → Nat} (h : qOk X n Q) (u : Nat) : ∀ t, Q u t ≤ u
  | 0 => by rw [h.1]; exact Nat.le_refl u
  | t + 1 => by
    by_cases b : bt X (7 - t) = true
    · rw [h.2.1 u t b]; exact Nat.le_trans (Nat.div_le_self _ _) (h.le u t)
    · rw [h.2.2 u t b]; exact h.le u t
theorem qOk.eq {X : Int32} {n : Nat} {Q : Nat → Nat → Nat} (h : qOk X n Q) {u u' t : Nat} (e : Q u t = Q u' t) : ∀ s, Q u (t + s) = Q u' (t + s)
  | 0 => e
  | s + 1 => by
    show Q u (t + s + 1) = Q u' (t + s + 1)
    by_cases b : bt X (7 - (t + s)) = true
    · rw [h.2.1 _ _ b, h.2.1 _ _ b, h.eq e s]
    · rw [h.2.2 _ _ b, h.2.2 _ _ b, h.eq e s]
/-- the class houses the pieces of the trial -/
theorem cx_house {fu : Nat} (hfu : 100 ≤ fu) {X : Int32} {n w : Nat} {Q : Nat → Nat → Nat} (hQ : qOk X n Q) (h1 : 1 ≤ n) (h6 : n ≤ 6) (hw : w < 2 ^ 31) {m : hM} (he : gI m 1 4 = nI n) :
    ∃ m', f_X10_houseTrial fu X (nI w) m = some ((), m') ∧ (∀ p, p < 8 → bt X p = true → gI m' 56 p = nI (dgN Q n w p)) ∧ fr (fun a j => a = 56 ∧ j < 8 ∧ bt X j = true) m m' := by
  have nn : ¬ nI n = 0 := nI_ne0 (by omega) (by omega)
  have key : ∀ (t k : Nat) (m1 : hM), k ≤ 8 → k < t → gI m1 1 4 = nI n → ∃ m', f_X10_houseTrial_18 fu t X (nI (Q w (8 - k))) (nI k + (-1)) m1 = some ((), m') ∧ (∀ p, p < k → bt X p = true → gI m' 56 p = nI (dgN Q n w p)) ∧ fr (fun a j => a = 56 ∧ j < k ∧ bt X j = true) m1 m' := by
    intro t
    induction t with
    | zero => intro k m1 h1 h2; exact absurd h2 (Nat.not_lt_zero _)
    | succ t ih =>
      intro k m1 hk ht g
      rw [f_X10_houseTrial_18_s]
      unfold s_X10_houseTrial_18 f_X10_houseTrial_62
      simp only [hLet_n]
      cases k with
      | zero =>
        rw [if_pos (by decide)]
        exact ⟨m1, rfl, fun p hp => absurd hp (Nat.not_lt_zero _), fr.rf⟩
      | succ k =>
        rw [dc_n k (by omega), if_neg (nI_pos (by omega)), b_rd (show k < 32 by omega)]
        have e7 : 8 - k = (8 - (k + 1)) + 1 := by omega
        have ek : 7 - (8 - (k + 1)) = k := by omega
        by_cases b : bt X k = true
        · have hq : Q w (8 - (k + 1)) < 2 ^ 31 := Nat.lt_of_le_of_lt (hQ.le _ _) hw
          have e : Q w (8 - k) = Q w (8 - (k + 1)) / n := by rw [e7]; exact hQ.2.1 _ _ (by rw [ek]; exact b)
          have d0 : dgN Q n w k = Q w (8 - (k + 1)) % n := by unfold dgN; rw [show 7 - k = 8 - (k + 1) by omega]
          rw [if_pos b, if_neg (by decide), g, if_pos nn, if_pos (hIn_lt (show k < 8 by omega) (by omega)), nI_clamp (show k < 2 ^ 31 by omega), gI_sn (by omega), g, if_pos nn]
          rw [pk_div hq h1 (by omega), show nI (Q w (8 - (k + 1))) - nI (Q w (8 - (k + 1)) / n) * nI n = nI (dgN Q n w k) by rw [d0, ← pk_div hq h1 (by omega)]; exact pk_rem hq h1 (by omega), ← e]
          obtain ⟨m', r1, r2, r3⟩ := ih k (sI m1 56 k (nI (dgN Q n w k))) (by omega) (by omega) (by rw [gI_sn (by omega)]; exact g)
          refine ⟨m', r1, fun p hp hb => ?_, (fr.rf.si ⟨rfl, by omega, b⟩).tr (r3.mono (fun a j z => ⟨z.1, by omega, z.2.2⟩))⟩
          by_cases ep : p = k
          · subst ep
            rw [r3.1 _ _ (by omega), gI_ss]
          · exact r2 p (by omega) hb
        · rw [if_neg b, if_pos (by decide)]
          obtain ⟨m', r1, r2, r3⟩ := ih k m1 (by omega) (by omega) g
          have e : Q w (8 - k) = Q w (8 - (k + 1)) := by rw [e7]; exact hQ.2.2 _ _ (by rw [ek]; exact b)
          rw [e] at r1
          refine ⟨m', r1, fun p hp hb => ?_, r3.mono (fun a j z => ⟨z.1, by omega, z.2.2⟩)⟩
          by_cases ep : p = k
          · subst ep; exact absurd hb b
          · exact r2 p (by omega) hb
  unfold f_X10_houseTrial
  rw [he, if_pos (show (1 : Int32) ≤ nI n from nI_le (a := 1) h1 (by omega))]
  have := key fu 8 m (by omega) (by omega) he
  rw [show Q w (8 - 8) = w from hQ.1 w, show nI 8 + (-1) = 7 by decide] at this
  exact this
/-- the reference moves the homes on -/
theorem rx_moves {fu : Nat} (hfu : 100 ≤ fu) {X : Int32} {n w c : Nat} {Q : Nat → Nat → Nat} (hQ : qOk X n Q) (h1 : 1 ≤ n) (h6 : n ≤ 6) (hc : c ≤ 8) (hX : ∀ i, c ≤ i → i < 32 → bt X i = false) (hw : Q w 8 = 0) {M : hM} (g3 : gI M 96 3 = nI n) (g16 : gI M 96 16 = nI c) (hb : ∀ p, p < c → bt X p = true → gI M 111 p = nI (dgN Q n w p)) :
    ∃ r M', f_X11_movesHomes fu X M = some (r, M') ∧ fr (fun a j => a = 111 ∧ j < 8 ∧ bt X j = true) M M' ∧ (Q (w + 1) 8 = 0 → r = 1 ∧ ∀ p, p < c → bt X p = true → gI M' 111 p = nI (dgN Q n (w + 1) p)) ∧ (Q (w + 1) 8 ≠ 0 → r = 0) := by
  have key : ∀ (t k : Nat) (M1 : hM), k ≤ c → k < t → gI M1 96 3 = nI n → (∀ p, p < k → bt X p = true → gI M1 111 p = nI (dgN Q n w p)) → (∀ p, k ≤ p → p < c → bt X p = true → gI M1 111 p = nI (dgN Q n (w + 1) p)) → Q (w + 1) (8 - k) = Q w (8 - k) + 1 →
      ∃ r M', f_X11_movesHomes_7 fu t X (nI k + (-1)) M1 = some (r, M') ∧ fr (fun a j => a = 111 ∧ j < 8 ∧ bt X j = true) M1 M' ∧ (Q (w + 1) 8 = 0 → r = 1 ∧ ∀ p, p < c → bt X p = true → gI M' 111 p = nI (dgN Q n (w + 1) p)) ∧ (Q (w + 1) 8 ≠ 0 → r = 0) := by
    intro t
    induction t with
    | zero => intro k M1 h1 h2; exact absurd h2 (Nat.not_lt_zero _)
    | succ t ih =>
      intro k M1 hk ht g ha hb hcar
      rw [f_X11_movesHomes_7_s]
      unfold s_X11_movesHomes_7 f_X11_movesHomes_54
      simp only [hLet_n]
      cases k with
      | zero =>
        rw [if_pos (by decide)]
        exact ⟨0, M1, rfl, fr.rf, fun z => absurd (hcar.symm.trans z) (Nat.succ_ne_zero _), fun _ => rfl⟩
      | succ k =>
        rw [dc_n k (by omega), if_neg (nI_pos (by omega)), bd_has fu _ (show k < 32 by omega)]
        have e7 : 8 - k = (8 - (k + 1)) + 1 := by omega
        have ek : 7 - (8 - (k + 1)) = k := by omega
        have e8 : 8 - (k + 1) = 7 - k := by omega
        by_cases b : bt X k = true
        rotate_left
        · rw [if_neg b, if_neg (by decide)]
          have e : ∀ u, Q u (8 - k) = Q u (8 - (k + 1)) := fun u => by rw [e7]; exact hQ.2.2 _ _ (by rw [ek]; exact b)
          refine ih k M1 (by omega) (by omega) g (fun p hp hbp => ha p (by omega) hbp) (fun p h1 h2 hbp => ?_) (by rw [e, e]; exact hcar)
          by_cases ep : p = k
          · subst ep; exact absurd hbp b
          · exact hb p (by omega) h2 hbp
        have h8 : hIn (nI k) 8 := hIn_lt (show k < 8 by omega) (by omega)
        have ck : (nI k).toNatClampNeg = k := nI_clamp (by omega)
        have eT : ∀ u, Q u (8 - k) = Q u (8 - (k + 1)) / n := fun u => by rw [e7]; exact hQ.2.1 _ _ (by rw [ek]; exact b)
        have hd := dgN_lt (Q := Q) (n := n) (w := w) (p := k) h1
        rw [if_pos b, if_pos (by decide), if_pos h8, if_pos h8, if_pos h8, ck, ha k (Nat.lt_succ_self k) b, nI_1, gI_sn (by omega), g, gI_ss]
        have U := dv_up (q := Q w (8 - (k + 1))) h1 h6
        have dw : dgN Q n w k = Q w (8 - (k + 1)) % n := by unfold dgN; rw [e8]
        have dw1 : dgN Q n (w + 1) k = (Q w (8 - (k + 1)) + 1) % n := by unfold dgN; rw [← e8, hcar]
        have q1 : Q (w + 1) (8 - k) = (Q w (8 - (k + 1)) + 1) / n := by rw [eT, hcar]
        have q0 := eT w
        rw [← dw] at U
        generalize dgN Q n w k = d at *
        by_cases z : n ≤ d + 1
        · rw [if_pos (nI_le z (by omega)), if_pos h8]
          have U1 := U.1 (by omega)
          obtain ⟨r, M', r1, r2, r3, r4⟩ := ih k (sI (sI M1 111 k (nI (d + 1))) 111 k 0) (by omega) (by omega) (by rw [gI_sn (by omega), gI_sn (by omega)]; exact g) (fun p hp hbp => by rw [gI_sn (by omega), gI_sn (by omega)]; exact ha p (by omega) hbp) (fun p h1 h2 hbp => by
            by_cases ep : p = k
            · subst ep; rw [gI_ss, dw1, U1.2]; rfl
            · rw [gI_sn (by omega), gI_sn (by omega)]; exact hb p (by omega) h2 hbp) (by rw [q1, q0]; exact U1.1)
          exact ⟨r, M', r1, ((fr.rf.si ⟨rfl, by omega, b⟩).si ⟨rfl, by omega, b⟩).tr r2, r3, r4⟩
        · rw [if_neg (nI_ge (by omega) (by omega))]
          have U2 := U.2 (by omega)
          have qe : Q (w + 1) (8 - k) = Q w (8 - k) := by rw [q1, q0]; exact U2.1
          have w1 : Q (w + 1) 8 = 0 := by
            have e := hQ.eq qe k
            rw [show 8 - k + k = 8 by omega] at e
            rw [e, hw]
          refine ⟨1, _, rfl, fr.rf.si ⟨rfl, by omega, b⟩, fun _ => ⟨rfl, fun p hp hbp => ?_⟩, fun z => absurd w1 z⟩
          by_cases ep : p = k
          · subst ep; rw [gI_ss, dw1, U2.2]
          · rw [gI_sn (by omega)]
            by_cases lp : p < k
            · rw [ha p (by omega) hbp]
              unfold dgN
              have e := hQ.eq qe (k - p - 1)
              rw [show 8 - k + (k - p - 1) = 7 - p by omega] at e
              rw [e]
            · exact hb p (by omega) hp hbp
  unfold f_X11_movesHomes
  rw [hLet_n, g16, show nI c - 1 = nI c + (-1) from Int32.sub_eq_add_neg (nI c) 1]
  refine key fu c M (Nat.le_refl c) (by omega) g3 hb (fun p h1 h2 => by omega) ?_
  have : ∀ u t, t ≤ 8 - c → Q u t = u := by
    intro u t
    induction t with
    | zero => intro _; exact hQ.1 u
    | succ t ih => intro ht; rw [hQ.2.2 u t (by rw [hX (7 - t) (by omega) (by omega)]; decide), ih (by omega)]
  rw [this _ _ (Nat.le_refl _), this _ _ (Nat.le_refl _)]
