/-! ===== offices close: the rule hands pieces on ===== -/
def bst (v : hM) (S : Nat → Int32) (p h : Nat) : Nat → Nat × Int32
  | 0 => (0, evR v S p 0 h)
  | k + 1 => if evR v S p (k + 1) h ≤ (bst v S p h k).2 then bst v S p h k else (k + 1, evR v S p (k + 1) h)
theorem bst_le (v : hM) (S : Nat → Int32) (p h : Nat) : ∀ k, (bst v S p h k).1 ≤ k
  | 0 => Nat.le_refl 0
  | k + 1 => by
    rw [bst]
    split
    · exact Nat.le_succ_of_le (bst_le v S p h k)
    · exact Nat.le_refl _
def clB (v : hM) (R : Int32) (h p : Nat) (S : Nat → Int32) : Prop := bt R p = true ∧ ¬ (0 ≤ (S (35 + p)).toInt) ∧ opn v (S (3 + p)).toNatClampNeg (nI h) = 1 ∧ opn v (S (3 + p)).toNatClampNeg (nI (h + 1)) = 0
noncomputable def cl1 (v : hM) (R : Int32) (h n p : Nat) (S : Nat → Int32) : Nat → Int32 :=
  @ite _ (clB v R h p S) (Classical.propDecidable _) (if nI (bst v S p (h + 1) (n - 1)).1 = S (3 + p) then S else hnS v p (bst v S p (h + 1) (n - 1)).1 (h + 1) S) S
noncomputable def clA (v : hM) (R : Int32) (h n : Nat) (S : Nat → Int32) : Nat → Nat → Int32
  | 0 => S
  | k + 1 => cl1 v R h n k (clA v R h n S k)
theorem cl1_no {v : hM} {R : Int32} {h n p : Nat} {S : Nat → Int32} (q : ¬ clB v R h p S) : cl1 v R h n p S = S := by unfold cl1; rw [if_neg q]
theorem cl1_in {v : hM} {R : Int32} {h n p : Nat} {S : Nat → Int32} (q : clB v R h p S) : cl1 v R h n p S = if nI (bst v S p (h + 1) (n - 1)).1 = S (3 + p) then S else hnS v p (bst v S p (h + 1) (n - 1)).1 (h + 1) S := by unfold cl1; rw [if_pos q]
theorem cl1_inv {v : hM} {R : Int32} {h n p c : Nat} {S : Nat → Int32} (hc : c ≤ 8) (hn : n ≤ 6) (hpc : p < c) (hI : sInv v S n c) : sInv v (cl1 v R h n p S) n c := by
  have := (hI.1 p hpc).1
  have h0 : 0 < n := by obtain ⟨z1, z2⟩ := this; omega
  by_cases q : clB v R h p S
  · rw [cl1_in q]
    split
    · exact hI
    · exact hnS_inv hc hn hpc (by have := bst_le v S p (h + 1) (n - 1); omega) hI
  · rw [cl1_no q]; exact hI
theorem clA_inv {v : hM} {R : Int32} {h n c : Nat} {S : Nat → Int32} (hc : c ≤ 8) (hn : n ≤ 6) (hI : sInv v S n c) : ∀ k, k ≤ c → sInv v (clA v R h n S k) n c
  | 0, _ => hI
  | k + 1, hk => by rw [clA]; exact cl1_inv hc hn (by omega) (clA_inv hc hn hI k (by omega))
theorem cl1_k {v : hM} {R : Int32} {h n p j c : Nat} {S : Nat → Int32} (hI : sInv v S n c) (h1 : j ≠ 3 + p) (h2 : j ≠ 11 + p) (h3 : j ≠ 59 + p) (h4 : j ≠ 51 + p) (h5 : j < 67) (h6 : j ≠ 2) : cl1 v R h n p S j = S j := by
  obtain ⟨k, hk, hke⟩ := wr_num hI
  by_cases q : clB v R h p S
  · rw [cl1_in q]
    split
    · rfl
    · exact hnS_k hke hk h1 h2 h3 h4 h5 h6
  · rw [cl1_no q]
theorem clA_k {v : hM} {R : Int32} {h n j c : Nat} {S : Nat → Int32} (hc : c ≤ 8) (hn : n ≤ 6) (hI : sInv v S n c) (h1 : j < 2 ∨ (19 ≤ j ∧ j < 51)) : ∀ k, k ≤ c → clA v R h n S k j = S j
  | 0, _ => rfl
  | k + 1, hk => by rw [clA, cl1_k (clA_inv hc hn hI k (by omega)) (by omega) (by omega) (by omega) (by omega) (by omega) (by omega)]; exact clA_k hc hn hI h1 k (by omega)
theorem rx_cl94 {fu : Nat} (hfu : 300 ≤ fu) {v mc : hM} {n c L : Nat} (hv : vRel v n) (hp : pRng v n c) (hL : 0 < L) (hr : rRel v mc L) {S : Nat → Int32} (hI : sInv v S n c) {h p : Nat} (hpc : p < c) (hh : h < 2399) (x3 : Int32) (ih : Int32 → Int32 → hM → Option (Unit × hM)) :
    ∀ (t k : Nat) (m : hM), k < n → n - k < t → eqV v m → rS S m →
      ∃ m', f_X11_closes_94 fu ih t (nI h) (nI p) x3 (nI (bst v S p (h + 1) k).1) (bst v S p (h + 1) k).2 (nI (k + 1)) m = f_X11_closes_146 fu ih (nI h) (nI p) x3 (nI (bst v S p (h + 1) (n - 1)).1) m' ∧ fr (fun a _ => a = 118) m m' := by
  have hn := hv.1
  intro t
  induction t with
  | zero => intro k m h1 h2; omega
  | succ t ih2 =>
    intro k m hk ht g hS
    rw [f_X11_closes_94_s]
    unfold s_X11_closes_94
    rw [g 96 3 (by unfold envC; omega), hv.2.1]
    by_cases q : nI n ≤ nI (k + 1)
    · rw [if_pos q]
      rw [nI_leI (by omega) (by omega)] at q
      have : k = n - 1 := by omega
      subst this
      exact ⟨m, rfl, fr.rf⟩
    · rw [if_neg q]
      rw [nI_leI (by omega) (by omega)] at q
      obtain ⟨m1, r1, r2⟩ := rx_worked hfu hv hp hL hr hpc (show k + 1 < n by omega) (show h + 1 ≤ 2400 by omega) (hI.1 p hpc).1 g hS
      rw [nI_1, r1, hBd_some]
      have g1 : eqV v m1 := fun a j z => (r2.1 a j (by unfold envC at z; omega)).trans (g a j z)
      have s1 : rS S m1 := fun j hj => (r2.1 114 j (by omega)).trans (hS j hj)
      obtain ⟨m2, t1, t2⟩ := ih2 (k + 1) m1 (by omega) (by omega) g1 s1
      unfold f_X11_closes_129
      rw [e_max, hBd_some, hBd_some, hLet_n, hLet_n, nI_1]
      rw [bst] at t1
      by_cases z : evR v S p (k + 1) (h + 1) ≤ (bst v S p (h + 1) k).2
      · rw [if_pos z] at t1
        rw [if_pos z, if_neg (by rw [i_lt]; rw [i_le] at z; omega), t1]
        exact ⟨m2, rfl, r2.tr t2⟩
      · rw [if_neg z] at t1
        rw [if_neg z, if_pos (by rw [i_lt]; rw [i_le] at z; omega), t1]
        exact ⟨m2, rfl, r2.tr t2⟩
theorem rx_cl1 {fu : Nat} (hfu : 300 ≤ fu) {v mc : hM} {n c L : Nat} (hv : vRel v n) (hp : pRng v n c) (hL : 0 < L) (hr : rRel v mc L) {S : Nat → Int32} (hI : sInv v S n c) {R : Int32} {h p : Nat} (hpc : p < c) (hh : h < 2399) {m : hM} (g : eqV v m) (hS : rS S m) (h34 : gI m 96 34 = R) (ih : Int32 → Int32 → hM → Option (Unit × hM)) :
    ∃ m', s_X11_closes_9 fu ih (nI h) (nI p) m = ih (nI h) (nI (p + 1)) m' ∧ rS (cl1 v R h n p S) m' ∧ fr (fun a _ => a = 114 ∨ a = 118) m m' := by
  have hn := hv.1
  have hc := hp.1
  obtain ⟨o, ho, hoe⟩ := hIn_of (hI.1 p hpc).1 (by omega)
  have h40 := hr.1
  have co : (nI o).toNatClampNeg = o := nI_clamp (by omega)
  have skip : ∀ m1, f_X11_closes_163 fu ih (nI h) (nI p) m1 = ih (nI h) (nI (p + 1)) m1 := fun m1 => by unfold f_X11_closes_163; rw [nI_1, hLet_n]
  have no : ¬ clB v R h p S → rS (cl1 v R h n p S) m := fun z => by rw [cl1_no z]; exact hS
  unfold s_X11_closes_9
  rw [g 96 16 (by unfold envC; omega), hp.2.1, if_neg (nI_ge hpc (by omega)), g 117 0 (by unfold envC; omega), hr.2.1, if_neg (nI_nle hL (by omega)), q_3, if_pos (hIn_lt (show 3 + p < 127 by omega) (by omega)), hLet_n, nI_clamp (show 3 + p < 2 ^ 31 by omega), hS _ (by omega), hoe, h34, bd_has fu _ (show p < 32 by omega)]
  by_cases hb : bt R p = true
  rotate_left
  · rw [if_neg hb, if_pos rfl, skip]
    exact ⟨m, rfl, no (fun z => hb z.1), fr.rf⟩
  rw [if_pos hb, if_neg (by decide), rx_isDone fu hS (show p < 8 by omega), hBd_some]
  by_cases hd : 0 ≤ (S (35 + p)).toInt
  · rw [if_pos hd, if_pos (by decide), skip]
    exact ⟨m, rfl, no (fun z => z.2.1 hd), fr.rf⟩
  rw [if_neg hd, if_neg (fun z => z rfl), bd_isOpen fu (show o < 6 by omega) _ g]
  rcases opn_01 v o (nI h) with q | q
  · rw [if_pos q, skip]
    exact ⟨m, rfl, no (fun z => by have := z.2.2.1; rw [hoe, co, q] at this; exact absurd this (by decide)), fr.rf⟩
  rw [if_neg (by rw [q]; decide), nI_1, bd_isOpen fu (show o < 6 by omega) _ g]
  rcases opn_01 v o (nI (h + 1)) with q2 | q2
  rotate_left
  · rw [if_neg (by rw [q2]; decide), skip]
    exact ⟨m, rfl, no (fun z => by have := z.2.2.2; rw [hoe, co, q2] at this; exact absurd this (by decide)), fr.rf⟩
  rw [if_pos q2]
  have hB : clB v R h p S := ⟨hb, hd, by rw [hoe, co]; exact q, by rw [hoe, co]; exact q2⟩
  obtain ⟨m1, r1, r2⟩ := rx_worked hfu hv hp hL hr hpc (show 0 < n by omega) (show h + 1 ≤ 2400 by omega) (hI.1 p hpc).1 g hS
  rw [show (0 : Int32) = nI 0 from rfl, r1, hBd_some]
  have g1 : eqV v m1 := fun a j z => (r2.1 a j (by unfold envC at z; omega)).trans (g a j z)
  have s1 : rS S m1 := fun j hj => (r2.1 114 j (by omega)).trans (hS j hj)
  obtain ⟨m2, t1, t2⟩ := rx_cl94 hfu hv hp hL hr hI hpc hh (nI o) ih fu 0 m1 (by omega) (by omega) g1 s1
  have t1' : f_X11_closes_94 fu ih fu (nI h) (nI p) (nI o) (nI 0) (evR v S p 0 (h + 1)) 1 m1 = _ := t1
  have g2 : eqV v m2 := fun a j z => (t2.1 a j (by unfold envC at z; omega)).trans (g1 a j z)
  have s2 : rS S m2 := fun j hj => (t2.1 114 j (by omega)).trans (s1 j hj)
  have f2 : fr (fun a _ => a = 114 ∨ a = 118) m m2 := (r2.tr t2).mono (fun a j z => Or.inr z)
  have hbl : (bst v S p (h + 1) (n - 1)).1 < n := by have := bst_le v S p (h + 1) (n - 1); omega
  rw [t1', cl1_in hB]
  unfold f_X11_closes_146
  rw [hoe]
  by_cases z : nI (bst v S p (h + 1) (n - 1)).1 = nI o
  · rw [if_pos z, if_pos z, skip]
    exact ⟨m2, rfl, s2, f2⟩
  · rw [if_neg z, if_neg z, nI_1]
    obtain ⟨m3, u1, u2, u3⟩ := rx_hands (show 100 ≤ fu by omega) hv hp hI hpc hbl (show h + 1 ≤ 2400 by omega) g2 s2
    rw [u1, hBd_some, skip]
    exact ⟨m3, rfl, u2, f2.tr (u3.mono (fun a j z => Or.inl z))⟩
theorem rx_closes {fu : Nat} (hfu : 300 ≤ fu) {v mc : hM} {n c L : Nat} (hv : vRel v n) (hp : pRng v n c) (hL : 0 < L) (hr : rRel v mc L) {S : Nat → Int32} (hI : sInv v S n c) {R : Int32} {h : Nat} (h0 : S 0 = nI h) (hh : h < 2399) {m : hM} (g : eqV v m) (hS : rS S m) (h34 : gI m 96 34 = R) :
    ∃ m', f_X11_closes fu m = some ((), m') ∧ rS (clA v R h n S c) m' ∧ fr (fun a _ => a = 114 ∨ a = 118) m m' := by
  have hn := hv.1
  have hc := hp.1
  have key : ∀ (t k : Nat) (m1 : hM), k ≤ c → c - k < t → rS (clA v R h n S k) m1 → fr (fun a _ => a = 114 ∨ a = 118) m m1 →
      ∃ m', f_X11_closes_9 fu t (nI h) (nI k) m1 = some ((), m') ∧ rS (clA v R h n S c) m' ∧ fr (fun a _ => a = 114 ∨ a = 118) m m' := by
    intro t
    induction t with
    | zero => intro k m1 h1 h2; omega
    | succ t ih =>
      intro k m1 hk ht s1 f1
      have g1 : eqV v m1 := fun a j z => (f1.1 a j (by unfold envC at z; omega)).trans (g a j z)
      rw [f_X11_closes_9_s]
      by_cases e : k = c
      · subst e
        unfold s_X11_closes_9
        rw [g1 96 16 (by unfold envC; omega), hp.2.1, if_pos (nI_le (Nat.le_refl _) (by omega))]
        exact ⟨m1, rfl, s1, f1⟩
      · obtain ⟨m2, r1, r2, r3⟩ := rx_cl1 hfu hv hp hL hr (clA_inv (R := R) (h := h) hc hn hI k hk) (show k < c by omega) hh g1 s1 ((f1.1 96 34 (by omega)).trans h34) (f_X11_closes_9 fu t)
        rw [r1]
        exact ih (k + 1) m2 (by omega) (by omega) (by rw [clA]; exact r2) (f1.tr r3)
  unfold f_X11_closes
  rw [hLet_n, hS 0 (by omega), h0]
  exact key fu 0 m (by omega) (by omega) hS fr.rf
theorem cx_cl67 {fu : Nat} (hfu : 300 ≤ fu) {v : hM} {n c L s : Nat} (hs : s ∈ stL) (hL : 0 < L) {S : Nat → Int32} (hI : sInv v S n c) {h p : Nat} (hpc : p < c) (hh : h < 2399) (x2 x3 : Int32) (ih : Nat → Int32 → Int32 → Int32 → Int32 → hM → Option (Unit × hM)) :
    ∀ (t k : Nat) (m : hM), k < n → n - k < t → cEnv v m n c → rRel v m L → gI m 23 p = gI v 111 p → sRel S m s c →
      ∃ m', f_X8_handReady_67 fu ih t s x2 x3 (nI (h + 1)) (nI p) (nI (bst v S p (h + 1) k).1) (bst v S p (h + 1) k).2 (nI (k + 1)) m = f_X8_handReady_113 fu ih s x2 x3 (nI (h + 1)) (nI p) (nI (bst v S p (h + 1) (n - 1)).1) m' ∧ fr PV m m' := by
  have hsr := st_rng hs
  intro t
  induction t with
  | zero => intro k m h1 h2; omega
  | succ t ih2 =>
    intro k m hk ht he hr hb hR
    have hn := he.1.1
    rw [f_X8_handReady_67_s]
    unfold s_X8_handReady_67
    rw [he.2.1.1]
    by_cases q : nI n ≤ nI (k + 1)
    · rw [if_pos q]
      rw [nI_leI (by omega) (by omega)] at q
      have : k = n - 1 := by omega
      subst this
      exact ⟨m, rfl, fr.rf⟩
    · rw [if_neg q]
      rw [nI_leI (by omega) (by omega)] at q
      have pc0 := hR.2.2.2.2.1 p hpc
      obtain ⟨m1, r1, r2⟩ := cx_valueFor hfu hs he.1 he.2.2.1 hL hpc (show k + 1 < n by omega) (show h + 1 ≤ 2400 by omega) (hI.1 p hpc).1 he.2.1 he.2.2.2.1 hr hb pc0.1 pc0.2.1
      rw [r1, hBd_some]
      have q1 : ∀ a j, ¬ PV a j → gI m1 a j = gI m a j := r2.1
      have f1 : fr (PC s) m m1 := r2.mono (fun a j z => by unfold PV at z; unfold PC; omega)
      obtain ⟨m2, t1, t2⟩ := ih2 (k + 1) m1 (by omega) (by omega) (cEnv_fr hs he f1)
        ⟨hr.1, hr.2.1, by rw [q1 _ _ (by unfold PV; omega)]; exact hr.2.2.1, fun k' hk' => by rw [q1 26 _ (by unfold PV; omega)]; exact hr.2.2.2.1 k' hk', hr.2.2.2.2⟩
        (by rw [q1 _ _ (by unfold PV; omega)]; exact hb) (sRel_fr hR (fun a j z1 z2 => q1 a j (by unfold PV; omega)))
      unfold f_X8_handReady_107
      rw [hLet_n, hLet_n, nI_1]
      rw [bst] at t1
      by_cases z : evR v S p (k + 1) (h + 1) ≤ (bst v S p (h + 1) k).2
      · rw [if_pos z] at t1
        rw [if_pos z, t1]
        exact ⟨m2, rfl, r2.tr t2⟩
      · rw [if_neg z] at t1
        rw [if_neg z, t1]
        exact ⟨m2, rfl, r2.tr t2⟩
/-- what the handing of a walk of the class touches -/
def PH (s a j : Nat) : Prop := (s ≤ a ∧ a ≤ s + 8) ∨ a = 27 ∨ (a = 25 ∧ j = 3)
theorem PH_PC {s a j : Nat} (h : PH s a j) : PC s a j := by unfold PH at h; unfold PC; omega
theorem cx_cl1 {fu : Nat} (hfu : 300 ≤ fu) {v m : hM} {n c L s : Nat} (hs : s ∈ stL) (hL : 0 < L) (he : cEnv v m n c) (hr : rRel v m L) (hb3 : ∀ p, p < c → gI m 23 p = gI v 111 p) {S : Nat → Int32} (hI : sInv v S n c) {R x2 x3 : Int32} {h p : Nat} (hpc : p < c) (hh : h < 2399)
    (hx2 : bt x2 p = (bt R p && !decide (0 ≤ (S (35 + p)).toInt))) (hx3 : ∀ o, o < n → bt x3 o = (decide (opn v o (nI h) = 1) && !decide (opn v o (nI (h + 1)) = 1))) (hR : sRel S m s c) (ih : Nat → Int32 → Int32 → Int32 → Int32 → hM → Option (Unit × hM)) :
    ∃ m', s_X8_handReady_11 fu ih s x2 x3 (nI (h + 1)) (nI p) m = ih s x2 x3 (nI (h + 1)) (nI (p + 1)) m' ∧ sRel (cl1 v R h n p S) m' s c ∧ fr (PH s) m m' := by
  have hsr := st_rng hs
  have hn := he.1.1
  have hc := he.2.2.1.1
  obtain ⟨o, ho, hoe⟩ := hIn_of (hI.1 p hpc).1 (by omega)
  have co : (nI o).toNatClampNeg = o := nI_clamp (by omega)
  have pc0 := hR.2.2.2.2.1 p hpc
  have h8 : hIn (nI p) 8 := hIn_lt (show p < 8 by omega) (by omega)
  have cp : (nI p).toNatClampNeg = p := nI_clamp (by omega)
  have skip : ∀ m1, f_X8_handReady_137 fu ih s x2 x3 (nI (h + 1)) (nI p) m1 = ih s x2 x3 (nI (h + 1)) (nI (p + 1)) m1 := fun m1 => by unfold f_X8_handReady_137; rw [nI_1, hLet_n]
  have no : ¬ clB v R h p S → ∃ m', f_X8_handReady_137 fu ih s x2 x3 (nI (h + 1)) (nI p) m = ih s x2 x3 (nI (h + 1)) (nI (p + 1)) m' ∧ sRel (cl1 v R h n p S) m' s c ∧ fr (PH s) m m' := fun z => by
    rw [cl1_no z]; exact ⟨m, skip m, hR, fr.rf⟩
  unfold s_X8_handReady_11
  rw [he.2.2.2.1.1, if_neg (nI_ge hpc (by omega)), b_rd (show p < 32 by omega), hx2, if_pos h8, cp, pc0.1, hoe, b_rd (show o < 32 by omega), hx3 o ho]
  by_cases hb : bt R p = true
  rotate_left
  · have : bt R p = false := by cases hq : bt R p; rfl; exact absurd hq hb
    rw [this, if_pos (by simp)]
    exact no (fun z => hb z.1)
  by_cases hd : 0 ≤ (S (35 + p)).toInt
  · rw [decide_eq_true hd, if_pos (by simp)]
    exact no (fun z => z.2.1 hd)
  rw [hb, decide_eq_false hd, if_neg (by decide)]
  rcases opn_01 v o (nI h) with q | q
  · rw [q, if_neg (by simp)]
    exact no (fun z => by have := z.2.2.1; rw [hoe, co, q] at this; exact absurd this (by decide))
  rcases opn_01 v o (nI (h + 1)) with q2 | q2
  rotate_left
  · rw [q, q2, if_neg (by simp)]
    exact no (fun z => by have := z.2.2.2; rw [hoe, co, q2] at this; exact absurd this (by decide))
  rw [q, q2, if_pos (by decide)]
  have hB : clB v R h p S := ⟨hb, hd, by rw [hoe, co]; exact q, by rw [hoe, co]; exact q2⟩
  obtain ⟨m1, r1, r2⟩ := cx_valueFor hfu hs he.1 he.2.2.1 hL hpc (show 0 < n by omega) (show h + 1 ≤ 2400 by omega) (hI.1 p hpc).1 he.2.1 he.2.2.2.1 hr (hb3 p hpc) pc0.1 pc0.2.1
  rw [show (0 : Int32) = nI 0 from rfl, r1, hBd_some]
  have kr : ∀ {m1 m2 : hM}, rRel v m1 L → fr PV m1 m2 → rRel v m2 L := fun {m1 m2} z1 z2 => ⟨z1.1, z1.2.1, by rw [z2.1 _ _ (by unfold PV; omega)]; exact z1.2.2.1, fun k' hk' => by rw [z2.1 26 _ (by unfold PV; omega)]; exact z1.2.2.2.1 k' hk', z1.2.2.2.2⟩
  have kc : ∀ {m1 m2 : hM}, fr PV m1 m2 → fr (PC s) m1 m2 := fun z => z.mono (fun a j z => by unfold PV at z; unfold PC; omega)
  have ks : ∀ {m1 m2 : hM}, sRel S m1 s c → fr PV m1 m2 → sRel S m2 s c := fun z1 z2 => sRel_fr z1 (fun a j y1 y2 => z2.1 a j (by unfold PV; omega))
  obtain ⟨m2, t1, t2⟩ := cx_cl67 hfu hs hL hI hpc hh x2 x3 ih fu 0 m1 (by omega) (by omega) (cEnv_fr hs he (kc r2)) (kr hr r2) (by rw [r2.1 _ _ (by unfold PV; omega)]; exact hb3 p hpc) (ks hR r2)
  have t1' : f_X8_handReady_67 fu ih fu s x2 x3 (nI (h + 1)) (nI p) (nI 0) (evR v S p 0 (h + 1)) 1 m1 = _ := t1
  have fv := r2.tr t2
  have f2 : fr (PH s) m m2 := fv.mono (fun a j z => Or.inr z)
  have s2 := ks hR fv
  have hbl : (bst v S p (h + 1) (n - 1)).1 < n := by have := bst_le v S p (h + 1) (n - 1); omega
  rw [t1', cl1_in hB]
  unfold f_X8_handReady_113
  rw [if_pos h8, cp, (s2.2.2.2.2.1 p hpc).1, hoe]
  by_cases z : nI (bst v S p (h + 1) (n - 1)).1 = nI o
  · rw [if_pos z, if_pos z, skip]
    exact ⟨m2, rfl, s2, f2⟩
  · rw [if_neg z, if_neg z]
    obtain ⟨m3, u1, u2, u3⟩ := cx_handTo fu hs he.1 (cEnv_fr hs he (kc fv)).2.1 hc hI hpc hbl (show h + 1 ≤ 2400 by omega) s2
    rw [u1, hBd_some, skip]
    exact ⟨m3, rfl, u2, f2.tr (u3.mono (fun a j z => Or.inl z))⟩
theorem cx_handReady {fu : Nat} (hfu : 300 ≤ fu) {v m : hM} {n c L s : Nat} (hs : s ∈ stL) (hL : 0 < L) (he : cEnv v m n c) (hr : rRel v m L) (hb3 : ∀ p, p < c → gI m 23 p = gI v 111 p) {S : Nat → Int32} (hI : sInv v S n c) {R x2 x3 : Int32} {h : Nat} (h0 : S 0 = nI h) (hh : h < 2399)
    (hx2 : ∀ p, p < c → bt x2 p = (bt R p && !decide (0 ≤ (S (35 + p)).toInt))) (hx3 : ∀ o, o < n → bt x3 o = (decide (opn v o (nI h) = 1) && !decide (opn v o (nI (h + 1)) = 1))) (hR : sRel S m s c) :
    ∃ m', f_X8_handReady fu s x2 x3 m = some ((), m') ∧ sRel (clA v R h n S c) m' s c ∧ fr (PH s) m m' := by
  have hsr := st_rng hs
  have hn := he.1.1
  have hc := he.2.2.1.1
  have key : ∀ (t k : Nat) (m1 : hM), k ≤ c → c - k < t → sRel (clA v R h n S k) m1 s c → fr (PH s) m m1 →
      ∃ m', f_X8_handReady_11 fu t s x2 x3 (nI (h + 1)) (nI k) m1 = some ((), m') ∧ sRel (clA v R h n S c) m' s c ∧ fr (PH s) m m' := by
    intro t
    induction t with
    | zero => intro k m1 h1 h2; omega
    | succ t ih =>
      intro k m1 hk ht s1 f1
      have e1 := cEnv_fr hs he (f1.mono (fun a j z => PH_PC z))
      rw [f_X8_handReady_11_s]
      by_cases e : k = c
      · subst e
        unfold s_X8_handReady_11
        rw [e1.2.2.2.1.1, if_pos (nI_le (Nat.le_refl _) (by omega))]
        exact ⟨m1, rfl, s1, f1⟩
      · have i1 := clA_inv (R := R) (h := h) hc hn hI k hk
        obtain ⟨m2, r1, r2, r3⟩ := cx_cl1 (R := R) hfu hs hL e1 ⟨hr.1, hr.2.1, by rw [f1.1 _ _ (by unfold PH; omega)]; exact hr.2.2.1, fun k' hk' => by rw [f1.1 26 _ (by unfold PH; omega)]; exact hr.2.2.2.1 k' hk', hr.2.2.2.2⟩
          (fun p hp => by rw [f1.1 _ _ (by unfold PH; omega)]; exact hb3 p hp) i1 (show k < c by omega) hh (by rw [clA_k hc hn hI (by omega) k hk]; exact hx2 k (by omega)) hx3 s1 (f_X8_handReady_11 fu t)
        rw [r1]
        exact ih (k + 1) m2 (by omega) (by omega) (by rw [clA]; exact r2) (f1.tr r3)
  unfold f_X8_handReady
  rw [if_pos hs, hR.2.1, h0, nI_1, hLet_n]
  exact key fu 0 m (by omega) (by omega) hR fr.rf
