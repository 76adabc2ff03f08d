/-! ===== an hour's work: the pure step ===== -/
theorem gI_ss (m : hM) (k j : Nat) (x : Int32) : gI (sI m k j x) k j = x := by rw [gI_sI, if_pos ⟨rfl, rfl⟩]
theorem gI_sn {m : hM} {k j a b : Nat} {x : Int32} (h : ¬ (a = k ∧ b = j)) : gI (sI m k j x) a b = gI m a b := by rw [gI_sI, if_neg h]
def rS (S : Nat → Int32) (m : hM) : Prop := ∀ j, j < 127 → gI m 114 j = S j
theorem rS.u {S : Nat → Int32} {m : hM} {i : Nat} {x : Int32} (h : rS S m) : rS (up S i x) (sI m 114 i x) := fun j hj => by
  rw [gI_sI, up_e]
  by_cases e : j = i
  · rw [if_pos ⟨rfl, e⟩, if_pos e]
  · rw [if_neg (fun z => e z.2), if_neg e]; exact h j hj
theorem rS.k {S : Nat → Int32} {m : hM} {k j : Nat} {x : Int32} (h : rS S m) (hk : k ≠ 114) : rS S (sI m k j x) := fun i hi => by
  rw [gI_sI, if_neg (fun z => hk z.1.symm)]; exact h i hi
theorem up_c (S : Nat → Int32) {a b : Nat} (x y : Int32) (h : a ≠ b) : up (up S a x) b y = up (up S b y) a x := by
  funext j
  rw [up_e, up_e, up_e, up_e]
  by_cases e : j = b
  · rw [if_pos e, if_pos e, if_neg (fun z => h (z.symm.trans e))]
  · rw [if_neg e, if_neg e]
theorem hIn_t {j n : Nat} (h : j < n) (hn : n ≤ 2147483648) : hIn (nI j) n = True := eq_true (hIn_lt h hn)
theorem q_3 (p : Nat) : (3 : Int32) + nI p = nI (3 + p) := nI_add 3 p
theorem q_11 (p : Nat) : (11 : Int32) + nI p = nI (11 + p) := nI_add 11 p
theorem q_19 (p : Nat) : (19 : Int32) + nI p = nI (19 + p) := nI_add 19 p
theorem q_27 (p : Nat) : (27 : Int32) + nI p = nI (27 + p) := nI_add 27 p
theorem q_35 (p : Nat) : (35 : Int32) + nI p = nI (35 + p) := nI_add 35 p
theorem q_43 (p : Nat) : (43 : Int32) + nI p = nI (43 + p) := nI_add 43 p
theorem q_51 (p : Nat) : (51 : Int32) + nI p = nI (51 + p) := nI_add 51 p
theorem q_59 (p : Nat) : (59 : Int32) + nI p = nI (59 + p) := nI_add 59 p
theorem q_67 (p : Nat) : (67 : Int32) + nI p = nI (67 + p) := nI_add 67 p
theorem bd_flag {α : Type} (fu : Nat) (a : Int32) (m : hM) (F : Int32 → hM → Option (α × hM)) : hBd (f_X11_flag fu a m) F = F (if a = 0 then 0 else 1) m := by rw [rx_flag, hBd_some]
theorem bd_has {α : Type} (fu : Nat) (a : Int32) {k : Nat} (hk : k < 32) (m : hM) (F : Int32 → hM → Option (α × hM)) : hBd (f_X11_has fu a (nI k) m) F = F (if bt a k then 1 else 0) m := by rw [rx_has2 fu a hk, hBd_some]
theorem bd_isOpen {α : Type} (fu : Nat) {v : hM} {o : Nat} (ho : o < 6) (h : Int32) {m : hM} (g : eqV v m) (F : Int32 → hM → Option (α × hM)) : hBd (f_X11_isOpen fu (nI o) h m) F = F (opn v o h) m := by rw [rx_isOpen fu ho, hBd_some, opn_eqV g]
abbrev wT : Type := (Nat → Int32) × (Nat → Int32) × Int32 × Int32
def askP (v : hM) (p : Nat) : Int32 := if gI v 96 37 = 0 then gI v 112 p else -1
def wkS4 (v : hM) (p o : Nat) (S : Nat → Int32) : Nat → Int32 := up (up (up (up S (43 + p) (S (43 + p) + 1)) 1 (S 1 + gI v 101 o)) (11 + p) (S (11 + p) - 1)) (19 + p) (S (19 + p) + 1)
def wkS (v : hM) (h p o : Nat) (S : Nat → Int32) : Nat → Int32 :=
  if S (11 + p) - 1 = 0 then up (wkS4 v p o S) (35 + p) (nI (h + 1)) else if askP v p < 0 then wkS4 v p o S else if S (19 + p) + 1 = gI v 113 p then up (up (wkS4 v p o S) (27 + p) 1) (19 + p) 0 else wkS4 v p o S
def bit1 (p : Nat) : Int32 := 1 <<< (nI p &&& 31)
/-- the office o where piece p lies, and whether it can work it -/
def wOk (v : hM) (h p o : Nat) (H : Nat → Int32) : Prop := opn v o (nI h) = 1 ∧ bt (gI v 103 o) (gI v 108 p).toNatClampNeg = true ∧ H o < gI v 102 o
def wk1 (v : hM) (R : Int32) (h p : Nat) (T : wT) : wT :=
  if bt R p = true then
    (if T.1 (27 + p) = 1 then (if opn v (T.1 (3 + p)).toNatClampNeg (nI h) = 1 ∧ opn v (gI v 112 p).toNatClampNeg (nI h) = 1 then (up T.1 (27 + p) 0, T.2.1, T.2.2.1, T.2.2.2 ||| bit1 p) else (T.1, T.2.1, T.2.2.1, T.2.2.2 ||| bit1 p))
    else if opn v (T.1 (3 + p)).toNatClampNeg (nI h) = 1 ∧ bt (gI v 103 (T.1 (3 + p)).toNatClampNeg) (gI v 108 p).toNatClampNeg = true ∧ T.2.1 (T.1 (3 + p)).toNatClampNeg < gI v 102 (T.1 (3 + p)).toNatClampNeg
      then (wkS v h p (T.1 (3 + p)).toNatClampNeg T.1, up T.2.1 (T.1 (3 + p)).toNatClampNeg (T.2.1 (T.1 (3 + p)).toNatClampNeg + 1), T.2.2.1 ||| bit1 p, T.2.2.2) else T)
  else T
def wkA (v : hM) (R : Int32) (h : Nat) (T : wT) : Nat → wT
  | 0 => T
  | k + 1 => wk1 v R h k (wkA v R h T k)
/-- what holds of a state at all times -/
def sInv (v : hM) (S : Nat → Int32) (n c : Nat) : Prop := (∀ p, p < c → hIn (S (3 + p)) n ∧ (S (27 + p) = 0 ∨ (S (27 + p) = 1 ∧ hIn (gI v 112 p) n))) ∧ (0 ≤ (S 2).toInt ∧ (S 2).toInt ≤ 60) ∧ hIn (S 0) 2400
theorem ask_lt {v : hM} {n c p : Nat} (hp : pRng v n c) (hpc : p < c) : (askP v p < 0 ↔ (gI v 96 37 = 0 → gI v 112 p = -1)) ∧ (¬ askP v p < 0 → gI v 96 37 = 0 ∧ hIn (gI v 112 p) n) := by
  unfold askP
  rw [i_lt, show (0 : Int32).toInt = 0 from rfl]
  by_cases q : gI v 96 37 = 0
  · rw [if_pos q]
    rcases (hp.2.2 p hpc).2.2.2.2.2 with e | e
    · rw [e]; exact ⟨⟨fun _ _ => rfl, fun _ => by decide⟩, fun z => absurd (by decide) z⟩
    · refine ⟨⟨fun z => ?_, fun z => ?_⟩, fun _ => ⟨q, e⟩⟩
      · have := e.1; omega
      · have := e.1; rw [z q] at this; exact absurd this (by decide)
  · rw [if_neg q]
    exact ⟨⟨fun _ z => absurd z q, fun _ => by decide⟩, fun z => absurd (by decide) z⟩
theorem wkS4_k {v : hM} {p o j : Nat} {S : Nat → Int32} (h1 : j ≠ 43 + p) (h2 : j ≠ 1) (h3 : j ≠ 11 + p) (h4 : j ≠ 19 + p) : wkS4 v p o S j = S j := by
  unfold wkS4; rw [up_n h4, up_n h3, up_n h2, up_n h1]
theorem wkS_k {v : hM} {h p o j : Nat} {S : Nat → Int32} (h1 : j ≠ 43 + p) (h2 : j ≠ 1) (h3 : j ≠ 11 + p) (h4 : j ≠ 19 + p) (h5 : j ≠ 35 + p) (h6 : j ≠ 27 + p) : wkS v h p o S j = S j := by
  unfold wkS
  split
  · rw [up_n h5, wkS4_k h1 h2 h3 h4]
  · split
    · exact wkS4_k h1 h2 h3 h4
    · split
      · rw [up_n h4, up_n h6, wkS4_k h1 h2 h3 h4]
      · exact wkS4_k h1 h2 h3 h4
theorem wk1_k {v : hM} {R : Int32} {h p j : Nat} {T : wT} (h1 : j ≠ 43 + p) (h2 : j ≠ 1) (h3 : j ≠ 11 + p) (h4 : j ≠ 19 + p) (h5 : j ≠ 35 + p) (h6 : j ≠ 27 + p) : (wk1 v R h p T).1 j = T.1 j := by
  unfold wk1
  split
  · split
    · split
      · exact up_n h6
      · rfl
    · split
      · exact wkS_k h1 h2 h3 h4 h5 h6
      · rfl
  · rfl
theorem wkS_27 {v : hM} {h p o n c : Nat} {S : Nat → Int32} (hp : pRng v n c) (hpc : p < c) (hS : S (27 + p) = 0 ∨ (S (27 + p) = 1 ∧ hIn (gI v 112 p) n)) : wkS v h p o S (27 + p) = 0 ∨ (wkS v h p o S (27 + p) = 1 ∧ hIn (gI v 112 p) n) := by
  have e : wkS4 v p o S (27 + p) = S (27 + p) := wkS4_k (by omega) (by omega) (by omega) (by omega)
  unfold wkS
  split
  · rw [up_n (by omega), e]; exact hS
  · split
    · rw [e]; exact hS
    · rename_i h1 h2
      split
      · rw [up_n (by omega), up_s]; exact Or.inr ⟨rfl, ((ask_lt hp hpc).2 h2).2⟩
      · rw [e]; exact hS
theorem wk1_inv {v : hM} {R : Int32} {h p n c : Nat} {T : wT} (hp : pRng v n c) (hpc : p < c) (hI : sInv v T.1 n c) : sInv v (wk1 v R h p T).1 n c := by
  have hc := hp.1
  refine ⟨fun p' hp' => ⟨?_, ?_⟩, ?_, ?_⟩
  · rw [wk1_k (by omega) (by omega) (by omega) (by omega) (by omega) (by omega)]; exact (hI.1 p' hp').1
  · by_cases e : p' = p
    · subst e
      have h0 := (hI.1 p' hp').2
      unfold wk1
      split
      · split
        · split
          · left; exact up_s
          · exact h0
        · split
          · exact wkS_27 hp hpc h0
          · exact h0
      · exact h0
    · rw [wk1_k (by omega) (by omega) (by omega) (by omega) (by omega) (by omega)]; exact (hI.1 p' hp').2
  · rw [wk1_k (by omega) (by omega) (by omega) (by omega) (by omega) (by omega)]; exact hI.2.1
  · rw [wk1_k (by omega) (by omega) (by omega) (by omega) (by omega) (by omega)]; exact hI.2.2
theorem wkA_inv {v : hM} {R : Int32} {h n c : Nat} {T : wT} (hp : pRng v n c) (hI : sInv v T.1 n c) : ∀ k, k ≤ c → sInv v (wkA v R h T k).1 n c
  | 0, _ => hI
  | k + 1, hk => by rw [wkA]; exact wk1_inv hp (by omega) (wkA_inv hp hI k (by omega))
theorem wkA_k {v : hM} {R : Int32} {h j : Nat} {T : wT} (h2 : j ≠ 1) (h3 : j < 11 ∨ 67 ≤ j ∨ (51 ≤ j)) : ∀ k, k ≤ 8 → (wkA v R h T k).1 j = T.1 j
  | 0, _ => rfl
  | k + 1, hk => by rw [wkA, wk1_k (by omega) h2 (by omega) (by omega) (by omega) (by omega)]; exact wkA_k h2 h3 k (by omega)
theorem f114 {m m1 : hM} {j : Nat} {x : Int32} (h : fr (fun a _ => a = 114) m m1) : fr (fun a _ => a = 114) m (sI m1 114 j x) := fr.si (P := fun a _ => a = 114) h rfl
