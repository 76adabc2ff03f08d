def hmV (v : hM) (X : Int32) (n w : Nat) : hM := (fun a j => if a = 111 ∧ j < 8 ∧ bt X j = true then nI (dgN (qsN X n) n w j) else if a = 117 ∧ j = 0 then 0 else gI v a j, v.2)
theorem hm_I (v : hM) (X : Int32) (n w a j : Nat) : gI (hmV v X n w) a j = if a = 111 ∧ j < 8 ∧ bt X j = true then nI (dgN (qsN X n) n w j) else if a = 117 ∧ j = 0 then 0 else gI v a j := rfl
theorem hm_n {v : hM} {X : Int32} {n w a j : Nat} (h1 : a ≠ 111) (h2 : a ≠ 117) : gI (hmV v X n w) a j = gI v a j := by rw [hm_I, if_neg (fun z => h1 z.1), if_neg (fun z => h2 z.1)]
theorem hm_e0 {v v' : hM} {n : Nat} (hv : vRel v n) (g : ∀ a j, (98 ≤ a ∧ a ≤ 107) ∨ (a = 96 ∧ (j = 3 ∨ j = 14 ∨ j = 15)) → gI v' a j = gI v a j) : vRel v' n := by
  obtain ⟨h1, h2, h3, h4, h5, h6, h7⟩ := hv
  refine ⟨h1, by rw [g _ _ (by omega)]; exact h2, fun o ho => ?_, fun a b ha hb => ?_, fun a ha => ?_, ?_, ?_⟩
  · unfold oRng
    rw [g 98 o (by omega), g 99 o (by omega), g 100 o (by omega), g 101 o (by omega), g 102 o (by omega), g 103 o (by omega), g 104 o (by omega), g 105 o (by omega)]
    obtain ⟨a1, a2, a3, a4, a5, a6, a7, a8, a9⟩ := h3 o ho
    exact ⟨a1, a2, a3, a4, a5, a6, a7, a8, fun d hd => by rw [g _ _ (by omega)]; exact a9 d hd⟩
  · rw [g _ _ (by omega), g _ _ (by omega)]; exact h4 a b ha hb
  · rw [g _ _ (by omega)]; exact h5 a ha
  · rw [g _ _ (by omega)]; exact h6
  · rw [g _ _ (by omega)]; exact h7
theorem hm_e {v v' m m' : hM} {n : Nat} (hn : n ≤ 6) (he : eRel v m n) (g : ∀ a j, (98 ≤ a ∧ a ≤ 107) ∨ (a = 96 ∧ (j = 3 ∨ j = 14 ∨ j = 15)) → gI v' a j = gI v a j) (f : ∀ a j, 1 ≤ a → a ≤ 17 → gI m' a j = gI m a j) : eRel v' m' n := by
  obtain ⟨b1, b2, b3, b4, b5, b6, b7⟩ := eRel_fr he hn f
  exact ⟨b1, by rw [g _ _ (by omega)]; exact b2, by rw [g _ _ (by omega)]; exact b3, fun o ho => off_keep (b4 o ho) (fun j hj => g _ _ (by omega)) (fun d hd => g _ _ (by omega)) (fun _ => rfl) (fun _ => rfl) (fun _ => rfl) (fun _ _ _ => rfl), b5, fun a b ha hb => by rw [g _ _ (by omega)]; exact b6 a b ha hb, b7⟩
theorem hm_v {v : hM} {X : Int32} {n w : Nat} (hv : vRel v n) : vRel (hmV v X n w) n := (hm_e0 hv (fun a j z => hm_n (by omega) (by omega)))
theorem hm_p {v : hM} {X : Int32} {n c w : Nat} (h1 : 1 ≤ n) (h6 : n ≤ 6) (hp : pRng v n c) : pRng (hmV v X n w) n c := by
  refine ⟨hp.1, by rw [hm_n (by omega) (by omega)]; exact hp.2.1, fun p hpc => ?_⟩
  obtain ⟨a1, a2, a3, a4, a5, a6⟩ := hp.2.2 p hpc
  rw [hm_n (a := 108) (by omega) (by omega), hm_n (a := 113) (by omega) (by omega), hm_n (a := 109) (by omega) (by omega), hm_n (a := 110) (by omega) (by omega), hm_n (a := 112) (by omega) (by omega)]
  refine ⟨a1, a2, a3, a4, ?_, a6⟩
  rw [hm_I]
  by_cases z : 111 = 111 ∧ p < 8 ∧ bt X p = true
  · rw [if_pos z]; exact hIn_lt (dgN_lt h1) (by omega)
  · rw [if_neg z, if_neg (by omega)]; exact a5
theorem hm_k {v : hM} {X : Int32} {n w : Nat} : rOk (hmV v X n w) := Or.inl (by rw [hm_I, if_neg (by omega), if_pos ⟨rfl, rfl⟩])
/-- the best of the first w ways -/
noncomputable def hmB (v : hM) (X : Int32) (n c x : Nat) (S : Nat → Int32) : Nat → Option (Nat × Nat)
  | 0 => none
  | w + 1 => match gK (hmV v X n w) n c (2399 - x) (begR (hmV v X n w) (nI x) c S) with | none => hmB v X n c x S w | some k => (match hmB v X n c x S w with | none => some (w, x + k) | some (b, e) => if e ≤ x + k then some (b, e) else some (w, x + k))
theorem hmB_le {v : hM} {X : Int32} {n c x : Nat} {S : Nat → Int32} (hx : x < 2400) : ∀ w b e, hmB v X n c x S w = some (b, e) → b < w ∧ e ≤ 2399
  | 0, b, e, h => by cases h
  | w + 1, b, e, h => by
    rw [hmB] at h
    cases hg : gK (hmV v X n w) n c (2399 - x) (begR (hmV v X n w) (nI x) c S) with
    | none =>
      rw [hg] at h
      have := hmB_le hx w b e h; omega
    | some k =>
      have hk := gK_le _ _ _ hg
      rw [hg] at h
      cases hw : hmB v X n c x S w with
      | none => rw [hw] at h; cases h; omega
      | some q =>
        obtain ⟨b', e'⟩ := q
        rw [hw] at h
        have := hmB_le hx w b' e' hw
        simp only [] at h
        split at h
        · cases h; omega
        · cases h; omega
def hmA (o : Option (Nat × Nat)) : Int32 := match o with | none => -1 | some (b, _) => nI b
theorem gK_pos1 {v : hM} {n c r k : Nat} {S : Nat → Int32} (hc : 0 < c) (h : S (35 + 0) = -1) (hg : gK v n c r S = some k) : k ≠ 0 := by
  have ha : adn S c = false := by
    cases q : adn S c with
    | false => rfl
    | true =>
      have := (adn_iff S c).mp q 0 hc
      rw [h] at this
      exact absurd this (by decide)
  cases r with
  | zero => rw [gK, ha] at hg; cases hg
  | succ r =>
    rw [gK, ha] at hg
    simp only [Bool.false_eq_true, if_false] at hg
    cases q : gK v n c r (pas v n c S) with
    | none => rw [q] at hg; cases hg
    | some k' => rw [q] at hg; cases hg; exact Nat.succ_ne_zero _
/-- the class asks for an end ahead of the best -/
theorem cEnd_best {v : hM} {n c x e0 : Nat} {S : Nat → Int32} (hx : x < 2400) (hc : 0 < c) (h : S (35 + 0) = -1) {L : Int32} (hL : L.toInt = (e0 : Int) - 1) (h0 : e0 ≤ 2400) : (gK v n c (2399 - x) S = none → cEnd v n c x S L = -2) ∧ (∀ k, gK v n c (2399 - x) S = some k → cEnd v n c x S L = if x + k < e0 then nI (x + k) else -2) := by
  have G := cEnd_g (v := v) (n := n) (c := c) (S := S) hx
  constructor
  · intro hg
    rcases cEnd_e (v := v) (n := n) (c := c) (S := S) hx L with ⟨e, q1, q2, q3, q4⟩ | q
    · rw [(G.2 hg).2] at q1
      have := congrArg Int32.toInt q1
      rw [nI_toInt (by omega)] at this
      have e1 : (-1 : Int32).toInt = -1 := rfl
      omega
    · exact q.2
  · intro k hg
    have hk := gK_le _ _ _ hg
    have k0 := gK_pos1 hc h hg
    rcases cEnd_e (v := v) (n := n) (c := c) (S := S) hx L with ⟨e, q1, q2, q3, q4⟩ | q
    · rw [((G.1 k hg)).2] at q1
      have e1 : x + k = e := (nI_eq (by omega) (by omega)).mp q1
      rw [q4, ← e1, hL]
      by_cases z : x + k < e0
      · rw [if_pos z, if_pos (by omega)]
      · rw [if_neg z, if_neg (by omega)]
    · rw [(G.1 k hg).2] at q
      have := congrArg Int32.toInt q.1
      rw [nI_toInt (by omega)] at this
      have e1 : (-1 : Int32).toInt = -1 := rfl
      omega
/-- where the class's startAll puts the pieces -/
theorem beg_23 {fu : Nat} (hfu : 100 ≤ fu) {m m1 : hM} {c : Nat} (j : jk m 55 c) (h18 : gI m 18 6 = nI c) {h : Int32} {r : Nat} (e : f_X10_begunAt fu h m = some (r, m1)) : ∀ p, p < c → gI m1 56 p = gI m 23 p := by
  have hc := j.1
  obtain ⟨m2, a1, a2, a3⟩ := cx_startAll hfu (show 55 ∈ stL by decide) j h18 h
  unfold f_X10_begunAt at e
  rw [a1, hBd_some] at e
  cases e
  have R := a3 (fun i => if i = 0 then h else if i < 3 then 0 else if i < 11 then gI m 23 (i - 3) else if i < 19 then gI m 21 (i - 11) else if 35 ≤ i ∧ i < 43 then -1 else 0) (by
    refine ⟨rfl, rfl, rfl, fun p hp => ⟨?_, ?_, ?_, ?_, ?_, ?_, ?_, ?_⟩⟩
    · show (if 3 + p = 0 then h else if 3 + p < 3 then 0 else if 3 + p < 11 then gI m 23 (3 + p - 3) else _) = _
      rw [if_neg (by omega), if_neg (by omega), if_pos (by omega), show 3 + p - 3 = p by omega]
    · show (if 11 + p = 0 then h else if 11 + p < 3 then 0 else if 11 + p < 11 then _ else if 11 + p < 19 then gI m 21 (11 + p - 11) else _) = _
      rw [if_neg (by omega), if_neg (by omega), if_neg (by omega), if_pos (by omega), show 11 + p - 11 = p by omega]
    all_goals
      simp only []
    · rw [if_neg (by omega), if_neg (by omega), if_neg (by omega), if_neg (by omega), if_neg (by omega)]
    · rw [if_neg (by omega), if_neg (by omega), if_neg (by omega), if_neg (by omega), if_neg (by omega)]
    · rw [if_neg (by omega), if_neg (by omega), if_neg (by omega), if_neg (by omega), if_pos (by omega)]
    · rw [if_neg (by omega), if_neg (by omega), if_neg (by omega), if_neg (by omega), if_neg (by omega)]
    · rw [if_neg (by omega), if_neg (by omega), if_neg (by omega), if_neg (by omega), if_neg (by omega)]
    · rw [if_neg (by omega), if_neg (by omega), if_neg (by omega), if_neg (by omega), if_neg (by omega)])
  intro p hp
  have := (R.2.2.2.2.1 p hp).1
  rw [show (55 + 1 : Nat) = 56 from rfl] at this
  rw [this]
  show (if 3 + p = 0 then h else if 3 + p < 3 then 0 else if 3 + p < 11 then gI m 23 (3 + p - 3) else _) = _
  rw [if_neg (by omega), if_neg (by omega), if_pos (by omega), show 3 + p - 3 = p by omega]
