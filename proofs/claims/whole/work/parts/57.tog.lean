/-! ===== one house: together ===== -/
theorem sRel_at {S S' : Nat → Int32} {m m' : hM} {s c : Nat} (h : sRel S m s c) (g1 : ∀ j, ¬ (3 ≤ j ∧ j < 11) → S' j = S j) (g2 : ∀ a j, s ≤ a → a ≤ s + 8 → a ≠ s + 1 → gI m' a j = gI m a j) (g3 : ∀ p, p < c → gI m' (s + 1) p = S' (3 + p)) : sRel S' m' s c := by
  obtain ⟨h0, h1, h2, h3, h4, h5, h6, h7⟩ := h
  refine ⟨h0, ?_, ?_, ?_, fun p hp => ?_, fun i hi => ?_, fun i q1 q2 => ?_, fun p q1 q2 => ?_⟩
  · rw [g2 _ _ (by omega) (by omega) (by omega), g1 _ (by omega)]; exact h1
  · rw [g2 _ _ (by omega) (by omega) (by omega), g1 _ (by omega)]; exact h2
  · rw [g2 _ _ (by omega) (by omega) (by omega), g1 _ (by omega)]; exact h3
  · unfold pcS
    rw [g2 (s + 2) p (by omega) (by omega) (by omega), g2 (s + 3) p (by omega) (by omega) (by omega), g2 (s + 4) p (by omega) (by omega) (by omega), g2 (s + 5) p (by omega) (by omega) (by omega), g2 (s + 6) p (by omega) (by omega) (by omega), g2 (s + 7) p (by omega) (by omega) (by omega), g2 s 2 (by omega) (by omega) (by omega), g2 s 1 (by omega) (by omega) (by omega), g1 (11 + p) (by omega), g1 (19 + p) (by omega), g1 (35 + p) (by omega), g1 (43 + p) (by omega), g1 (51 + p) (by omega), g1 (59 + p) (by omega), g1 (27 + p) (by omega)]
    exact ⟨g3 p hp, (h4 p hp).2⟩
  · rw [g1 2 (by omega)] at hi
    rw [g2 _ _ (by omega) (by omega) (by omega), g1 _ (by omega)]; exact h5 i hi
  · rw [g2 _ _ (by omega) (by omega) (by omega), g2 _ _ (by omega) (by omega) (by omega)]; exact h6 i q1 q2
  · rw [g2 _ _ (by omega) (by omega) (by omega), g2 _ _ (by omega) (by omega) (by omega)]; exact h7 p q1 q2
/-- begun anew, and housed elsewhere -/
theorem cx_begAt {fu : Nat} (hfu : 3000 ≤ fu) {v m : hM} {n c h : Nat} (hp : pRng v n c) (hpr : pRel v m c) (j : jk m 55 c) (S : Nat → Int32) :
    ∃ m1, f_X10_begunAt fu (nI h) m = some (55, m1) ∧ fr (fun a _ => 55 ≤ a ∧ a ≤ 63) m m1 ∧ jk m1 55 c ∧ ∀ m2, (∀ a j, 55 ≤ a → a ≤ 63 → a ≠ 56 → gI m2 a j = gI m1 a j) → (∀ p, p < c → gI m2 56 p = gI v 111 p) → sRel (begR v (nI h) c S) m2 55 c := by
  have hs : 55 ∈ stL := by decide
  obtain ⟨m1, a1, a2, a3⟩ := cx_startAll (show 100 ≤ fu by omega) hs j hpr.1 (nI h)
  have hbp := begR_P v (nI h) hp.1 S
  have hc := hp.1
  have hb : begP (fun i => if 3 ≤ i ∧ i < 11 then gI m 23 (i - 3) else begR v (nI h) c S i) (nI h) (fun p => gI m 23 p) (fun p => gI m 21 p) c := by
    refine ⟨hbp.1, hbp.2.1, hbp.2.2.1, fun p hpc => ?_⟩
    obtain ⟨b1, b2, b3, b4, b5, b6, b7, b8⟩ := hbp.2.2.2 p hpc
    refine ⟨?_, ?_, ?_, ?_, ?_, ?_, ?_, ?_⟩
    · show (if 3 ≤ 3 + p ∧ 3 + p < 11 then _ else _) = _
      rw [if_pos ⟨by omega, by omega⟩, show 3 + p - 3 = p by omega]
    · show (if 3 ≤ 11 + p ∧ 11 + p < 11 then _ else _) = _
      rw [if_neg (by omega)]; exact b2.trans (hpr.2 p hpc).2.2.1.symm
    · show (if 3 ≤ 19 + p ∧ 19 + p < 11 then _ else _) = _
      rw [if_neg (by omega)]; exact b3
    · show (if 3 ≤ 27 + p ∧ 27 + p < 11 then _ else _) = _
      rw [if_neg (by omega)]; exact b4
    · show (if 3 ≤ 35 + p ∧ 35 + p < 11 then _ else _) = _
      rw [if_neg (by omega)]; exact b5
    · show (if 3 ≤ 43 + p ∧ 43 + p < 11 then _ else _) = _
      rw [if_neg (by omega)]; exact b6
    · show (if 3 ≤ 51 + p ∧ 51 + p < 11 then _ else _) = _
      rw [if_neg (by omega)]; exact b7
    · show (if 3 ≤ 59 + p ∧ 59 + p < 11 then _ else _) = _
      rw [if_neg (by omega)]; exact b8
  have R := a3 _ hb
  refine ⟨m1, ?_, a2, R.jk, fun m2 g1 g2 => sRel_at R (fun i hi => ?_) (fun a j z1 z2 z3 => g1 a j z1 z2 z3) (fun p hpc => ?_)⟩
  · unfold f_X10_begunAt
    rw [a1, hBd_some]
  · show _ = (if 3 ≤ i ∧ i < 11 then _ else _)
    rw [if_neg hi]
  · rw [(hbp.2.2.2 p hpc).1]; exact g2 p hpc
theorem smS_0 {S : Nat → Int32} {b : Nat} : ∀ k, (∀ p, p < k → S (b + p) = 0) → smS S b k = 0
  | 0, _ => rfl
  | k + 1, h => by rw [smS, smS_0 k (fun p hp => h p (by omega)), h k (by omega)]; rfl
/-! the reference tells an end -/
theorem rx_tellsEnd {fu : Nat} (hfu : 3000 ≤ fu) {v m : hM} {n c x : Nat} (hv : vRel v n) (hp : pRng v n c) (hk : rOk v) {S : Nat → Int32} (hI : sInv v S n c) (hx : x < 2400) (h0 : S 0 = nI x) (g : eqV v m) (hS : rS S m) :
    ∃ m', f_X11_tellsEnd fu m = some ((match gK v n c (2399 - x) S with | some k => nI (x + k) | none => -2), m') ∧ (gK v n c (2399 - x) S = none → fr PR m m') ∧ (∀ k, gK v n c (2399 - x) S = some k → frJ m m' (rwE (runS v n c k S) c (smS S 51 c) (smS S 59 c) (S 1))) := by
  obtain ⟨p2, d1, d2, d3⟩ := rx_goesOn hfu hv hp hk (r := 2399 - x) (by omega) hI h0 g hS
  have e16 : gI m 96 16 = nI c := by rw [g _ _ (by unfold envC; omega)]; exact hp.2.1
  have e162 : gI p2 96 16 = nI c := by rw [(eqV_fr g d3) _ _ (by unfold envC; omega)]; exact hp.2.1
  unfold f_X11_tellsEnd
  rw [show (51 : Int32) = nI 51 from rfl, show (59 : Int32) = nI 59 from rfl, rx_sumOf (show 100 ≤ fu by omega) hp (by omega) e16 hS, hBd_some, rx_sumOf (show 100 ≤ fu by omega) hp (by omega) e16 hS, hBd_some, hLet_n, hS 1 (by omega), d1, hBd_some]
  cases hg : gK v n c (2399 - x) S with
  | none =>
    simp only []
    exact ⟨p2, by rw [if_neg (by decide)], fun _ => d3, fun k hk => by cases hk⟩
  | some kk =>
    have hkk := gK_le _ _ _ hg
    have T := rx_tells43 (show 100 ≤ fu by omega) hp e162 (d2 kk hg) (smS S 51 c) (smS S 59 c) (S 1) (nI (x + kk))
    simp only []
    refine ⟨_, by rw [if_pos (nI_pos' (by omega)), hLet_n, T], fun z => (by cases z), fun k hk => ?_⟩
    cases hk
    refine ⟨fun a j z1 z2 => ?_, fun a j => ?_, fun a j => ?_, ?_⟩
    · rw [sr_I, if_neg z2]; exact d3.1 a j z1
    · rw [sr_L, d3.2.1]
    · rw [sr_R, d3.2.2]
    · rw [sr_I, if_pos ⟨rfl, rfl⟩]
theorem rx_keepsBorn {fu : Nat} (hfu : 100 ≤ fu) (m : hM) : ∃ m', f_X11_keepsBorn fu m = some ((), m') ∧ (∀ j, j < 8 → gI m' 126 j = gI m 111 j) ∧ fr (fun a j => a = 126 ∧ j < 8) m m' := by
  have key : ∀ (t k : Nat) (m1 : hM), k ≤ 8 → 8 - k < t → (∀ j, j < k → gI m1 126 j = gI m 111 j) → fr (fun a j => a = 126 ∧ j < 8) m m1 → ∃ m', f_X11_keepsBorn_2 fu t (nI k) m1 = some ((), m') ∧ (∀ j, j < 8 → gI m' 126 j = gI m 111 j) ∧ fr (fun a j => a = 126 ∧ j < 8) m m' := by
    intro t
    induction t with
    | zero => intro k m1 h1 h2; omega
    | succ t ih =>
      intro k m1 hk ht r f
      rw [f_X11_keepsBorn_2_s]
      unfold s_X11_keepsBorn_2
      by_cases q : nI 8 ≤ nI k
      · rw [if_pos (show (8 : Int32) ≤ nI k from q)]
        rw [nI_leI (by omega) (by omega)] at q
        exact ⟨m1, rfl, fun j hj => r j (by omega), f⟩
      · rw [if_neg (show ¬ (8 : Int32) ≤ nI k from q)]
        rw [nI_leI (by omega) (by omega)] at q
        have h8 : hIn (nI k) 8 := hIn_lt (by omega) (by omega)
        rw [if_pos h8, if_pos h8, hLet_n, hLet_n, nI_1, nI_clamp (show k < 2 ^ 31 by omega)]
        refine ih (k + 1) _ (by omega) (by omega) (fun j hj => ?_) (f.si ⟨rfl, by omega⟩)
        by_cases e : j = k
        · rw [e, gI_ss, f.1 _ _ (by omega)]
        · rw [gI_sn (by omega)]; exact r j (by omega)
  unfold f_X11_keepsBorn
  exact key fu 0 m (by omega) (by omega) (fun j hj => by omega) fr.rf
theorem rx_givesBorn {fu : Nat} (hfu : 100 ≤ fu) (m : hM) : ∃ m', f_X11_givesBorn fu m = some ((), m') ∧ (∀ j, j < 8 → gI m' 111 j = gI m 126 j) ∧ fr (fun a j => a = 111 ∧ j < 8) m m' := by
  have key : ∀ (t k : Nat) (m1 : hM), k ≤ 8 → 8 - k < t → (∀ j, j < k → gI m1 111 j = gI m 126 j) → fr (fun a j => a = 111 ∧ j < 8) m m1 → ∃ m', f_X11_givesBorn_2 fu t (nI k) m1 = some ((), m') ∧ (∀ j, j < 8 → gI m' 111 j = gI m 126 j) ∧ fr (fun a j => a = 111 ∧ j < 8) m m' := by
    intro t
    induction t with
    | zero => intro k m1 h1 h2; omega
    | succ t ih =>
      intro k m1 hk ht r f
      rw [f_X11_givesBorn_2_s]
      unfold s_X11_givesBorn_2
      by_cases q : nI 8 ≤ nI k
      · rw [if_pos (show (8 : Int32) ≤ nI k from q)]
        rw [nI_leI (by omega) (by omega)] at q
        exact ⟨m1, rfl, fun j hj => r j (by omega), f⟩
      · rw [if_neg (show ¬ (8 : Int32) ≤ nI k from q)]
        rw [nI_leI (by omega) (by omega)] at q
        have h8 : hIn (nI k) 8 := hIn_lt (by omega) (by omega)
        rw [if_pos h8, if_pos h8, hLet_n, hLet_n, nI_1, nI_clamp (show k < 2 ^ 31 by omega)]
        refine ih (k + 1) _ (by omega) (by omega) (fun j hj => ?_) (f.si ⟨rfl, by omega⟩)
        by_cases e : j = k
        · rw [e, gI_ss, f.1 _ _ (by omega)]
        · rw [gI_sn (by omega)]; exact r j (by omega)
  unfold f_X11_givesBorn
  exact key fu 0 m (by omega) (by omega) (fun j hj => by omega) fr.rf
/-- all the people -/
def ppl (v : hM) : Nat → Int32
  | 0 => 0
  | k + 1 => ppl v k + gI v 102 k
theorem ppl_rng {v : hM} {n : Nat} (hv : vRel v n) : ∀ k, k ≤ n → (k : Int) ≤ (ppl v k).toInt ∧ (ppl v k).toInt ≤ 9 * k
  | 0, _ => by show ((0 : Nat) : Int) ≤ (0 : Int) ∧ (0 : Int) ≤ 9 * ((0 : Nat) : Int); omega
  | k + 1, hk => by
    have i := ppl_rng hv k (by omega)
    have r := (hv.2.2.1 k (by omega)).2.2.2.2.1
    have hn := hv.1
    rw [ppl, i_add (by omega) (by omega)]
    omega
theorem cx_people {fu : Nat} (hfu : 100 ≤ fu) {v m : hM} {n : Nat} (hn : n ≤ 6) (he : eRel v m n) : f_X0_allPeople fu m = some (ppl v n, m) := by
  have key : ∀ (t k : Nat), k ≤ n → n - k < t → f_X0_allPeople_4 fu t (ppl v k) (nI k) m = some (ppl v n, m) := by
    intro t
    induction t with
    | zero => intro k h1 h2; omega
    | succ t ih =>
      intro k hk ht
      rw [f_X0_allPeople_4_s]
      unfold s_X0_allPeople_4
      rw [he.1]
      by_cases q : nI n ≤ nI k
      · rw [if_pos q]
        rw [nI_leI (by omega) (by omega)] at q
        rw [show k = n by omega]
      · rw [if_neg q]
        rw [nI_leI (by omega) (by omega)] at q
        rw [if_pos (hIn_lt (show k < 6 by omega) (by omega)), hLet_n, hLet_n, nI_1, nI_clamp (show k < 2 ^ 31 by omega), (he.2.2.2.1 k (by omega)).1.1 4 (by omega)]
        exact ih (k + 1) (by omega) (by omega)
  unfold f_X0_allPeople
  exact key fu 0 (by omega) (by omega)
theorem rx_tog58 {fu : Nat} {v M : hM} {n : Nat} (hv : vRel v n) (g : eqV v M) (x1 x2 x3 x4 x5 : Int32) : ∀ (t k : Nat), k ≤ n → n - k < t → f_X11_together_58 fu t x1 x2 x3 x4 x5 (ppl v k) (nI k) M = f_X11_together_85 fu x1 x2 x3 x4 x5 (ppl v n) M := by
  have hn := hv.1
  intro t
  induction t with
  | zero => intro k h1 h2; omega
  | succ t ih =>
    intro k hk ht
    rw [f_X11_together_58_s]
    unfold s_X11_together_58
    rw [g 96 3 (by unfold envC; omega), hv.2.1]
    by_cases q : nI n ≤ nI k
    · rw [if_pos q]
      rw [nI_leI (by omega) (by omega)] at q
      rw [show k = n by omega]
    · rw [if_neg q]
      rw [nI_leI (by omega) (by omega)] at q
      rw [if_pos (hIn_lt (show k < 6 by omega) (by omega)), hLet_n, hLet_n, nI_1, nI_clamp (show k < 2 ^ 31 by omega), g.a k (by omega) (by omega)]
      exact ih (k + 1) (by omega) (by omega)
theorem rx_tog92 {fu : Nat} {c : Nat} (hc : c ≤ 8) (x1 x2 x3 x4 x5 x6 : Int32) : ∀ (t k : Nat) (M : hM), k ≤ c → c - k < t → gI M 96 16 = nI c → ∃ M', f_X11_together_92 fu t x1 x2 x3 x4 x5 x6 (nI k) M = f_X11_together_115 fu x1 x2 x3 x4 x5 x6 M' ∧ (∀ j, k ≤ j → j < c → gI M' 111 j = x1) ∧ fr (fun a j => a = 111 ∧ k ≤ j ∧ j < c) M M' := by
  intro t
  induction t with
  | zero => intro k M h1 h2; omega
  | succ t ih =>
    intro k M hk ht h16
    rw [f_X11_together_92_s]
    unfold s_X11_together_92
    rw [h16]
    by_cases q : nI c ≤ nI k
    · rw [if_pos q]
      rw [nI_leI (by omega) (by omega)] at q
      exact ⟨M, rfl, fun j h1 h2 => by omega, fr.rf⟩
    · rw [if_neg q]
      rw [nI_leI (by omega) (by omega)] at q
      rw [if_pos (hIn_lt (show k < 8 by omega) (by omega)), hLet_n, hLet_n, nI_1, nI_clamp (show k < 2 ^ 31 by omega)]
      obtain ⟨M', r1, r2, r3⟩ := ih (k + 1) (sI M 111 k x1) (by omega) (by omega) (by rw [gI_sn (by omega)]; exact h16)
      refine ⟨M', r1, fun j h1 h2 => ?_, (fr.rf.si ⟨rfl, Nat.le_refl k, by omega⟩).tr (r3.mono (fun a j z => ⟨z.1, by omega, z.2.2⟩))⟩
      by_cases e : j = k
      · rw [e, r3.1 _ _ (by omega), gI_ss]
      · exact r2 j (by omega) h2
/-- the world with one house: office o alone, with all the people and every craft -/
def tgV (v : hM) (o c : Nat) (A : Int32) : hM := (fun a j => if a = 102 ∧ j = o then A else if a = 103 ∧ j = o then 63 else if a = 111 ∧ j < c then nI o else if a = 117 ∧ j = 0 then 0 else if a = 96 ∧ j = 37 then 1 else gI v a j, v.2)
theorem tg_I (v : hM) (o c : Nat) (A : Int32) (a j : Nat) : gI (tgV v o c A) a j = if a = 102 ∧ j = o then A else if a = 103 ∧ j = o then 63 else if a = 111 ∧ j < c then nI o else if a = 117 ∧ j = 0 then 0 else if a = 96 ∧ j = 37 then 1 else gI v a j := rfl
theorem tg_n {v : hM} {o c : Nat} {A : Int32} {a j : Nat} (h1 : ¬ (a = 102 ∧ j = o)) (h2 : ¬ (a = 103 ∧ j = o)) (h3 : ¬ (a = 111 ∧ j < c)) (h4 : ¬ (a = 117 ∧ j = 0)) (h5 : ¬ (a = 96 ∧ j = 37)) : gI (tgV v o c A) a j = gI v a j := by rw [tg_I, if_neg h1, if_neg h2, if_neg h3, if_neg h4, if_neg h5]
theorem tg_opn {v : hM} {o c : Nat} {A : Int32} (o' : Nat) (h : Int32) : opn (tgV v o c A) o' h = opn v o' h := by
  have l1 : locI (tgV v o c A) o' h = locI v o' h := by
    unfold locI
    rw [tg_n (by omega) (by omega) (by omega) (by omega) (by omega), tg_n (by omega) (by omega) (by omega) (by omega) (by omega), tg_n (by omega) (by omega) (by omega) (by omega) (by omega)]
  have l2 : gonI (tgV v o c A) o' h = gonI v o' h := by
    unfold gonI
    rw [l1, tg_n (by omega) (by omega) (by omega) (by omega) (by omega)]
  have l3 : dayI (tgV v o c A) o' h = dayI v o' h := by unfold dayI; rw [l1, l2]
  unfold opn
  rw [l2, l3, tg_n (a := 100) (by omega) (by omega) (by omega) (by omega) (by omega), tg_n (a := 106) (by omega) (by omega) (by omega) (by omega) (by omega)]
theorem tg_v {v : hM} {n o c : Nat} {A : Int32} (hv : vRel v n) (hA : 1 ≤ A.toInt ∧ A.toInt ≤ 9) : vRel (tgV v o c A) n := by
  have e : ∀ a j, ¬ (a = 102 ∧ j = o) → ¬ (a = 103 ∧ j = o) → ¬ (a = 111 ∧ j < c) → ¬ (a = 117 ∧ j = 0) → ¬ (a = 96 ∧ j = 37) → gI (tgV v o c A) a j = gI v a j := fun a j h1 h2 h3 h4 h5 => tg_n h1 h2 h3 h4 h5
  obtain ⟨h1, h2, h3, h4, h5, h6, h7⟩ := hv
  refine ⟨h1, ?_, fun o' ho' => ?_, fun a b ha hb => ?_, fun a ha => ?_, ?_, ?_⟩
  · rw [e _ _ (by omega) (by omega) (by omega) (by omega) (by omega)]; exact h2
  · obtain ⟨a1, a2, a3, a4, a5, a6, a7, a8, a9⟩ := h3 o' ho'
    refine ⟨?_, ?_, ?_, ?_, ?_, ?_, ?_, ?_, fun d hd => ?_⟩
    · rw [e _ _ (by omega) (by omega) (by omega) (by omega) (by omega)]; exact a1
    · rw [e _ _ (by omega) (by omega) (by omega) (by omega) (by omega)]; exact a2
    · rw [e _ _ (by omega) (by omega) (by omega) (by omega) (by omega)]; exact a3
    · rw [e _ _ (by omega) (by omega) (by omega) (by omega) (by omega)]; exact a4
    · by_cases q : o' = o
      · rw [tg_I, if_pos ⟨rfl, q⟩]; exact hA
      · rw [e _ _ (by omega) (by omega) (by omega) (by omega) (by omega)]; exact a5
    · by_cases q : o' = o
      · rw [tg_I, if_neg (by omega), if_pos ⟨rfl, q⟩]; exact ⟨by decide, by decide⟩
      · rw [e _ _ (by omega) (by omega) (by omega) (by omega) (by omega)]; exact a6
    · rw [e _ _ (by omega) (by omega) (by omega) (by omega) (by omega)]; exact a7
    · rw [e _ _ (by omega) (by omega) (by omega) (by omega) (by omega)]; exact a8
    · rw [e _ _ (by omega) (by omega) (by omega) (by omega) (by omega)]; exact a9 d hd
  · rw [e _ _ (by omega) (by omega) (by omega) (by omega) (by omega), e _ _ (by omega) (by omega) (by omega) (by omega) (by omega)]; exact h4 a b ha hb
  · rw [e _ _ (by omega) (by omega) (by omega) (by omega) (by omega)]; exact h5 a ha
  · rw [e _ _ (by omega) (by omega) (by omega) (by omega) (by omega)]; exact h6
  · rw [e _ _ (by omega) (by omega) (by omega) (by omega) (by omega)]; exact h7
theorem tg_p {v : hM} {n o c : Nat} {A : Int32} (hn : n ≤ 6) (hp : pRng v n c) (ho : o < n) : pRng (tgV v o c A) n c := by
  refine ⟨hp.1, by rw [tg_n (by omega) (by omega) (by omega) (by omega) (by omega)]; exact hp.2.1, fun p hpc => ?_⟩
  obtain ⟨a1, a2, a3, a4, a5, a6⟩ := hp.2.2 p hpc
  have e : ∀ a j, a ≠ 102 → a ≠ 103 → a ≠ 111 → a ≠ 117 → a ≠ 96 → gI (tgV v o c A) a j = gI v a j := fun a j h1 h2 h3 h4 h5 => tg_n (by omega) (by omega) (by omega) (by omega) (by omega)
  rw [e 108 p (by omega) (by omega) (by omega) (by omega) (by omega), e 113 p (by omega) (by omega) (by omega) (by omega) (by omega), e 109 p (by omega) (by omega) (by omega) (by omega) (by omega), e 110 p (by omega) (by omega) (by omega) (by omega) (by omega), e 112 p (by omega) (by omega) (by omega) (by omega) (by omega), tg_I v o c A 111 p, if_neg (by omega), if_neg (by omega), if_pos ⟨rfl, hpc⟩]
  exact ⟨a1, a2, a3, a4, hIn_lt ho (by omega), a6⟩
theorem tg_env {v m mA : hM} {n o c : Nat} {A : Int32} (hv : vRel v n) (he : eRel v m n) (hp : pRng v n c) (hpr : pRel v m c) (hA : 1 ≤ A.toInt ∧ A.toInt ≤ 9) (ho : o < n)
    (g : ∀ a j, ¬ (a = 6 + 2 * o ∧ (j = 4 ∨ j = 5)) → ¬ (a = 32 ∧ (j = 3 ∨ j = 4)) → gI mA a j = gI m a j) (g1 : gI mA (6 + 2 * o) 4 = A) (g2 : gI mA (6 + 2 * o) 5 = 63) (g3 : gI mA 32 3 = 0) (g4 : gI mA 32 4 = 0) : cEnv (tgV v o c A) mA n c := by
  have hn := hv.1
  refine ⟨tg_v hv hA, ⟨?_, ?_, ?_, fun o' ho' => ⟨⟨fun j hj => ?_, fun d hd => ?_⟩, fun x hx => ?_, fun x hx => ?_⟩, fun o' h1 h2 => ?_, fun a b ha hb => ?_, fun a b ha hb q => ?_⟩, tg_p hn hp ho, ⟨by rw [g _ _ (by omega) (by omega)]; exact hpr.1, fun p hpc => ?_⟩, Or.inl ⟨?_, Or.inl g3⟩, Or.inr ⟨g4, ?_⟩⟩
  · rw [g _ _ (by omega) (by omega)]; exact he.1
  · rw [g _ _ (by omega) (by omega), tg_n (by omega) (by omega) (by omega) (by omega) (by omega)]; exact he.2.1
  · rw [g _ _ (by omega) (by omega), tg_n (by omega) (by omega) (by omega) (by omega) (by omega)]; exact he.2.2.1
  · by_cases q : o' = o
    · subst q
      by_cases j4 : j = 4
      · subst j4; rw [g1, tg_I, if_pos ⟨rfl, rfl⟩]
      · by_cases j5 : j = 5
        · subst j5; rw [g2, tg_I, if_neg (by omega), if_pos ⟨rfl, rfl⟩]
        · rw [g _ _ (by omega) (by omega), tg_n (by omega) (by omega) (by omega) (by omega) (by omega)]; exact (he.2.2.2.1 o' ho').1.1 j hj
    · rw [g _ _ (by omega) (by omega), tg_n (by omega) (by omega) (by omega) (by omega) (by omega)]; exact (he.2.2.2.1 o' ho').1.1 j hj
  · rw [g _ _ (by omega) (by omega), tg_n (by omega) (by omega) (by omega) (by omega) (by omega)]; exact (he.2.2.2.1 o' ho').1.2 d hd
  · rw [g _ _ (by omega) (by omega), tg_opn]; exact (he.2.2.2.1 o' ho').2.1 x hx
  · rw [gH_k (g _ _ (by omega) (by omega)) (g _ _ (by omega) (by omega)), tg_opn]; exact (he.2.2.2.1 o' ho').2.2 x hx
  · obtain ⟨u1, u2, u3⟩ := he.2.2.2.2.1 o' h1 h2
    exact ⟨by rw [g _ _ (by omega) (by omega)]; exact u1, by rw [g _ _ (by omega) (by omega)]; exact u2, fun d hd => by rw [g _ _ (by omega) (by omega)]; exact u3 d hd⟩
  · rw [g _ _ (by omega) (by omega), tg_n (by omega) (by omega) (by omega) (by omega) (by omega)]; exact he.2.2.2.2.2.1 a b ha hb
  · rw [g _ _ (by omega) (by omega)]; exact he.2.2.2.2.2.2 a b ha hb q
  · rw [g 19 p (by omega) (by omega), g 20 p (by omega) (by omega), g 21 p (by omega) (by omega), g 22 p (by omega) (by omega), g 24 p (by omega) (by omega), tg_n (a := 108) (by omega) (by omega) (by omega) (by omega) (by omega), tg_n (a := 113) (by omega) (by omega) (by omega) (by omega) (by omega), tg_n (a := 109) (by omega) (by omega) (by omega) (by omega) (by omega), tg_n (a := 110) (by omega) (by omega) (by omega) (by omega) (by omega), tg_n (a := 112) (by omega) (by omega) (by omega) (by omega) (by omega)]
    exact hpr.2 p hpc
  · rw [tg_I, if_neg (by omega), if_neg (by omega), if_neg (by omega), if_pos ⟨rfl, rfl⟩]
  · rw [tg_I, if_neg (by omega), if_neg (by omega), if_neg (by omega), if_neg (by omega), if_pos ⟨rfl, rfl⟩]
