/-! ===== begun anew or from now on, till the end, and back: the reference ===== -/
def lay1 (v : hM) (p : Nat) (S : Nat → Int32) : Nat → Int32 := up (up (up (up (up (up (up (up S (3 + p) (gI v 111 p)) (11 + p) (gI v 109 p)) (19 + p) 0) (27 + p) 0) (35 + p) (-1)) (43 + p) 0) (51 + p) 0) (59 + p) 0
def lyA (v : hM) (S : Nat → Int32) : Nat → Nat → Int32
  | 0 => S
  | k + 1 => lay1 v k (lyA v S k)
def begR (v : hM) (h : Int32) (c : Nat) (S : Nat → Int32) : Nat → Int32 := lyA v (up (up (up S 0 h) 1 0) 2 0) c
theorem lay1_k {v : hM} {p j : Nat} {S : Nat → Int32} (hj : j < 3 ∨ 67 ≤ j ∨ (j - 3) % 8 ≠ p) (hp : p < 8) : lay1 v p S j = S j := by
  unfold lay1
  rw [up_n (by omega), up_n (by omega), up_n (by omega), up_n (by omega), up_n (by omega), up_n (by omega), up_n (by omega), up_n (by omega)]
theorem lyA_k {v : hM} {j : Nat} {S : Nat → Int32} : ∀ k, k ≤ 8 → (j < 3 ∨ 67 ≤ j ∨ k ≤ (j - 3) % 8) → lyA v S k j = S j
  | 0, _, _ => rfl
  | k + 1, hk, hj => by rw [lyA, lay1_k (by omega) (by omega)]; exact lyA_k k (by omega) (by omega)
theorem lyA_p {v : hM} {S : Nat → Int32} {p : Nat} : ∀ k, k ≤ 8 → p < k → lyA v S k (3 + p) = gI v 111 p ∧ lyA v S k (11 + p) = gI v 109 p ∧ lyA v S k (19 + p) = 0 ∧ lyA v S k (27 + p) = 0 ∧ lyA v S k (35 + p) = -1 ∧ lyA v S k (43 + p) = 0 ∧ lyA v S k (51 + p) = 0 ∧ lyA v S k (59 + p) = 0
  | 0, _, h => by omega
  | k + 1, hk, h => by
    rw [lyA]
    by_cases e : p = k
    · subst e
      unfold lay1
      refine ⟨?_, ?_, ?_, ?_, ?_, ?_, ?_, ?_⟩ <;> simp (disch := omega) only [up_s, up_n]
    · rw [lay1_k (by omega) (by omega), lay1_k (by omega) (by omega), lay1_k (by omega) (by omega), lay1_k (by omega) (by omega), lay1_k (by omega) (by omega), lay1_k (by omega) (by omega), lay1_k (by omega) (by omega), lay1_k (by omega) (by omega)]
      exact lyA_p k (by omega) (by omega)
theorem begR_P (v : hM) (h : Int32) {c : Nat} (hc : c ≤ 8) (S : Nat → Int32) : begP (begR v h c S) h (fun p => gI v 111 p) (fun p => gI v 109 p) c := by
  unfold begR
  refine ⟨?_, ?_, ?_, fun p hp => lyA_p c hc hp⟩
  · rw [lyA_k c hc (by omega), up_n (by omega), up_n (by omega), up_s]
  · rw [lyA_k c hc (by omega), up_n (by omega), up_s]
  · rw [lyA_k c hc (by omega), up_s]
theorem begP_inv {v : hM} {S B L : Nat → Int32} {h : Int32} {n c : Nat} (hb : begP S h B L c) (hB : ∀ p, p < c → hIn (B p) n) (hh : hIn h 2400) : sInv v S n c := by
  refine ⟨fun p hp => ⟨?_, Or.inl ?_⟩, ?_, ?_⟩
  · rw [(hb.2.2.2 p hp).1]; exact hB p hp
  · exact (hb.2.2.2 p hp).2.2.2.1
  · rw [hb.2.2.1]; decide
  · rw [hb.1]; exact hh
theorem rx_lays (fu : Nat) {v m : hM} {S : Nat → Int32} {p : Nat} (hp : p < 8) (g : eqV v m) (hS : rS S m) : ∃ m', f_X11_lays fu (nI p) m = some ((), m') ∧ rS (lay1 v p S) m' ∧ fr (fun a _ => a = 114) m m' := by
  have h8 : hIn (nI p) 8 := hIn_lt hp (by omega)
  have cp : (nI p).toNatClampNeg = p := nI_clamp (by omega)
  have hi : ∀ k, k ≤ 59 → hIn (nI (k + p)) 127 := fun k hk => hIn_lt (by omega) (by omega)
  have hc : ∀ k, k ≤ 59 → (nI (k + p)).toNatClampNeg = k + p := fun k hk => nI_clamp (by omega)
  unfold f_X11_lays
  rw [q_3, q_11, q_19, q_27, q_35, q_43, q_51, q_59, cp, hc 3 (by omega), hc 11 (by omega), hc 19 (by omega), hc 27 (by omega), hc 35 (by omega), hc 43 (by omega), hc 51 (by omega), hc 59 (by omega), if_pos h8, if_pos (hi 3 (by omega)), hLet_n, if_pos h8, if_pos (hi 11 (by omega)), hLet_n, if_pos (hi 19 (by omega)), hLet_n, if_pos (hi 27 (by omega)), hLet_n, if_pos (hi 35 (by omega)), hLet_n, if_pos (hi 43 (by omega)), hLet_n, if_pos (hi 51 (by omega)), hLet_n, if_pos (hi 59 (by omega)), hLet_n, gI_sn (show ¬ (109 = 114 ∧ p = 3 + p) by omega), g.a p (show 98 ≤ 111 by omega) (by omega), g.a p (show 98 ≤ 109 by omega) (by omega)]
  exact ⟨_, rfl, hS.u.u.u.u.u.u.u.u, f114 (f114 (f114 (f114 (f114 (f114 (f114 (f114 fr.rf)))))))⟩
theorem eqV_114 {v m m' : hM} (g : eqV v m) (f : fr (fun a _ => a = 114) m m') : eqV v m' := fun a j z => (f.1 a j (by unfold envC at z; omega)).trans (g a j z)
theorem rx_begins {fu : Nat} (hfu : 100 ≤ fu) {v m : hM} {n c : Nat} (hp : pRng v n c) {S : Nat → Int32} (h : Int32) (g : eqV v m) (hS : rS S m) : ∃ m', f_X11_begins fu h m = some ((), m') ∧ rS (begR v h c S) m' ∧ fr (fun a _ => a = 114) m m' := by
  have hc := hp.1
  have key : ∀ (t k : Nat) (m1 : hM), k ≤ c → c - k < t → rS (lyA v (up (up (up S 0 h) 1 0) 2 0) k) m1 → fr (fun a _ => a = 114) m m1 → ∃ m', f_X11_begins_23 fu t (nI k) m1 = some ((), m') ∧ rS (begR v h c S) m' ∧ fr (fun a _ => a = 114) m m' := by
    intro t
    induction t with
    | zero => intro k m1 h1 h2; omega
    | succ t ih =>
      intro k m1 hk ht s1 f1
      have g1 := eqV_114 g f1
      rw [f_X11_begins_23_s]
      unfold s_X11_begins_23
      rw [g1 96 16 (by unfold envC; omega), hp.2.1]
      by_cases q : nI c ≤ nI k
      · rw [if_pos q]
        rw [nI_leI (by omega) (by omega)] at q
        have : k = c := by omega
        subst this
        exact ⟨m1, rfl, s1, f1⟩
      · rw [if_neg q]
        rw [nI_leI (by omega) (by omega)] at q
        obtain ⟨m2, r1, r2, r3⟩ := rx_lays fu (show k < 8 by omega) g1 s1
        rw [r1, hBd_some, nI_1, hLet_n]
        exact ih (k + 1) m2 (by omega) (by omega) r2 (f1.tr r3)
  unfold f_X11_begins
  rw [hLet_n, hLet_n, hLet_n]
  exact key fu 0 _ (by omega) (by omega) hS.u.u.u (f114 (f114 (f114 fr.rf)))
theorem rx_putsBy {fu : Nat} (hfu : 200 ≤ fu) (m : hM) : ∃ m', f_X11_putsBy fu m = some ((), m') ∧ (∀ j, j < 127 → gI m' 115 j = gI m 114 j) ∧ fr (fun a _ => a = 115) m m' := by
  have key : ∀ (t k : Nat) (m1 : hM), k ≤ 127 → 127 - k < t → (∀ j, j < k → gI m1 115 j = gI m 114 j) → fr (fun a _ => a = 115) m m1 → ∃ m', f_X11_putsBy_2 fu t (nI k) m1 = some ((), m') ∧ (∀ j, j < 127 → gI m' 115 j = gI m 114 j) ∧ fr (fun a _ => a = 115) m m' := by
    intro t
    induction t with
    | zero => intro k m1 h1 h2; omega
    | succ t ih =>
      intro k m1 hk ht s1 f1
      rw [f_X11_putsBy_2_s]
      unfold s_X11_putsBy_2
      by_cases q : nI 127 ≤ nI k
      · rw [if_pos (show (127 : Int32) ≤ nI k from q)]
        rw [nI_leI (by omega) (by omega)] at q
        exact ⟨m1, rfl, fun j hj => s1 j (by omega), f1⟩
      · rw [if_neg (show ¬ (127 : Int32) ≤ nI k from q)]
        rw [nI_leI (by omega) (by omega)] at q
        have hi : hIn (nI k) 127 := hIn_lt (by omega) (by omega)
        rw [if_pos hi, if_pos hi, hLet_n, hLet_n, nI_1, nI_clamp (show k < 2 ^ 31 by omega)]
        refine ih (k + 1) _ (by omega) (by omega) (fun j hj => ?_) (fr.si (P := fun a _ => a = 115) f1 rfl)
        by_cases e : j = k
        · rw [e, gI_ss, f1.1 _ _ (by omega)]
        · rw [gI_sn (by omega)]; exact s1 j (by omega)
  unfold f_X11_putsBy
  exact key fu 0 m (by omega) (by omega) (fun j hj => by omega) fr.rf
theorem rx_takesBack {fu : Nat} (hfu : 200 ≤ fu) (m : hM) : ∃ m', f_X11_takesBack fu m = some ((), m') ∧ (∀ j, j < 127 → gI m' 114 j = gI m 115 j) ∧ fr (fun a _ => a = 114) m m' := by
  have key : ∀ (t k : Nat) (m1 : hM), k ≤ 127 → 127 - k < t → (∀ j, j < k → gI m1 114 j = gI m 115 j) → fr (fun a _ => a = 114) m m1 → ∃ m', f_X11_takesBack_2 fu t (nI k) m1 = some ((), m') ∧ (∀ j, j < 127 → gI m' 114 j = gI m 115 j) ∧ fr (fun a _ => a = 114) m m' := by
    intro t
    induction t with
    | zero => intro k m1 h1 h2; omega
    | succ t ih =>
      intro k m1 hk ht s1 f1
      rw [f_X11_takesBack_2_s]
      unfold s_X11_takesBack_2
      by_cases q : nI 127 ≤ nI k
      · rw [if_pos (show (127 : Int32) ≤ nI k from q)]
        rw [nI_leI (by omega) (by omega)] at q
        exact ⟨m1, rfl, fun j hj => s1 j (by omega), f1⟩
      · rw [if_neg (show ¬ (127 : Int32) ≤ nI k from q)]
        rw [nI_leI (by omega) (by omega)] at q
        have hi : hIn (nI k) 127 := hIn_lt (by omega) (by omega)
        rw [if_pos hi, if_pos hi, hLet_n, hLet_n, nI_1, nI_clamp (show k < 2 ^ 31 by omega)]
        refine ih (k + 1) _ (by omega) (by omega) (fun j hj => ?_) (f114 f1)
        by_cases e : j = k
        · rw [e, gI_ss, f1.1 _ _ (by omega)]
        · rw [gI_sn (by omega)]; exact s1 j (by omega)
  unfold f_X11_takesBack
  exact key fu 0 m (by omega) (by omega) (fun j hj => by omega) fr.rf
/-- what of the reference a question leaves changed -/
def PS (a j : Nat) : Prop := a = 115 ∨ a = 118 ∨ a = 120 ∨ (a = 96 ∧ (j = 34 ∨ j = 35 ∨ j = 36)) ∨ (a = 114 ∧ 127 ≤ j)
noncomputable def eEnd (v : hM) (n c h : Nat) (S : Nat → Int32) : Int32 := match gK v n c (2399 - h) S with | some k => nI (h + k) | none => -1
theorem PS_back {m m1 m2 m3 : hM} (h1 : fr (fun a _ => a = 115) m m1) (hq : ∀ j, j < 127 → gI m1 115 j = gI m 114 j) (h2 : fr PR m1 m2) (h3 : fr (fun a _ => a = 114) m2 m3) (hb : ∀ j, j < 127 → gI m3 114 j = gI m2 115 j) : fr PS m m3 := by
  refine ⟨fun a j z => ?_, fun a j => (h3.2.1 a j).trans ((h2.2.1 a j).trans (h1.2.1 a j)), fun a j => (h3.2.2 a j).trans ((h2.2.2 a j).trans (h1.2.2 a j))⟩
  unfold PS at z
  by_cases e : a = 114
  · subst e
    rw [hb j (by omega), h2.1 _ _ (by unfold PR; omega), hq j (by omega)]
  · rw [h3.1 _ _ e, h2.1 _ _ (by unfold PR; omega), h1.1 _ _ (by omega)]
theorem rx_endsFrom {fu : Nat} (hfu : 3000 ≤ fu) {v : hM} {n c : Nat} (hv : vRel v n) (hp : pRng v n c) (hk : rOk v) {h : Nat} (hh : h < 2400) {S : Nat → Int32} {m : hM} (g : eqV v m) (hS : rS S m) :
    ∃ m', f_X11_endsFrom fu (nI h) m = some (eEnd v n c h (begR v (nI h) c S), m') ∧ fr PS m m' := by
  have hn := hv.1
  obtain ⟨m1, a1, a2, a3⟩ := rx_putsBy (show 200 ≤ fu by omega) m
  have g1 : eqV v m1 := fun a j z => (a3.1 a j (by unfold envC at z; omega)).trans (g a j z)
  have s1 : rS S m1 := fun j hj => (a3.1 114 j (by omega)).trans (hS j hj)
  obtain ⟨m2, b1, b2, b3⟩ := rx_begins (show 100 ≤ fu by omega) hp (nI h) g1 s1
  have hb := begR_P v (nI h) hp.1 S
  have hI : sInv v (begR v (nI h) c S) n c := begP_inv hb (fun p hpc => (hp.2.2 p hpc).2.2.2.2.1) (hIn_lt hh (by omega))
  obtain ⟨m3, c1, c2, c3⟩ := rx_goesOn hfu hv hp hk (r := 2399 - h) (by omega) hI hb.1 (eqV_114 g1 b3) b2
  obtain ⟨m4, d1, d2, d3⟩ := rx_takesBack (show 200 ≤ fu by omega) m3
  unfold f_X11_endsFrom
  rw [a1, hBd_some, b1, hBd_some, c1, hBd_some, d1, hBd_some]
  exact ⟨m4, rfl, PS_back a3 a2 ((b3.mono (fun a j z => Or.inl z)).tr c3) d3 d2⟩
theorem rx_endsNow {fu : Nat} (hfu : 3000 ≤ fu) {v : hM} {n c : Nat} (hv : vRel v n) (hp : pRng v n c) (hk : rOk v) {h : Nat} (hh : h < 2400) {S : Nat → Int32} (hI : sInv v S n c) (h0 : S 0 = nI h) {m : hM} (g : eqV v m) (hS : rS S m) :
    ∃ m', f_X11_endsNow fu m = some (eEnd v n c h S, m') ∧ fr PS m m' := by
  obtain ⟨m1, a1, a2, a3⟩ := rx_putsBy (show 200 ≤ fu by omega) m
  have g1 : eqV v m1 := fun a j z => (a3.1 a j (by unfold envC at z; omega)).trans (g a j z)
  have s1 : rS S m1 := fun j hj => (a3.1 114 j (by omega)).trans (hS j hj)
  obtain ⟨m3, c1, c2, c3⟩ := rx_goesOn hfu hv hp hk (r := 2399 - h) (by omega) hI h0 g1 s1
  obtain ⟨m4, d1, d2, d3⟩ := rx_takesBack (show 200 ≤ fu by omega) m3
  unfold f_X11_endsNow
  rw [a1, hBd_some, c1, hBd_some, d1, hBd_some]
  exact ⟨m4, rfl, PS_back a3 a2 c3 d3 d2⟩
/-! the class's -/
noncomputable def cEnd (v : hM) (n c h : Nat) (S : Nat → Int32) (x : Int32) : Int32 := match gK v n c (qOf x h) S with | some k => nI (h + k) | none => -2
theorem cEnd_e {v : hM} {n c h : Nat} {S : Nat → Int32} (hh : h < 2400) (x : Int32) : (∃ e : Nat, eEnd v n c h S = nI e ∧ h ≤ e ∧ e ≤ 2399 ∧ cEnd v n c h S x = if (e : Int) ≤ x.toInt ∨ e = h then nI e else -2) ∨ (eEnd v n c h S = -1 ∧ cEnd v n c h S x = -2) := by
  unfold eEnd cEnd
  have hq : qOf x h ≤ 2399 - h := by unfold qOf; split <;> omega
  rw [gK_less _ _ _ hq]
  cases hg : gK v n c (2399 - h) S with
  | none => exact Or.inr ⟨rfl, rfl⟩
  | some k =>
    have hk := gK_le _ _ _ hg
    refine Or.inl ⟨h + k, rfl, by omega, by omega, ?_⟩
    by_cases q : k ≤ qOf x h
    · have : (((h + k : Nat) : Int) ≤ x.toInt ∨ h + k = h) := by unfold qOf at q; split at q <;> omega
      rw [if_pos this]
      simp [Option.filter, q]
    · have : ¬ (((h + k : Nat) : Int) ≤ x.toInt ∨ h + k = h) := by unfold qOf at q; split at q <;> omega
      rw [if_neg this]
      simp [Option.filter, q]
theorem cx_begun {fu : Nat} (hfu : 3000 ≤ fu) {v m : hM} {n c h : Nat} (he : cEnv v m n c) (hh : h < 2400) (j : jk m 55 c) (hb : ∀ p, p < c → gI m 23 p = gI v 111 p) (x : Int32) (S : Nat → Int32) :
    ∃ m1 m', f_X10_begunAt fu (nI h) m = some (55, m1) ∧ f_X8_runToEnd fu 55 x m1 = some (cEnd v n c h (begR v (nI h) c S) x, m') ∧ jk m' 55 c ∧ fr (PC 55) m m' := by
  have hs : 55 ∈ stL := by decide
  have hp := he.2.2.1
  obtain ⟨m1, a1, a2, a3⟩ := cx_startAll (show 100 ≤ fu by omega) hs j he.2.2.2.1.1 (nI h)
  have hbp := begR_P v (nI h) hp.1 S
  have hI : sInv v (begR v (nI h) c S) n c := begP_inv hbp (fun p hpc => (hp.2.2 p hpc).2.2.2.2.1) (hIn_lt hh (by omega))
  have hR : sRel (begR v (nI h) c S) m1 55 c := a3 _ ⟨hbp.1, hbp.2.1, hbp.2.2.1, fun p hpc => by show _ = gI m 23 p ∧ _ = gI m 21 p ∧ _; rw [hb p hpc, (he.2.2.2.1.2 p hpc).2.2.1]; exact hbp.2.2.2 p hpc⟩
  have f1 : fr (PC 55) m m1 := a2.mono (fun a j z => Or.inl z)
  obtain ⟨m2, b1, b2, ⟨S', b3⟩, b4⟩ := cx_runToEnd hfu hs (cEnv_fr hs he f1) hI hbp.1 hh hR x
  refine ⟨m1, m2, ?_, b1, b3.jk, f1.tr b4⟩
  unfold f_X10_begunAt
  rw [a1, hBd_some]
theorem cx_now {fu : Nat} (hfu : 3000 ≤ fu) {v m : hM} {n c h : Nat} (he : cEnv v m n c) (hh : h < 2400) {S : Nat → Int32} (hI : sInv v S n c) (h0 : S 0 = nI h) (hR : sRel S m 46 c) (x : Int32) :
    ∃ m1 m', f_X10_fromNow fu m = some (55, m1) ∧ f_X8_runToEnd fu 55 x m1 = some (cEnd v n c h S x, m') ∧ (∀ k, gK v n c (qOf x h) S = some k → sRel (runS v n c k S) m' 55 c) ∧ jk m' 55 c ∧ fr (PC 55) m m' := by
  have hs : 55 ∈ stL := by decide
  obtain ⟨k, hk, hke⟩ := wr_num hI
  obtain ⟨m1, a1, a2, a3⟩ := cx_copyFrom fu (m := m) hs (show 46 ∈ stL by decide) (by omega)
  have hR1 : sRel S m1 55 c := a3 S c hR (by rw [hke, nI_clamp (show k < 2 ^ 31 by omega)]; exact hk)
  have f1 : fr (PC 55) m m1 := a2.mono (fun a j z => Or.inl z)
  obtain ⟨m2, b1, b2, ⟨S', b3⟩, b4⟩ := cx_runToEnd hfu hs (cEnv_fr hs he f1) hI h0 hh hR1 x
  refine ⟨m1, m2, ?_, b1, b2, b3.jk, f1.tr b4⟩
  unfold f_X10_fromNow
  rw [a1, hBd_some]
