/-! ===== hours go by till all is done ===== -/
def adn (S : Nat → Int32) : Nat → Bool
  | 0 => true
  | k + 1 => adn S k && decide (0 ≤ (S (35 + k)).toInt)
theorem adn_iff (S : Nat → Int32) : ∀ k, adn S k = true ↔ ∀ p, p < k → 0 ≤ (S (35 + p)).toInt
  | 0 => ⟨fun _ p hp => by omega, fun _ => rfl⟩
  | k + 1 => by
    rw [adn, Bool.and_eq_true, adn_iff S k, decide_eq_true_eq]
    constructor
    · intro h p hp
      by_cases e : p = k
      · rw [e]; exact h.2
      · exact h.1 p (by omega)
    · intro h
      exact ⟨fun p hp => h p (by omega), h k (by omega)⟩
theorem rx_isAllDone {fu : Nat} (hfu : 100 ≤ fu) {v m : hM} {S : Nat → Int32} {n c : Nat} (hp : pRng v n c) (g : eqV v m) (hS : rS S m) : f_X11_isAllDone fu m = some (if adn S c then 1 else 0, m) := by
  have hc := hp.1
  have key : ∀ (t k : Nat), k ≤ c → c - k < t → f_X11_isAllDone_4 fu t (if adn S k then 1 else 0) (nI k) m = some (if adn S c then 1 else 0, m) := by
    intro t
    induction t with
    | zero => intro k h1 h2; omega
    | succ t ih =>
      intro k hk ht
      rw [f_X11_isAllDone_4_s]
      unfold s_X11_isAllDone_4
      rw [g 96 16 (by unfold envC; omega), hp.2.1]
      by_cases q : nI c ≤ nI k
      · rw [if_pos q]
        rw [nI_leI (by omega) (by omega)] at q
        have : k = c := by omega
        subst this
        rw [if_pos (by cases adn S k <;> decide)]
      · rw [if_neg q]
        rw [nI_leI (by omega) (by omega)] at q
        have e := ih (k + 1) (by omega) (by omega)
        rw [adn] at e
        unfold f_X11_isAllDone_28 f_X11_isAllDone_29
        rw [rx_isDone fu hS (show k < 8 by omega), hBd_some, hLet_n, hLet_n, nI_1]
        cases ha : adn S k
        · rw [ha] at e
          rw [if_pos (by decide)]; exact e
        · rw [ha] at e
          rw [if_neg (by decide)]
          by_cases hd : 0 ≤ (S (35 + k)).toInt
          · rw [if_pos hd, if_neg (by decide)]
            simp only [hd] at e; exact e
          · rw [if_neg hd, if_pos rfl]
            simp only [hd] at e; exact e
  unfold f_X11_isAllDone
  exact key fu 0 (by omega) (by omega)
theorem all_n : ∀ c, c < 9 → (1 : Int32) <<< (nI c &&& 31) - 1 = nI (2 ^ c - 1) ∧ ∀ i, i < 32 → bt (nI (2 ^ c - 1)) i = decide (i < c) := by decide +kernel
theorem done_all {S : Nat → Int32} {m : hM} {s c : Nat} (h : sRel S m s c) : gI m s 1 = nI (2 ^ c - 1) ↔ adn S c = true := by
  have hc := h.1
  rw [adn_iff]
  constructor
  · intro e p hp
    have := (h.2.2.2.2.1 p hp).2.2.2.2.2.2.2.2
    rw [e, (all_n c (by omega)).2 p (by omega)] at this
    simp only [hp, decide_true] at this
    exact of_decide_eq_true this.symm
  · intro e
    refine b_ext (fun i hi => ?_)
    rw [(all_n c (by omega)).2 i hi]
    by_cases hp : i < c
    · rw [(h.2.2.2.2.1 i hp).2.2.2.2.2.2.2.2]
      simp [hp, e i hp]
    · rw [(h.2.2.2.2.2.2.1 i (by omega) hi).1]
      simp [hp]
/-- how many hours it takes, within r -/
noncomputable def gK (v : hM) (n c : Nat) : Nat → (Nat → Int32) → Option Nat
  | 0, S => if adn S c then some 0 else none
  | r + 1, S => if adn S c then some 0 else (gK v n c r (pas v n c S)).map (· + 1)
noncomputable def runS (v : hM) (n c : Nat) : Nat → (Nat → Int32) → Nat → Int32
  | 0, S => S
  | k + 1, S => runS v n c k (pas v n c S)
theorem gK_le {v : hM} {n c : Nat} : ∀ (r : Nat) (S : Nat → Int32) (k : Nat), gK v n c r S = some k → k ≤ r
  | 0, S, k, h => by
    rw [gK] at h
    split at h
    · cases h; omega
    · cases h
  | r + 1, S, k, h => by
    rw [gK] at h
    split at h
    · cases h; omega
    · rw [Option.map_eq_some_iff] at h
      obtain ⟨j, h1, h2⟩ := h
      have := gK_le r _ j h1
      omega
theorem gK_less {v : hM} {n c : Nat} : ∀ (r r' : Nat) (S : Nat → Int32), r' ≤ r → gK v n c r' S = (gK v n c r S).filter (fun k => decide (k ≤ r'))
  | 0, r', S, h => by
    have : r' = 0 := by omega
    subst this
    rw [gK]
    split <;> rfl
  | r + 1, 0, S, h => by
    rw [gK, gK]
    split
    · rfl
    · cases gK v n c r (pas v n c S) <;> rfl
  | r + 1, r' + 1, S, h => by
    rw [gK, gK]
    split
    · rfl
    · rw [gK_less r r' _ (by omega)]
      cases gK v n c r (pas v n c S) with
      | none => rfl
      | some k =>
        by_cases q : k ≤ r'
        · simp [Option.filter, q]
        · simp [Option.filter, q]
theorem run_inv {v : hM} {n c : Nat} (hn : n ≤ 6) (hp : pRng v n c) : ∀ (k : Nat) (S : Nat → Int32) (h : Nat), sInv v S n c → S 0 = nI h → h + k ≤ 2399 → sInv v (runS v n c k S) n c ∧ runS v n c k S 0 = nI (h + k)
  | 0, S, h, hI, h0, _ => ⟨hI, h0⟩
  | k + 1, S, h, hI, h0, hk => by
    rw [runS]
    obtain ⟨i1, i2⟩ := pas_inv hn hp hI h0 (by omega)
    have := run_inv hn hp k _ (h + 1) i1 i2 (by omega)
    rw [show h + 1 + k = h + (k + 1) by omega] at this
    exact this
/-- the reference's goesOn -/
theorem rx_go16 {fu : Nat} (hfu : 300 ≤ fu) {v : hM} {n c : Nat} (hv : vRel v n) (hp : pRng v n c) (hk : rOk v) : ∀ (t r h : Nat) (S : Nat → Int32) (m : hM), h + r = 2399 → r < t → sInv v S n c → S 0 = nI h → eqV v m → rS S m →
    ∃ m', f_X11_goesOn_16 fu t m = some ((match gK v n c r S with | some k => nI (h + k) | none => -1), m') ∧ (∀ k, gK v n c r S = some k → rS (runS v n c k S) m') ∧ fr PR m m' := by
  have hn := hv.1
  have hc := hp.1
  intro t
  induction t with
  | zero => intro r h S m h1 h2; omega
  | succ t ih =>
    intro r h S m hr ht hI h0 g hS
    rw [f_X11_goesOn_16_s]
    unfold s_X11_goesOn_16
    rw [rx_isAllDone (show 100 ≤ fu by omega) hp g hS, hBd_some, hS 0 (by omega), h0]
    cases ha : adn S c
    · rw [if_neg (by decide)]
      cases r with
      | zero =>
        rw [if_neg (show ¬ nI h < 2399 from nI_nlt (b := 2399) (by omega) (by omega)), gK, ha]
        exact ⟨m, rfl, fun k hk => (by cases hk), fr.rf⟩
      | succ r =>
        rw [if_pos (show nI h < 2399 from nI_lt (b := 2399) (by omega) (by omega))]
        obtain ⟨m1, r1, r2, r3⟩ := rx_passes hfu hv hp hk hI h0 (by omega) g hS
        obtain ⟨i1, i2⟩ := pas_inv hn hp hI h0 (by omega)
        rw [r1, hBd_some]
        obtain ⟨m2, s1, s2, s3⟩ := ih r (h + 1) _ m1 (by omega) (by omega) i1 i2 (eqV_fr g r3) r2
        rw [gK, ha, s1]
        refine ⟨m2, ?_, fun k hk => ?_, r3.tr s3⟩
        · cases hg : gK v n c r (pas v n c S) with
          | none => rfl
          | some k =>
            show some (nI (h + 1 + k), m2) = some (nI (h + (k + 1)), m2)
            rw [show h + 1 + k = h + (k + 1) by omega]
        · simp only [Bool.false_eq_true, if_false] at hk
          rw [Option.map_eq_some_iff] at hk
          obtain ⟨j, h1, h2⟩ := hk
          subst h2
          rw [runS]
          exact s2 j h1
    · rw [if_pos (by decide)]
      unfold f_X11_goesOn_44
      rw [hS 0 (by omega), h0]
      have : gK v n c r S = some 0 := by cases r <;> rw [gK, ha] <;> rfl
      rw [this]
      exact ⟨m, rfl, fun k hk => by cases hk; exact hS, fr.rf⟩
theorem rx_goesOn {fu : Nat} (hfu : 3000 ≤ fu) {v : hM} {n c : Nat} (hv : vRel v n) (hp : pRng v n c) (hk : rOk v) {r h : Nat} {S : Nat → Int32} {m : hM} (hr : h + r = 2399) (hI : sInv v S n c) (h0 : S 0 = nI h) (g : eqV v m) (hS : rS S m) :
    ∃ m', f_X11_goesOn fu m = some ((match gK v n c r S with | some k => nI (h + k) | none => -1), m') ∧ (∀ k, gK v n c r S = some k → rS (runS v n c k S) m') ∧ fr PR m m' := by
  have hc := hp.1
  unfold f_X11_goesOn
  rw [hLet_n, rx_isAllDone (show 100 ≤ fu by omega) hp g hS, hBd_some, hS 0 (by omega), h0]
  cases ha : adn S c
  · rw [if_pos (by decide)]
    exact rx_go16 (by omega) hv hp hk fu r h S m hr (by omega) hI h0 g hS
  · rw [if_neg (by decide)]
    have : gK v n c r S = some 0 := by cases r <;> rw [gK, ha] <;> rfl
    rw [this]
    exact ⟨m, rfl, fun k hk => by cases hk; exact hS, fr.rf⟩
/-- the class's loop, q hours at most -/
theorem cx_run25 {fu : Nat} (hfu : 300 ≤ fu) {v : hM} {n c s : Nat} (hs : s ∈ stL) (hp : pRng v n c) {x2 : Int32} : ∀ (t q h : Nat) (S : Nat → Int32) (m : hM), (q = 0 ↔ (x2 ≤ nI h ∨ 2399 ≤ nI h)) → (0 < q → (q : Int) + h = (if x2.toInt ≤ 2399 then x2.toInt else 2399)) → h < 2400 → q < t → sInv v S n c → S 0 = nI h → cEnv v m n c → sRel S m s c →
    ∃ m', f_X8_runToEnd_25 fu t s x2 (nI (2 ^ c - 1)) (nI h) m = some ((match gK v n c q S with | some k => nI (h + k) | none => -2), m') ∧ (∀ k, gK v n c q S = some k → sRel (runS v n c k S) m' s c) ∧ (∃ S', sRel S' m' s c) ∧ fr (PC s) m m' := by
  intro t
  induction t with
  | zero => intro q h S m h1 h2 h3 h4; omega
  | succ t ih =>
    intro q h S m hq hq2 hh ht hI h0 he hR
    have hn := he.1.1
    have hc := hp.1
    have hda := done_all hR
    have end1 : (q = 0 ∨ adn S c = true) → ∃ m', f_X8_runToEnd_58 fu s (nI (2 ^ c - 1)) m = some ((match gK v n c q S with | some k => nI (h + k) | none => -2), m') ∧ (∀ k, gK v n c q S = some k → sRel (runS v n c k S) m' s c) ∧ (∃ S', sRel S' m' s c) ∧ fr (PC s) m m' := by
      intro z
      unfold f_X8_runToEnd_58
      cases ha : adn S c
      · have z0 : q = 0 := z.resolve_right (by rw [ha]; decide)
        subst z0
        rw [if_pos (fun y => by rw [hda.mp y] at ha; cases ha), gK, ha]
        exact ⟨m, rfl, fun k hk => (by cases hk), ⟨S, hR⟩, fr.rf⟩
      · rw [if_neg (fun y => y (hda.mpr ha)), hR.2.1, h0]
        have : gK v n c q S = some 0 := by cases q <;> rw [gK, ha] <;> rfl
        rw [this]
        exact ⟨m, rfl, fun k hk => by cases hk; exact hR, ⟨S, hR⟩, fr.rf⟩
    rw [f_X8_runToEnd_25_s]
    unfold s_X8_runToEnd_25
    by_cases c1 : x2 ≤ nI h
    · rw [if_pos c1]; exact end1 (Or.inl (hq.mpr (Or.inl c1)))
    rw [if_neg c1]
    by_cases c2 : (2399 : Int32) ≤ nI h
    · rw [if_pos c2]; exact end1 (Or.inl (hq.mpr (Or.inr c2)))
    rw [if_neg c2]
    have hq0 : q ≠ 0 := fun z => (hq.mp z).elim c1 c2
    by_cases c3 : gI m s 1 = nI (2 ^ c - 1)
    · rw [if_pos c3]; exact end1 (Or.inr (hda.mp c3))
    rw [if_neg c3]
    have ha : adn S c = false := by cases z : adn S c; rfl; exact absurd (hda.mpr z) c3
    have h23 : h < 2399 := by
      rw [show (2399 : Int32) = nI 2399 from rfl, nI_leI (by omega) (by omega)] at c2; omega
    obtain ⟨q', rfl⟩ : ∃ q', q = q' + 1 := ⟨q - 1, by omega⟩
    have hq3 := hq2 (by omega)
    obtain ⟨m1, r1, r2, _, _, r3⟩ := cx_hourGoesBy hfu hs he hI h0 h23 hR
    obtain ⟨i1, i2⟩ := pas_inv hn hp hI h0 h23
    rw [r1, hBd_some, nI_1, hLet_n]
    have e23 : (2399 : Int32) ≤ nI (h + 1) ↔ 2399 ≤ h + 1 := by rw [show (2399 : Int32) = nI 2399 from rfl, nI_leI (by omega) (by omega)]
    have ex2 : x2 ≤ nI (h + 1) ↔ x2.toInt ≤ (h : Int) + 1 := by rw [i_le, nI_toInt (by omega)]; omega
    obtain ⟨m2, s1, s2, s4, s3⟩ := ih q' (h + 1) _ m1 (by rw [e23, ex2]; split at hq3 <;> omega) (fun z => by split at hq3 <;> rename_i y <;> simp only [y, if_true, if_false] <;> omega) (by omega) (by omega) i1 i2 (cEnv_fr hs he r3) r2
    rw [gK, ha, s1]
    refine ⟨m2, ?_, fun k hk => ?_, s4, r3.tr s3⟩
    · cases hg : gK v n c q' (pas v n c S) with
      | none => rfl
      | some k =>
        show some (nI (h + 1 + k), m2) = some (nI (h + (k + 1)), m2)
        rw [show h + 1 + k = h + (k + 1) by omega]
    · simp only [Bool.false_eq_true, if_false] at hk
      rw [Option.map_eq_some_iff] at hk
      obtain ⟨j, h1, h2⟩ := hk
      subst h2
      rw [runS]
      exact s2 j h1
