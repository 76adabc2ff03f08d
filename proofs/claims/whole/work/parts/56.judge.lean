/-! ===== judge: a piece lies ready and unworked, though an open office could work it ===== -/
theorem wk1_27 {v : hM} {R : Int32} {h p q : Nat} {T : wT} (hp : p < 8) (hq : q < 8) (e : p ≠ q) : (wk1 v R h q T).1 (27 + p) = T.1 (27 + p) := wk1_k (by omega) (by omega) (by omega) (by omega) (by omega) (by omega)
theorem wkA_27 {v : hM} {R : Int32} {h p : Nat} {T : wT} (hp : p < 8) : ∀ k, k ≤ p → (wkA v R h T k).1 (27 + p) = T.1 (27 + p)
  | 0, _ => rfl
  | k + 1, hk => by rw [wkA, wk1_27 hp (by omega) (by omega)]; exact wkA_27 hp k (by omega)
theorem wk1_Q {v : hM} {R : Int32} {h q : Nat} {T : wT} (hq : q < 8) (i : Nat) (hi : i < 32) : bt (wk1 v R h q T).2.2.2 i = (bt T.2.2.2 i || (decide (i = q) && (bt R q && decide (T.1 (27 + q) = 1)))) := by
  unfold wk1
  by_cases b : bt R q = true
  · rw [if_pos b]
    by_cases e : T.1 (27 + q) = 1
    · rw [if_pos e]
      have : bt (T.2.2.2 ||| bit1 q) i = (bt T.2.2.2 i || (decide (i = q) && (bt R q && decide (T.1 (27 + q) = 1)))) := by
        unfold bit1; rw [b_set (by omega) hi, b, e]; simp
      split <;> exact this
    · rw [if_neg e]
      have : bt T.2.2.2 i = (bt T.2.2.2 i || (decide (i = q) && (bt R q && decide (T.1 (27 + q) = 1)))) := by simp [e]
      split <;> exact this
  · rw [if_neg b]; simp [b]
theorem wkA_Q {v : hM} {R : Int32} {h : Nat} {S : Nat → Int32} {H : Nat → Int32} : ∀ k, k ≤ 8 → ∀ i, i < 32 → bt (wkA v R h (S, H, 0, 0) k).2.2.2 i = (decide (i < k) && (bt R i && decide (S (27 + i) = 1)))
  | 0, _, i, _ => by show bt 0 i = _; rw [b_0]; simp
  | k + 1, hk, i, hi => by
    rw [wkA, wk1_Q (by omega) i hi, wkA_Q k (by omega) i hi, wkA_27 (p := k) (by omega) k (Nat.le_refl k)]
    by_cases e : i = k
    · subst e; simp
    · simp [e, show i < k + 1 ↔ i < k by omega]
def idF (v : hM) (c : Nat) (S : Nat → Int32) (p o : Nat) : Prop := bt (rdyB v S c) p = true ∧ bt (wAll v c S).2.2.2 p = false ∧ bt (wAll v c S).2.2.1 p = false ∧ opn v o (nI (S 0).toNatClampNeg) = 1 ∧ bt (gI v 103 o) (gI v 108 p).toNatClampNeg = true ∧ ¬ gI v 102 o ≤ (wAll v c S).2.1 o
def idN (v : hM) (n c : Nat) (S : Nat → Int32) : Prop := ∀ p, p < c → ∀ o, o < n → ¬ idF v c S p o
def idE (v : hM) (n c : Nat) (S : Nat → Int32) (p o : Nat) : Prop := p < c ∧ o < n ∧ idF v c S p o ∧ (∀ o', o' < o → ¬ idF v c S p o') ∧ ∀ p', p' < p → ∀ o', o' < n → ¬ idF v c S p' o'
theorem ex_first (f : Nat → Prop) : ∀ n, (∀ i, i < n → ¬ f i) ∨ ∃ i, i < n ∧ f i ∧ ∀ j, j < i → ¬ f j
  | 0 => Or.inl (fun i hi => by omega)
  | n + 1 => by
    rcases ex_first f n with h | ⟨i, h1, h2, h3⟩
    · by_cases q : f n
      · exact Or.inr ⟨n, by omega, q, h⟩
      · refine Or.inl (fun i hi => ?_)
        by_cases e : i = n
        · subst e; exact q
        · exact h i (by omega)
    · exact Or.inr ⟨i, by omega, h2, h3⟩
theorem id_or (v : hM) (n c : Nat) (S : Nat → Int32) : idN v n c S ∨ ∃ p o, idE v n c S p o := by
  rcases ex_first (fun p => ∃ o, o < n ∧ idF v c S p o) c with h | ⟨p, h1, ⟨o1, h2, h3⟩, h4⟩
  · exact Or.inl (fun p hp o ho z => h p hp ⟨o, ho, z⟩)
  · rcases ex_first (fun o => idF v c S p o) n with g | ⟨o, g1, g2, g3⟩
    · exact absurd h3 (g o1 h2)
    · exact Or.inr ⟨p, o, h1, g1, g2, g3, fun p' hp' o' ho' z => h4 p' hp' ⟨o', ho', z⟩⟩
/-- what judge finds, in at most r hours -/
def jR (v : hM) (n c : Nat) : Nat → (Nat → Int32) → Nat → Option (Nat × Nat × Nat) → Prop
  | 0, _, _, res => res = none
  | r + 1, S, h, res => (adn S c = true ∧ res = none) ∨ (adn S c = false ∧ idN v n c S ∧ jR v n c r (pas v n c S) (h + 1) res) ∨ (adn S c = false ∧ ∃ p o, idE v n c S p o ∧ res = some (h, p, o))
theorem jR_ex (v : hM) (n c : Nat) : ∀ r S h, ∃ res, jR v n c r S h res
  | 0, _, _ => ⟨none, rfl⟩
  | r + 1, S, h => by
    cases q : adn S c with
    | true => exact ⟨none, Or.inl ⟨q, rfl⟩⟩
    | false =>
      rcases id_or v n c S with z | ⟨p, o, z⟩
      · obtain ⟨res, hr⟩ := jR_ex v n c r (pas v n c S) (h + 1)
        exact ⟨res, Or.inr (Or.inl ⟨q, z, hr⟩)⟩
      · exact ⟨some (h, p, o), Or.inr (Or.inr ⟨q, p, o, z, rfl⟩)⟩
theorem dm6 : ∀ p, p < 8 → ∀ o, o < 6 → nI p * 6 + nI o = nI (p * 6 + o) := by decide
theorem cx_idle16 (fu : Nat) (K : Int32 → Int32 → Int32 → hM → Option (Int32 × hM)) {v m : hM} {n c h : Nat} (he : cEnv v m n c) {S : Nat → Int32} (h0 : S 0 = nI h) (hh : h < 2399) {w : Int32} {p : Nat} (hpc : p < c) (hw : bt w p = (bt (rdyB v S c) p && !bt (wAll v c S).2.2.2 p && !bt (wAll v c S).2.2.1 p)) (hb : ∀ o, o < n → gI m 33 o = (wAll v c S).2.1 o) : ∀ (t k : Nat), k ≤ n → n - k < t →
    ((∀ o, k ≤ o → o < n → ¬ idF v c S p o) → f_X8_idleThough_16 fu K t w (nI h) (nI p) (nI k) m = K w (nI h) (nI (p + 1)) m) ∧ (∀ o, k ≤ o → o < n → idF v c S p o → (∀ o', k ≤ o' → o' < o → ¬ idF v c S p o') → f_X8_idleThough_16 fu K t w (nI h) (nI p) (nI k) m = some (nI (p * 6 + o), m)) := by
  have hn := he.1.1
  have hc := he.2.2.1.1
  intro t
  induction t with
  | zero => intro k h1 h2; omega
  | succ t ih =>
    intro k hk ht
    rw [f_X8_idleThough_16_s]
    unfold s_X8_idleThough_16 f_X8_idleThough_60 f_X8_idleThough_114 f_X8_idleThough_108 f_X8_idleThough_100
    simp only [hLet_e, nI_1]
    rw [he.2.1.1]
    by_cases q : nI n ≤ nI k
    · rw [if_pos q]
      rw [nI_leI (by omega) (by omega)] at q
      exact ⟨fun _ => rfl, fun o h1 h2 => by omega⟩
    rw [if_neg q]
    rw [nI_leI (by omega) (by omega)] at q
    have kn : k < n := by omega
    have I := ih (k + 1) (by omega) (by omega)
    rw [b_rd (show p < 32 by omega)]
    by_cases b : bt w p = true
    rotate_left
    · rw [if_neg b, if_pos (by decide)]
      refine ⟨fun _ => rfl, fun o h1 h2 z => ?_⟩
      rw [hw, z.1, z.2.1, z.2.2.1] at b
      exact absurd rfl b
    have b' := b
    rw [hw, Bool.and_eq_true, Bool.and_eq_true] at b'
    have b1 := b'.1.1
    have b2 : bt (wAll v c S).2.2.2 p = false := by have := b'.1.2; simpa using this
    have b3 : bt (wAll v c S).2.2.1 p = false := by have := b'.2; simpa using this
    rw [if_pos b, if_neg (by decide), if_pos (hIn_lt (show h < 2560 by omega) (by omega)), nI_clamp (show h < 2 ^ 31 by omega), b_rd (show k < 32 by omega)]
    have ch : (S 0).toNatClampNeg = h := by rw [h0, nI_clamp (by omega)]
    have hX : bt (gI m 4 h) k = decide (opn v k (nI h) = 1) := (he.2.1.2.2.2.1 k kn).2.1 h (by omega)
    have no : ¬ idF v c S p k → ∀ (G : Option (Int32 × hM)), G = f_X8_idleThough_16 fu K t w (nI h) (nI p) (nI (k + 1)) m → ((∀ o, k ≤ o → o < n → ¬ idF v c S p o) → G = K w (nI h) (nI (p + 1)) m) ∧ (∀ o, k ≤ o → o < n → idF v c S p o → (∀ o', k ≤ o' → o' < o → ¬ idF v c S p o') → G = some (nI (p * 6 + o), m)) := by
      intro z G hG
      subst hG
      refine ⟨fun y => I.1 (fun o h1 h2 => y o (by omega) h2), fun o h1 h2 h3 h4 => ?_⟩
      by_cases e : o = k
      · subst e; exact absurd h3 z
      · exact I.2 o (by omega) h2 h3 (fun o' y1 y2 => h4 o' (by omega) y2)
    by_cases c1 : opn v k (nI h) = 1
    rotate_left
    · rw [hX, decide_eq_false c1, if_pos (by decide)]
      simp only [if_true]
      exact no (fun z => c1 (by have := z.2.2.2.1; rwa [ch] at this)) _ rfl
    rw [hX, decide_eq_true c1, if_neg (by decide), if_neg (by decide), cx_canWork fu hn he.2.1 he.2.2.1 he.2.2.2.1 hpc kn, hBd_some]
    by_cases c2 : bt (gI v 103 k) (gI v 108 p).toNatClampNeg = true
    rotate_left
    · rw [if_neg c2, if_pos rfl]
      exact no (fun z => c2 z.2.2.2.2.1) _ rfl
    have k6 : hIn (nI k) 6 := hIn_lt (by omega) (by omega)
    rw [if_pos c2, if_neg (by decide), if_pos k6, if_pos k6, nI_clamp (show k < 2 ^ 31 by omega), (he.2.1.2.2.2.1 k kn).1.1 4 (by omega), hb k kn]
    by_cases c3 : gI v 102 k ≤ (wAll v c S).2.1 k
    · rw [if_pos c3]
      exact no (fun z => z.2.2.2.2.2 c3) _ rfl
    rw [if_neg c3]
    have yes : idF v c S p k := ⟨b1, b2, b3, by rw [ch]; exact c1, c2, c3⟩
    refine ⟨fun y => absurd yes (y k (Nat.le_refl k) kn), fun o h1 h2 h3 h4 => ?_⟩
    have : o = k := by
      by_cases e : o = k
      · exact e
      · exact absurd yes (h4 k (Nat.le_refl k) (by omega))
    subst this
    rw [dm6 p (by omega) o (by omega)]
theorem cx_idle {fu : Nat} (hfu : 100 ≤ fu) {v m : hM} {n c h : Nat} (he : cEnv v m n c) {S : Nat → Int32} (h0 : S 0 = nI h) (hh : h < 2399) {w : Int32} (hw : ∀ p, p < c → bt w p = (bt (rdyB v S c) p && !bt (wAll v c S).2.2.2 p && !bt (wAll v c S).2.2.1 p)) (hb : ∀ o, o < n → gI m 33 o = (wAll v c S).2.1 o) :
    (idN v n c S → f_X8_idleThough fu w (nI h) m = some (-1, m)) ∧ (∀ p o, idE v n c S p o → f_X8_idleThough fu w (nI h) m = some (nI (p * 6 + o), m)) := by
  have hn := he.1.1
  have hc := he.2.2.1.1
  have key : ∀ (t k : Nat), k ≤ c → c - k < t → ((∀ p, k ≤ p → p < c → ∀ o, o < n → ¬ idF v c S p o) → f_X8_idleThough_2 fu t w (nI h) (nI k) m = some (-1, m)) ∧ (∀ p o, k ≤ p → idE v n c S p o → f_X8_idleThough_2 fu t w (nI h) (nI k) m = some (nI (p * 6 + o), m)) := by
    intro t
    induction t with
    | zero => intro k h1 h2; omega
    | succ t ih =>
      intro k hk ht
      rw [f_X8_idleThough_2_s]
      unfold s_X8_idleThough_2
      rw [he.2.2.2.1.1]
      by_cases q : nI c ≤ nI k
      · rw [if_pos q]
        rw [nI_leI (by omega) (by omega)] at q
        exact ⟨fun _ => rfl, fun p o h1 h2 => by have := h2.1; omega⟩
      rw [if_neg q]
      rw [nI_leI (by omega) (by omega)] at q
      have J := cx_idle16 fu (f_X8_idleThough_2 fu t) he h0 hh (show k < c by omega) (hw k (by omega)) hb fu 0 (by omega) (by omega)
      have I := ih (k + 1) (by omega) (by omega)
      refine ⟨fun y => ?_, fun p o h1 h2 => ?_⟩
      · rw [show (0 : Int32) = nI 0 from rfl, J.1 (fun o _ ho => y k (Nat.le_refl k) (by omega) o ho)]
        exact I.1 (fun p z1 z2 => y p (by omega) z2)
      · by_cases e : p = k
        · subst e
          exact J.2 o (by omega) h2.2.1 h2.2.2.1 (fun o' _ z => h2.2.2.2.1 o' z)
        · rw [show (0 : Int32) = nI 0 from rfl, J.1 (fun o' _ ho => h2.2.2.2.2 k (by omega) o' ho)]
          exact I.2 p o (by omega) h2
  unfold f_X8_idleThough
  have K := key fu 0 (by omega) (by omega)
  exact ⟨fun z => K.1 (fun p _ hp => z p hp), fun p o z => K.2 p o (by omega) z⟩
theorem dv6 : ∀ p, p < 8 → ∀ o, o < 6 → nI (p * 6 + o) / 6 = nI p ∧ nI (p * 6 + o) - nI (p * 6 + o) / 6 * 6 = nI o := by decide
theorem cx_judge {fu : Nat} (hfu : 3000 ≤ fu) {v : hM} {n c : Nat} : ∀ (t r h : Nat) (S : Nat → Int32) (m : hM) (res : Option (Nat × Nat × Nat)), r < t → h + r = 2399 → cEnv v m n c → sInv v S n c → S 0 = nI h → sRel S m 55 c → jR v n c r S h res →
    ∃ m', fr (PC 55) m m' ∧ jk m' 55 c ∧ (res = none → f_X10_judge_25 fu t (nI h) m = some (-2, m')) ∧ (∀ x p o, res = some (x, p, o) → x < 2399 ∧ p < c ∧ o < n ∧ f_X10_judge_25 fu t (nI h) m = some (nI x, setRow m' 67 66 1 [(nI p).toInt64, (nI o).toInt64])) := by
  have hs : 55 ∈ stL := by decide
  intro t
  induction t with
  | zero => intro r h S m res h1; omega
  | succ t ih =>
    intro r h S m res h1 h2 he hI h0 hR hJ
    have hn := he.1.1
    have hp := he.2.2.1
    have hc := hp.1
    rw [f_X10_judge_25_s]
    unfold s_X10_judge_25
    cases r with
    | zero =>
      have hr : res = none := hJ
      subst hr
      refine ⟨m, fr.rf, hR.jk, fun _ => ?_, fun x p o z => by cases z⟩
      rw [if_pos (show (2399 : Int32) ≤ nI h from nI_le (a := 2399) (by omega) (by omega))]
    | succ r =>
      rw [if_neg (show ¬ (2399 : Int32) ≤ nI h from nI_ge (b := 2399) (by omega) (by omega))]
      unfold f_X4_all
      rw [hBd_some, he.2.2.2.1.1, (all_n c (by omega)).1]
      rcases hJ with ⟨j1, j2⟩ | j | j
      · subst j2
        refine ⟨m, fr.rf, hR.jk, fun _ => ?_, fun x p o z => by cases z⟩
        rw [if_pos ((done_all hR).mpr j1)]
      all_goals
        have hd : ¬ gI m 55 1 = nI (2 ^ c - 1) := fun z => by have := (done_all hR).mp z; rw [j.1] at this; cases this
        rw [if_neg hd, cx_readyPieces (show 100 ≤ fu by omega) hs hp he.2.2.2.1 hR, hBd_some, hLet_n]
        obtain ⟨m1, a1, a2, a3, a4, a5⟩ := cx_hourGoesBy (show 300 ≤ fu by omega) hs he hI h0 (by omega) hR
        have he1 := cEnv_fr hs he a5
        have C := cx_idle (show 100 ≤ fu by omega) he1 h0 (show h < 2399 by omega) (w := rdyB v S c &&& (gI m 55 2 ^^^ (-1)) &&& (gI m1 32 5 ^^^ (-1))) (fun p hpc => by
          have e1 : bt (wAll v c S).2.2.2 p = (decide (p < c) && (bt (rdyB v S c) p && decide (S (27 + p) = 1))) := wkA_Q c hc p (by omega)
          rw [b_and, b_and, b_not (by omega), b_not (by omega), (hR.2.2.2.2.1 p hpc).2.2.2.2.2.2.2.1, a4, e1]
          cases bt (rdyB v S c) p <;> simp [hpc]) a3
        rw [a1, hBd_some]
      · rw [C.1 j.2.1, hBd_some, if_pos rfl, hLet_n, nI_1]
        obtain ⟨i1, i2⟩ := pas_inv hn hp hI h0 (show h < 2399 by omega)
        obtain ⟨m', b1, b2, b3, b4⟩ := ih r (h + 1) _ m1 res (by omega) (by omega) he1 i1 i2 a2 j.2.2
        exact ⟨m', a5.tr b1, b2, b3, b4⟩
      · obtain ⟨_, p, o, j2, j3⟩ := j
        subst j3
        refine ⟨m1, a5, a2.jk, (fun z => by cases z), fun x p' o' z => ?_⟩
        cases z
        have p8 := j2.1
        have o6 := j2.2.1
        refine ⟨by omega, p8, o6, ?_⟩
        rw [C.2 p o j2, hBd_some, if_neg (fun z => by
          have := congrArg Int32.toInt z
          rw [nI_toInt (by omega)] at this
          have e1 : (-1 : Int32).toInt = -1 := rfl
          omega)]
        unfold f_X10_judge_107
        rw [(dv6 p (by omega) o (by omega)).1, (show nI (p * 6 + o) - nI p * 6 = nI o by have := (dv6 p (by omega) o (by omega)).2; rwa [(dv6 p (by omega) o (by omega)).1] at this), cx_clear, hBd_some, cx_tell fu m1 (by simp), hBd_some, cx_tell fu m1 (by simp), hBd_some]
        rfl
/-! the reference's search in one hour -/
theorem rx_jd112 (fu : Nat) (K : Int32 → hM → Option (Int32 × hM)) (L : Int32 → Int32 → Int32 → hM → Option (Int32 × hM)) {v m : hM} {n c h : Nat} (hv : vRel v n) (hp : pRng v n c) {S : Nat → Int32} (h0 : S 0 = nI h) (hh : h < 2399) (g : eqV v m) (hb : ∀ o, o < n → gI m 120 o = (wAll v c S).2.1 o) {p : Nat} (hpc : p < c) (b1 : bt (rdyB v S c) p = true) (b2 : bt (wAll v c S).2.2.2 p = false) (b3 : bt (wAll v c S).2.2.1 p = false) : ∀ (t k : Nat), k ≤ n → n - k < t →
    ((∀ o, k ≤ o → o < n → ¬ idF v c S p o) → f_X11_judge_112 fu K L t (-2) (nI h) (nI p) (nI k) m = L (-2) (nI h) (nI (p + 1)) m) ∧ (∀ o, k ≤ o → o < n → idF v c S p o → (∀ o', k ≤ o' → o' < o → ¬ idF v c S p o') → f_X11_judge_112 fu K L t (-2) (nI h) (nI p) (nI k) m = L (nI h) (nI h) (nI (p + 1)) (setRow m 97 96 1 [(nI p).toInt64, (nI o).toInt64])) := by
  have hn := hv.1
  have hc := hp.1
  intro t
  induction t with
  | zero => intro k h1 h2; omega
  | succ t ih =>
    intro k hk ht
    rw [f_X11_judge_112_s]
    unfold s_X11_judge_112 f_X11_judge_197 f_X11_judge_191
    simp only [hLet_e, nI_1]
    rw [g 96 3 (by unfold envC; omega), hv.2.1]
    by_cases q : nI n ≤ nI k
    · rw [if_pos q]
      rw [nI_leI (by omega) (by omega)] at q
      exact ⟨fun _ => rfl, fun o h1 h2 => by omega⟩
    rw [if_neg q, if_neg (by decide)]
    rw [nI_leI (by omega) (by omega)] at q
    have kn : k < n := by omega
    have I := ih (k + 1) (by omega) (by omega)
    have ch : (S 0).toNatClampNeg = h := by rw [h0, nI_clamp (by omega)]
    have no : ¬ idF v c S p k → ∀ (G : Option (Int32 × hM)), G = f_X11_judge_112 fu K L t (-2) (nI h) (nI p) (nI (k + 1)) m → ((∀ o, k ≤ o → o < n → ¬ idF v c S p o) → G = L (-2) (nI h) (nI (p + 1)) m) ∧ (∀ o, k ≤ o → o < n → idF v c S p o → (∀ o', k ≤ o' → o' < o → ¬ idF v c S p o') → G = L (nI h) (nI h) (nI (p + 1)) (setRow m 97 96 1 [(nI p).toInt64, (nI o).toInt64])) := by
      intro z G hG
      subst hG
      refine ⟨fun y => I.1 (fun o h1 h2 => y o (by omega) h2), fun o h1 h2 h3 h4 => ?_⟩
      by_cases e : o = k
      · subst e; exact absurd h3 z
      · exact I.2 o (by omega) h2 h3 (fun o' y1 y2 => h4 o' (by omega) y2)
    have k6 : hIn (nI k) 6 := hIn_lt (by omega) (by omega)
    rw [bd_isOpen fu (by omega) _ g]
    by_cases c1 : opn v k (nI h) = 1
    rotate_left
    · rw [(opn_01 v k (nI h)).resolve_right c1, if_pos rfl]
      exact no (fun z => c1 (by have := z.2.2.2.1; rwa [ch] at this)) _ rfl
    obtain ⟨q, hq, hqe⟩ := hIn_of (hp.2.2 p hpc).1 (by omega)
    rw [c1, if_neg (by decide), if_pos k6, if_pos (hIn_lt (show p < 8 by omega) (by omega)), nI_clamp (show k < 2 ^ 31 by omega), nI_clamp (show p < 2 ^ 31 by omega), g.a k (by omega) (by omega), g.a p (by omega) (by omega), hqe, bd_has fu _ (by omega)]
    by_cases c2 : bt (gI v 103 k) q = true
    rotate_left
    · rw [if_neg c2, if_pos rfl]
      exact no (fun z => c2 (by have := z.2.2.2.2.1; rwa [hqe, nI_clamp (show q < 2 ^ 31 by omega)] at this)) _ rfl
    rw [if_pos c2, if_neg (by decide), if_pos k6, if_pos k6, g.a k (by omega) (by omega), hb k kn]
    by_cases c3 : gI v 102 k ≤ (wAll v c S).2.1 k
    · rw [if_pos c3]
      exact no (fun z => z.2.2.2.2.2 c3) _ rfl
    rw [if_neg c3]
    have yes : idF v c S p k := ⟨b1, b2, b3, by rw [ch]; exact c1, by rw [hqe, nI_clamp (show q < 2 ^ 31 by omega)]; exact c2, c3⟩
    refine ⟨fun y => absurd yes (y k (Nat.le_refl k) kn), fun o h1 h2 h3 h4 => ?_⟩
    have : o = k := by
      by_cases e : o = k
      · exact e
      · exact absurd yes (h4 k (Nat.le_refl k) (by omega))
    subst this
    rw [sr_nil m 97, rx_enters fu m (by simp), hBd_some, rx_enters fu m (by simp), hBd_some]
    obtain ⟨t, rfl⟩ : ∃ t', t = t' + 1 := ⟨t - 1, by omega⟩
    rw [f_X11_judge_112_s]
    unfold s_X11_judge_112 f_X11_judge_197
    rw [if_pos (show (0 : Int32) ≤ nI h from nI_pos' (by omega)), hLet_n, nI_1]
    split <;> rfl
theorem rx_jd61 {fu : Nat} (hfu : 100 ≤ fu) (K : Int32 → hM → Option (Int32 × hM)) {v m : hM} {n c h : Nat} (hv : vRel v n) (hp : pRng v n c) {S : Nat → Int32} (h0 : S 0 = nI h) (hh : h < 2399) (g : eqV v m) (hT : rT (wAll v c S) (rdyB v S c) m n) :
    (idN v n c S → f_X11_judge_61 fu K fu (-2) (nI h) 0 m = f_X11_judge_203 fu K (-2) m) ∧ (∀ p o, idE v n c S p o → f_X11_judge_61 fu K fu (-2) (nI h) 0 m = f_X11_judge_203 fu K (nI h) (setRow m 97 96 1 [(nI p).toInt64, (nI o).toInt64])) := by
  have hn := hv.1
  have hc := hp.1
  obtain ⟨_, hb, t34, t36, t35⟩ := hT
  have key : ∀ (t k : Nat), k ≤ c → c + 1 - k < t → ((∀ p, k ≤ p → p < c → ∀ o, o < n → ¬ idF v c S p o) → f_X11_judge_61 fu K t (-2) (nI h) (nI k) m = f_X11_judge_203 fu K (-2) m) ∧ (∀ p o, k ≤ p → idE v n c S p o → f_X11_judge_61 fu K t (-2) (nI h) (nI k) m = f_X11_judge_203 fu K (nI h) (setRow m 97 96 1 [(nI p).toInt64, (nI o).toInt64])) := by
    intro t
    induction t with
    | zero => intro k h1 h2; omega
    | succ t ih =>
      intro k hk ht
      rw [f_X11_judge_61_s]
      unfold s_X11_judge_61 f_X11_judge_197
      simp only [hLet_e, nI_1]
      rw [g 96 16 (by unfold envC; omega), hp.2.1]
      by_cases q : nI c ≤ nI k
      · rw [if_pos q]
        rw [nI_leI (by omega) (by omega)] at q
        exact ⟨fun _ => rfl, fun p o h1 h2 => by have := h2.1; omega⟩
      rw [if_neg q, if_neg (by decide)]
      rw [nI_leI (by omega) (by omega)] at q
      have I := ih (k + 1) (by omega) (by omega)
      have no : (∀ o, ¬ idF v c S k o) → ∀ (G : Option (Int32 × hM)), G = f_X11_judge_61 fu K t (-2) (nI h) (nI (k + 1)) m → ((∀ p, k ≤ p → p < c → ∀ o, o < n → ¬ idF v c S p o) → G = f_X11_judge_203 fu K (-2) m) ∧ (∀ p o, k ≤ p → idE v n c S p o → G = f_X11_judge_203 fu K (nI h) (setRow m 97 96 1 [(nI p).toInt64, (nI o).toInt64])) := by
        intro z G hG
        subst hG
        refine ⟨fun y => I.1 (fun p z1 z2 => y p (by omega) z2), fun p o h1 h2 => ?_⟩
        by_cases e : p = k
        · subst e; exact absurd h2.2.2.1 (z o)
        · exact I.2 p o (by omega) h2
      rw [t34, bd_has fu _ (show k < 32 by omega)]
      by_cases b1 : bt (rdyB v S c) k = true
      rotate_left
      · rw [if_neg b1, if_pos rfl]
        exact no (fun o z => b1 z.1) _ rfl
      rw [if_pos b1, if_neg (by decide), t35, bd_has fu _ (show k < 32 by omega)]
      by_cases b2 : bt (wAll v c S).2.2.2 k = true
      · rw [if_pos b2, if_pos (by decide)]
        exact no (fun o z => by rw [z.2.1] at b2; cases b2) _ rfl
      rw [if_neg b2, if_neg (by decide), t36, bd_has fu _ (show k < 32 by omega)]
      by_cases b3 : bt (wAll v c S).2.2.1 k = true
      · rw [if_pos b3, if_neg (by decide)]
        exact no (fun o z => by rw [z.2.2.1] at b3; cases b3) _ rfl
      rw [if_neg b3, if_pos rfl]
      have J := rx_jd112 fu K (f_X11_judge_61 fu K t) hv hp h0 hh g hb (show k < c by omega) b1 (by simpa using b2) (by simpa using b3) fu 0 (by omega) (by omega)
      refine ⟨fun y => ?_, fun p o h1 h2 => ?_⟩
      · rw [show (0 : Int32) = nI 0 from rfl, J.1 (fun o _ ho => y k (Nat.le_refl k) (by omega) o ho)]
        exact I.1 (fun p z1 z2 => y p (by omega) z2)
      · by_cases e : p = k
        · subst e
          rw [show (0 : Int32) = nI 0 from rfl, J.2 o (by omega) h2.2.1 h2.2.2.1 (fun o' _ z => h2.2.2.2.1 o' z)]
          obtain ⟨t, rfl⟩ : ∃ t', t = t' + 1 := ⟨t - 1, by omega⟩
          rw [f_X11_judge_61_s]
          unfold s_X11_judge_61
          rw [if_pos (show (0 : Int32) ≤ nI h from nI_pos' (by omega))]
          split <;> rfl
        · rw [show (0 : Int32) = nI 0 from rfl, J.1 (fun o' _ ho => h2.2.2.2.2 k (by omega) o' ho)]
          exact I.2 p o (by omega) h2
  have K' := key fu 0 (by omega) (by omega)
  exact ⟨fun z => K'.1 (fun p _ hp => z p hp), fun p o z => K'.2 p o (by omega) z⟩
/-- but for a row told, m' is m -/
def frJ (m m' : hM) (xs : List Int64) : Prop := (∀ a j, ¬ PR a j → ¬ (a = 96 ∧ j = 1) → gI m' a j = gI m a j) ∧ (∀ a j, gL m' a j = if a = 97 ∧ j < xs.length then xs.getD j 0 else gL m a j) ∧ (∀ a j, gR m' a j = gR m a j) ∧ gI m' 96 1 = nI xs.length
theorem rx_judge {fu : Nat} (hfu : 3000 ≤ fu) {v : hM} {n c : Nat} (hv : vRel v n) (hp : pRng v n c) (hk : rOk v) : ∀ (t r h : Nat) (S : Nat → Int32) (m : hM) (res : Option (Nat × Nat × Nat)), r + 1 < t → h + r = 2399 → sInv v S n c → S 0 = nI h → eqV v m → rS S m → jR v n c r S h res →
    ∃ m', (res = none → fr PR m m' ∧ f_X11_judge_25 fu t (-2) m = f_X11_judge_220 fu (-2) m') ∧ (∀ x p o, res = some (x, p, o) → frJ m m' [(nI p).toInt64, (nI o).toInt64] ∧ f_X11_judge_25 fu t (-2) m = f_X11_judge_220 fu (nI x) m') := by
  intro t
  induction t with
  | zero => intro r h S m res h1; omega
  | succ t ih =>
    intro r h S m res h1 h2 hI h0 g hS hJ
    have hn := hv.1
    have hc := hp.1
    rw [f_X11_judge_25_s]
    unfold s_X11_judge_25
    rw [if_neg (by decide), rx_isAllDone (show 100 ≤ fu by omega) hp g hS, hBd_some, hS 0 (by omega), h0]
    cases r with
    | zero =>
      have hr : res = none := hJ
      subst hr
      refine ⟨m, fun _ => ⟨fr.rf, ?_⟩, fun x p o z => by cases z⟩
      rw [if_pos (show (2399 : Int32) ≤ nI h from nI_le (a := 2399) (by omega) (by omega))]
      split <;> rfl
    | succ r =>
      rw [if_neg (show ¬ (2399 : Int32) ≤ nI h from nI_ge (b := 2399) (by omega) (by omega)), hLet_n]
      rcases hJ with ⟨j1, j2⟩ | j | j
      · subst j2
        refine ⟨m, fun _ => ⟨fr.rf, ?_⟩, fun x p o z => by cases z⟩
        rw [j1, if_pos rfl, if_pos (by decide)]
      all_goals
        obtain ⟨m1, r1, r2, r3⟩ := rx_works (show 100 ≤ fu by omega) hv hp hI g hS
        have w0 : (wAll v c S).1 0 = nI h := by rw [wAll_0 hp]; exact h0
        have g1 := eqV_fr g r3
        have J := rx_jd61 (show 100 ≤ fu by omega) (f_X11_judge_25 fu t) hv hp h0 (show h < 2399 by omega) g1 r2
        have ch : (nI h).toNatClampNeg = h := nI_clamp (by omega)
        rw [j.1, if_neg (by decide), r1, hBd_some]
      · obtain ⟨m2, s1, s2, s3⟩ := rx_closesX (show 300 ≤ fu by omega) hv hp hk (wAll_inv hp hI) w0 (show h < 2399 by omega) g1 r2.1 r2.2.2.1
        rw [J.1 j.2.1]
        unfold f_X11_judge_203
        rw [s1, hBd_some, hLet_n, s2 0 (by omega), clX_0 hc hn (wAll_inv hp hI), w0, nI_1]
        obtain ⟨i1, i2⟩ := pas_inv hn hp hI h0 (show h < 2399 by omega)
        have f2 : fr PR m (sI m2 114 0 (nI (h + 1))) := (r3.tr (s3.mono (fun a j z => by unfold PR; omega))).si (Or.inl rfl)
        have sp : rS (pas v n c S) (sI m2 114 0 (nI (h + 1))) := by unfold pas; rw [h0, ch]; exact s2.u
        obtain ⟨m', b1, b2⟩ := ih r (h + 1) _ (sI m2 114 0 (nI (h + 1))) res (by omega) (by omega) i1 i2 (eqV_fr g f2) sp j.2.2
        refine ⟨m', fun z => ⟨f2.tr (b1 z).1, (b1 z).2⟩, fun x p o z => ⟨?_, (b2 x p o z).2⟩⟩
        have b3 := (b2 x p o z).1
        exact ⟨fun a j z1 z2 => (b3.1 a j z1 z2).trans (f2.1 a j z1), fun a j => by rw [b3.2.1, f2.2.1], fun a j => (b3.2.2.1 a j).trans (f2.2.2 a j), b3.2.2.2⟩
      · obtain ⟨_, p, o, j2, j3⟩ := j
        subst j3
        have gs : ∀ xs : List Int64, (∀ a j, ¬ (a = 96 ∧ j = 1) → gI (setRow m1 97 96 1 xs) a j = gI m1 a j) := fun xs a j z => by rw [sr_I, if_neg z]
        obtain ⟨m2, s1, s2, s3⟩ := rx_closesX (show 300 ≤ fu by omega) hv hp hk (wAll_inv hp hI) w0 (show h < 2399 by omega) (m := setRow m1 97 96 1 [(nI p).toInt64, (nI o).toInt64]) (fun a j z => by rw [gs _ a j (by unfold envC at z; omega)]; exact g1 a j z) (fun j hj => by rw [gs _ _ _ (by omega)]; exact r2.1 j hj) ((gs _ _ _ (by omega)).trans r2.2.2.1)
        refine ⟨sI m2 114 0 (nI (h + 1)), (fun z => by cases z), fun x p' o' z => ?_⟩
        cases z
        rw [J.2 p o j2]
        unfold f_X11_judge_203
        rw [s1, hBd_some, hLet_n, s2 0 (by omega), clX_0 hc hn (wAll_inv hp hI), w0, nI_1]
        obtain ⟨t, rfl⟩ : ∃ t', t = t' + 1 := ⟨t - 1, by omega⟩
        rw [f_X11_judge_25_s]
        unfold s_X11_judge_25
        rw [if_pos (show (0 : Int32) ≤ nI h from nI_pos' (by omega))]
        refine ⟨⟨fun a j z1 z2 => ?_, fun a j => ?_, fun a j => ?_, ?_⟩, rfl⟩
        · unfold PR at z1
          rw [gI_sn (by omega), s3.1 _ _ (by omega), gs _ _ _ z2]
          exact r3.1 _ _ (by unfold PR; exact z1)
        · show gL m2 a j = _
          rw [s3.2.1, sr_L, r3.2.1]
        · show gR m2 a j = _
          rw [s3.2.2, sr_R, r3.2.2]
        · rw [gI_sn (by omega), s3.1 _ _ (by omega), sr_I, if_pos ⟨rfl, rfl⟩]
theorem ok_judge {fu : Nat} (hfu : 3000 ≤ fu) {m : hM} (h : IV m) : okC (f_X10_judge fu) (f_X11_judge fu) m := by
  obtain ⟨n, c, k, t, h⟩ := h
  have hp := h.2.1.1
  have hc := hp.1
  have h16 : ∀ M : hM, (∀ a j, 96 ≤ a → gI M a j = gI m a j) → gI (sI M 96 0 0) 96 16 = nI c := fun M z => by rw [gI_sn (by omega), z _ _ (by omega)]; exact hp.2.1
  unfold okC f_X10_judge f_X11_judge
  by_cases c0 : c = 0
  · refine ⟨-1, m, sI m 96 0 0, ?_, ?_, h.th rfl rfl⟩
    · rw [h.2.1.2.1.1, if_neg (fun z => z (by rw [c0]; rfl))]
    · rw [hLet_n, h16 m (fun _ _ _ => rfl), if_neg (fun z => z (by rw [c0]; rfl))]
  have nc : ¬ nI c = 0 := nI_ne0 (by omega) (by omega)
  obtain ⟨x, hx, hxe⟩ := h.now
  have hs : 55 ∈ stL := by decide
  have hI := h.cw.2.1
  obtain ⟨w, hw, hwe⟩ := wr_num hI
  obtain ⟨m1, a1, a2, a3⟩ := cx_copyFrom fu (m := m) hs (show 46 ∈ stL by decide) (by omega)
  have hR1 : sRel (sFn m) m1 55 c := a3 (sFn m) c h.cw.2.2.1 (by rw [hwe, nI_clamp (show w < 2 ^ 31 by omega)]; exact hw)
  have f1 : fr (PC 55) m m1 := a2.mono (fun a j z => Or.inl z)
  obtain ⟨res, hJ⟩ := jR_ex m n c (2399 - x) (sFn m) x
  obtain ⟨m2, b1, b2, b3, b4⟩ := cx_judge hfu (v := m) fu (2399 - x) x (sFn m) m1 res (by omega) (by omega) (cEnv_fr hs h.env f1) hI hxe hR1 hJ
  have f2 : fr (PC 55) m m2 := f1.tr b1
  have fE : fr PE m m2 := fr.PEw f2
  have k2 := PE_hi fE
  have CWm := h.cw.walk f2 b2
  -- the reference's start, at any memory that differs in the class's cells alone
  have ref : ∀ M : hM, (∀ a j, 96 ≤ a → gI M a j = gI m a j) → ∃ p1 p2 p3, f_X11_putsBy fu (sI M 96 0 0) = some ((), p1) ∧ (∀ j, j < 127 → gI p1 115 j = gI (sI M 96 0 0) 114 j) ∧ fr (fun a _ => a = 115) (sI M 96 0 0) p1 ∧ (res = none → fr PR p1 p2 ∧ f_X11_judge_25 fu fu (-2) p1 = f_X11_judge_220 fu (-2) p2) ∧ (∀ x p o, res = some (x, p, o) → frJ p1 p2 [(nI p).toInt64, (nI o).toInt64] ∧ f_X11_judge_25 fu fu (-2) p1 = f_X11_judge_220 fu (nI x) p2) ∧ f_X11_takesBack fu p2 = some ((), p3) ∧ (∀ j, j < 127 → gI p3 114 j = gI p2 115 j) ∧ fr (fun a _ => a = 114) p2 p3 := by
    intro M kM
    have R := h.rw' kM
    obtain ⟨p1, d1, d2, d3⟩ := rx_putsBy (show 200 ≤ fu by omega) (sI M 96 0 0)
    obtain ⟨p2, g1, g2⟩ := rx_judge hfu h.1.1 hp h.rok fu (2399 - x) x (sFn m) p1 res (by omega) (by omega) hI hxe (fun a j z => (d3.1 a j (by unfold envC at z; omega)).trans (R.2.2.2.2.1 a j z)) (fun j hj => (d3.1 114 j (by omega)).trans (R.2.2.2.2.2 j hj)) hJ
    obtain ⟨p3, q1, q2, q3⟩ := rx_takesBack (show 200 ≤ fu by omega) p2
    exact ⟨p1, p2, p3, d1, d2, d3, g1, g2, q1, q2, q3⟩
  cases res with
  | none =>
    obtain ⟨p1, p2, p3, d1, d2, d3, g1, g2, q1, q2, q3⟩ := ref m2 k2
    refine ⟨-2, m2, p3, ?_, ?_, ?_⟩
    · unfold f_X10_fromNow
      rw [h.2.1.2.1.1, if_pos nc, a1, hBd_some, hBd_some, if_pos rfl, hLet_n, hR1.2.1, hxe]
      exact b3 rfl
    · rw [hLet_n, h16 m2 k2, if_pos nc, d1, hBd_some, (g1 rfl).2]
      unfold f_X11_judge_220
      rw [q1, hBd_some]
    · exact IW.q1 (h.m6 fE ⟨h.1.1, CWm.1.2.1⟩ b2) k2 fE.2.1 fE.2.2 (fr.th.tr (fr.p0 (PS_back d3 d2 (g1 rfl).1 q3 q2))) (fun a j z => P0S_ok z)
  | some y =>
    obtain ⟨x', p, o⟩ := y
    obtain ⟨e1, e2, e3, e4⟩ := b4 x' p o rfl
    have k3 : ∀ a j, 96 ≤ a → gI (setRow m2 67 66 1 [(nI p).toInt64, (nI o).toInt64]) a j = gI m a j := fun a j z => by rw [sr_I, if_neg (by omega)]; exact k2 a j z
    obtain ⟨p1, p2, p3, d1, d2, d3, g1, g2, q1, q2, q3⟩ := ref _ k3
    obtain ⟨g3, g4⟩ := g2 x' p o rfl
    refine ⟨nI x', setRow m2 67 66 1 [(nI p).toInt64, (nI o).toInt64], p3, ?_, ?_, ?_⟩
    · unfold f_X10_fromNow
      rw [h.2.1.2.1.1, if_pos nc, a1, hBd_some, hBd_some, if_pos rfl, hLet_n, hR1.2.1, hxe]
      exact e4
    · rw [hLet_n, h16 _ k3, if_pos nc, d1, hBd_some, g4]
      unfold f_X11_judge_220
      rw [q1, hBd_some]
    · have CW3 : CW m (setRow m2 67 66 1 [(nI p).toInt64, (nI o).toInt64]) n c (sFn m) := CWm.row _
      refine IW.q5 (F := setRow m2 67 66 1 [(nI p).toInt64, (nI o).toInt64]) (xs := [(nI p).toInt64, (nI o).toInt64]) h ⟨fun a j z1 z2 => ?_, fun a j => ?_, fun a j => ?_, ?_⟩ ⟨h.1.1, CW3.1.2.1⟩ CW3.2.2.2.1 ⟨fun a j z1 z2 => ?_, fun a j => ?_, fun a j => ?_, ?_⟩ (by simp)
      · rw [sr_I, if_neg z2]; exact fE.1 a j z1
      · rw [sr_L, fE.2.1]
      · rw [sr_R, fE.2.2]
      · rw [sr_I, if_pos ⟨rfl, rfl⟩]
      · unfold P0S PS at z1
        by_cases e : a = 114
        · subst e
          rw [q2 j (by omega), g3.1 _ _ (by unfold PR; omega) (by omega), d2 j (by omega), gI_sn (by omega)]
        · rw [q3.1 _ _ e, g3.1 _ _ (by unfold PR; omega) z2, d3.1 _ _ (by omega), gI_sn (by omega)]
      · rw [q3.2.1, g3.2.1, d3.2.1]; rfl
      · rw [q3.2.2, g3.2.2.1, d3.2.2]; rfl
      · rw [q3.1 _ _ (by omega), g3.2.2.2]
