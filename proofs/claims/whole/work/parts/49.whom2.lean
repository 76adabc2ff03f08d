/-! ===== whom, worth as whole calls ===== -/
theorem beg_not {v : hM} {h : Int32} {c : Nat} (hc : c ≤ 8) (h0 : 0 < c) (S : Nat → Int32) : adn (begR v h c S) c = false := by
  cases q : adn (begR v h c S) c with
  | false => rfl
  | true =>
    have := (adn_iff _ c).mp q 0 h0
    rw [((begR_P v h hc S).2.2.2 0 h0).2.2.2.2.1] at this
    exact absurd this (by decide)
theorem gK_pos {v : hM} {n c r k : Nat} {S : Nat → Int32} (ha : adn S c = false) (h : gK v n c r S = some k) : 0 < k := by
  cases r with
  | zero => rw [gK, ha] at h; cases h
  | succ r =>
    rw [gK, ha] at h
    simp only [Bool.false_eq_true, if_false] at h
    rw [Option.map_eq_some_iff] at h
    obtain ⟨j, _, h2⟩ := h
    omega
theorem cEnd_L {v : hM} {n c x L : Nat} {S : Nat → Int32} (hx : x < 2400) (hL : L ≤ 2399) (ha : adn S c = false) : (∀ k, gK v n c (2399 - x) S = some k → cEnd v n c x S (nI L) = if x + k ≤ L then nI (x + k) else -2) ∧ (gK v n c (2399 - x) S = none → cEnd v n c x S (nI L) = -2) := by
  have hq : qOf (nI L) x ≤ 2399 - x := by unfold qOf; split <;> omega
  have e : qOf (nI L) x = L - x := by
    unfold qOf
    rw [nI_toInt (by omega), if_pos (by omega)]; omega
  unfold cEnd
  rw [gK_less _ _ _ hq, e]
  constructor
  · intro k hk
    have := gK_pos ha hk
    rw [hk]
    by_cases q : k ≤ L - x
    · rw [if_pos (by omega)]; simp [Option.filter, q]
    · rw [if_neg (by omega)]; simp [Option.filter, q]
  · intro hk; rw [hk]; rfl
def prc (v : hM) (B : Int32) : Nat → Int32
  | 0 => 0
  | i + 1 => prc v B i + (if bt B i = true then gI v 130 i else 0)
theorem cx_priceOf {fu : Nat} (hfu : 100 ≤ fu) {v m : hM} {n k : Nat} (h : prR v m n k) (B : Int32) : f_X3_priceOf fu B m = some (prc v B k, m) := by
  have hk9 := h.1
  have key : ∀ (t i : Nat), i ≤ k → k - i < t → f_X3_priceOf_4 fu t B (prc v B i) (nI i) m = some (prc v B k, m) := by
    intro t
    induction t with
    | zero => intro i h1 h2; omega
    | succ t ih =>
      intro i hi ht
      rw [f_X3_priceOf_4_s]
      unfold s_X3_priceOf_4
      rw [h.2.1]
      by_cases q : nI k ≤ nI i
      · rw [if_pos q]
        rw [nI_leI (by omega) (by omega)] at q
        have : i = k := by omega
        subst this
        rfl
      · rw [if_neg q]
        rw [nI_leI (by omega) (by omega)] at q
        rw [if_pos (hIn_lt (show i < 9 by omega) (by omega)), hLet_n, hLet_n, nI_1, nI_clamp (show i < 2 ^ 31 by omega), b_rd (show i < 32 by omega), (h.2.2.2.1 i (by omega)).2.2.1]
        have e := ih (i + 1) (by omega) (by omega)
        rw [prc] at e
        cases hb : bt B i
        · rw [hb] at e
          rw [show (if false = true then (1 : Int32) else 0) * gI v 130 i = 0 by simp]
          exact e
        · rw [hb] at e
          rw [show (if true = true then (1 : Int32) else 0) * gI v 130 i = gI v 130 i by simp]
          exact e
  unfold f_X3_priceOf
  exact key fu 0 (by omega) (by omega)
theorem rx_price {fu : Nat} (hfu : 100 ≤ fu) {v m m0 : hM} {n k : Nat} (h : prR v m0 n k) (hm : prM v m) (ih0 : Int32 → Int32 → Int32 → Int32 → Int32 → Int32 → hM → Option (Int32 × hM)) (x1 x2 x3 x4 x5 B : Int32) : ∀ (t i : Nat), i ≤ k → k - i < t → f_X11_whom_61 fu ih0 t x1 x2 x3 x4 x5 B (prc v B i) (nI i) m = f_X11_whom_102 fu ih0 x1 x2 x3 x4 x5 B (prc v B k) m := by
  have hk9 := h.1
  intro t
  induction t with
  | zero => intro i h1 h2; omega
  | succ t ih =>
    intro i hi ht
    rw [f_X11_whom_61_s]
    unfold s_X11_whom_61
    rw [hm.1, h.2.2.1]
    by_cases q : nI k ≤ nI i
    · rw [if_pos q]
      rw [nI_leI (by omega) (by omega)] at q
      have : i = k := by omega
      subst this
      rfl
    · rw [if_neg q]
      rw [nI_leI (by omega) (by omega)] at q
      have e := ih (i + 1) (by omega) (by omega)
      rw [prc] at e
      rw [bd_has fu _ (show i < 32 by omega), if_pos (hIn_lt (show i < 9 by omega) (by omega)), nI_clamp (show i < 2 ^ 31 by omega), hm.2 130 i (by omega) (by omega)]
      unfold f_X11_whom_93
      simp only [hLet_n, nI_1]
      cases hb : bt B i
      · rw [hb] at e
        rw [if_pos (by decide)]; exact e
      · rw [hb] at e
        rw [if_neg (by decide)]; exact e
theorem two_k : ∀ k, k < 10 → (1 : Int32) <<< (nI k &&& 31) = nI (2 ^ k) ∧ 2 ^ k ≤ 512 := by decide +kernel
/-- the best bits so far, their hour and price -/
noncomputable def whB (v : hM) (n c x k : Nat) (S : Nat → Int32) (coin : Int32) : Nat → Option (Nat × Nat × Int32)
  | 0 => none
  | b + 1 => if prc v (nI b) k ≤ coin then (match gK (pB v (nI b) k) n c (2399 - x) (begR (pB v (nI b) k) (nI x) c S) with
      | none => whB v n c x k S coin b
      | some e => (match whB v n c x k S coin b with
        | none => some (b, x + e, prc v (nI b) k)
        | some (b', h', p') => if x + e < h' then some (b, x + e, prc v (nI b) k) else if x + e = h' ∧ ¬ p' ≤ prc v (nI b) k then some (b, x + e, prc v (nI b) k) else some (b', h', p'))) else whB v n c x k S coin b
theorem whB_le {v : hM} {n c x k : Nat} {S : Nat → Int32} {coin : Int32} (hx : x < 2400) : ∀ r b h p, whB v n c x k S coin r = some (b, h, p) → b < r ∧ h ≤ 2399
  | 0, b, h, p, q => by cases q
  | r + 1, b, h, p, q => by
    rw [whB] at q
    have ih := whB_le (v := v) (n := n) (c := c) (k := k) (S := S) (coin := coin) hx r
    split at q
    · cases hg : gK (pB v (nI r) k) n c (2399 - x) (begR (pB v (nI r) k) (nI x) c S) with
      | none => rw [hg] at q; have := ih b h p q; omega
      | some e =>
        have he := gK_le _ _ _ hg
        rw [hg] at q
        cases hw : whB v n c x k S coin r with
        | none => rw [hw] at q; cases q; omega
        | some z =>
          obtain ⟨b', h', p'⟩ := z
          have := ih b' h' p' hw
          rw [hw] at q
          simp only [] at q
          split at q
          · cases q; omega
          · split at q
            · cases q; omega
            · cases q; omega
    · have := ih b h p q; omega
def wh1 (o : Option (Nat × Nat × Int32)) : Int32 := match o with | none => -1 | some (b, _, _) => nI b
def wh2 (o : Option (Nat × Nat × Int32)) (z : Int32) : Int32 := match o with | none => z | some (_, h, _) => nI h
def wh3 (o : Option (Nat × Nat × Int32)) : Int32 := match o with | none => 0 | some (_, _, p) => p
def wh4 (o : Option (Nat × Nat × Int32)) : Int32 := match o with | none => 0 | some (b, _, _) => nI b
theorem cx_whom43 {fu : Nat} (hfu : 3000 ≤ fu) {v : hM} {n c x k : Nat} {S : Nat → Int32} {coin : Int32} (hx : x < 2400) (h0 : 0 < c) (hk9 : k ≤ 9) : ∀ (t r : Nat) (m : hM), r ≤ 2 ^ k → 2 ^ k - r < t → CW v m n c S → prR v m n k →
    ∃ m', f_X10_whom_43 fu t coin (nI x) (wh1 (whB v n c x k S coin r)) (wh2 (whB v n c x k S coin r) 2399) (wh3 (whB v n c x k S coin r)) (nI r) m = f_X10_whom_165 fu (wh1 (whB v n c x k S coin (2 ^ k))) (wh2 (whB v n c x k S coin (2 ^ k)) 2399) (wh3 (whB v n c x k S coin (2 ^ k))) m' ∧ CW v m' n c S ∧ fr PE m m' := by
  obtain ⟨e2k, l2k⟩ := two_k k (by omega)
  intro t
  induction t with
  | zero => intro r m h1 h2; omega
  | succ t ih =>
    intro r m hr ht h hp
    have hc := h.1.2.2.1.1
    rw [f_X10_whom_43_s]
    unfold s_X10_whom_43
    rw [hp.2.1, e2k]
    by_cases q : nI (2 ^ k) ≤ nI r
    · rw [if_pos q]
      rw [nI_leI (by omega) (by omega)] at q
      have : r = 2 ^ k := by omega
      subst this
      exact ⟨m, rfl, h, fr.rf⟩
    · rw [if_neg q]
      rw [nI_leI (by omega) (by omega)] at q
      rw [cx_priceOf (show 100 ≤ fu by omega) hp, hBd_some]
      unfold f_X10_whom_148 f_X10_whom_159
      simp only [hLet_n, nI_1]
      by_cases hc1 : prc v (nI r) k ≤ coin
      · have L2 : ∃ L, L ≤ 2399 ∧ wh2 (whB v n c x k S coin r) 2399 = nI L ∧ (∀ b h p, whB v n c x k S coin r = some (b, h, p) → L = h) ∧ (whB v n c x k S coin r = none → L = 2399) := by
          cases hw : whB v n c x k S coin r with
          | none => exact ⟨2399, by omega, rfl, fun b h p z => (by cases z), fun _ => rfl⟩
          | some z =>
            obtain ⟨b', h', p'⟩ := z
            have := whB_le hx r b' h' p' hw
            exact ⟨h', this.2, rfl, fun b h p z => by cases z; rfl, fun z => by cases z⟩
        obtain ⟨L, hL, hLe, hL1, hL2⟩ := L2
        obtain ⟨m1, m2, m3, m4, a1, a2, a3, a4, a5, a6, a7⟩ := cx_with hfu h hp hx (nI r) (nI L)
        obtain ⟨m5, s1, s2, s3⟩ := ih (r + 1) m4 (by omega) (by omega) a5 a6
        have hcl := cEnd_L (v := pB v (nI r) k) (n := n) (c := c) (S := begR (pB v (nI r) k) (nI x) c S) hx hL (beg_not hc h0 S)
        rw [if_pos hc1, a1, hBd_some, a2, hBd_some, if_pos rfl, hLe, a3, hBd_some, a4, hBd_some]
        refine ⟨m5, ?_, s2, a7.tr s3⟩
        rw [← s1]
        rw [whB, if_pos hc1]
        cases hg : gK (pB v (nI r) k) n c (2399 - x) (begR (pB v (nI r) k) (nI x) c S) with
        | none => rw [hcl.2 hg, if_neg (fun z => z rfl), hLe]
        | some e =>
          have he := gK_le _ _ _ hg
          rw [hcl.1 e hg]
          cases hw : whB v n c x k S coin r with
          | none =>
            have := hL2 hw
            subst this
            rw [if_pos (show x + e ≤ 2399 by omega), if_pos (nI_nm (show x + e ≤ 2399 by omega)).1, if_pos (show wh1 none = -1 from rfl)]
            rfl
          | some z =>
            obtain ⟨b', h', p'⟩ := z
            have hb' := whB_le hx r b' h' p' hw
            have := hL1 b' h' p' hw
            subst this
            simp only []
            by_cases y : x + e ≤ L
            · rw [if_pos y, if_pos (nI_nm (show x + e ≤ 2399 by omega)).1, if_neg (show ¬ wh1 (some (b', L, p')) = -1 from (nI_nm (show b' ≤ 2399 by omega)).2.1)]
              by_cases y2 : x + e < L
              · rw [if_pos (nI_lt y2 (by omega)), if_pos y2]; rfl
              · rw [if_neg (nI_nlt (by omega) (by omega)), if_neg y2]
                by_cases y3 : p' ≤ prc v (nI r) k
                · rw [if_pos (show wh3 (some (b', L, p')) ≤ prc v (nI r) k from y3), if_neg (fun z => z.2 y3)]; rfl
                · rw [if_neg (show ¬ wh3 (some (b', L, p')) ≤ prc v (nI r) k from y3), if_pos ⟨by omega, y3⟩]; rfl
            · rw [if_neg y, if_neg (fun z => z rfl), if_neg (show ¬ x + e < L by omega), if_neg (by omega)]; rfl
      · obtain ⟨m5, s1, s2, s3⟩ := ih (r + 1) m (by omega) (by omega) h hp
        rw [if_neg hc1]
        refine ⟨m5, ?_, s2, s3⟩
        rw [← s1]
        rw [whB, if_neg hc1]
theorem rx_whom44 {fu : Nat} (hfu : 3000 ≤ fu) {v m0 : hM} {n c x k : Nat} {S : Nat → Int32} {coin : Int32} (hx : x < 2400) (hk9 : k ≤ 9) (hpr : prR v m0 n k) : ∀ (t r : Nat) (m : hM), r ≤ 2 ^ k → 2 ^ k - r < t → RW v m n c S → prM v m →
    ∃ m', f_X11_whom_44 fu t coin (nI x) (wh2 (whB v n c x k S coin r) (-1)) (wh4 (whB v n c x k S coin r)) (wh3 (whB v n c x k S coin r)) (nI r) m = f_X11_whom_166 fu (wh2 (whB v n c x k S coin (2 ^ k)) (-1)) (wh4 (whB v n c x k S coin (2 ^ k))) (wh3 (whB v n c x k S coin (2 ^ k))) m' ∧ fr P0S m m' := by
  obtain ⟨e2k, l2k⟩ := two_k k (by omega)
  intro t
  induction t with
  | zero => intro r m h1 h2; omega
  | succ t ih =>
    intro r m hr ht h hp
    rw [f_X11_whom_44_s]
    unfold s_X11_whom_44
    rw [hp.1, hpr.2.2.1, e2k]
    by_cases q : nI (2 ^ k) ≤ nI r
    · rw [if_pos q]
      rw [nI_leI (by omega) (by omega)] at q
      have : r = 2 ^ k := by omega
      subst this
      exact ⟨m, rfl, fr.rf⟩
    · rw [if_neg q]
      rw [nI_leI (by omega) (by omega)] at q
      have hpz := rx_price (show 100 ≤ fu by omega) hpr hp (f_X11_whom_44 fu t) coin (nI x) (wh2 (whB v n c x k S coin r) (-1)) (wh4 (whB v n c x k S coin r)) (wh3 (whB v n c x k S coin r)) (nI r) fu 0 (by omega) (by omega)
      have hpz' : f_X11_whom_61 fu (f_X11_whom_44 fu t) fu coin (nI x) (wh2 (whB v n c x k S coin r) (-1)) (wh4 (whB v n c x k S coin r)) (wh3 (whB v n c x k S coin r)) (nI r) 0 0 m = _ := hpz
      rw [hpz']
      unfold f_X11_whom_102 f_X11_whom_119 f_X11_whom_149 f_X11_whom_160
      simp only [hLet_n, nI_1]
      by_cases hc1 : prc v (nI r) k ≤ coin
      · obtain ⟨m4, a1, a5, a7⟩ := rx_endsWith hfu h hpr hp hx (nI r)
        obtain ⟨m5, s1, s3⟩ := ih (r + 1) m4 (by omega) (by omega) a5 (hp.k a7 (fun a j z => (P0S_ok z).2))
        rw [if_pos hc1, a1, hBd_some]
        refine ⟨m5, ?_, a7.tr s3⟩
        rw [← s1]
        rw [whB, if_pos hc1]
        have hcl := cEnd_g (v := pB v (nI r) k) (n := n) (c := c) (S := begR (pB v (nI r) k) (nI x) c S) hx
        cases hg : gK (pB v (nI r) k) n c (2399 - x) (begR (pB v (nI r) k) (nI x) c S) with
        | none => rw [(hcl.2 hg).2, if_pos (by decide)]
        | some e =>
          have he := gK_le _ _ _ hg
          rw [(hcl.1 e hg).2, if_neg (nI_nm (show x + e ≤ 2399 by omega)).2.2.1]
          cases hw : whB v n c x k S coin r with
          | none =>
            rw [if_pos (show wh2 none (-1) < 0 by unfold wh2; decide)]
            rfl
          | some z =>
            obtain ⟨b', h', p'⟩ := z
            have hb' := whB_le hx r b' h' p' hw
            rw [if_neg (show ¬ wh2 (some (b', h', p')) (-1) < 0 from (nI_nm hb'.2).2.2.1)]
            simp only []
            by_cases y2 : x + e < h'
            · rw [if_pos (show nI (x + e) < wh2 (some (b', h', p')) (-1) from nI_lt y2 (by omega)), if_pos y2]; rfl
            · rw [if_neg (show ¬ nI (x + e) < wh2 (some (b', h', p')) (-1) from nI_nlt (by omega) (by omega)), if_neg y2]
              by_cases y4 : x + e = h'
              · rw [if_neg (show ¬ ¬ nI (x + e) = wh2 (some (b', h', p')) (-1) from fun z => z (by rw [y4]; rfl))]
                by_cases y3 : p' ≤ prc v (nI r) k
                · rw [if_pos (show wh3 (some (b', h', p')) ≤ prc v (nI r) k from y3), if_neg (fun z => z.2 y3)]
                · rw [if_neg (show ¬ wh3 (some (b', h', p')) ≤ prc v (nI r) k from y3), if_pos ⟨y4, y3⟩]; rfl
              · rw [if_pos (show ¬ nI (x + e) = wh2 (some (b', h', p')) (-1) from fun z => y4 ((nI_eq (by omega) (by omega)).mp z)), if_neg (fun z => y4 z.1)]
      · obtain ⟨m5, s1, s3⟩ := ih (r + 1) m (by omega) (by omega) h hp
        rw [if_neg hc1, if_pos (by decide)]
        refine ⟨m5, ?_, s3⟩
        rw [← s1]
        rw [whB, if_neg hc1]
theorem IW.prm {m M : hM} {n c k t : Nat} (h : IW m m n c k t) (z : ∀ a j, 96 ≤ a → gI M a j = gI m a j) : prM m (sI M 96 0 0) := ⟨by rw [gI_sn (by omega), z _ _ (by omega)], fun a j z1 z2 => by rw [gI_sn (by omega), z _ _ (by omega)]⟩
theorem ok_whom {fu : Nat} (hfu : 3000 ≤ fu) {m : hM} (h : IV m) (x1 x2 : Int32) : okC (f_X10_whom fu x1 x2) (f_X11_whom fu x1 x2) m := by
  obtain ⟨n, c, k, t, h⟩ := h
  have hp := h.2.1.1
  have hc := hp.1
  have hpr := h.2.2.2.2.2.2.2.1
  have hk9 := hpr.1
  have h16 : ∀ M : hM, (∀ a j, 96 ≤ a → gI M a j = gI m a j) → gI (sI M 96 0 0) 96 16 = nI c := fun M z => by rw [gI_sn (by omega), z _ _ (by omega)]; exact hp.2.1
  have id1 : ∀ a j, 96 ≤ a → gI m a j = gI m a j := fun _ _ _ => rfl
  have e0 : (0 : Int32).toInt = 0 := rfl
  have e9 : (999 : Int32).toInt = 999 := rfl
  unfold okC f_X10_whom f_X11_whom
  by_cases c1 : 0 ≤ x1.toInt ∧ x1.toInt ≤ 999
  rotate_left
  · refine ⟨-1, m, sI m 96 0 0, ?_, ?_, h.th rfl rfl⟩
    · by_cases q : x1 < 0
      · rw [if_pos q]
      · rw [if_neg q, if_pos (by rw [i_lt, e9]; rw [i_lt, e0] at q; omega)]
    · rw [hLet_n, rx_inI, hBd_some, if_neg (show ¬ ((0 : Int64).toInt ≤ x1.toInt ∧ x1.toInt ≤ (999 : Int64).toInt) from c1), if_pos rfl]
  have d1 : ¬ x1 < 0 := by rw [i_lt, e0]; omega
  have d2 : ¬ 999 < x1 := by rw [i_lt, e9]; omega
  have d3 : ((0 : Int64).toInt ≤ x1.toInt ∧ x1.toInt ≤ (999 : Int64).toInt) := c1
  by_cases c2 : hIn x2 2400
  rotate_left
  · refine ⟨-1, m, sI m 96 0 0, ?_, ?_, h.th rfl rfl⟩
    · rw [if_neg d1, if_neg d2, cx_isHour, hBd_some, if_neg c2, if_pos rfl]
    · rw [hLet_n, rx_inI, hBd_some, if_pos d3, if_neg (by decide), rx_isHour, hBd_some, if_neg c2, if_pos rfl]
  by_cases c0 : c = 0
  · refine ⟨-1, m, sI m 96 0 0, ?_, ?_, h.th rfl rfl⟩
    · rw [if_neg d1, if_neg d2, cx_isHour, hBd_some, if_pos c2, if_neg (by decide), h.2.1.2.1.1, if_neg (fun z => z (by rw [c0]; rfl))]
    · rw [hLet_n, rx_inI, hBd_some, if_pos d3, if_neg (by decide), rx_isHour, hBd_some, if_pos c2, if_neg (by decide), h16 m id1, if_neg (fun z => z (by rw [c0]; rfl))]
  have nc : ¬ nI c = 0 := nI_ne0 (by omega) (by omega)
  obtain ⟨x, hx, rfl⟩ := hIn_of c2 (by omega)
  have l2k := (two_k k (by omega)).2
  obtain ⟨m6, s1, s2, s3⟩ := cx_whom43 hfu hx (show 0 < c by omega) hk9 (coin := x1) fu 0 m (Nat.zero_le _) (by omega) h.cw hpr
  have s1' : f_X10_whom_43 fu fu x1 (nI x) (-1) 2399 0 0 m = _ := s1
  have k6 := PE_hi s3
  have h6 : IW m m6 n c k t := h.m6 s3 ⟨h.1.1, s2.1.2.1⟩ s2.2.2.2.1
  have B : ∀ M0 : hM, (∀ a j, 96 ≤ a → gI M0 a j = gI m a j) → ∃ p1, (∀ M, (hLet (sI M0 96 0 0) fun m1 => hBd (f_X11_in fu (Int32.toInt64 x1) 0 999 m1) fun y2 m3 => if y2 = 0 then some ((-1 : Int32), m3) else (hBd (f_X11_isHour fu (nI x) m3) fun y5 m6 => if y5 = 0 then some ((-1), m6) else (if ¬ (gI m6 96 16) = 0 then f_X11_whom_44 fu fu x1 (nI x) (-1) 0 0 0 m6 else some ((-1), m6)))) = M ↔ f_X11_whom_166 fu (wh2 (whB m n c x k (sFn m) x1 (2 ^ k)) (-1)) (wh4 (whB m n c x k (sFn m) x1 (2 ^ k))) (wh3 (whB m n c x k (sFn m) x1 (2 ^ k))) p1 = M) ∧ fr P0S M0 p1 := fun M0 z => by
    obtain ⟨p1, u1, u3⟩ := rx_whom44 hfu hx hk9 hpr (coin := x1) fu 0 (sI M0 96 0 0) (Nat.zero_le _) (by omega) (h.rw' z) (h.prm z)
    have u1' : f_X11_whom_44 fu fu x1 (nI x) (-1) 0 0 0 (sI M0 96 0 0) = _ := u1
    refine ⟨p1, fun M => ?_, fr.th.tr u3⟩
    rw [hLet_n, rx_inI, hBd_some, if_pos d3, if_neg (by decide), rx_isHour, hBd_some, if_pos c2, if_neg (by decide), h16 M0 z, if_pos nc, u1']
  rw [if_neg d1, if_neg d2, cx_isHour, hBd_some, if_pos c2, if_neg (by decide), h.2.1.2.1.1, if_pos nc, s1']
  cases hw : whB m n c x k (sFn m) x1 (2 ^ k) with
  | none =>
    obtain ⟨p1, u1, u2⟩ := B m6 k6
    refine ⟨-2, m6, p1, rfl, (u1 _).mpr ?_, IW.q1 h6 k6 s3.2.1 s3.2.2 u2 (fun a j z => P0S_ok z)⟩
    rw [hw]; rfl
  | some q =>
    obtain ⟨b', h', p'⟩ := q
    have hb' := whB_le hx _ b' h' p' hw
    obtain ⟨p1, u1, u2⟩ := B (setRow m6 67 66 1 ([(nI b').toInt64] ++ [p'.toInt64])) (fun a j z => by rw [sr_In (by omega)]; exact k6 a j z)
    refine ⟨nI h', setRow m6 67 66 1 ([(nI b').toInt64] ++ [p'.toInt64]), setRow p1 97 96 1 ([(nI b').toInt64] ++ [p'.toInt64]), ?_, (u1 _).mpr ?_, IW.q2 h6 k6 s3.2.1 s3.2.2 (by simp) u2 (fun a j z => P0S_ok z) rfl⟩
    · unfold f_X10_whom_165
      rw [if_pos (show ¬ wh1 (some (b', h', p')) = -1 from (nI_nm (show b' ≤ 2399 by omega)).2.1), cx_clear, hBd_some, cx_tell fu m6 (by simp), hBd_some, cx_tell fu m6 (by simp), hBd_some]
      rfl
    · rw [hw]
      unfold f_X11_whom_166
      rw [if_pos (show 0 ≤ wh2 (some (b', h', p')) (-1) from (nI_nm hb'.2).2.2.2), hLet_n, sr_nil p1 97 96 1, rx_enters fu p1 (by simp), hBd_some, rx_enters fu p1 (by simp), hBd_some]
      rfl
