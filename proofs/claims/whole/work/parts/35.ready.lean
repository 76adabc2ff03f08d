/-! ===== which pieces are ready ===== -/
def rdA (v : hM) (S : Nat → Int32) (p : Nat) : Nat → Bool
  | 0 => true
  | k + 1 => rdA v S p k && (!bt (gI v 110 p) k || decide (0 ≤ (S (35 + k)).toInt))
def rdy (v : hM) (S : Nat → Int32) (p : Nat) : Bool := !decide (0 ≤ (S (35 + p)).toInt) && rdA v S p p
def rdyB (v : hM) (S : Nat → Int32) : Nat → Int32
  | 0 => 0
  | k + 1 => if rdy v S k then rdyB v S k ||| (1 <<< (nI k &&& 31)) else rdyB v S k
theorem rdA_iff (v : hM) (S : Nat → Int32) (p : Nat) : ∀ k, rdA v S p k = true ↔ ∀ i, i < k → bt (gI v 110 p) i = true → 0 ≤ (S (35 + i)).toInt
  | 0 => ⟨fun _ i hi => by omega, fun _ => rfl⟩
  | k + 1 => by
    rw [rdA, Bool.and_eq_true, rdA_iff v S p k]
    constructor
    · intro h i hi hb
      by_cases e : i = k
      · subst e
        have := h.2
        rw [hb] at this
        simpa using this
      · exact h.1 i (by omega) hb
    · intro h
      refine ⟨fun i hi => h i (by omega), ?_⟩
      cases hb : bt (gI v 110 p) k
      · rfl
      · simpa using h k (by omega) hb
theorem or_0 (x : Int32) : x ||| 0 = x := b_ext (fun i hi => by rw [b_or, b_0, Bool.or_false])
theorem rx_isDone (fu : Nat) {m : hM} {S : Nat → Int32} (hS : ∀ j, j < 127 → gI m 114 j = S j) {p : Nat} (hp : p < 8) : f_X11_isDone fu (nI p) m = some (if 0 ≤ (S (35 + p)).toInt then 1 else 0, m) := by
  have x35 : (35 : Int32) + nI p = nI (35 + p) := nI_add 35 p
  have i35 := ix127 35 p (by omega)
  unfold f_X11_isDone
  rw [x35, if_pos i35.1, i35.2, hS _ (by omega)]
  by_cases q : 0 ≤ (S (35 + p)).toInt
  · rw [if_neg (by rw [i_lt]; show ¬ _ < (0 : Int); omega), if_pos q]
  · rw [if_pos (by rw [i_lt]; show _ < (0 : Int); omega), if_neg q]
theorem rx_isReady {fu : Nat} (hfu : 100 ≤ fu) {v m : hM} {S : Nat → Int32} (g : eqV v m) (hS : ∀ j, j < 127 → gI m 114 j = S j) {p : Nat} (hp : p < 8) : f_X11_isReady fu (nI p) m = some (if rdy v S p then 1 else 0, m) := by
  have key : ∀ (t k : Nat) (b : Bool), k ≤ p → p - k < t → f_X11_isReady_16 fu t (nI p) (if (b && rdA v S p k) then 1 else 0) (nI k) m = some (if (b && rdA v S p p) then 1 else 0, m) := by
    intro t
    induction t with
    | zero => intro k b h1 h2; omega
    | succ t ih =>
      intro k b hk ht
      rw [f_X11_isReady_16_s]
      unfold s_X11_isReady_16
      by_cases q : nI p ≤ nI k
      · rw [if_pos q]
        rw [nI_leI (by omega) (by omega)] at q
        have : k = p := by omega
        subst this
        rw [if_pos (by cases b && rdA v S k k <;> decide)]
      · rw [if_neg q]
        rw [nI_leI (by omega) (by omega)] at q
        have e := ih (k + 1) b (by omega) (by omega)
        rw [rdA] at e
        have e46 : f_X11_isReady_46 fu (f_X11_isReady_16 fu t) (nI p) (nI k) m = f_X11_isReady_16 fu t (nI p) 1 (nI (k + 1)) m := by
          unfold f_X11_isReady_46 f_X11_isReady_51
          rw [nI_1, hLet_n]
        have e50 : f_X11_isReady_50 fu (f_X11_isReady_16 fu t) (nI p) (nI k) m = f_X11_isReady_16 fu t (nI p) 0 (nI (k + 1)) m := by
          unfold f_X11_isReady_50 f_X11_isReady_51
          rw [nI_1, hLet_n]
        rw [if_pos (hIn_lt hp (by omega)), nI_clamp (show p < 2 ^ 31 by omega), g.a p (by omega) (by omega), rx_has2 fu _ (show k < 32 by omega), hBd_some, rx_isDone fu hS (show k < 8 by omega), hBd_some, e50, e46]
        cases hb : (b && rdA v S p k)
        · rw [← Bool.and_assoc, hb] at e
          rw [if_pos (by decide)]; exact e
        · rw [← Bool.and_assoc, hb] at e
          rw [if_neg (by decide)]
          cases hc : bt (gI v 110 p) k
          · rw [if_pos (by decide)]
            rw [hc] at e; exact e
          · rw [if_neg (by decide)]
            rw [hc] at e
            by_cases hd : 0 ≤ (S (35 + k)).toInt
            · rw [if_pos hd, if_neg (by decide)]
              simp only [hd] at e; exact e
            · rw [if_neg hd, if_pos rfl]
              simp only [hd] at e; exact e
  unfold f_X11_isReady f_X11_isReady_13 rdy
  rw [rx_isDone fu hS hp, hBd_some]
  by_cases hd : 0 ≤ (S (35 + p)).toInt
  · rw [if_pos hd, if_pos (by decide)]
    have := key fu 0 false (by omega) (by omega)
    simp only [hd]; exact this
  · rw [if_neg hd, if_neg (by decide)]
    have := key fu 0 true (by omega) (by omega)
    simp only [hd]; exact this
theorem rx_readyBits {fu : Nat} (hfu : 100 ≤ fu) {v m : hM} {S : Nat → Int32} {n c : Nat} (hp : pRng v n c) (g : eqV v m) (hS : ∀ j, j < 127 → gI m 114 j = S j) : f_X11_readyBits fu m = some (rdyB v S c, m) := by
  have hc := hp.1
  have key : ∀ (t k : Nat), k ≤ c → c - k < t → f_X11_readyBits_4 fu t (rdyB v S k) (nI k) m = some (rdyB v S c, m) := by
    intro t
    induction t with
    | zero => intro k h1 h2; omega
    | succ t ih =>
      intro k hk ht
      rw [f_X11_readyBits_4_s]
      unfold s_X11_readyBits_4
      rw [g 96 16 (by unfold envC; omega), hp.2.1]
      by_cases q : nI c ≤ nI k
      · rw [if_pos q]
        rw [nI_leI (by omega) (by omega)] at q
        have : k = c := by omega
        subst this
        rfl
      · rw [if_neg q]
        rw [nI_leI (by omega) (by omega)] at q
        rw [rx_isReady hfu g hS (show k < 8 by omega), hBd_some]
        have e := ih (k + 1) (by omega) (by omega)
        rw [rdyB] at e
        unfold f_X11_readyBits_28
        rw [nI_1, hLet_n, hLet_n, hLet_n, hLet_n, or_0]
        cases hr : rdy v S k
        · rw [hr] at e
          rw [if_pos (by decide)]; exact e
        · rw [hr] at e
          rw [if_neg (by decide)]; exact e
  unfold f_X11_readyBits
  exact key fu 0 (by omega) (by omega)
theorem cx_ready1 {v : hM} {S : Nat → Int32} {n c p : Nat} {d : Int32} (hr : pRng v n c) (hd : ∀ i, i < c → bt d i = decide (0 ≤ (S (35 + i)).toInt)) (hp : p < c) : ((gI v 110 p) &&& (d ^^^ (-1))) = 0 ↔ rdA v S p p = true := by
  have hc := hr.1
  obtain ⟨h0, h1⟩ := (hr.2.2 p hp).2.2.2.1
  have hz : ∀ i, p ≤ i → i < 32 → bt (gI v 110 p) i = false := by
    intro i h2 h3
    obtain ⟨a, ha, hae⟩ := nI_of (x := gI v 110 p) (by rw [i_lt]; exact fun q => by rw [show (0 : Int32).toInt = 0 from rfl] at q; omega)
    rw [hae] at h1 ⊢
    rw [nI_toInt ha] at h1
    rw [bt_nI _ _ h3]
    refine Nat.testBit_lt_two_pow (Nat.lt_of_lt_of_le ?_ (Nat.pow_le_pow_right (by omega) h2))
    exact_mod_cast h1
  rw [rdA_iff]
  constructor
  · intro h i hi hb
    have := congrArg (fun x => bt x i) h
    simp only [b_and, b_0] at this
    rw [hb, b_not (by omega), hd i (by omega)] at this
    simpa using this
  · intro h
    refine b_ext (fun i hi => ?_)
    rw [b_and, b_0, b_not hi]
    by_cases e : i < p
    · cases hb : bt (gI v 110 p) i
      · rfl
      · rw [hd i (by omega)]
        simpa using h i e hb
    · rw [hz i (by omega) hi]; rfl
theorem cx_readyPieces {fu : Nat} (hfu : 100 ≤ fu) {v m : hM} {S : Nat → Int32} {n c s : Nat} (hs : s ∈ stL) (hr : pRng v n c) (hp : pRel v m c) (h : sRel S m s c) : f_X8_readyPieces fu s m = some (rdyB v S c, m) := by
  have hc := hr.1
  have key : ∀ (t k : Nat), k ≤ c → c - k < t → f_X8_readyPieces_4 fu t s (rdyB v S k) (nI k) m = some (rdyB v S c, m) := by
    intro t
    induction t with
    | zero => intro k h1 h2; omega
    | succ t ih =>
      intro k hk ht
      rw [f_X8_readyPieces_4_s]
      unfold s_X8_readyPieces_4
      rw [hp.1]
      by_cases q : nI c ≤ nI k
      · rw [if_pos q]
        rw [nI_leI (by omega) (by omega)] at q
        have : k = c := by omega
        subst this
        rfl
      · rw [if_neg q]
        rw [nI_leI (by omega) (by omega)] at q
        have e := ih (k + 1) (by omega) (by omega)
        rw [rdyB] at e
        have hk9 := (h.2.2.2.2.1 k (by omega)).2.2.2.2.2.2.2.2
        have hra := cx_ready1 (S := S) (d := gI m s 1) hr (fun i hi => (h.2.2.2.2.1 i hi).2.2.2.2.2.2.2.2) (show k < c by omega)
        unfold f_X8_readyPieces_51
        rw [if_pos (hIn_lt (show k < 8 by omega) (by omega)), nI_clamp (show k < 2 ^ 31 by omega), (hp.2 k (by omega)).2.2.2.1, b_rd (show k < 32 by omega), hk9, nI_1, hLet_n, hLet_n, hLet_n]
        by_cases hd : 0 ≤ (S (35 + k)).toInt
        · have : rdy v S k = false := by unfold rdy; simp [hd]
          rw [this] at e
          simp only [hd]
          rw [if_pos (by decide)]; exact e
        · simp only [hd]
          rw [if_neg (by decide)]
          by_cases ha : rdA v S k k = true
          · rw [if_neg (fun z => z (hra.mpr ha))]
            have : rdy v S k = true := by unfold rdy; simp [hd, ha]
            rw [this] at e; exact e
          · rw [if_pos (fun z => ha (hra.mp z))]
            have : rdy v S k = false := by unfold rdy; simp [ha]
            rw [this] at e; exact e
  unfold f_X8_readyPieces
  rw [if_pos hs]
  exact key fu 0 (by omega) (by omega)
theorem rdyB_bt (v : hM) (S : Nat → Int32) : ∀ (c i : Nat), c ≤ 8 → i < 32 → bt (rdyB v S c) i = (decide (i < c) && rdy v S i)
  | 0, i, _, _ => by rw [rdyB, b_0]; simp
  | c + 1, i, hc, hi => by
    rw [rdyB]
    have ih := rdyB_bt v S c i (by omega) hi
    cases hr : rdy v S c
    · rw [if_neg (by decide), ih]
      by_cases e : i = c
      · subst e; simp [hr]
      · simp [show i < c ↔ i < c + 1 by omega]
    · rw [if_pos rfl, b_set (by omega) hi, ih]
      by_cases e : i = c
      · subst e; simp [hr]
      · simp [e, show i < c ↔ i < c + 1 by omega]
