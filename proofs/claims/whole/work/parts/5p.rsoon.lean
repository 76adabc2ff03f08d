/-! ===== the soonest: the reference, one place of the map ===== -/
def mnC (y : Int32) (P : Nat → Prop) : Prop := (∃ c, c < 4096 ∧ y = nI c ∧ P c ∧ ∀ c', P c' → c ≤ c') ∨ (y = -1 ∧ ∀ c, ¬ P c)
theorem mnC_tr {y : Int32} {P Q : Nat → Prop} (h : mnC y P) (h1 : ∀ c, P c → Q c) (h2 : ∀ c, Q c → ∃ c', c' ≤ c ∧ P c') : mnC y Q := by
  rcases h with ⟨c, c0, e, hc, hm⟩ | ⟨e, hn⟩
  · refine Or.inl ⟨c, c0, e, h1 c hc, fun c' q => ?_⟩
    obtain ⟨c2, a1, a2⟩ := h2 c' q
    have := hm c2 a2; omega
  · refine Or.inr ⟨e, fun c q => ?_⟩
    obtain ⟨c2, a1, a2⟩ := h2 c q
    exact hn c2 a2
theorem mnC_iff {y : Int32} {P Q : Nat → Prop} (h : mnC y P) (h1 : ∀ c, P c ↔ Q c) : mnC y Q := mnC_tr h (fun c q => (h1 c).mp q) (fun c q => ⟨c, Nat.le_refl c, (h1 c).mpr q⟩)
theorem mnC_add {y : Int32} {P Q : Nat → Prop} (h : mnC y P) {c : Nat} (hc : c < 4096) (hQ : ∀ x, Q x ↔ P x ∨ x = c) : mnC (lsM y (nI c)) Q := by
  refine mnC_iff (P := fun x => P x ∨ x = c) ?_ (fun x => (hQ x).symm)
  unfold lsM
  rcases h with ⟨d, d0, rfl, hd, hm⟩ | ⟨rfl, hn⟩
  · rw [if_pos (nI_pos' (by omega))]
    by_cases q : c < d
    · rw [if_pos (nI_lt q (by omega))]
      refine Or.inl ⟨c, hc, rfl, Or.inr rfl, fun c' q' => ?_⟩
      rcases q' with q' | rfl
      · have := hm c' q'; omega
      · exact Nat.le_refl _
    · rw [if_neg (nI_nlt (by omega) (by omega))]
      refine Or.inl ⟨d, d0, rfl, Or.inl hd, fun c' q' => ?_⟩
      rcases q' with q' | rfl
      · exact hm c' q'
      · omega
  · rw [if_neg (by decide)]
    refine Or.inl ⟨c, hc, rfl, Or.inr rfl, fun c' q' => ?_⟩
    rcases q' with q' | rfl
    · exact absurd q' (hn c')
    · exact Nat.le_refl _
theorem mnC_src {y : Int32} {P : Nat → Prop} (h : mnC y P) {c : Nat} (hc : c < 4096) (e : y = nI c) : P c ∧ ∀ c', P c' → c ≤ c' := by
  rcases h with ⟨d, d0, e2, hd, hm⟩ | ⟨e2, hn⟩
  · rw [e, nI_eq (by omega) (by omega)] at e2
    subst e2; exact ⟨hd, hm⟩
  · rw [e2] at e
    have := congrArg Int32.toInt e
    rw [nI_toInt (by omega)] at this
    have h2 : (-1 : Int32).toInt = -1 := rfl
    omega
/-- what a place gives to the next hour -/
def ctb (lo : Nat → Nat → Nat) (n most hn o l c n' o' l' c' : Nat) : Prop := 1 ≤ l ∧ ((n' = hn ∧ o' = o ∧ l' = l ∧ c' = c) ∨ (hn < most ∧ n' = hn + 1 ∧ o' < n ∧ o' ≠ o ∧ l' = l + lo o o' ∧ c' = 8 * c + o'))
theorem rx_goes {fu : Nat} (hfu : 100 ≤ fu) {lo : Nat → Nat → Nat} {n X hn o l c most : Nat} {m : hM} (hX : X = 121 ∨ X = 122) (hR : gR m 96 39 = X) (h3 : gI m 96 3 = nI n) (hn6 : n ≤ 6) (ho : o < n) (hl : 1 ≤ l) (hl2 : l < 128) (hh : hn ≤ most) (hm : most ≤ 3) (hb : hn < most → l + 22 < 128) (hc : c < 512)
    (hlo : ∀ o', o' < n → o' ≠ o → hn < most → gI m 123 (6 * o + o') = nI (lo o o') ∧ lo o o' ≤ 22) (G : Nat → Nat → Nat → Nat → Prop) (hG : ∀ n' o' l', n' < 4 → o' < 6 → l' < 128 → mnC (gI m X ((n' * 6 + o') * 128 + l')) (G n' o' l')) :
    ∃ m', f_X11_goesFrom fu (nI hn) (nI o) (nI l) (nI c) (nI most) m = some ((), m') ∧ fr (fun a j => a = X ∧ j < 3072) m m' ∧ ∀ n' o' l', n' < 4 → o' < 6 → l' < 128 → mnC (gI m' X ((n' * 6 + o') * 128 + l')) (fun c' => G n' o' l' c' ∨ ctb lo n most hn o l c n' o' l' c') := by
  have hl' : hAr LY[X]? 0 3072 = true := by rcases hX with rfl | rfl <;> decide +kernel
  have key : ∀ (t k : Nat) (m1 : hM), k ≤ n → n - k < t → fr (fun a j => a = X ∧ j < 3072) m m1 → (∀ n' o' l', n' < 4 → o' < 6 → l' < 128 → mnC (gI m1 X ((n' * 6 + o') * 128 + l')) (fun c' => G n' o' l' c' ∨ (n' = hn ∧ o' = o ∧ l' = l ∧ c' = c) ∨ (hn < most ∧ n' = hn + 1 ∧ o' < k ∧ o' ≠ o ∧ l' = l + lo o o' ∧ c' = 8 * c + o'))) →
      ∃ m', f_X11_goesFrom_58 fu t (nI hn) (nI o) (nI l) (nI c) (nI most) (nI k) m1 = some ((), m') ∧ fr (fun a j => a = X ∧ j < 3072) m m' ∧ ∀ n' o' l', n' < 4 → o' < 6 → l' < 128 → mnC (gI m' X ((n' * 6 + o') * 128 + l')) (fun c' => G n' o' l' c' ∨ ctb lo n most hn o l c n' o' l' c') := by
    intro t
    induction t with
    | zero => intro k m1 h1 h2; exact absurd h2 (Nat.not_lt_zero _)
    | succ t ih =>
      intro k m1 hk ht f r
      rw [f_X11_goesFrom_58_s]
      unfold s_X11_goesFrom_58 f_X11_goesFrom_116
      simp only [hLet_n, nI_1]
      rw [f.1 96 3 (by omega), h3]
      by_cases q : nI n ≤ nI k
      · rw [if_pos q]
        rw [nI_leI (by omega) (by omega)] at q
        refine ⟨m1, rfl, f, fun n' o' l' z1 z2 z3 => mnC_iff (r n' o' l' z1 z2 z3) (fun c' => ?_)⟩
        unfold ctb
        have : k = n := by omega
        subst this
        exact ⟨fun y => y.elim Or.inl (fun y => Or.inr ⟨hl, y⟩), fun y => y.elim Or.inl (fun y => Or.inr y.2)⟩
      rw [if_neg q]
      rw [nI_leI (by omega) (by omega)] at q
      by_cases q2 : nI most ≤ nI hn
      · rw [if_pos q2]
        rw [nI_leI (by omega) (by omega)] at q2
        refine ⟨m1, rfl, f, fun n' o' l' z1 z2 z3 => mnC_iff (r n' o' l' z1 z2 z3) (fun c' => ?_)⟩
        unfold ctb
        exact ⟨fun y => y.elim Or.inl (fun y => Or.inr ⟨hl, y.elim Or.inl (fun y => by omega)⟩), fun y => y.elim Or.inl (fun y => Or.inr (y.2.elim Or.inl (fun y => by omega)))⟩
      rw [if_neg q2]
      rw [nI_leI (by omega) (by omega)] at q2
      by_cases q3 : k = o
      · rw [if_pos (by rw [q3])]
        refine ih (k + 1) m1 (by omega) (by omega) f (fun n' o' l' z1 z2 z3 => mnC_iff (r n' o' l' z1 z2 z3) (fun c' => ?_))
        constructor
        · rintro (y | y | y)
          · exact Or.inl y
          · exact Or.inr (Or.inl y)
          · exact Or.inr (Or.inr ⟨y.1, y.2.1, by omega, y.2.2.2⟩)
        · rintro (y | y | y)
          · exact Or.inl y
          · exact Or.inr (Or.inl y)
          · exact Or.inr (Or.inr ⟨y.1, y.2.1, by omega, y.2.2.2⟩)
      rw [if_neg (fun z => q3 ((nI_eq (by omega) (by omega)).mp z))]
      obtain ⟨-, k2, k3, k4⟩ := kn_ix (show o < 6 by omega) (show k < 6 by omega)
      obtain ⟨g1, g2⟩ := hlo k (by omega) q3 (by omega)
      have hb' := hb (by omega)
      obtain ⟨p1, p2⟩ := pl_at (n := hn + 1) (o := k) (l := l + lo o k) (by omega) (by omega) (by omega) fu m1
      rw [f.2.2, hR, if_pos hl', k2, if_pos k3, k4, f.1 123 _ (by omega), g1, nI_add, p1, hBd_some, show (8 : Int32) = nI 8 from rfl, pk_mul, nI_add, rx_least fu hX p2, hBd_some]
      refine ih (k + 1) _ (by omega) (by omega) (f.si ⟨rfl, p2⟩) (fun n' o' l' z1 z2 z3 => ?_)
      by_cases e : n' = hn + 1 ∧ o' = k ∧ l' = l + lo o k
      · obtain ⟨rfl, rfl, rfl⟩ := e
        rw [gI_ss]
        refine mnC_add (r _ _ _ z1 z2 z3) (by omega) (fun c' => ?_)
        constructor
        · rintro (y | y | y)
          · exact Or.inl (Or.inl y)
          · exact Or.inl (Or.inr (Or.inl y))
          · exact Or.inr y.2.2.2.2.2
        · rintro ((y | y | y) | y)
          · exact Or.inl y
          · exact Or.inr (Or.inl y)
          · exact Or.inr (Or.inr ⟨y.1, y.2.1, by omega, y.2.2.2⟩)
          · exact Or.inr (Or.inr ⟨by omega, rfl, by omega, q3, rfl, y⟩)
      · rw [gI_sn (by omega)]
        refine mnC_iff (r n' o' l' z1 z2 z3) (fun c' => ?_)
        constructor
        · rintro (y | y | y)
          · exact Or.inl y
          · exact Or.inr (Or.inl y)
          · exact Or.inr (Or.inr ⟨y.1, y.2.1, by omega, y.2.2.2⟩)
        · rintro (y | y | y)
          · exact Or.inl y
          · exact Or.inr (Or.inl y)
          · refine Or.inr (Or.inr ⟨y.1, y.2.1, ?_, y.2.2.2⟩)
            have y3 := y.2.2.1
            rcases Nat.lt_or_ge o' k with u | u
            · exact u
            · have e2 : o' = k := by omega
              exact absurd ⟨y.2.1, e2, by rw [y.2.2.2.2.1, e2]⟩ e
  obtain ⟨p1, p2⟩ := pl_at (n := hn) (o := o) (l := l) (by omega) (by omega) hl2 fu m
  unfold f_X11_goesFrom
  rw [if_pos (nI_ne0 (by omega) (by omega)), hR, if_pos hl', p1, hBd_some, rx_least fu hX p2, hBd_some]
  refine key fu 0 _ (by omega) (by omega) (fr.rf.si ⟨rfl, p2⟩) (fun n' o' l' z1 z2 z3 => ?_)
  by_cases e : n' = hn ∧ o' = o ∧ l' = l
  · obtain ⟨rfl, rfl, rfl⟩ := e
    rw [gI_ss]
    refine mnC_add (hG _ _ _ z1 z2 z3) (by omega) (fun c' => ?_)
    constructor
    · rintro (y | y | y)
      · exact Or.inl y
      · exact Or.inr y.2.2.2
      · exact absurd y.2.2.1 (Nat.not_lt_zero _)
    · rintro (y | y)
      · exact Or.inl y
      · exact Or.inr (Or.inl ⟨rfl, rfl, rfl, y⟩)
  · rw [gI_sn (by omega)]
    refine mnC_iff (hG n' o' l' z1 z2 z3) (fun c' => ?_)
    constructor
    · exact Or.inl
    · rintro (y | y | y)
      · exact y
      · exact absurd ⟨y.1, y.2.1, y.2.2.1⟩ e
      · exact absurd y.2.2.1 (Nat.not_lt_zero _)
/-! ===== an hour of it ===== -/
def sSrc (m0 : hM) (N n most n1 o1 l1 c1 : Nat) : Prop := n1 ≤ most ∧ o1 < n ∧ 1 ≤ l1 ∧ l1 < 128 ∧ c1 < 4096 ∧ gI m0 N ((n1 * 6 + o1) * 128 + l1) = nI c1
def sGS (m0 : hM) (N n most : Nat) (lo : Nat → Nat → Nat) (wk : Nat → Nat) (s n' o' l' c' : Nat) : Prop := ∃ n1 o1 l1 c1, (n1 * 6 + o1) * 128 + l1 < s ∧ sSrc m0 N n most n1 o1 l1 c1 ∧ ctb lo n most n1 o1 (l1 - wk o1) c1 n' o' l' c'
def sEN (m0 m : hM) (N n most : Nat) (wk : Nat → Nat) (s : Nat) : Prop := (gI m 96 41 = -1 ∧ ∀ n1 o1 c1, (n1 * 6 + o1) * 128 + 1 < s → sSrc m0 N n most n1 o1 1 c1 → ¬ wk o1 = 1) ∨
  (∃ n1 o1 c1, sSrc m0 N n most n1 o1 1 c1 ∧ (n1 * 6 + o1) * 128 + 1 < s ∧ wk o1 = 1 ∧ gI m 96 41 = nI n1 ∧ gI m 96 42 = nI c1 ∧ ∀ n2 o2 c2, (n2 * 6 + o2) * 128 + 1 < s → sSrc m0 N n most n2 o2 1 c2 → wk o2 = 1 → n1 < n2 ∨ (n1 = n2 ∧ c1 ≤ c2))
def sIn (m0 m : hM) (N X n most : Nat) (lo : Nat → Nat → Nat) (wk : Nat → Nat) (s : Nat) : Prop := fr (fun a j => (a = X ∧ j < 3072) ∨ (a = 96 ∧ (j = 41 ∨ j = 42))) m0 m ∧ (∀ n' o' l', n' < 4 → o' < 6 → l' < 128 → mnC (gI m X ((n' * 6 + o') * 128 + l')) (sGS m0 N n most lo wk s n' o' l')) ∧ sEN m0 m N n most wk s
theorem sIn_eq {m0 m : hM} {N X n most s s' : Nat} {lo : Nat → Nat → Nat} {wk : Nat → Nat} (h : sIn m0 m N X n most lo wk s) (e : ∀ n1 o1 l1 c1, sSrc m0 N n most n1 o1 l1 c1 → ((n1 * 6 + o1) * 128 + l1 < s ↔ (n1 * 6 + o1) * 128 + l1 < s')) : sIn m0 m N X n most lo wk s' := by
  refine ⟨h.1, fun n' o' l' z1 z2 z3 => mnC_iff (h.2.1 n' o' l' z1 z2 z3) (fun c' => ?_), ?_⟩
  · constructor
    · rintro ⟨n1, o1, l1, c1, q1, q2, q3⟩
      exact ⟨n1, o1, l1, c1, (e _ _ _ _ q2).mp q1, q2, q3⟩
    · rintro ⟨n1, o1, l1, c1, q1, q2, q3⟩
      exact ⟨n1, o1, l1, c1, (e _ _ _ _ q2).mpr q1, q2, q3⟩
  · rcases h.2.2 with ⟨q1, q2⟩ | ⟨n1, o1, c1, q1, q2, q3, q4, q5, q6⟩
    · exact Or.inl ⟨q1, fun n1 o1 c1 y1 y2 => q2 n1 o1 c1 ((e _ _ _ _ y2).mpr y1) y2⟩
    · exact Or.inr ⟨n1, o1, c1, q1, (e _ _ _ _ q1).mp q2, q3, q4, q5, fun n2 o2 c2 y1 y2 => q6 n2 o2 c2 ((e _ _ _ _ y2).mpr y1) y2⟩
theorem sIn_skip {m0 m : hM} {N X n most n1 o1 l1 : Nat} {lo : Nat → Nat → Nat} {wk : Nat → Nat} (h : sIn m0 m N X n most lo wk ((n1 * 6 + o1) * 128 + l1)) (ho : o1 < n) (hn : n ≤ 6) (hl : l1 < 128) (e : ∀ c, ¬ sSrc m0 N n most n1 o1 l1 c) : sIn m0 m N X n most lo wk ((n1 * 6 + o1) * 128 + (l1 + 1)) := by
  refine sIn_eq h (fun n2 o2 l2 c2 q => ?_)
  constructor
  · omega
  · intro y
    rcases Nat.lt_or_ge ((n2 * 6 + o2) * 128 + l2) ((n1 * 6 + o1) * 128 + l1) with u | u
    · exact u
    · have q2 := q.2.1
      have q4 := q.2.2.2.1
      have : n2 = n1 ∧ o2 = o1 ∧ l2 = l1 := by omega
      obtain ⟨rfl, rfl, rfl⟩ := this
      exact absurd q (e c2)
