/-! ===== cheap: the reference, one place of the map ===== -/
theorem lN_div {z : Nat} (h : z < 2 ^ 31) : lN z / 512 = lN (z / 512) := by
  apply Int64.toInt_inj.mp
  rw [lg_ldiv_nonneg (by rw [lN_toInt h]; omega) (by decide), lN_toInt h, lN_toInt (by omega)]
  rfl
theorem lN_mod {z : Nat} (h : z < 2 ^ 31) : lN z - lN z / 512 * 512 = lN (z % 512) := by
  rw [lN_div h, show (512 : Int64) = lN 512 from rfl, lN_mul, lN_sub (by omega), show z - z / 512 * 512 = z % 512 by omega]
theorem lN_pos {z : Nat} (h : z < 2 ^ 31) : (0 : Int64) ≤ lN z := by rw [show (0 : Int64) = lN 0 from rfl, lN_le (by omega) h]; omega
def mnL (y : Int64) (P : Nat → Prop) : Prop := (∃ c, c < 100000000 ∧ y = lN c ∧ P c ∧ ∀ c', P c' → c ≤ c') ∨ (y = -1 ∧ ∀ c, ¬ P c)
theorem mnL_tr {y : Int64} {P Q : Nat → Prop} (h : mnL y P) (h1 : ∀ c, P c → Q c) (h2 : ∀ c, Q c → ∃ c', c' ≤ c ∧ P c') : mnL y Q := by
  rcases h with ⟨c, c0, e, hc, hm⟩ | ⟨e, hn⟩
  · refine Or.inl ⟨c, c0, e, h1 c hc, fun c' q => ?_⟩
    obtain ⟨c2, a1, a2⟩ := h2 c' q
    have := hm c2 a2; omega
  · refine Or.inr ⟨e, fun c q => ?_⟩
    obtain ⟨c2, a1, a2⟩ := h2 c q
    exact hn c2 a2
theorem mnL_iff {y : Int64} {P Q : Nat → Prop} (h : mnL y P) (h1 : ∀ c, P c ↔ Q c) : mnL y Q := mnL_tr h (fun c q => (h1 c).mp q) (fun c q => ⟨c, Nat.le_refl c, (h1 c).mpr q⟩)
def lsN (x y : Int64) : Int64 := if 0 ≤ x then (if y < x then y else x) else y
theorem mnL_add {y : Int64} {P Q : Nat → Prop} (h : mnL y P) {c : Nat} (hc : c < 100000000) (hQ : ∀ x, Q x ↔ P x ∨ x = c) : mnL (lsN y (lN c)) Q := by
  refine mnL_iff (P := fun x => P x ∨ x = c) ?_ (fun x => (hQ x).symm)
  unfold lsN
  rcases h with ⟨d, d0, rfl, hd, hm⟩ | ⟨rfl, hn⟩
  · rw [if_pos (lN_pos (by omega))]
    by_cases q : c < d
    · rw [if_pos ((lN_lt (by omega) (by omega)).mpr q)]
      refine Or.inl ⟨c, hc, rfl, Or.inr rfl, fun c' q' => ?_⟩
      rcases q' with q' | rfl
      · have := hm c' q'; omega
      · exact Nat.le_refl _
    · rw [if_neg (fun z => q ((lN_lt (by omega) (by omega)).mp z))]
      refine Or.inl ⟨d, d0, rfl, Or.inl hd, fun c' q' => ?_⟩
      rcases q' with q' | rfl
      · exact hm c' q'
      · omega
  · rw [if_neg (by decide)]
    refine Or.inl ⟨c, hc, rfl, Or.inr rfl, fun c' q' => ?_⟩
    rcases q' with q' | rfl
    · exact absurd q' (hn c')
    · exact Nat.le_refl _
theorem lN_nm1 {c : Nat} (h : c < 2 ^ 31) : ¬ (-1 : Int64) = lN c := by
  intro e
  have := congrArg Int64.toInt e
  rw [lN_toInt h] at this
  have h2 : (-1 : Int64).toInt = -1 := rfl
  omega
theorem mnL_src {y : Int64} {P : Nat → Prop} (h : mnL y P) {c : Nat} (hc : c < 100000000) (e : y = lN c) : P c ∧ ∀ c', P c' → c ≤ c' := by
  rcases h with ⟨d, d0, e2, hd, hm⟩ | ⟨e2, hn⟩
  · rw [e, lN_eq (by omega) (by omega)] at e2
    subst e2; exact ⟨hd, hm⟩
  · rw [e2] at e
    exact absurd e (lN_nm1 (by omega))
/-- only longs of one cell -/
def fl (P : Nat → Nat → Prop) (X : Nat) (m m' : hM) : Prop := (∀ a j, ¬ P a j → gI m' a j = gI m a j) ∧ (∀ a j, ¬ (a = X ∧ j < 3072) → ¬ (a = 96 ∧ j = 45) → gL m' a j = gL m a j) ∧ ∀ a j, gR m' a j = gR m a j
theorem fl.rf {P : Nat → Nat → Prop} {X : Nat} {m : hM} : fl P X m m := ⟨fun _ _ _ => rfl, fun _ _ _ _ => rfl, fun _ _ => rfl⟩
theorem fl.tr {P : Nat → Nat → Prop} {X : Nat} {m m1 m2 : hM} (h : fl P X m m1) (g : fl P X m1 m2) : fl P X m m2 := ⟨fun a j z => (g.1 a j z).trans (h.1 a j z), fun a j z y => (g.2.1 a j z y).trans (h.2.1 a j z y), fun a j => (g.2.2 a j).trans (h.2.2 a j)⟩
theorem fl.sl {P : Nat → Nat → Prop} {X : Nat} {m m1 : hM} {j : Nat} {y : Int64} (h : fl P X m m1) (hj : j < 3072) : fl P X m (sL m1 X j y) := ⟨h.1, fun a i z u => by rw [gL_sn (fun w => z ⟨w.1, by omega⟩)]; exact h.2.1 a i z u, h.2.2⟩
theorem fl.si {P : Nat → Nat → Prop} {X : Nat} {m m1 : hM} {a j : Nat} {y : Int32} (h : fl P X m m1) (hp : P a j) : fl P X m (sI m1 a j y) := ⟨fun a' j' z => by rw [gI_sn (fun w => z (by rw [w.1, w.2]; exact hp))]; exact h.1 a' j' z, h.2.1, h.2.2⟩
theorem fl.s5 {P : Nat → Nat → Prop} {X : Nat} {m m1 : hM} {y : Int64} (h : fl P X m m1) : fl P X m (sL m1 96 45 y) := ⟨h.1, fun a i z u => by rw [gL_sn u]; exact h.2.1 a i z u, h.2.2⟩
theorem fl.mono {P Q : Nat → Nat → Prop} {X : Nat} {m m1 : hM} (h : fl P X m m1) (g : ∀ a j, P a j → Q a j) : fl Q X m m1 := ⟨fun a j z => h.1 a j (fun y => z (g a j y)), h.2⟩
theorem rx_emptiesPaid {fu : Nat} (hfu : 4000 ≤ fu) {a : Nat} (ha : a = 124 ∨ a = 125) (m : hM) : ∃ m', f_X11_emptiesPaid fu a m = some ((), m') ∧ (∀ j, j < 3072 → gL m' a j = -1) ∧ fl (fun _ _ => False) a m m' ∧ gL m' 96 45 = gL m 96 45 := by
  have hl : hAr LY[a]? 3 3072 = true := by rcases ha with rfl | rfl <;> decide +kernel
  have key : ∀ (t k : Nat) (m1 : hM), k ≤ 3072 → 3072 - k < t → (∀ j, j < k → gL m1 a j = -1) → fl (fun _ _ => False) a m m1 → gL m1 96 45 = gL m 96 45 → ∃ m', f_X11_emptiesPaid_2 fu t a (nI k) m1 = some ((), m') ∧ (∀ j, j < 3072 → gL m' a j = -1) ∧ fl (fun _ _ => False) a m m' ∧ gL m' 96 45 = gL m 96 45 := by
    intro t
    induction t with
    | zero => intro k m1 h1 h2; exact absurd h2 (Nat.not_lt_zero _)
    | succ t ih =>
      intro k m1 hk ht r f g
      rw [f_X11_emptiesPaid_2_s]
      unfold s_X11_emptiesPaid_2
      by_cases q : nI 3072 ≤ nI k
      · rw [if_pos (show (3072 : Int32) ≤ nI k from q)]
        rw [nI_leI (by omega) (by omega)] at q
        exact ⟨m1, rfl, fun j hj => r j (by omega), f, g⟩
      · rw [if_neg (show ¬ (3072 : Int32) ≤ nI k from q)]
        rw [nI_leI (by omega) (by omega)] at q
        rw [if_pos (hIn_lt (show k < 3072 by omega) (by omega)), hLet_n, hLet_n, nI_1, nI_clamp (show k < 2 ^ 31 by omega)]
        refine ih (k + 1) _ (by omega) (by omega) (fun j hj => ?_) (f.sl (by omega)) (by rw [gL_sn (by omega)]; exact g)
        by_cases e : j = k
        · rw [e, gL_ss]
        · rw [gL_sn (by omega)]; exact r j (by omega)
  unfold f_X11_emptiesPaid
  rw [if_pos hl]
  exact key fu 0 m (by omega) (by omega) (fun j hj => absurd hj (Nat.not_lt_zero _)) fl.rf rfl
theorem rx_cheaper (fu : Nat) {X j : Nat} (hX : X = 124 ∨ X = 125) (hj : j < 3072) (y : Int64) {m : hM} (hR : gR m 96 44 = X) : f_X11_cheaper fu (nI j) y m = some ((), sL m X j (lsN (gL m X j) y)) := by
  have hl : hAr LY[X]? 3 3072 = true := by rcases hX with rfl | rfl <;> decide +kernel
  have h1 : hIn (nI j) 3072 := hIn_lt hj (by omega)
  unfold f_X11_cheaper f_X11_cheaper_30 lsN f_J9_min_f86c9
  rw [hR]
  simp only [if_pos hl, if_pos h1, nI_clamp (show j < 2 ^ 31 by omega), lg_cmp_ge, lg_cmp_gt, hLet_n]
  by_cases q : 0 ≤ gL m X j
  · rw [if_pos q, if_pos q]
    by_cases q2 : y < gL m X j
    · rw [if_pos q2, hBd_some, if_pos q2]
    · rw [if_neg q2, hBd_some, if_neg q2]
  · rw [if_neg q, if_neg q]
/-- what a place gives to the next hour -/
def cpb (lo : Nat → Nat → Nat) (n most hn o l c n' o' l' c' : Nat) : Prop := 1 ≤ l ∧ ((n' = hn ∧ o' = o ∧ l' = l ∧ c' = c) ∨ (hn < most ∧ n' = hn + 1 ∧ o' < n ∧ o' ≠ o ∧ l' = l + lo o o' ∧ c' = c / 512 * 512 + (c % 512 * 8 + o')))
theorem rx_paid {fu : Nat} (hfu : 100 ≤ fu) {lo : Nat → Nat → Nat} {n X hn o l c most : Nat} {m : hM} (hX : X = 124 ∨ X = 125) (hR : gR m 96 44 = X) (h3 : gI m 96 3 = nI n) (hn6 : n ≤ 6) (ho : o < n) (hl : 1 ≤ l) (hl2 : l < 128) (hh : hn ≤ most) (hm : most ≤ 3) (hb : hn < most → l + 22 < 128) (hc : c < 50000000)
    (hlo : ∀ o', o' < n → o' ≠ o → hn < most → gI m 123 (6 * o + o') = nI (lo o o') ∧ lo o o' ≤ 22) (G : Nat → Nat → Nat → Nat → Prop) (hG : ∀ n' o' l', n' < 4 → o' < 6 → l' < 128 → mnL (gL m X ((n' * 6 + o') * 128 + l')) (G n' o' l')) :
    ∃ m', f_X11_goesPaid fu (nI hn) (nI o) (nI l) (lN c) (nI most) m = some ((), m') ∧ fl (fun _ _ => False) X m m' ∧ gL m' 96 45 = gL m 96 45 ∧ ∀ n' o' l', n' < 4 → o' < 6 → l' < 128 → mnL (gL m' X ((n' * 6 + o') * 128 + l')) (fun c' => G n' o' l' c' ∨ cpb lo n most hn o l c n' o' l' c') := by
  have key : ∀ (t k : Nat) (m1 : hM), k ≤ n → n - k < t → fl (fun _ _ => False) X m m1 → gL m1 96 45 = gL m 96 45 → (∀ n' o' l', n' < 4 → o' < 6 → l' < 128 → mnL (gL m1 X ((n' * 6 + o') * 128 + l')) (fun c' => G n' o' l' c' ∨ (n' = hn ∧ o' = o ∧ l' = l ∧ c' = c) ∨ (hn < most ∧ n' = hn + 1 ∧ o' < k ∧ o' ≠ o ∧ l' = l + lo o o' ∧ c' = c / 512 * 512 + (c % 512 * 8 + o')))) →
      ∃ m', f_X11_goesPaid_131 fu t (nI hn) (nI o) (nI l) (lN c) (nI most) (nI k) m1 = some ((), m') ∧ fl (fun _ _ => False) X m m' ∧ gL m' 96 45 = gL m 96 45 ∧ ∀ n' o' l', n' < 4 → o' < 6 → l' < 128 → mnL (gL m' X ((n' * 6 + o') * 128 + l')) (fun c' => G n' o' l' c' ∨ cpb lo n most hn o l c n' o' l' c') := by
    intro t
    induction t with
    | zero => intro k m1 h1 h2; exact absurd h2 (Nat.not_lt_zero _)
    | succ t ih =>
      intro k m1 hk ht f g5 r
      rw [f_X11_goesPaid_131_s]
      unfold s_X11_goesPaid_131 f_X11_goesPaid_207
      simp only [hLet_n, nI_1]
      rw [f.1 96 3 (fun z => z), h3]
      by_cases q : nI n ≤ nI k
      · rw [if_pos q]
        rw [nI_leI (by omega) (by omega)] at q
        refine ⟨m1, rfl, f, g5, fun n' o' l' z1 z2 z3 => mnL_iff (r n' o' l' z1 z2 z3) (fun c' => ?_)⟩
        unfold cpb
        have : k = n := by omega
        subst this
        exact ⟨fun y => y.elim Or.inl (fun y => Or.inr ⟨hl, y⟩), fun y => y.elim Or.inl (fun y => Or.inr y.2)⟩
      rw [if_neg q]
      rw [nI_leI (by omega) (by omega)] at q
      by_cases q2 : nI most ≤ nI hn
      · rw [if_pos q2]
        rw [nI_leI (by omega) (by omega)] at q2
        refine ⟨m1, rfl, f, g5, fun n' o' l' z1 z2 z3 => mnL_iff (r n' o' l' z1 z2 z3) (fun c' => ?_)⟩
        unfold cpb
        exact ⟨fun y => y.elim Or.inl (fun y => Or.inr ⟨hl, y.elim Or.inl (fun y => by omega)⟩), fun y => y.elim Or.inl (fun y => Or.inr (y.2.elim Or.inl (fun y => by omega)))⟩
      rw [if_neg q2]
      rw [nI_leI (by omega) (by omega)] at q2
      by_cases q3 : k = o
      · rw [if_pos (by rw [q3])]
        refine ih (k + 1) m1 (by omega) (by omega) f g5 (fun n' o' l' z1 z2 z3 => mnL_iff (r n' o' l' z1 z2 z3) (fun c' => ?_))
        constructor
        · rintro (y | y | y)
          · exact Or.inl y
          · exact Or.inr (Or.inl y)
          · exact Or.inr (Or.inr ⟨y.1, y.2.1, by omega, y.2.2.2⟩)
        · rintro (y | y | y)
          · exact Or.inl y
          · exact Or.inr (Or.inl y)
          · exact Or.inr (Or.inr ⟨y.1, y.2.1, by omega, y.2.2.2⟩)
      rw [if_neg (fun z => q3 ((nI_eq (by omega) (by omega)).mp z))]
      obtain ⟨-, k2, k3, k4⟩ := kn_ix (show o < 6 by omega) (show k < 6 by omega)
      obtain ⟨g1, g2⟩ := hlo k (by omega) q3 (by omega)
      have hb' := hb (by omega)
      obtain ⟨p1, p2⟩ := pl_at (n := hn + 1) (o := k) (l := l + lo o k) (by omega) (by omega) (by omega) fu m1
      rw [k2, if_pos k3, k4, f.1 123 _ (fun z => z), g1, nI_add, p1, hBd_some, lN_mod (by omega), lN_div (by omega), nI_l (show k < 2 ^ 31 by omega), show (512 : Int64) = lN 512 from rfl, show (8 : Int64) = lN 8 from rfl, lN_mul, lN_mul, lN_add, lN_add, rx_cheaper fu hX p2 _ (by rw [f.2.2]; exact hR), hBd_some]
      refine ih (k + 1) _ (by omega) (by omega) (f.sl p2) (by rw [gL_sn (by omega)]; exact g5) (fun n' o' l' z1 z2 z3 => ?_)
      by_cases e : n' = hn + 1 ∧ o' = k ∧ l' = l + lo o k
      · obtain ⟨rfl, rfl, rfl⟩ := e
        rw [gL_ss]
        refine mnL_add (r _ _ _ z1 z2 z3) (by omega) (fun c' => ?_)
        constructor
        · rintro (y | y | y)
          · exact Or.inl (Or.inl y)
          · exact Or.inl (Or.inr (Or.inl y))
          · exact Or.inr y.2.2.2.2.2
        · rintro ((y | y | y) | y)
          · exact Or.inl y
          · exact Or.inr (Or.inl y)
          · exact Or.inr (Or.inr ⟨y.1, y.2.1, by omega, y.2.2.2⟩)
          · exact Or.inr (Or.inr ⟨by omega, rfl, by omega, q3, rfl, y⟩)
      · rw [gL_sn (by omega)]
        refine mnL_iff (r n' o' l' z1 z2 z3) (fun c' => ?_)
        constructor
        · rintro (y | y | y)
          · exact Or.inl y
          · exact Or.inr (Or.inl y)
          · exact Or.inr (Or.inr ⟨y.1, y.2.1, by omega, y.2.2.2⟩)
        · rintro (y | y | y)
          · exact Or.inl y
          · exact Or.inr (Or.inl y)
          · refine Or.inr (Or.inr ⟨y.1, y.2.1, ?_, y.2.2.2⟩)
            have y3 := y.2.2.1
            rcases Nat.lt_or_ge o' k with u | u
            · exact u
            · have e2 : o' = k := by omega
              exact absurd ⟨y.2.1, e2, by rw [y.2.2.2.2.1, e2]⟩ e
  obtain ⟨p1, p2⟩ := pl_at (n := hn) (o := o) (l := l) (by omega) (by omega) hl2 fu m
  unfold f_X11_goesPaid
  rw [if_pos (nI_ne0 (by omega) (by omega)), p1, hBd_some, rx_cheaper fu hX p2 _ hR, hBd_some]
  refine key fu 0 _ (by omega) (by omega) (fl.rf.sl p2) (gL_sn (by omega)) (fun n' o' l' z1 z2 z3 => ?_)
  by_cases e : n' = hn ∧ o' = o ∧ l' = l
  · obtain ⟨rfl, rfl, rfl⟩ := e
    rw [gL_ss]
    refine mnL_add (hG _ _ _ z1 z2 z3) (by omega) (fun c' => ?_)
    constructor
    · rintro (y | y | y)
      · exact Or.inl y
      · exact Or.inr y.2.2.2
      · exact absurd y.2.2.1 (Nat.not_lt_zero _)
    · rintro (y | y)
      · exact Or.inl y
      · exact Or.inr (Or.inl ⟨rfl, rfl, rfl, y⟩)
  · rw [gL_sn (by omega)]
    refine mnL_iff (hG n' o' l' z1 z2 z3) (fun c' => ?_)
    constructor
    · exact Or.inl
    · rintro (y | y | y)
      · exact y
      · exact absurd ⟨y.1, y.2.1, y.2.2.1⟩ e
      · exact absurd y.2.2.1 (Nat.not_lt_zero _)
/-! ends: less pay, then fewer handings, then the lesser route -/
def lxL (n z n' z' : Nat) : Prop := z / 512 < z' / 512 ∨ (z / 512 = z' / 512 ∧ (n < n' ∨ (n = n' ∧ z ≤ z')))
def eqE (m : hM) (E : Nat → Nat → Prop) : Prop := (gI m 96 46 = -1 ∧ ∀ n z, ¬ E n z) ∨ (∃ n z, n < 4 ∧ z < 100000000 ∧ E n z ∧ gI m 96 46 = nI n ∧ gL m 96 45 = lN z ∧ ∀ n' z', E n' z' → lxL n z n' z')
theorem eqE_tr {m : hM} {E F : Nat → Nat → Prop} (h : eqE m E) (h1 : ∀ n z, E n z → F n z) (h2 : ∀ n z, F n z → ∃ n' z', E n' z' ∧ lxL n' z' n z) : eqE m F := by
  rcases h with ⟨a1, a2⟩ | ⟨n, z, a0, a0', a1, a2, a3, a4⟩
  · refine Or.inl ⟨a1, fun n z q => ?_⟩
    obtain ⟨n', z', b1, b2⟩ := h2 n z q
    exact a2 _ _ b1
  · refine Or.inr ⟨n, z, a0, a0', h1 _ _ a1, a2, a3, fun n' z' q => ?_⟩
    obtain ⟨n2, z2, b1, b2⟩ := h2 n' z' q
    have := a4 _ _ b1
    unfold lxL at this b2 ⊢
    omega
theorem eqE_iff {m : hM} {E F : Nat → Nat → Prop} (h : eqE m E) (g : ∀ n z, E n z ↔ F n z) : eqE m F := eqE_tr h (fun n z q => (g n z).mp q) (fun n z q => ⟨n, z, (g n z).mpr q, by unfold lxL; omega⟩)
theorem eqE_cg {m m' : hM} {E : Nat → Nat → Prop} (h : eqE m E) (g1 : gI m' 96 46 = gI m 96 46) (g2 : gL m' 96 45 = gL m 96 45) : eqE m' E := by unfold eqE; rw [g1, g2]; exact h
theorem rx_paid0 (fu : Nat) {n c : Nat} (o most : Int32) {m : hM} {E : Nat → Nat → Prop} (hn : n < 4) (hc : c < 100000000) (h : eqE m E) (X : Nat) (hX : X = 124 ∨ X = 125) : ∃ m', f_X11_goesPaid fu (nI n) o 0 (lN c) most m = some ((), m') ∧ fl (fun a j => a = 96 ∧ j = 46) X m m' ∧ (∀ j, gL m' X j = gL m X j) ∧ eqE m' (fun n' z' => E n' z' ∨ (n' = n ∧ z' = c)) := by
  have fs : fl (fun a j => a = 96 ∧ j = 46) X m (sI (sL m 96 45 (lN c)) 96 46 (nI n)) := (fl.rf.s5).si ⟨rfl, rfl⟩
  have gX : ∀ j, gL (sI (sL m 96 45 (lN c)) 96 46 (nI n)) X j = gL m X j := fun j => by rw [gL_sI, gL_sn (by omega)]
  have take : (∀ n' z', E n' z' → lxL n c n' z') → eqE (sI (sL m 96 45 (lN c)) 96 46 (nI n)) (fun n' z' => E n' z' ∨ (n' = n ∧ z' = c)) := fun q => Or.inr ⟨n, c, hn, hc, Or.inr ⟨rfl, rfl⟩, gI_ss _ _ _ _, by rw [gL_sI, gL_ss], fun n' z' y => y.elim (q n' z') (fun y => by rw [y.1, y.2]; unfold lxL; omega)⟩
  unfold f_X11_goesPaid f_X11_goesPaid_29 f_X11_goesPaid_34 f_X11_goesPaid_65 f_X11_goesPaid_66 f_X11_goesPaid_104
  have n10 : ¬ (1 : Int32) = 0 := by decide
  simp only [hLet_n, lg_cmp_ge, lg_cmp_eq, not_true_eq_false, if_false, if_true, n10, not_false_eq_true]
  rcases h with ⟨a1, a2⟩ | ⟨n0, z0, b0, b0', b1, b2, b3, b4⟩
  · rw [a1, if_pos (by decide)]
    simp only [if_pos (show (-1 : Int32) < 0 by decide)]
    exact ⟨_, rfl, fs, gX, take (fun n' z' q => absurd q (a2 _ _))⟩
  · have keep : lxL n0 z0 n c → eqE m (fun n' z' => E n' z' ∨ (n' = n ∧ z' = c)) := fun q => Or.inr ⟨n0, z0, b0, b0', Or.inl b1, b2, b3, fun n' z' y => y.elim (b4 n' z') (fun y => by rw [y.1, y.2]; exact q)⟩
    have tk : lxL n c n0 z0 → ∀ n' z', E n' z' → lxL n c n' z' := fun q n' z' y => by
      have := b4 n' z' y
      unfold lxL at q this ⊢; omega
    have p0 : ¬ nI n0 < 0 := nI_pos (by omega)
    simp only [b2, b3, if_neg p0, lN_div (show c < 2 ^ 31 by omega), lN_div (show z0 < 2 ^ 31 by omega), lN_le (show z0 / 512 < 2 ^ 31 by omega) (show c / 512 < 2 ^ 31 by omega), lN_eq (show c / 512 < 2 ^ 31 by omega) (show z0 / 512 < 2 ^ 31 by omega), lN_le (show z0 < 2 ^ 31 by omega) (show c < 2 ^ 31 by omega), nI_ltI (show n < 2 ^ 31 by omega) (show n0 < 2 ^ 31 by omega), nI_eq (show n < 2 ^ 31 by omega) (show n0 < 2 ^ 31 by omega)]
    by_cases q : z0 / 512 ≤ c / 512
    · rw [if_pos q]
      by_cases q2 : c / 512 = z0 / 512
      · rw [if_neg (fun z => z q2)]
        by_cases q3 : n < n0
        · rw [if_pos q3]
          exact ⟨_, rfl, fs, gX, take (tk (by unfold lxL; omega))⟩
        · rw [if_neg q3]
          by_cases q4 : n = n0
          · rw [if_neg (fun z => z q4)]
            by_cases q5 : z0 ≤ c
            · rw [if_pos q5]
              exact ⟨m, rfl, fl.rf, fun _ => rfl, keep (by unfold lxL; omega)⟩
            · rw [if_neg q5]
              exact ⟨_, rfl, fs, gX, take (tk (by unfold lxL; omega))⟩
          · rw [if_pos q4]
            exact ⟨m, rfl, fl.rf, fun _ => rfl, keep (by unfold lxL; omega)⟩
      · rw [if_pos q2]
        exact ⟨m, rfl, fl.rf, fun _ => rfl, keep (by unfold lxL; omega)⟩
    · rw [if_neg q, if_pos (show ¬ c / 512 = z0 / 512 by omega)]
      exact ⟨_, rfl, fs, gX, take (tk (by unfold lxL; omega))⟩
