/-! ===== rows of offices: a route, the last office first; its code; its row in the class's tree ===== -/
def rtL (b : Nat) : List Nat → Nat
  | [] => b
  | o :: _ => o
def rtC : List Nat → Nat
  | [] => 0
  | o :: r => 8 * rtC r + o
def rtV (n b : Nat) : List Nat → Prop
  | [] => True
  | o :: r => o < n ∧ o ≠ rtL b r ∧ rtV n b r
def rtW (q b : Nat) (i : Nat) : List Nat :=
  if h : i = 0 then [] else oth (rtL b (rtW q b ((i - 1) / q))) ((i - 1) % q) :: rtW q b ((i - 1) / q)
termination_by i
decreasing_by all_goals exact Nat.lt_of_le_of_lt (Nat.div_le_self _ _) (by omega)
theorem rtW_0 (q b : Nat) : rtW q b 0 = [] := by rw [rtW, dif_pos rfl]
theorem rtW_s {q b p k : Nat} (hk : k < q) : rtW q b (q * p + 1 + k) = oth (rtL b (rtW q b p)) k :: rtW q b p := by
  have e1 : (q * p + 1 + k - 1) / q = p := by
    rw [show q * p + 1 + k - 1 = k + q * p by omega, Nat.add_mul_div_left _ _ (by omega), Nat.div_eq_of_lt hk]; omega
  have e2 : (q * p + 1 + k - 1) % q = k := by
    rw [show q * p + 1 + k - 1 = k + q * p by omega, Nat.add_mul_mod_self_left, Nat.mod_eq_of_lt hk]
  rw [rtW, dif_neg (by omega), e1, e2]
/-- a row but the first is some child -/
theorem rt_child {q i : Nat} (hq : 0 < q) (hi : 0 < i) : ∃ p k, k < q ∧ i = q * p + 1 + k ∧ p < i ∧ (i - 1) / q = p := by
  refine ⟨(i - 1) / q, (i - 1) % q, Nat.mod_lt _ hq, ?_, ?_, rfl⟩
  · have := Nat.div_add_mod (i - 1) q; omega
  · exact Nat.lt_of_le_of_lt (Nat.div_le_self _ _) (by omega)
def rtN (q : Nat) : Nat → Nat
  | 0 => 1
  | k + 1 => 1 + q * rtN q k
def rtF (q : Nat) : Nat → Nat
  | 0 => 0
  | k + 1 => rtN q k
theorem rtN_F (q k : Nat) : rtN q k = q * rtF q k + 1 := by
  cases k with
  | zero => rw [rtN, rtF, Nat.mul_zero]
  | succ k => rw [rtN, rtF]; omega
theorem rt_lev {q b : Nat} (hq : 0 < q) : ∀ k i, (rtW q b i).length ≤ k ↔ i < rtN q k
  | 0, i => by
    rw [rtN]
    rcases Nat.eq_zero_or_pos i with rfl | hi
    · rw [rtW_0]; simp
    · obtain ⟨p, k, hk, rfl, -, -⟩ := rt_child hq hi
      rw [rtW_s hk]; simp only [List.length_cons]; omega
  | k + 1, i => by
    rw [rtN]
    rcases Nat.eq_zero_or_pos i with rfl | hi
    · rw [rtW_0]; simp only [List.length_nil]; omega
    · obtain ⟨p, c, hc, rfl, -, -⟩ := rt_child hq hi
      rw [rtW_s hc, List.length_cons, Nat.succ_le_succ_iff, rt_lev hq k p]
      constructor
      · intro h
        have : q * (p + 1) ≤ q * rtN q k := Nat.mul_le_mul_left q h
        rw [Nat.mul_add] at this; omega
      · intro h
        rcases Nat.lt_or_ge p (rtN q k) with g | g
        · exact g
        · have : q * rtN q k ≤ q * p := Nat.mul_le_mul_left q g
          omega
theorem rt_lev2 {q b k i : Nat} (hq : 0 < q) (h1 : rtF q k ≤ i) (h2 : i < rtN q k) : (rtW q b i).length = k := by
  have a := (rt_lev (b := b) hq k i).mpr h2
  cases k with
  | zero => omega
  | succ k =>
    have c := rt_lev (b := b) hq k i
    rw [rtF] at h1
    omega
theorem rtF_le (q k : Nat) : rtF q k ≤ rtN q k := by
  induction k with
  | zero => rw [rtF]; omega
  | succ k ih =>
    rw [rtF, rtN]
    have := rtN_F q k
    have h2 : q * rtF q k ≤ q * rtN q k := Nat.mul_le_mul_left q ih
    omega
theorem rtN_le {q : Nat} (hq : q ≤ 5) : ∀ k, k ≤ 3 → rtN q k ≤ 156 := by
  intro k hk
  have h : ∀ q, q ≤ 5 → ∀ k, k ≤ 3 → rtN q k ≤ 156 := by decide +kernel
  exact h q hq k hk
theorem rtN_le2 {q : Nat} (hq : q ≤ 5) : ∀ k, k ≤ 2 → rtN q k ≤ 31 := by
  intro k hk
  have h : ∀ q, q ≤ 5 → ∀ k, k ≤ 2 → rtN q k ≤ 31 := by decide +kernel
  exact h q hq k hk
theorem rtN_mono {q a b : Nat} (h : a ≤ b) : rtN q a ≤ rtN q b := by
  induction b with
  | zero => have : a = 0 := by omega
            subst this; exact Nat.le_refl _
  | succ b ih =>
    rcases Nat.lt_or_ge a (b + 1) with g | g
    · exact Nat.le_trans (ih (by omega)) (rtF_le q (b + 1))
    · have : a = b + 1 := by omega
      subst this; exact Nat.le_refl _
theorem oth_lt {n o k : Nat} (ho : o < n) (hk : k < n - 1) : oth o k < n ∧ oth o k ≠ o := by unfold oth; split <;> omega
theorem rtL_lt {n b : Nat} (hb : b < n) : ∀ {r : List Nat}, rtV n b r → rtL b r < n
  | [], _ => hb
  | _ :: _, h => h.1
theorem rtW_V {n b : Nat} (hb : b < n) (hq : 0 < n - 1) : ∀ i, rtV n b (rtW (n - 1) b i) := by
  intro i
  induction i using Nat.strongRecOn with
  | ind i ih =>
    rcases Nat.eq_zero_or_pos i with rfl | hi
    · rw [rtW_0]; exact trivial
    · obtain ⟨p, k, hk, rfl, hp, -⟩ := rt_child hq hi
      rw [rtW_s hk]
      have h1 := ih p hp
      have h2 := oth_lt (rtL_lt hb h1) hk
      exact ⟨h2.1, h2.2, h1⟩
/-- each route has its row -/
theorem rt_row {n b : Nat} (hb : b < n) (hq : 0 < n - 1) : ∀ (r : List Nat), rtV n b r → ∃ i, rtW (n - 1) b i = r
  | [], _ => ⟨0, rtW_0 _ _⟩
  | o :: r, h => by
    obtain ⟨h1, h2, h3⟩ := h
    obtain ⟨p, hp⟩ := rt_row hb hq r h3
    have hl := rtL_lt hb h3
    refine ⟨(n - 1) * p + 1 + othN (rtL b r) o, ?_⟩
    rw [rtW_s (by unfold othN; split <;> omega), hp]
    congr 1
    unfold oth othN
    split <;> split <;> omega
theorem rt_row2 {n b k : Nat} (hb : b < n) {r : List Nat} (h : rtV n b r) (hk : r.length ≤ k) : ∃ i, i < rtN (n - 1) k ∧ rtW (n - 1) b i = r := by
  rcases Nat.eq_zero_or_pos (n - 1) with q | q
  · cases r with
    | nil => refine ⟨0, ?_, rtW_0 _ _⟩
             have := rtN_F (n - 1) k; omega
    | cons o r =>
      exfalso
      have h3 := rtL_lt hb h.2.2
      have h1 := h.1
      have h2 := h.2.1
      omega
  · obtain ⟨i, hi⟩ := rt_row hb q r h
    exact ⟨i, (rt_lev (b := b) q k i).mp (by rw [hi]; exact hk), hi⟩
theorem rt_rowV {n b k i : Nat} (hb : b < n) (hi : i < rtN (n - 1) k) : rtV n b (rtW (n - 1) b i) ∧ (rtW (n - 1) b i).length ≤ k := by
  rcases Nat.eq_zero_or_pos (n - 1) with q | q
  · have e : rtN (n - 1) k = 1 := by have := rtN_F (n - 1) k; rw [q, Nat.zero_mul] at this; rw [q]; omega
    have : i = 0 := by omega
    subst this
    rw [rtW_0]; exact ⟨trivial, Nat.zero_le _⟩
  · exact ⟨rtW_V hb q i, (rt_lev q k i).mpr hi⟩
/-- the order of the rows is that of handings, then of codes -/
theorem rt_ord {n b : Nat} (hn : n ≤ 6) (hb : b < n) (hq : 0 < n - 1) : ∀ j i, i < j → (rtW (n - 1) b i).length < (rtW (n - 1) b j).length ∨ ((rtW (n - 1) b i).length = (rtW (n - 1) b j).length ∧ rtC (rtW (n - 1) b i) < rtC (rtW (n - 1) b j)) := by
  intro j
  induction j using Nat.strongRecOn with
  | ind j ih =>
    intro i hij
    obtain ⟨pj, kj, hkj, rfl, hpj, -⟩ := rt_child hq (show 0 < j by omega)
    rw [rtW_s hkj]
    rcases Nat.eq_zero_or_pos i with rfl | hi
    · rw [rtW_0]; left; simp
    · obtain ⟨pi, ki, hki, rfl, hpi, -⟩ := rt_child hq hi
      rw [rtW_s hki]
      have Vi := oth_lt (rtL_lt hb (rtW_V hb hq pi)) hki
      have Vj := oth_lt (rtL_lt hb (rtW_V hb hq pj)) hkj
      simp only [List.length_cons, rtC]
      rcases Nat.lt_trichotomy pi pj with h | h | h
      · have := ih pj hpj pi h
        omega
      · subst h
        right
        refine ⟨rfl, ?_⟩
        have : ki < kj := by omega
        have : oth (rtL b (rtW (n - 1) b pi)) ki < oth (rtL b (rtW (n - 1) b pi)) kj := by unfold oth; split <;> split <;> omega
        omega
      · exfalso
        have : (n - 1) * (pj + 1) ≤ (n - 1) * pi := Nat.mul_le_mul_left _ h
        rw [Nat.mul_add] at this; omega
theorem rt_ord2 {n b k i j : Nat} (hn : n ≤ 6) (hb : b < n) (hij : i < j) (hj : j < rtN (n - 1) k) : (rtW (n - 1) b i).length < (rtW (n - 1) b j).length ∨ ((rtW (n - 1) b i).length = (rtW (n - 1) b j).length ∧ rtC (rtW (n - 1) b i) < rtC (rtW (n - 1) b j)) := by
  rcases Nat.eq_zero_or_pos (n - 1) with q | q
  · have e : rtN (n - 1) k = 1 := by have := rtN_F (n - 1) k; rw [q, Nat.zero_mul] at this; rw [q]; omega
    omega
  · exact rt_ord hn hb q j i hij
theorem rtC_lt {n b : Nat} (hn : n ≤ 6) : ∀ {r : List Nat}, rtV n b r → rtC r < 8 ^ r.length
  | [], _ => by decide
  | o :: r, h => by
    have := rtC_lt hn h.2.2
    have h1 := h.1
    rw [rtC, List.length_cons, Nat.pow_succ]; omega
/-! ===== what a route can have left: after t hours ===== -/
def wR (lo : Nat → Nat → Nat → Nat) (wk : Nat → Nat → Nat) (n b len most h : Nat) : Nat → List Nat → Nat → Prop
  | 0, r, l => r = [] ∧ l = len
  | t + 1, r, l => 1 ≤ l ∧ (wR lo wk n b len most h t r (l + wk (rtL b r) (h + t)) ∨ ∃ o r' l', r = o :: r' ∧ r'.length < most ∧ o < n ∧ o ≠ rtL b r' ∧ 1 ≤ l' ∧ wR lo wk n b len most h t r' (l' + wk (rtL b r') (h + t)) ∧ l = l' + lo (rtL b r') o (h + t + 1))
theorem wR_ok {lo : Nat → Nat → Nat → Nat} {wk : Nat → Nat → Nat} {n b len most h : Nat} (h1 : 1 ≤ len) (hlo : ∀ a o x, a < n → o < n → x ≤ 2400 → lo a o x ≤ 22) (hb : b < n) : ∀ t r l, h + t ≤ 2400 → wR lo wk n b len most h t r l → rtV n b r ∧ r.length ≤ most ∧ 1 ≤ l ∧ l ≤ len + 22 * r.length
  | 0, r, l, _, q => by
    obtain ⟨rfl, rfl⟩ := q
    exact ⟨trivial, Nat.zero_le _, h1, by omega⟩
  | t + 1, r, l, ht, q => by
    obtain ⟨q1, q2 | ⟨o, r', l', rfl, q3, q4, q5, q6, q7, q8⟩⟩ := q
    · obtain ⟨a1, a2, a3, a4⟩ := wR_ok h1 hlo hb t _ _ (by omega) q2
      exact ⟨a1, a2, q1, by omega⟩
    · obtain ⟨a1, a2, a3, a4⟩ := wR_ok h1 hlo hb t _ _ (by omega) q7
      have := hlo (rtL b r') o (h + t + 1) (rtL_lt hb a1) q4 (by omega)
      refine ⟨⟨q4, q5, a1⟩, by rw [List.length_cons]; omega, q1, by rw [List.length_cons]; omega⟩
/-- an end in hour t -/
def wE (lo : Nat → Nat → Nat → Nat) (wk : Nat → Nat → Nat) (n b len most h t : Nat) (r : List Nat) : Prop := wR lo wk n b len most h t r 1 ∧ wk (rtL b r) (h + t) = 1
/-- none of the first t hours has an end -/
def wN (lo : Nat → Nat → Nat → Nat) (wk : Nat → Nat → Nat) (n b len most h t : Nat) : Prop := ∀ t', t' < t → ∀ r, ¬ wE lo wk n b len most h t' r
/-! the least of some numbers, or none -/
def mnO (o : Option Nat) (P : Nat → Prop) : Prop := (∃ c, o = some c ∧ P c ∧ ∀ c', P c' → c ≤ c') ∨ (o = none ∧ ∀ c, ¬ P c)
theorem mnO_tr {o : Option Nat} {P Q : Nat → Prop} (h : mnO o P) (h1 : ∀ c, P c → Q c) (h2 : ∀ c, Q c → ∃ c', c' ≤ c ∧ P c') : mnO o Q := by
  rcases h with ⟨c, e, hc, hm⟩ | ⟨e, hn⟩
  · refine Or.inl ⟨c, e, h1 c hc, fun c' q => ?_⟩
    obtain ⟨c2, a1, a2⟩ := h2 c' q
    have := hm c2 a2; omega
  · refine Or.inr ⟨e, fun c q => ?_⟩
    obtain ⟨c2, a1, a2⟩ := h2 c q
    exact hn c2 a2
theorem mnO_iff {o : Option Nat} {P Q : Nat → Prop} (h : mnO o P) (h1 : ∀ c, P c ↔ Q c) : mnO o Q := mnO_tr h (fun c q => (h1 c).mp q) (fun c q => ⟨c, Nat.le_refl c, (h1 c).mpr q⟩)
def mnA (o : Option Nat) (c : Nat) : Option Nat := match o with | none => some c | some d => some (if c < d then c else d)
theorem mnO_add {o : Option Nat} {P : Nat → Prop} (h : mnO o P) (c : Nat) : mnO (mnA o c) (fun x => P x ∨ x = c) := by
  rcases h with ⟨d, rfl, hd, hm⟩ | ⟨rfl, hn⟩
  · refine Or.inl ⟨if c < d then c else d, rfl, ?_, fun c' q => ?_⟩
    · split
      · exact Or.inr rfl
      · exact Or.inl hd
    · rcases q with q | rfl
      · have := hm c' q; split <;> omega
      · split <;> omega
  · refine Or.inl ⟨c, rfl, Or.inr rfl, fun c' q => ?_⟩
    rcases q with q | rfl
    · exact absurd q (hn c')
    · exact Nat.le_refl _
