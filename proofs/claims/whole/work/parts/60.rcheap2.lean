/-! ===== cheap: the reference, an hour ===== -/
def pSrc (m0 : hM) (N n most n1 o1 l1 c1 : Nat) : Prop := n1 ≤ most ∧ o1 < n ∧ 1 ≤ l1 ∧ l1 < 128 ∧ c1 < 40000000 ∧ gL m0 N ((n1 * 6 + o1) * 128 + l1) = lN c1
def pGS (m0 : hM) (N n most : Nat) (lo : Nat → Nat → Nat) (wk wg : Nat → Nat) (s n' o' l' c' : Nat) : Prop := ∃ n1 o1 l1 c1, (n1 * 6 + o1) * 128 + l1 < s ∧ pSrc m0 N n most n1 o1 l1 c1 ∧ (cpb lo n most n1 o1 l1 c1 n' o' l' c' ∨ (wk o1 = 1 ∧ cpb lo n most n1 o1 (l1 - 1) (c1 + 512 * wg o1) n' o' l' c'))
def pEn (m0 : hM) (N n most : Nat) (wk wg : Nat → Nat) (E0 : Nat → Nat → Prop) (s n1 z : Nat) : Prop := E0 n1 z ∨ ∃ o1 c1, (n1 * 6 + o1) * 128 + 1 < s ∧ pSrc m0 N n most n1 o1 1 c1 ∧ wk o1 = 1 ∧ z = c1 + 512 * wg o1
def pIn (m0 m : hM) (N X n most : Nat) (lo : Nat → Nat → Nat) (wk wg : Nat → Nat) (E0 : Nat → Nat → Prop) (s : Nat) : Prop := fl (fun a j => a = 96 ∧ j = 46) X m0 m ∧ (∀ n' o' l', n' < 4 → o' < 6 → l' < 128 → mnL (gL m X ((n' * 6 + o') * 128 + l')) (pGS m0 N n most lo wk wg s n' o' l')) ∧ eqE m (pEn m0 N n most wk wg E0 s)
theorem pIn_eq {m0 m : hM} {N X n most s s' : Nat} {lo : Nat → Nat → Nat} {wk wg : Nat → Nat} {E0 : Nat → Nat → Prop} (h : pIn m0 m N X n most lo wk wg E0 s) (e : ∀ n1 o1 l1 c1, pSrc m0 N n most n1 o1 l1 c1 → ((n1 * 6 + o1) * 128 + l1 < s ↔ (n1 * 6 + o1) * 128 + l1 < s')) : pIn m0 m N X n most lo wk wg E0 s' := by
  refine ⟨h.1, fun n' o' l' z1 z2 z3 => mnL_iff (h.2.1 n' o' l' z1 z2 z3) (fun c' => ?_), eqE_iff h.2.2 (fun n1 z => ?_)⟩
  · constructor
    · rintro ⟨n1, o1, l1, c1, q1, q2, q3⟩
      exact ⟨n1, o1, l1, c1, (e _ _ _ _ q2).mp q1, q2, q3⟩
    · rintro ⟨n1, o1, l1, c1, q1, q2, q3⟩
      exact ⟨n1, o1, l1, c1, (e _ _ _ _ q2).mpr q1, q2, q3⟩
  · constructor
    · rintro (q | ⟨o1, c1, q1, q2, q3⟩)
      · exact Or.inl q
      · exact Or.inr ⟨o1, c1, (e _ _ _ _ q2).mp q1, q2, q3⟩
    · rintro (q | ⟨o1, c1, q1, q2, q3⟩)
      · exact Or.inl q
      · exact Or.inr ⟨o1, c1, (e _ _ _ _ q2).mpr q1, q2, q3⟩
theorem pIn_skip {m0 m : hM} {N X n most n1 o1 l1 : Nat} {lo : Nat → Nat → Nat} {wk wg : Nat → Nat} {E0 : Nat → Nat → Prop} (h : pIn m0 m N X n most lo wk wg E0 ((n1 * 6 + o1) * 128 + l1)) (ho : o1 < n) (hn : n ≤ 6) (hl : l1 < 128) (e : ∀ c, ¬ pSrc m0 N n most n1 o1 l1 c) : pIn m0 m N X n most lo wk wg E0 ((n1 * 6 + o1) * 128 + (l1 + 1)) := by
  refine pIn_eq h (fun n2 o2 l2 c2 q => ?_)
  constructor
  · omega
  · intro y
    rcases Nat.lt_or_ge ((n2 * 6 + o2) * 128 + l2) ((n1 * 6 + o1) * 128 + l1) with u | u
    · exact u
    · have q2 := q.2.1
      have q4 := q.2.2.2.1
      have : n2 = n1 ∧ o2 = o1 ∧ l2 = l1 := by omega
      obtain ⟨rfl, rfl, rfl⟩ := this
      exact absurd q (e c2)
def pHy (m0 : hM) (N X n most : Nat) (lo : Nat → Nat → Nat) (wk wg : Nat → Nat) : Prop := ((N = 124 ∧ X = 125) ∨ (N = 125 ∧ X = 124)) ∧ gR m0 96 43 = N ∧ gR m0 96 44 = X ∧ gI m0 96 3 = nI n ∧ n ≤ 6 ∧ most ≤ 3 ∧ (∀ o, wk o ≤ 1) ∧ (∀ o o', o < n → o' < n → o' ≠ o → gI m0 123 (6 * o + o') = nI (lo o o') ∧ lo o o' ≤ 22) ∧ (∀ o, o < n → gI m0 101 o = nI (wg o) ∧ wg o ≤ 99) ∧
  ∀ n1 o1 l1, n1 ≤ most → o1 < n → 1 ≤ l1 → l1 < 128 → gL m0 N ((n1 * 6 + o1) * 128 + l1) = -1 ∨ ∃ c, c < 40000000 ∧ gL m0 N ((n1 * 6 + o1) * 128 + l1) = lN c ∧ (n1 < most → l1 + 22 < 128)
/-- a place: waiting, and working if it may -/
theorem pIn_goes {fu : Nat} (hfu : 100 ≤ fu) {m0 m : hM} {N X n most n1 o1 l1 c1 : Nat} {lo : Nat → Nat → Nat} {wk wg : Nat → Nat} {E0 : Nat → Nat → Prop} (H : pHy m0 N X n most lo wk wg) (hB : n1 < most → l1 + 22 < 128) (hs : pSrc m0 N n most n1 o1 l1 c1) (h : pIn m0 m N X n most lo wk wg E0 ((n1 * 6 + o1) * 128 + l1)) :
    ∃ m1, f_X11_goesPaid fu (nI n1) (nI o1) (nI l1) (lN c1) (nI most) m = some ((), m1) ∧ gI m1 101 o1 = nI (wg o1) ∧ (wk o1 = 0 → pIn m0 m1 N X n most lo wk wg E0 ((n1 * 6 + o1) * 128 + (l1 + 1))) ∧ (wk o1 = 1 → ∃ m2, f_X11_goesPaid fu (nI n1) (nI o1) (nI l1 - 1) (lN (c1 + 512 * wg o1)) (nI most) m1 = some ((), m2) ∧ pIn m0 m2 N X n most lo wk wg E0 ((n1 * 6 + o1) * 128 + (l1 + 1))) := by
  obtain ⟨h1, h2, h3, h4, h5, h6, h7, h8, hg, h9⟩ := H
  have src := hs
  obtain ⟨s1, s2, s3, s4, s5, s6⟩ := hs
  have hX : X = 124 ∨ X = 125 := by omega
  have hwg := hg o1 s2
  have uni : ∀ n2 o2 l2 c2, pSrc m0 N n most n2 o2 l2 c2 → (n2 * 6 + o2) * 128 + l2 < (n1 * 6 + o1) * 128 + (l1 + 1) → (n2 * 6 + o2) * 128 + l2 < (n1 * 6 + o1) * 128 + l1 ∨ (n2 = n1 ∧ o2 = o1 ∧ l2 = l1 ∧ c2 = c1) := by
    intro n2 o2 l2 c2 q y
    obtain ⟨q1, q2, q3, q4, q5, q6⟩ := q
    rcases Nat.lt_or_ge ((n2 * 6 + o2) * 128 + l2) ((n1 * 6 + o1) * 128 + l1) with u | u
    · exact Or.inl u
    · have e : n2 = n1 ∧ o2 = o1 ∧ l2 = l1 := by omega
      obtain ⟨rfl, rfl, rfl⟩ := e
      rw [s6, lN_eq (by omega) (by omega)] at q6
      exact Or.inr ⟨rfl, rfl, rfl, q6.symm⟩
  have gs : ∀ n' o' l' c', pGS m0 N n most lo wk wg ((n1 * 6 + o1) * 128 + (l1 + 1)) n' o' l' c' ↔ ((pGS m0 N n most lo wk wg ((n1 * 6 + o1) * 128 + l1) n' o' l' c' ∨ cpb lo n most n1 o1 l1 c1 n' o' l' c') ∨ (wk o1 = 1 ∧ cpb lo n most n1 o1 (l1 - 1) (c1 + 512 * wg o1) n' o' l' c')) := by
    intro n' o' l' c'
    constructor
    · rintro ⟨n2, o2, l2, c2, q1, q2, q3⟩
      rcases uni n2 o2 l2 c2 q2 q1 with u | ⟨rfl, rfl, rfl, rfl⟩
      · exact Or.inl (Or.inl ⟨n2, o2, l2, c2, u, q2, q3⟩)
      · exact q3.elim (fun y => Or.inl (Or.inr y)) Or.inr
    · rintro ((⟨n2, o2, l2, c2, q1, q2, q3⟩ | q) | q)
      · exact ⟨n2, o2, l2, c2, by omega, q2, q3⟩
      · exact ⟨n1, o1, l1, c1, by omega, src, Or.inl q⟩
      · exact ⟨n1, o1, l1, c1, by omega, src, Or.inr q⟩
  have es : ∀ n' z, pEn m0 N n most wk wg E0 ((n1 * 6 + o1) * 128 + (l1 + 1)) n' z ↔ (pEn m0 N n most wk wg E0 ((n1 * 6 + o1) * 128 + l1) n' z ∨ (l1 = 1 ∧ wk o1 = 1 ∧ n' = n1 ∧ z = c1 + 512 * wg o1)) := by
    intro n' z
    constructor
    · rintro (q | ⟨o2, c2, q1, q2, q3, q4⟩)
      · exact Or.inl (Or.inl q)
      · rcases uni n' o2 1 c2 q2 q1 with u | ⟨rfl, rfl, rfl, rfl⟩
        · exact Or.inl (Or.inr ⟨o2, c2, u, q2, q3, q4⟩)
        · exact Or.inr ⟨rfl, q3, rfl, q4⟩
    · rintro ((q | ⟨o2, c2, q1, q2, q3, q4⟩) | ⟨rfl, q2, rfl, q4⟩)
      · exact Or.inl q
      · exact Or.inr ⟨o2, c2, by omega, q2, q3, q4⟩
      · exact Or.inr ⟨o1, c1, by omega, src, q2, q4⟩
  have f := h.1
  obtain ⟨m1, a1, a2, a3, a4⟩ := rx_paid (fu := fu) hfu (lo := lo) (n := n) (X := X) (hn := n1) (o := o1) (l := l1) (c := c1) (most := most) (m := m) hX (by rw [f.2.2]; exact h3) (by rw [f.1 96 3 (by omega)]; exact h4) h5 s2 s3 s4 s1 h6 hB (by omega) (fun o' z1 z2 z3 => by rw [f.1 123 _ (by omega)]; exact h8 o1 o' s2 z1 z2) _ h.2.1
  have f1 : fl (fun a j => a = 96 ∧ j = 46) X m0 m1 := f.tr (a2.mono (fun a j z => z.elim))
  have e1 : eqE m1 (pEn m0 N n most wk wg E0 ((n1 * 6 + o1) * 128 + l1)) := eqE_cg h.2.2 (a2.1 _ _ (fun z => z)) a3
  refine ⟨m1, a1, by rw [f1.1 101 _ (by omega)]; exact hwg.1, fun w0 => ?_, fun w1 => ?_⟩
  · refine ⟨f1, fun n' o' l' z1 z2 z3 => mnL_iff (a4 n' o' l' z1 z2 z3) (fun c' => ?_), eqE_iff e1 (fun n' z => ?_)⟩
    · rw [gs]
      exact ⟨Or.inl, fun y => y.elim id (fun y => by omega)⟩
    · rw [es]
      exact ⟨Or.inl, fun y => y.elim id (fun y => by omega)⟩
  · rw [show (1 : Int32) = nI 1 from rfl, pk_sub (by omega)]
    by_cases el : l1 = 1
    · subst el
      obtain ⟨m2, b1, b2, b3, b4⟩ := rx_paid0 fu (n := n1) (c := c1 + 512 * wg o1) (nI o1) (nI most) (by omega) (by omega) e1 X hX
      refine ⟨m2, b1, f1.tr b2, fun n' o' l' z1 z2 z3 => ?_, eqE_iff b4 (fun n' z => ?_)⟩
      · rw [b3]
        refine mnL_iff (a4 n' o' l' z1 z2 z3) (fun c' => ?_)
        rw [gs]
        exact ⟨Or.inl, fun y => y.elim id (fun y => by have := y.2.1; omega)⟩
      · rw [es]
        exact ⟨fun y => y.elim Or.inl (fun y => Or.inr ⟨rfl, w1, y.1, y.2⟩), fun y => y.elim Or.inl (fun y => Or.inr ⟨y.2.2.1, y.2.2.2⟩)⟩
    · obtain ⟨m2, b1, b2, b3, b4⟩ := rx_paid (fu := fu) hfu (lo := lo) (n := n) (X := X) (hn := n1) (o := o1) (l := l1 - 1) (c := c1 + 512 * wg o1) (most := most) (m := m1) hX (by rw [f1.2.2]; exact h3) (by rw [f1.1 96 3 (by omega)]; exact h4) h5 s2 (by omega) (by omega) s1 h6 (fun z => by have := hB z; omega) (by omega) (fun o' z1 z2 z3 => by rw [f1.1 123 _ (by omega)]; exact h8 o1 o' s2 z1 z2) _ a4
      refine ⟨m2, b1, f1.tr (b2.mono (fun a j z => z.elim)), fun n' o' l' z1 z2 z3 => mnL_iff (b4 n' o' l' z1 z2 z3) (fun c' => ?_), eqE_iff (eqE_cg e1 (b2.1 _ _ (fun z => z)) b3) (fun n' z => ?_)⟩
      · rw [gs]
        exact ⟨fun y => y.elim Or.inl (fun y => Or.inr ⟨w1, y⟩), fun y => y.elim Or.inl (fun y => Or.inr y.2)⟩
      · rw [es]
        exact ⟨Or.inl, fun y => y.elim id (fun y => absurd y.1 el)⟩
theorem rx_c179 {fu : Nat} (hfu : 100 ≤ fu) {m0 : hM} {N X n most n1 o1 : Nat} {lo : Nat → Nat → Nat} {wk wg : Nat → Nat} {E0 : Nat → Nat → Prop} (H : pHy m0 N X n most lo wk wg) (hn1 : n1 ≤ most) (ho1 : o1 < n) (k95 k121 k130) (x1 x4 x5 : Int32) : ∀ (t l : Nat) (m : hM), l ≤ 128 → 128 - l < t → 1 ≤ l → pIn m0 m N X n most lo wk wg E0 ((n1 * 6 + o1) * 128 + l) →
    ∃ m', f_X11_cheap_179 fu k95 k121 k130 t x1 (nI most) x4 x5 (nI n1) (nI o1) (nI (wk o1)) (nI l) m = f_X11_cheap_265 fu k95 k121 k130 x1 (nI most) x4 x5 (nI n1) (nI o1) m' ∧ pIn m0 m' N X n most lo wk wg E0 ((n1 * 6 + o1) * 128 + 128) := by
  have HH := H
  obtain ⟨h1, h2, h3, h4, h5, h6, h7, h8, hg, h9⟩ := H
  have hl' : hAr LY[N]? 3 3072 = true := by rcases h1 with ⟨rfl, -⟩ | ⟨rfl, -⟩ <;> decide +kernel
  have hw := h7 o1
  intro t
  induction t with
  | zero => intro l m z1 z2; exact absurd z2 (Nat.not_lt_zero _)
  | succ t ih =>
    intro l m hl ht hl1 h
    rw [f_X11_cheap_179_s]
    unfold s_X11_cheap_179 f_X11_cheap_259
    simp only [hLet_n, nI_1, lg_cmp_ge]
    by_cases q : nI 128 ≤ nI l
    · rw [if_pos (show (128 : Int32) ≤ nI l from q)]
      rw [nI_leI (by omega) (by omega)] at q
      have : l = 128 := by omega
      subst this
      exact ⟨m, rfl, h⟩
    rw [if_neg (show ¬ (128 : Int32) ≤ nI l from q)]
    rw [nI_leI (by omega) (by omega)] at q
    obtain ⟨p1, p2⟩ := pl_at (n := n1) (o := o1) (l := l) (by omega) (by omega) (by omega) fu m
    rw [h.1.2.2, h2, if_pos hl', p1, hBd_some, if_pos (hIn_lt p2 (by omega)), nI_clamp (by omega), h.1.2.1 N _ (by omega) (by omega)]
    rcases h9 n1 o1 l hn1 ho1 hl1 (by omega) with e | ⟨c, c1, c2, c3⟩
    · rw [e, if_neg (by decide)]
      exact ih (l + 1) m (by omega) (by omega) (by omega) (pIn_skip h ho1 h5 (by omega) (fun c z => lN_nm1 (show c < 2 ^ 31 by have := z.2.2.2.2.1; omega) (by rw [← e]; exact z.2.2.2.2.2)))
    · rw [c2, if_pos (lN_pos (by omega))]
      obtain ⟨m1, g1, g2, g3, g4⟩ := pIn_goes hfu HH c3 ⟨hn1, ho1, hl1, by omega, c1, c2⟩ h
      rw [g1, hBd_some]
      by_cases w0 : wk o1 = 0
      · rw [w0, if_pos (by decide)]
        rw [w0] at ih
        exact ih (l + 1) m1 (by omega) (by omega) (by omega) (g3 w0)
      · have w1 : wk o1 = 1 := by omega
        obtain ⟨m2, u1, u2⟩ := g4 w1
        have hwg := (hg o1 ho1).2
        rw [if_neg (nI_ne0 (show 0 < wk o1 by omega) (by omega)), if_pos (hIn_lt (show o1 < 6 by omega) (by omega)), nI_clamp (show o1 < 2 ^ 31 by omega), g2, nI_l (by omega), show (512 : Int64) = lN 512 from rfl, lN_mul, lN_add, show c + wg o1 * 512 = c + 512 * wg o1 by omega, u1, hBd_some]
        exact ih (l + 1) m2 (by omega) (by omega) (by omega) u2
theorem rx_c130 {fu : Nat} (hfu : 200 ≤ fu) {v m0 : hM} {N X n c p most n1 h : Nat} {lo : Nat → Nat → Nat} {wg : Nat → Nat} {E0 : Nat → Nat → Prop} (H : pHy m0 N X n most lo (fun o => wkP v p o h) wg) (hp : pRng v n c) (hpc : p < c) (hE : eqV v m0) (hn1 : n1 ≤ most) (k95 k121) (x4 : Int32) : ∀ (t o : Nat) (m : hM), o ≤ n → n - o < t → pIn m0 m N X n most lo (fun o => wkP v p o h) wg E0 ((n1 * 6 + o) * 128 + 0) →
    ∃ m', f_X11_cheap_130 fu k95 k121 t (nI p) (nI most) x4 (nI h) (nI n1) (nI o) m = f_X11_cheap_271 fu k95 k121 (nI p) (nI most) x4 (nI h) (nI n1) m' ∧ pIn m0 m' N X n most lo (fun o => wkP v p o h) wg E0 ((n1 * 6 + n) * 128 + 0) := by
  have h4 := H.2.2.2.1
  have hn6 := H.2.2.2.2.1
  have hXN := H.1
  have hc := hp.1
  have h8 : hIn (nI p) 8 := hIn_lt (show p < 8 by omega) (by omega)
  have cp : (nI p).toNatClampNeg = p := nI_clamp (by omega)
  obtain ⟨cr, hcr, ecr⟩ := hIn_of (hp.2.2 p hpc).1 (by omega)
  intro t
  induction t with
  | zero => intro o m z1 z2; exact absurd z2 (Nat.not_lt_zero _)
  | succ t ih =>
    intro o m ho ht hI
    have hEm : eqV v m := fun a j z => (hI.1.1 a j (by unfold envC at z; omega)).trans (hE a j z)
    rw [f_X11_cheap_130_s]
    unfold s_X11_cheap_130 f_X11_cheap_173 f_X11_cheap_174
    rw [hI.1.1 96 3 (by omega), h4]
    by_cases q : nI n ≤ nI o
    · rw [if_pos q]
      rw [nI_leI (by omega) (by omega)] at q
      have : o = n := by omega
      subst this
      exact ⟨m, rfl, hI⟩
    rw [if_neg q]
    rw [nI_leI (by omega) (by omega)] at q
    have ho6 : hIn (nI o) 6 := hIn_lt (show o < 6 by omega) (by omega)
    have co : (nI o).toNatClampNeg = o := nI_clamp (by omega)
    have hI1 : pIn m0 m N X n most lo (fun o => wkP v p o h) wg E0 ((n1 * 6 + o) * 128 + 1) := pIn_eq hI (fun n2 o2 l2 c2 z => by have z3 := z.2.2.1; have z4 := z.2.2.2.1; omega)
    obtain ⟨m', g1, g2⟩ := rx_c179 (show 100 ≤ fu by omega) H hn1 (show o < n by omega) k95 k121 (f_X11_cheap_130 fu k95 k121 t) (nI p) x4 (nI h) fu 1 m (by omega) (by omega) (by omega) hI1
    obtain ⟨m2, g3, g4⟩ := ih (o + 1) m' (by omega) (by omega) (pIn_eq g2 (fun n2 o2 l2 c2 z => by omega))
    have fin : f_X11_cheap_179 fu k95 k121 (f_X11_cheap_130 fu k95 k121 t) fu (nI p) (nI most) x4 (nI h) (nI n1) (nI o) (nI (wkP v p o h)) (nI 1) m = f_X11_cheap_271 fu k95 k121 (nI p) (nI most) x4 (nI h) (nI n1) m2 := by
      rw [g1]
      unfold f_X11_cheap_265
      rw [hLet_n, nI_1]; exact g3
    refine ⟨m2, ?_, g4⟩
    rw [bd_isOpen fu (show o < 6 by omega) (nI h) hEm]
    by_cases c1 : opn v o (nI h) = 1
    · rw [if_neg (by rw [c1]; decide), if_pos ho6, if_pos h8, rx_has, hBd_some, co, cp, hEm 103 o (by unfold envC; omega), hEm 108 p (by unfold envC; omega), ecr, b_rd (by omega)]
      have ew : wkP v p o h = if bt (gI v 103 o) cr = true then 1 else 0 := by
        unfold wkP
        rw [ecr, nI_clamp (show cr < 2 ^ 31 by omega)]
        by_cases c2 : bt (gI v 103 o) cr = true
        · rw [if_pos ⟨c1, c2⟩, if_pos c2]
        · rw [if_neg (fun z => c2 z.2), if_neg c2]
      by_cases c2 : bt (gI v 103 o) cr = true
      · rw [if_pos c2] at ew
        rw [if_pos c2, if_pos rfl, if_neg (by decide)]
        rw [ew] at fin; exact fin
      · rw [if_neg c2] at ew
        rw [if_neg c2, if_pos (show (if (0 : Int32) = 1 then (1 : Int32) else 0) = 0 by decide)]
        rw [ew] at fin; exact fin
    · have c0 : opn v o (nI h) = 0 := by
        have : opn v o (nI h) = 0 ∨ opn v o (nI h) = 1 := by
          unfold opn
          split
          · exact Or.inl rfl
          · split
            · split
              · exact Or.inr rfl
              · exact Or.inl rfl
            · exact Or.inr rfl
        rcases this with u | u
        · exact u
        · exact absurd u c1
      have ew : wkP v p o h = 0 := by unfold wkP; rw [if_neg (fun z => c1 z.1)]
      rw [c0, if_pos rfl]
      rw [ew] at fin; exact fin
theorem rx_c121 {fu : Nat} (hfu : 200 ≤ fu) {v m0 : hM} {N X n c p most h : Nat} {lo : Nat → Nat → Nat} {wg : Nat → Nat} {E0 : Nat → Nat → Prop} (H : pHy m0 N X n most lo (fun o => wkP v p o h) wg) (hp : pRng v n c) (hpc : p < c) (hE : eqV v m0) (k95) (x4 : Int32) : ∀ (t n1 : Nat) (m : hM), n1 ≤ most + 1 → most + 1 - n1 < t → pIn m0 m N X n most lo (fun o => wkP v p o h) wg E0 ((n1 * 6 + 0) * 128 + 0) →
    ∃ m', f_X11_cheap_121 fu k95 t (nI p) (nI most) x4 (nI h) (nI n1) m = f_X11_cheap_277 fu k95 (nI p) (nI most) x4 (nI h) m' ∧ pIn m0 m' N X n most lo (fun o => wkP v p o h) wg E0 3072 := by
  have hm := H.2.2.2.2.2.1
  have hn6 := H.2.2.2.2.1
  intro t
  induction t with
  | zero => intro n1 m z1 z2; exact absurd z2 (Nat.not_lt_zero _)
  | succ t ih =>
    intro n1 m hn1 ht hI
    rw [f_X11_cheap_121_s]
    unfold s_X11_cheap_121
    by_cases q : nI most < nI n1
    · rw [if_pos q]
      rw [nI_ltI (by omega) (by omega)] at q
      exact ⟨m, rfl, pIn_eq hI (fun n2 o2 l2 c2 z => by have z1 := z.1; have z2 := z.2.1; have z3 := z.2.2.2.1; omega)⟩
    · rw [if_neg q]
      rw [nI_ltI (by omega) (by omega)] at q
      obtain ⟨m', g1, g2⟩ := rx_c130 hfu H hp hpc hE (show n1 ≤ most by omega) k95 (f_X11_cheap_121 fu k95 t) x4 fu 0 m (by omega) (by omega) hI
      obtain ⟨m2, g3, g4⟩ := ih (n1 + 1) m' (by omega) (by omega) (pIn_eq g2 (fun n2 o2 l2 c2 z => by have z2 := z.2.1; have z3 := z.2.2.2.1; omega))
      refine ⟨m2, ?_, g4⟩
      rw [show (0 : Int32) = nI 0 from rfl, g1]
      unfold f_X11_cheap_271
      rw [hLet_n, nI_1]; exact g3
