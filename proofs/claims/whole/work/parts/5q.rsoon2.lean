/-! ===== the soonest: the reference, a place and an hour ===== -/
theorem sIn_goes {fu : Nat} (hfu : 100 ≤ fu) {m0 m : hM} {N X n most n1 o1 l1 c1 : Nat} {lo : Nat → Nat → Nat} {wk : Nat → Nat} (hX : X = 121 ∨ X = 122) (hR : gR m0 96 39 = X) (h3 : gI m0 96 3 = nI n) (hn6 : n ≤ 6) (hm : most ≤ 3) (hwk : ∀ o, wk o ≤ 1)
    (hlo : ∀ o o', o < n → o' < n → o' ≠ o → 0 < most → gI m0 123 (6 * o + o') = nI (lo o o') ∧ lo o o' ≤ 22) (hc : c1 < 512) (hB : n1 < most → l1 + 22 < 128) (hs : sSrc m0 N n most n1 o1 l1 c1) (h : sIn m0 m N X n most lo wk ((n1 * 6 + o1) * 128 + l1)) :
    ∃ m', f_X11_goesFrom fu (nI n1) (nI o1) (nI l1 - nI (wk o1)) (nI c1) (nI most) m = some ((), m') ∧ sIn m0 m' N X n most lo wk ((n1 * 6 + o1) * 128 + (l1 + 1)) := by
  have hw := hwk o1
  obtain ⟨s1, s2, s3, s4, s5, s6⟩ := hs
  have uni : ∀ n2 o2 l2 c2, sSrc m0 N n most n2 o2 l2 c2 → (n2 * 6 + o2) * 128 + l2 < (n1 * 6 + o1) * 128 + (l1 + 1) → (n2 * 6 + o2) * 128 + l2 < (n1 * 6 + o1) * 128 + l1 ∨ (n2 = n1 ∧ o2 = o1 ∧ l2 = l1 ∧ c2 = c1) := by
    intro n2 o2 l2 c2 q y
    obtain ⟨q1, q2, q3, q4, q5, q6⟩ := q
    rcases Nat.lt_or_ge ((n2 * 6 + o2) * 128 + l2) ((n1 * 6 + o1) * 128 + l1) with u | u
    · exact Or.inl u
    · have e : n2 = n1 ∧ o2 = o1 ∧ l2 = l1 := by omega
      obtain ⟨rfl, rfl, rfl⟩ := e
      rw [s6, nI_eq (by omega) (by omega)] at q6
      exact Or.inr ⟨rfl, rfl, rfl, q6.symm⟩
  have gs : ∀ n' o' l' c', sGS m0 N n most lo wk ((n1 * 6 + o1) * 128 + (l1 + 1)) n' o' l' c' ↔ (sGS m0 N n most lo wk ((n1 * 6 + o1) * 128 + l1) n' o' l' c' ∨ ctb lo n most n1 o1 (l1 - wk o1) c1 n' o' l' c') := by
    intro n' o' l' c'
    constructor
    · rintro ⟨n2, o2, l2, c2, q1, q2, q3⟩
      rcases uni n2 o2 l2 c2 q2 q1 with u | ⟨rfl, rfl, rfl, rfl⟩
      · exact Or.inl ⟨n2, o2, l2, c2, u, q2, q3⟩
      · exact Or.inr q3
    · rintro (⟨n2, o2, l2, c2, q1, q2, q3⟩ | q)
      · exact ⟨n2, o2, l2, c2, by omega, q2, q3⟩
      · exact ⟨n1, o1, l1, c1, by omega, ⟨s1, s2, s3, s4, s5, s6⟩, q⟩
  by_cases e0 : wk o1 = l1
  · have hl1 : l1 = 1 := by omega
    subst hl1
    rw [e0]
    have noc : ∀ n' o' l' c', ¬ ctb lo n most n1 o1 (1 - wk o1) c1 n' o' l' c' := fun n' o' l' c' q => by have := q.1; omega
    have mk : ∀ m', (∀ j, gI m' X j = gI m X j) → fr (fun a j => (a = X ∧ j < 3072) ∨ (a = 96 ∧ (j = 41 ∨ j = 42))) m0 m' → sEN m0 m' N n most wk ((n1 * 6 + o1) * 128 + (1 + 1)) → sIn m0 m' N X n most lo wk ((n1 * 6 + o1) * 128 + (1 + 1)) := by
      intro m' g f e
      refine ⟨f, fun n' o' l' z1 z2 z3 => ?_, e⟩
      rw [g]
      exact mnC_iff (h.2.1 n' o' l' z1 z2 z3) (fun c' => by rw [gs]; exact ⟨Or.inl, fun y => y.elim id (fun y => absurd y (noc _ _ _ _))⟩)
    unfold f_X11_goesFrom f_X11_goesFrom_28
    simp only [hLet_n]
    rw [show nI 1 - nI 1 = 0 by decide, if_neg (fun z => z rfl)]
    have fset : fr (fun a j => (a = X ∧ j < 3072) ∨ (a = 96 ∧ (j = 41 ∨ j = 42))) m0 (sI (sI m 96 41 (nI n1)) 96 42 (nI c1)) := (h.1.si (Or.inr ⟨rfl, Or.inl rfl⟩)).si (Or.inr ⟨rfl, Or.inr rfl⟩)
    have gX : ∀ j, gI (sI (sI m 96 41 (nI n1)) 96 42 (nI c1)) X j = gI m X j := fun j => by rw [gI_sn (by omega), gI_sn (by omega)]
    have e41 : gI (sI (sI m 96 41 (nI n1)) 96 42 (nI c1)) 96 41 = nI n1 := by rw [gI_sn (by omega), gI_ss]
    have src : sSrc m0 N n most n1 o1 1 c1 := ⟨s1, s2, s3, s4, s5, s6⟩
    rcases h.2.2 with ⟨q1, q2⟩ | ⟨n0, o0, c0, q1, q2, q3, q4, q5, q6⟩
    · rw [q1, if_pos (by decide)]
      refine ⟨_, rfl, mk _ gX fset (Or.inr ⟨n1, o1, c1, src, by omega, e0, e41, gI_ss _ _ _ _, fun n2 o2 c2 y1 y2 y3 => ?_⟩)⟩
      rcases uni n2 o2 1 c2 y2 y1 with u | u
      · exact absurd y3 (q2 n2 o2 c2 u y2)
      · exact Or.inr ⟨u.1.symm, Nat.le_of_eq u.2.2.2.symm⟩
    · have h01 : n0 ≤ n1 := by have := q1.2.1; omega
      have hn0 := q1.1
      have hc0 := q1.2.2.2.2.1
      rw [q4, q5, if_neg (nI_pos (by omega))]
      by_cases d : n1 = n0
      · rw [if_neg (fun z => z (by rw [d]))]
        by_cases d2 : c0 ≤ c1
        · rw [if_pos (nI_le d2 (by omega))]
          refine ⟨m, rfl, mk m (fun _ => rfl) h.1 (Or.inr ⟨n0, o0, c0, q1, by omega, q3, q4, q5, fun n2 o2 c2 y1 y2 y3 => ?_⟩)⟩
          rcases uni n2 o2 1 c2 y2 y1 with u | u
          · exact q6 n2 o2 c2 u y2 y3
          · omega
        · rw [if_neg (nI_ge (by omega) (by omega))]
          refine ⟨_, rfl, mk _ gX fset (Or.inr ⟨n1, o1, c1, src, by omega, e0, e41, gI_ss _ _ _ _, fun n2 o2 c2 y1 y2 y3 => ?_⟩)⟩
          rcases uni n2 o2 1 c2 y2 y1 with u | u
          · have := q6 n2 o2 c2 u y2 y3; omega
          · exact Or.inr ⟨u.1.symm, Nat.le_of_eq u.2.2.2.symm⟩
      · rw [if_pos (fun z => d ((nI_eq (by omega) (by omega)).mp z))]
        refine ⟨m, rfl, mk m (fun _ => rfl) h.1 (Or.inr ⟨n0, o0, c0, q1, by omega, q3, q4, q5, fun n2 o2 c2 y1 y2 y3 => ?_⟩)⟩
        rcases uni n2 o2 1 c2 y2 y1 with u | u
        · exact q6 n2 o2 c2 u y2 y3
        · left; omega
  · rw [pk_sub (by omega)]
    have f := h.1
    obtain ⟨m', g1, g2, g3⟩ := rx_goes (fu := fu) hfu (lo := lo) (n := n) (X := X) (hn := n1) (o := o1) (l := l1 - wk o1) (c := c1) (most := most) (m := m) hX (by rw [f.2.2]; exact hR) (by rw [f.1 96 3 (by omega)]; exact h3) hn6 s2 (by omega) (by omega) s1 hm (fun z => by have := hB z; omega) hc (fun o' z1 z2 z3 => by rw [f.1 123 _ (by omega)]; exact hlo o1 o' s2 z1 z2 (by omega)) _ h.2.1
    refine ⟨m', g1, f.tr (g2.mono (fun a j z => Or.inl z)), fun n' o' l' z1 z2 z3 => mnC_iff (g3 n' o' l' z1 z2 z3) (fun c' => (gs n' o' l' c').symm), ?_⟩
    unfold sEN
    rw [g2.1 96 41 (by omega), g2.1 96 42 (by omega)]
    rcases h.2.2 with ⟨q1, q2⟩ | ⟨n0, o0, c0, q1, q2, q3, q4, q5, q6⟩
    · refine Or.inl ⟨q1, fun n2 o2 c2 y1 y2 y3 => ?_⟩
      rcases uni n2 o2 1 c2 y2 y1 with u | ⟨rfl, rfl, rfl, rfl⟩
      · exact q2 n2 o2 c2 u y2 y3
      · omega
    · refine Or.inr ⟨n0, o0, c0, q1, by omega, q3, q4, q5, fun n2 o2 c2 y1 y2 y3 => ?_⟩
      rcases uni n2 o2 1 c2 y2 y1 with u | ⟨rfl, rfl, rfl, rfl⟩
      · exact q6 n2 o2 c2 u y2 y3
      · omega
def sHy (m0 : hM) (N X n most : Nat) (lo : Nat → Nat → Nat) (wk : Nat → Nat) : Prop := ((N = 121 ∧ X = 122) ∨ (N = 122 ∧ X = 121)) ∧ gR m0 96 38 = N ∧ gR m0 96 39 = X ∧ gI m0 96 3 = nI n ∧ n ≤ 6 ∧ most ≤ 3 ∧ (∀ o, wk o ≤ 1) ∧ (∀ o o', o < n → o' < n → o' ≠ o → 0 < most → gI m0 123 (6 * o + o') = nI (lo o o') ∧ lo o o' ≤ 22) ∧
  ∀ n1 o1 l1, n1 ≤ most → o1 < n → 1 ≤ l1 → l1 < 128 → gI m0 N ((n1 * 6 + o1) * 128 + l1) = -1 ∨ ∃ c, c < 512 ∧ gI m0 N ((n1 * 6 + o1) * 128 + l1) = nI c ∧ (n1 < most → l1 + 22 < 128)
theorem nI_nm1 {c : Nat} (h : c < 2 ^ 31) : ¬ (-1 : Int32) = nI c := by
  intro e
  have := congrArg Int32.toInt e
  rw [nI_toInt h] at this
  have h2 : (-1 : Int32).toInt = -1 := rfl
  omega
theorem rx_s130 {fu : Nat} (hfu : 100 ≤ fu) {m0 : hM} {N X n most n1 o1 : Nat} {lo : Nat → Nat → Nat} {wk : Nat → Nat} (H : sHy m0 N X n most lo wk) (hn1 : n1 ≤ most) (ho1 : o1 < n) (k33 k69 k78) (x1 x4 : Int32) : ∀ (t l : Nat) (m : hM), l ≤ 128 → 128 - l < t → 1 ≤ l → sIn m0 m N X n most lo wk ((n1 * 6 + o1) * 128 + l) →
    ∃ m', f_X11_soonest_130 fu k33 k69 k78 t x1 (nI most) x4 (nI n1) (nI o1) (nI (wk o1)) (nI l) m = f_X11_soonest_181 fu k33 k69 k78 x1 (nI most) x4 (nI n1) (nI o1) m' ∧ sIn m0 m' N X n most lo wk ((n1 * 6 + o1) * 128 + 128) := by
  obtain ⟨h1, h2, h3, h4, h5, h6, h7, h8, h9⟩ := H
  have hl' : hAr LY[N]? 0 3072 = true := by rcases h1 with ⟨rfl, -⟩ | ⟨rfl, -⟩ <;> decide +kernel
  intro t
  induction t with
  | zero => intro l m z1 z2; exact absurd z2 (Nat.not_lt_zero _)
  | succ t ih =>
    intro l m hl ht hl1 h
    rw [f_X11_soonest_130_s]
    unfold s_X11_soonest_130 f_X11_soonest_175
    simp only [hLet_n, nI_1]
    by_cases q : nI 128 ≤ nI l
    · rw [if_pos (show (128 : Int32) ≤ nI l from q)]
      rw [nI_leI (by omega) (by omega)] at q
      have : l = 128 := by omega
      subst this
      exact ⟨m, rfl, h⟩
    rw [if_neg (show ¬ (128 : Int32) ≤ nI l from q)]
    rw [nI_leI (by omega) (by omega)] at q
    obtain ⟨p1, p2⟩ := pl_at (n := n1) (o := o1) (l := l) (by omega) (by omega) (by omega) fu m
    rw [h.1.2.2, h2, if_pos hl', p1, hBd_some, if_pos (hIn_lt p2 (by omega)), nI_clamp (by omega), h.1.1 N _ (by omega)]
    rcases h9 n1 o1 l hn1 ho1 hl1 (by omega) with e | ⟨c, c1, c2, c3⟩
    · rw [e, if_pos (by decide)]
      exact ih (l + 1) m (by omega) (by omega) (by omega) (sIn_skip h ho1 h5 (by omega) (fun c z => nI_nm1 (show c < 2 ^ 31 by have := z.2.2.2.2.1; omega) (by rw [← e]; exact z.2.2.2.2.2)))
    · rw [c2, if_neg (nI_pos (by omega))]
      obtain ⟨m', g1, g2⟩ := sIn_goes hfu (show X = 121 ∨ X = 122 by omega) h3 h4 h5 h6 h7 h8 c1 c3 ⟨hn1, ho1, hl1, by omega, by omega, c2⟩ h
      rw [g1, hBd_some]
      exact ih (l + 1) m' (by omega) (by omega) (by omega) g2
theorem rx_s78 {fu : Nat} (hfu : 200 ≤ fu) {v m0 : hM} {N X n c p most n1 h : Nat} {lo : Nat → Nat → Nat} (H : sHy m0 N X n most lo (fun o => wkP v p o h)) (hp : pRng v n c) (hpc : p < c) (hE : eqV v m0) (hn1 : n1 ≤ most) (k33 k69) : ∀ (t o : Nat) (m : hM), o ≤ n → n - o < t → sIn m0 m N X n most lo (fun o => wkP v p o h) ((n1 * 6 + o) * 128 + 0) →
    ∃ m', f_X11_soonest_78 fu k33 k69 t (nI p) (nI most) (nI h) (nI n1) (nI o) m = f_X11_soonest_187 fu k33 k69 (nI p) (nI most) (nI h) (nI n1) m' ∧ sIn m0 m' N X n most lo (fun o => wkP v p o h) ((n1 * 6 + n) * 128 + 0) := by
  have h4 := H.2.2.2.1
  have hn6 := H.2.2.2.2.1
  have hXN := H.1
  have hc := hp.1
  have h8 : hIn (nI p) 8 := hIn_lt (show p < 8 by omega) (by omega)
  have cp : (nI p).toNatClampNeg = p := nI_clamp (by omega)
  obtain ⟨cr, hcr, ecr⟩ := hIn_of (hp.2.2 p hpc).1 (by omega)
  intro t
  induction t with
  | zero => intro o m z1 z2; exact absurd z2 (Nat.not_lt_zero _)
  | succ t ih =>
    intro o m ho ht hI
    have hEm : eqV v m := fun a j z => (hI.1.1 a j (by unfold envC at z; omega)).trans (hE a j z)
    rw [f_X11_soonest_78_s]
    unfold s_X11_soonest_78 f_X11_soonest_121 f_X11_soonest_122
    rw [hI.1.1 96 3 (by omega), h4]
    by_cases q : nI n ≤ nI o
    · rw [if_pos q]
      rw [nI_leI (by omega) (by omega)] at q
      have : o = n := by omega
      subst this
      exact ⟨m, rfl, hI⟩
    rw [if_neg q]
    rw [nI_leI (by omega) (by omega)] at q
    have ho6 : hIn (nI o) 6 := hIn_lt (show o < 6 by omega) (by omega)
    have co : (nI o).toNatClampNeg = o := nI_clamp (by omega)
    have hI1 : sIn m0 m N X n most lo (fun o => wkP v p o h) ((n1 * 6 + o) * 128 + 1) := sIn_eq hI (fun n2 o2 l2 c2 z => by have z3 := z.2.2.1; have z4 := z.2.2.2.1; omega)
    obtain ⟨m', g1, g2⟩ := rx_s130 (show 100 ≤ fu by omega) H hn1 (show o < n by omega) k33 k69 (f_X11_soonest_78 fu k33 k69 t) (nI p) (nI h) fu 1 m (by omega) (by omega) (by omega) hI1
    obtain ⟨m2, g3, g4⟩ := ih (o + 1) m' (by omega) (by omega) (sIn_eq g2 (fun n2 o2 l2 c2 z => by omega))
    have fin : f_X11_soonest_130 fu k33 k69 (f_X11_soonest_78 fu k33 k69 t) fu (nI p) (nI most) (nI h) (nI n1) (nI o) (nI (wkP v p o h)) (nI 1) m = f_X11_soonest_187 fu k33 k69 (nI p) (nI most) (nI h) (nI n1) m2 := by
      rw [g1]
      unfold f_X11_soonest_181
      rw [hLet_n, nI_1]; exact g3
    refine ⟨m2, ?_, g4⟩
    rw [bd_isOpen fu (show o < 6 by omega) (nI h) hEm]
    by_cases c1 : opn v o (nI h) = 1
    · rw [if_neg (by rw [c1]; decide), if_pos ho6, if_pos h8, rx_has, hBd_some, co, cp, hEm 103 o (by unfold envC; omega), hEm 108 p (by unfold envC; omega), ecr, b_rd (by omega)]
      have ew : wkP v p o h = if bt (gI v 103 o) cr = true then 1 else 0 := by
        unfold wkP
        rw [ecr, nI_clamp (show cr < 2 ^ 31 by omega)]
        by_cases c2 : bt (gI v 103 o) cr = true
        · rw [if_pos ⟨c1, c2⟩, if_pos c2]
        · rw [if_neg (fun z => c2 z.2), if_neg c2]
      by_cases c2 : bt (gI v 103 o) cr = true
      · rw [if_pos c2] at ew
        rw [if_pos c2, if_pos rfl, if_neg (by decide), rx_flag, hBd_some, if_neg (by decide)]
        rw [ew] at fin; exact fin
      · rw [if_neg c2] at ew
        rw [if_neg c2, if_pos (show (if (0 : Int32) = 1 then (1 : Int32) else 0) = 0 by decide), rx_flag, hBd_some, if_pos rfl]
        rw [ew] at fin; exact fin
    · have c0 : opn v o (nI h) = 0 := by
        have : opn v o (nI h) = 0 ∨ opn v o (nI h) = 1 := by
          unfold opn
          split
          · exact Or.inl rfl
          · split
            · split
              · exact Or.inr rfl
              · exact Or.inl rfl
            · exact Or.inr rfl
        rcases this with u | u
        · exact u
        · exact absurd u c1
      have ew : wkP v p o h = 0 := by unfold wkP; rw [if_neg (fun z => c1 z.1)]
      rw [c0, if_pos rfl, rx_flag, hBd_some, if_pos rfl]
      rw [ew] at fin; exact fin
theorem rx_s69 {fu : Nat} (hfu : 200 ≤ fu) {v m0 : hM} {N X n c p most h : Nat} {lo : Nat → Nat → Nat} (H : sHy m0 N X n most lo (fun o => wkP v p o h)) (hp : pRng v n c) (hpc : p < c) (hE : eqV v m0) (k33) : ∀ (t n1 : Nat) (m : hM), n1 ≤ most + 1 → most + 1 - n1 < t → sIn m0 m N X n most lo (fun o => wkP v p o h) ((n1 * 6 + 0) * 128 + 0) →
    ∃ m', f_X11_soonest_69 fu k33 t (nI p) (nI most) (nI h) (nI n1) m = f_X11_soonest_193 fu k33 (nI p) (nI most) (nI h) m' ∧ sIn m0 m' N X n most lo (fun o => wkP v p o h) 3072 := by
  have hm := H.2.2.2.2.2.1
  have hn6 := H.2.2.2.2.1
  intro t
  induction t with
  | zero => intro n1 m z1 z2; exact absurd z2 (Nat.not_lt_zero _)
  | succ t ih =>
    intro n1 m hn1 ht hI
    rw [f_X11_soonest_69_s]
    unfold s_X11_soonest_69
    by_cases q : nI most < nI n1
    · rw [if_pos q]
      rw [nI_ltI (by omega) (by omega)] at q
      exact ⟨m, rfl, sIn_eq hI (fun n2 o2 l2 c2 z => by have z1 := z.1; have z2 := z.2.1; have z3 := z.2.2.2.1; omega)⟩
    · rw [if_neg q]
      rw [nI_ltI (by omega) (by omega)] at q
      obtain ⟨m', g1, g2⟩ := rx_s78 hfu H hp hpc hE (show n1 ≤ most by omega) k33 (f_X11_soonest_69 fu k33 t) fu 0 m (by omega) (by omega) hI
      obtain ⟨m2, g3, g4⟩ := ih (n1 + 1) m' (by omega) (by omega) (sIn_eq g2 (fun n2 o2 l2 c2 z => by have z2 := z.2.1; have z3 := z.2.2.2.1; omega))
      refine ⟨m2, ?_, g4⟩
      rw [show (0 : Int32) = nI 0 from rfl, g1]
      unfold f_X11_soonest_187
      rw [hLet_n, nI_1]; exact g3
