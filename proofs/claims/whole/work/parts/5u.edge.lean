/-! ===== edge ===== -/
theorem wR_nil {lo lo' : Nat → Nat → Nat → Nat} {wk : Nat → Nat → Nat} {n b len k k' x : Nat} : ∀ t l, wR lo wk n b len k x t [] l → wR lo' wk n b len k' x t [] l
  | 0, _, h => h
  | t + 1, l, h => by
    obtain ⟨h1, h2 | ⟨o, r, l', h3, -⟩⟩ := h
    · exact ⟨h1, Or.inl (wR_nil t _ h2)⟩
    · cases h3
def eSo (v : hM) (n b p k x t0 l : Nat) : Prop := ∃ t', t' < t0 ∧ ∃ r, wE (loN v (nI l)) (wkP v p) n b (gI v 109 p).toNatClampNeg k x t' r
def edP (S : Nat → Prop) : Nat → Int32 → Prop
  | 0, y => (S 0 ∧ y = nI 1) ∨ (¬ S 0 ∧ y = 0)
  | l + 1, y => (S (l + 1) ∧ y = if l + 1 = 20 then -2 else nI (l + 2)) ∨ (¬ S (l + 1) ∧ edP S l y)
theorem edP_one {S : Nat → Prop} : ∀ l y y', edP S l y → edP S l y' → y = y'
  | 0, y, y', h, g => by
    rcases h with ⟨h1, h2⟩ | ⟨h1, h2⟩ <;> rcases g with ⟨g1, g2⟩ | ⟨g1, g2⟩
    · rw [h2, g2]
    · exact absurd h1 g1
    · exact absurd g1 h1
    · rw [h2, g2]
  | l + 1, y, y', h, g => by
    rcases h with ⟨h1, h2⟩ | ⟨h1, h2⟩ <;> rcases g with ⟨g1, g2⟩ | ⟨g1, g2⟩
    · rw [h2, g2]
    · exact absurd h1 g1
    · exact absurd g1 h1
    · exact edP_one l y y' h2 g2
/-! the reference: another LOSE for a while -/
theorem vRel_lose {v : hM} {n : Nat} {L : Int32} (h : vRel v n) (hL : 0 ≤ L.toInt ∧ L.toInt ≤ 20) : vRel (sI v 96 14 L) n := by
  have e : ∀ a j, 97 ≤ a → gI (sI v 96 14 L) a j = gI v a j := fun a j z => gI_sn (by omega)
  refine ⟨h.1, by rw [gI_sn (by omega)]; exact h.2.1, fun o ho => ?_, fun a b ha hb => ?_, fun a ha => ?_, by rw [gI_ss]; exact hL, by rw [gI_sn (by omega)]; exact h.2.2.2.2.2.2⟩
  · have := h.2.2.1 o ho
    unfold oRng at this ⊢
    rw [e 98 o (by omega), e 99 o (by omega), e 100 o (by omega), e 101 o (by omega), e 102 o (by omega), e 103 o (by omega), e 104 o (by omega), e 105 o (by omega)]
    refine ⟨this.1, this.2.1, this.2.2.1, this.2.2.2.1, this.2.2.2.2.1, this.2.2.2.2.2.1, this.2.2.2.2.2.2.1, this.2.2.2.2.2.2.2.1, fun d hd => ?_⟩
    rw [e 106 _ (by omega)]; exact this.2.2.2.2.2.2.2.2 d hd
  · rw [e 107 _ (by omega), e 107 _ (by omega)]; exact h.2.2.2.1 a b ha hb
  · rw [e 107 _ (by omega)]; exact h.2.2.2.2.1 a ha
theorem pRng_lose {v : hM} {n c : Nat} {L : Int32} (h : pRng v n c) : pRng (sI v 96 14 L) n c := by
  have e : ∀ a j, 97 ≤ a → gI (sI v 96 14 L) a j = gI v a j := fun a j z => gI_sn (by omega)
  refine ⟨h.1, by rw [gI_sn (by omega)]; exact h.2.1, fun p hp => ?_⟩
  rw [e 108 _ (by omega), e 113 _ (by omega), e 109 _ (by omega), e 110 _ (by omega), e 111 _ (by omega), e 112 _ (by omega)]
  exact h.2.2 p hp
theorem opn_lose {v : hM} {L : Int32} (o : Nat) (x : Int32) : opn (sI v 96 14 L) o x = opn v o x := opn_congr (fun j hj => gI_sn (by omega)) (fun d hd => gI_sn (by omega)) x
theorem loN_lose {v : hM} {L L' : Int32} : loN (sI v 96 14 L) L' = loN v L' := by
  funext a b h
  unfold loN lsL
  rw [gI_sn (by omega), ovl_congr (v := v) (v' := sI v 96 14 L) (fun x => opn_lose a x) (fun x => opn_lose b x)]
theorem wkP_lose {v : hM} {L : Int32} {p : Nat} : wkP (sI v 96 14 L) p = wkP v p := by
  funext o h
  unfold wkP
  rw [opn_lose, gI_sn (by omega), gI_sn (by omega)]
theorem pRel_lose {v m : hM} {c : Nat} {L L' : Int32} (h : pRel v m c) : pRel (sI v 96 14 L) (sI m 1 5 L') c := by
  have e : ∀ a j, 97 ≤ a → gI (sI v 96 14 L) a j = gI v a j := fun a j z => gI_sn (by omega)
  have e' : ∀ a j, 2 ≤ a → gI (sI m 1 5 L') a j = gI m a j := fun a j z => gI_sn (by omega)
  refine ⟨by rw [e' _ _ (by omega)]; exact h.1, fun p hp => ?_⟩
  rw [e 108 _ (by omega), e 113 _ (by omega), e 109 _ (by omega), e 110 _ (by omega), e 112 _ (by omega), e' 19 _ (by omega), e' 20 _ (by omega), e' 21 _ (by omega), e' 22 _ (by omega), e' 24 _ (by omega)]
  exact h.2 p hp
/-- another LOSE on both sides -/
theorem eRel_lose {v m : hM} {n : Nat} {L0 L : Int32} (hn : n ≤ 6) (h : eRel (sI v 96 14 L0) m n) : eRel (sI v 96 14 L) (sI m 1 5 L) n := by
  have e : ∀ a j, 97 ≤ a → gI (sI v 96 14 L) a j = gI (sI v 96 14 L0) a j := fun a j z => by rw [gI_sn (by omega), gI_sn (by omega)]
  have e' : ∀ a j, 2 ≤ a → gI (sI m 1 5 L) a j = gI m a j := fun a j z => gI_sn (by omega)
  refine ⟨by rw [gI_sn (by omega)]; exact h.1, by rw [gI_ss, gI_ss], ?_, fun o ho => ?_, fun o h1 h2 => ?_, fun a b ha hb => ?_, fun a b ha hb hq => ?_⟩
  · have := h.2.2.1
    rw [gI_sn (by omega)] at this
    rw [gI_sn (by omega), gI_sn (by omega)]; exact this
  · exact off_keep (h.2.2.2.1 o ho) (fun j hj => e _ _ (by omega)) (fun d hd => e _ _ (by omega)) (fun j => e' _ _ (by omega)) (fun j => e' _ _ (by omega)) (fun j => by rw [e' _ _ (by omega)]) (fun j _ _ => e' _ _ (by omega))
  · have hx := h.2.2.2.2.1 o h1 h2
    exact ⟨by rw [e' _ _ (by omega)]; exact hx.1, by rw [e' _ _ (by omega)]; exact hx.2.1, fun d hd => by rw [e' _ _ (by omega)]; exact hx.2.2 d hd⟩
  · rw [e' _ _ (by omega), e _ _ (by omega)]; exact h.2.2.2.2.2.1 a b ha hb
  · rw [e' _ _ (by omega)]; exact h.2.2.2.2.2.2 a b ha hb hq
def PQL (a j : Nat) : Prop := PQ a j ∨ (a = 1 ∧ j = 5)
theorem cx_edge121 {fu : Nat} (hfu : 3000 ≤ fu) {v : hM} {n c p b k x t0 : Nat} (hv : vRel v n) (hp : pRng v n c) (hpc : p < c) (hb : b < n) (hk : k ≤ 3) (hx : x < 2400) (ht0 : x + t0 < 2399) (was : Int32) : ∀ (l t : Nat) (m : hM) (L0 : Int32), l ≤ 20 → l + 1 < t → eRel (sI v 96 14 L0) m n → pRel v m c → gwR n b m (rtN (n - 1) k) →
    ∃ y m', f_X10_edge_121 fu t (nI p) (nI x) (nI (x + t0 + 1)) was 0 (nI l) m = some (y, sI m' 1 5 was) ∧ fr PQL m m' ∧ edP (eSo v n b p k x t0) l y := by
  have hn := hv.1
  have step : ∀ l m L0, l ≤ 20 → eRel (sI v 96 14 L0) m n → pRel v m c → gwR n b m (rtN (n - 1) k) → ∃ res m', f_X9_soonest fu (nI p) (nI x) (nI (x + t0 + 1) - 1) (sI m 1 5 (nI l)) = some (res, m') ∧ fr PQL m m' ∧ eRel (sI v 96 14 (nI l)) m' n ∧ (res = -2 ↔ ¬ eSo v n b p k x t0 l) := by
    intro l m L0 hl he hpr g
    have hL : 0 ≤ (nI l).toInt ∧ (nI l).toInt ≤ 20 := by rw [nI_toInt (by omega)]; omega
    have he2 : eRel (sI v 96 14 (nI l)) (sI m 1 5 (nI l)) n := eRel_lose hn he
    obtain ⟨res, m', a1, a2, a3⟩ := cx_soonest hfu (v := sI v 96 14 (nI l)) (m := sI m 1 5 (nI l)) (L := nI l) (lim := x + t0) (x := x) (vRel_lose hv hL) (pRng_lose hp) (pRel_lose hpr) he2 hpc hb hk hL (gI_ss _ _ _ _) hx (by omega) (gwR_fr g (fun a j z => gI_sn (by unfold PW at z; omega)))
    refine ⟨res, m', by rw [nI_pred]; exact a1, ?_, eRel_q hn he2 a2, ?_⟩
    · have f1 : fr PQL m (sI m 1 5 (nI l)) := fr.rf.si (Or.inr ⟨rfl, rfl⟩)
      exact f1.tr (a2.mono (fun a j z => Or.inl z))
    unfold soC at a3
    rw [loN_lose, wkP_lose, gI_sn (show ¬ (109 = 96 ∧ p = 14) by omega)] at a3
    rcases a3 with ⟨t, i, q1, q2, q3, q4, q5, q6, q7⟩ | ⟨q1, q2⟩
    · constructor
      · intro z; rw [q6] at z; exact absurd z (nI_nm (by omega)).1
      · intro z; exact absurd ⟨t, by omega, _, q4⟩ z
    · rw [show x + t0 - x = t0 by omega] at q1
      exact ⟨fun _ ⟨t', y1, r, y2⟩ => q1 t' y1 r y2, fun _ => q2⟩
  -- the end, once there is an edge
  have last : ∀ (t' : Nat) (l : Nat) (z : Int32) (m' : hM), l ≤ 20 → f_X10_edge_121 fu (t' + 1) (nI p) (nI x) (nI (x + t0 + 1)) was (nI (l + 1)) z m' = some (if l = 20 then -2 else nI (l + 1), sI m' 1 5 was) := by
    intro t' l z m' hl
    rw [f_X10_edge_121_s]
    unfold s_X10_edge_121 f_X10_edge_190
    have e : ∀ (A : Option (Int32 × hM)), (if z < 0 then A else if ¬ nI (l + 1) = 0 then A else none) = A := by
      intro A
      by_cases c : z < 0
      · rw [if_pos c]
      · rw [if_neg c, if_pos (nI_ne0 (by omega) (by omega))]
    have e2 : ∀ (A B : Option (Int32 × hM)), (if z < 0 then A else if ¬ nI (l + 1) = 0 then A else B) = A := by
      intro A B
      by_cases c : z < 0
      · rw [if_pos c]
      · rw [if_neg c, if_pos (nI_ne0 (by omega) (by omega))]
    rw [e2, hLet_n]
    by_cases c : l = 20
    · subst c
      rw [if_neg (by decide), if_pos rfl]
    · rw [if_pos (show nI (l + 1) ≤ 20 from nI_le (b := 20) (by omega) (by omega)), if_neg c]
  intro l
  induction l with
  | zero =>
    intro t m L0 hl ht he hpr g
    obtain ⟨t', rfl⟩ : ∃ t', t = t' + 2 := ⟨t - 2, by omega⟩
    obtain ⟨res, m', a1, a2, a4, a3⟩ := step 0 m L0 (by omega) he hpr g
    rw [f_X10_edge_121_s]
    unfold s_X10_edge_121 f_X10_edge_167 f_X10_edge_182
    rw [if_neg (nI_pos (by omega)), if_neg (fun z => z rfl), hLet_n, a1, hBd_some]
    by_cases q : res = -2
    · rw [if_pos q, if_pos rfl, hLet_n, f_X10_edge_121_s]
      unfold s_X10_edge_121 f_X10_edge_190
      rw [if_pos (by decide), hLet_n, if_pos (by decide)]
      exact ⟨0, m', rfl, a2, Or.inr ⟨a3.mp q, rfl⟩⟩
    · rw [if_neg q, if_neg (by decide), hLet_n, nI_1, last t' 0 _ m' (by omega)]
      refine ⟨_, m', rfl, a2, Or.inl ⟨?_, rfl⟩⟩
      exact Classical.byContradiction (fun z => q (a3.mpr z))
  | succ l ih =>
    intro t m L0 hl ht he hpr g
    obtain ⟨t', rfl⟩ : ∃ t', t = t' + 2 := ⟨t - 2, by omega⟩
    obtain ⟨res, m', a1, a2, a4, a3⟩ := step (l + 1) m L0 hl he hpr g
    rw [f_X10_edge_121_s]
    unfold s_X10_edge_121 f_X10_edge_167 f_X10_edge_182
    rw [if_neg (nI_pos (by omega)), if_neg (fun z => z rfl), hLet_n, a1, hBd_some]
    by_cases q : res = -2
    · rw [if_pos q, if_pos rfl, hLet_n, pk_m1]
      obtain ⟨y, m2, b1, b2, b3⟩ := ih (t' + 1) m' (nI (l + 1)) (by omega) (by omega) a4 ⟨by rw [a2.1 18 _ (by unfold PQL PQ; omega)]; exact hpr.1, fun p hp => by
        rw [a2.1 19 _ (by unfold PQL PQ; omega), a2.1 20 _ (by unfold PQL PQ; omega), a2.1 21 _ (by unfold PQL PQ; omega), a2.1 22 _ (by unfold PQL PQ; omega), a2.1 24 _ (by unfold PQL PQ; omega)]; exact hpr.2 p hp⟩ (gwR_fr g (fun a j z => a2.1 a j (by unfold PW at z; unfold PQL PQ; omega)))
      exact ⟨y, m2, b1, a2.tr b2, Or.inr ⟨a3.mp q, b3⟩⟩
    · have hS : eSo v n b p k x t0 (l + 1) := Classical.byContradiction (fun z => q (a3.mpr z))
      rw [if_neg q, if_neg (by decide), hLet_n, nI_1, last t' (l + 1) _ m' (by omega)]
      exact ⟨_, m', rfl, a2, Or.inl ⟨hS, rfl⟩⟩
theorem cx_edgeC {fu : Nat} (hfu : 3000 ≤ fu) {v : hM} {n c p b k x t0 : Nat} (hv : vRel v n) (hp : pRng v n c) (hpc : p < c) (hb : b < n) (hk : k ≤ 3) (hx : x < 2400) (ht0 : x + t0 < 2399) (m : hM) (he : eRel v m n) (hpr : pRel v m c) (g : gwR n b m (rtN (n - 1) k)) :
    ∃ y m', f_X10_edge_121 fu fu (nI p) (nI x) (nI (x + t0 + 1)) (gI m 1 5) 0 20 m = some (y, m') ∧ fr PQ m m' ∧ edP (eSo v n b p k x t0) 20 y := by
  have he2 : eRel (sI v 96 14 (gI v 96 14)) m n := eRel_v he (fun a j _ => by
    rw [gI_sI]
    by_cases q : a = 96 ∧ j = 14
    · rw [if_pos q, q.1, q.2]
    · rw [if_neg q])
  obtain ⟨y, m', a1, a2, a3⟩ := cx_edge121 hfu hv hp hpc hb hk hx ht0 (gI m 1 5) 20 fu m _ (by omega) (by omega) he2 hpr g
  refine ⟨y, _, a1, ⟨fun a j z => ?_, a2.2.1, a2.2.2⟩, a3⟩
  rw [gI_sI]
  by_cases q : a = 1 ∧ j = 5
  · rw [if_pos q, q.1, q.2]
  · rw [if_neg q]
    exact a2.1 a j (fun w => w.elim z q)
def PTE (a j : Nat) : Prop := PT a j ∨ (a = 96 ∧ j = 14)
def frE (m m' : hM) : Prop := (∀ a j, ¬ PTE a j → gI m' a j = gI m a j) ∧ (∀ a j, gL m' a j = gL m a j) ∧ ∀ a j, ¬ (a = 96 ∧ (j = 38 ∨ j = 39)) → gR m' a j = gR m a j
theorem frE.tr {m m1 m2 : hM} (h : frE m m1) (g : frE m1 m2) : frE m m2 := ⟨fun a j z => (g.1 a j z).trans (h.1 a j z), fun a j => (g.2.1 a j).trans (h.2.1 a j), fun a j z => (g.2.2 a j z).trans (h.2.2 a j z)⟩
theorem rx_edge67 {fu : Nat} (hfu : 4000 ≤ fu) {v : hM} {n c p b k x t0 : Nat} (hv : vRel v n) (hp : pRng v n c) (hpc : p < c) (hb : b < n) (hbe : gI v 111 p = nI b) (hk : k ≤ 3) (hx : x < 2400) (ht0 : x + t0 < 2399) (hE0 : wE (loN v (gI v 96 14)) (wkP v p) n b (gI v 109 p).toNatClampNeg 0 x t0 []) (was : Int32) : ∀ (l t : Nat) (m : hM), l ≤ 20 → l + 1 < t → (∀ a j, envC a j → ¬ (a = 96 ∧ j = 14) → gI m a j = gI v a j) → rf2 m →
    ∃ y m', f_X11_edge_67 fu t (nI p) (nI x) (nI k) (nI (x + t0 + 1)) was (if l = 20 then -2 else nI (l + 1)) 1 (nI l) m = f_X11_edge_122 fu (nI (x + t0 + 1)) was y m' ∧ frE m m' ∧ rf2 m' ∧ edP (eSo v n b p k x t0) l y := by
  have step : ∀ l m, l ≤ 20 → (∀ a j, envC a j → ¬ (a = 96 ∧ j = 14) → gI m a j = gI v a j) → rf2 m → ∃ res m', f_X11_soonest fu (nI p) (nI x) (nI k) (sI m 96 14 (nI l)) = some (res, m') ∧ frE m m' ∧ rf2 m' ∧ (res < nI (x + t0 + 1) ↔ eSo v n b p k x t0 l) := by
    intro l m hl hE hr
    have hL : 0 ≤ (nI l).toInt ∧ (nI l).toInt ≤ 20 := by rw [nI_toInt (by omega)]; omega
    obtain ⟨res, m', a1, a2, a3, a4⟩ := rx_soonest hfu (v := sI v 96 14 (nI l)) (m := sI m 96 14 (nI l)) (x := x) (vRel_lose hv hL) (pRng_lose hp) hpc hb (by rw [gI_sn (by omega)]; exact hbe) hk hx (fun a j z => by
      rw [gI_sI, gI_sI]
      by_cases q : a = 96 ∧ j = 14
      · rw [if_pos q, if_pos q]
      · rw [if_neg q, if_neg q]; exact hE a j z q) hr
    refine ⟨res, m', a1, ⟨fun a j z => by rw [a2.1 a j (fun y => z (Or.inl y)), gI_sn (fun y => z (Or.inr y))], a2.2.1, a2.2.2⟩, a3, ?_⟩
    unfold soR at a4
    rw [gI_ss, loN_lose, wkP_lose, gI_sn (show ¬ (109 = 96 ∧ p = 14) by omega)] at a4
    have end0 : wE (loN v (nI l)) (wkP v p) n b (gI v 109 p).toNatClampNeg k x t0 [] := ⟨wR_nil t0 _ hE0.1, hE0.2⟩
    rcases a4 with ⟨t, r, q1, q2, q3, q4, q5, q6, q7⟩ | ⟨q1, q2⟩
    · rw [q5, nI_ltI (by omega) (by omega)]
      constructor
      · intro z; exact ⟨t, by omega, r, q3⟩
      · rintro ⟨t', y1, r', y2⟩
        rcases Nat.lt_or_ge t' t with u | u
        · exact absurd y2 (q2 t' u r')
        · omega
    · exact absurd end0 (q1 t0 (by omega) _)
  intro l
  induction l with
  | zero =>
    intro t m hl ht hE hr
    obtain ⟨t', rfl⟩ : ∃ t', t = t' + 2 := ⟨t - 2, by omega⟩
    obtain ⟨res, m', a1, a2, a3, a4⟩ := step 0 m (by omega) hE hr
    rw [f_X11_edge_67_s]
    unfold s_X11_edge_67 f_X11_edge_100 f_X11_edge_114
    rw [if_neg (nI_pos (by omega)), if_neg (by decide), hLet_n, a1, hBd_some]
    by_cases q : res < nI (x + t0 + 1)
    · rw [if_pos q, if_pos rfl, hLet_n, f_X11_edge_67_s]
      unfold s_X11_edge_67
      rw [if_pos (by decide)]
      exact ⟨_, m', rfl, a2, a3, Or.inl ⟨a4.mp q, rfl⟩⟩
    · rw [if_neg q, if_neg (by decide), hLet_n, f_X11_edge_67_s]
      unfold s_X11_edge_67
      rw [if_pos (by decide)]
      exact ⟨_, m', rfl, a2, a3, Or.inr ⟨fun z => q (a4.mpr z), rfl⟩⟩
  | succ l ih =>
    intro t m hl ht hE hr
    obtain ⟨t', rfl⟩ : ∃ t', t = t' + 2 := ⟨t - 2, by omega⟩
    obtain ⟨res, m', a1, a2, a3, a4⟩ := step (l + 1) m hl hE hr
    rw [f_X11_edge_67_s]
    unfold s_X11_edge_67 f_X11_edge_100 f_X11_edge_114
    rw [if_neg (nI_pos (by omega)), if_neg (by decide), hLet_n, a1, hBd_some]
    by_cases q : res < nI (x + t0 + 1)
    · rw [if_pos q, if_pos rfl, hLet_n, f_X11_edge_67_s, pk_m1]
      unfold s_X11_edge_67
      rw [if_neg (nI_pos (by omega)), if_pos rfl]
      exact ⟨_, m', rfl, a2, a3, Or.inl ⟨a4.mp q, rfl⟩⟩
    · rw [if_neg q, if_neg (by decide), hLet_n, pk_m1]
      obtain ⟨y, m2, b1, b2, b3, b4⟩ := ih (t' + 1) m' (by omega) (by omega) (fun a j z1 z2 => by rw [a2.1 a j (by unfold envC at z1; unfold PTE PT; omega)]; exact hE a j z1 z2) a3
      rw [if_neg (show ¬ l = 20 by omega)] at b1
      exact ⟨y, m2, b1, a2.tr b2, b3, Or.inr ⟨fun z => q (a4.mpr z), b4⟩⟩
/-- a row told under way: class's memory F behind it -/
theorem IW.q3T {m m6 F m7 : hM} {n c k t : Nat} (h : IW m m6 n c k t) {xs : List Int64} (hx : xs.length ≤ 11) (c1 : ∀ a j, cI a j → gI F a j = gI (setRow m6 67 66 1 xs) a j) (c2 : ∀ j, gL F 67 j = gL (setRow m6 67 66 1 xs) 67 j) (cj : ∀ a j, 55 ≤ a → a ≤ 63 → gI F a j = gI m6 a j) (k1 : ∀ a j, 96 ≤ a → gI F a j = gI m a j) (l1 : ∀ j, gL F 97 j = gL m 97 j) {P : Nat → Nat → Prop} (g1 : ∀ a j, ¬ P a j → gI m7 a j = gI F a j) (hP : ∀ a j, P a j → 96 ≤ a ∧ ¬ rI a j) (g2 : ∀ j, gL m7 97 j = gL F 97 j) (g2' : ∀ j, gL m7 67 j = gL F 67 j) (g3 : rfOk m7) : IV (setRow m7 97 96 1 xs) := by
  have h2 := h.row hx
  have gc : ∀ a j, a ≤ 95 → gI (setRow m7 97 96 1 xs) a j = gI F a j := fun a j z => by rw [sr_In (by omega), g1 a j (fun y => by have := (hP a j y).1; omega)]
  refine ⟨n, c, k, t, h2.cg ⟨fun a j z => ?_, fun j => ?_, fun _ => g3⟩ ⟨fun a j z => by rw [gc a j (by unfold cI at z; omega)]; exact c1 a j z, fun j => ?_⟩ (jk_cg h2.2.2.2.2.2.1 (fun a j z1 z2 => by rw [gc a j (by omega), sr_In (by omega)]; exact cj a j z1 z2))⟩
  · rw [sr_I, sr_I]
    by_cases q : a = 96 ∧ j = 1
    · rw [if_pos q, if_pos q]
    · rw [if_neg q, if_neg q, g1 a j (fun y => (hP a j y).2 z)]; exact k1 a j (by unfold rI at z; omega)
  · rw [sr_L, sr_L]
    by_cases q : 97 = 97 ∧ j < xs.length
    · rw [if_pos q, if_pos q]
    · rw [if_neg q, if_neg q, g2]; exact l1 _
  · rw [sr_Ln (m := m7) (by omega), g2']; exact c2 j
