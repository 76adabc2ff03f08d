/-! ===== the surroundings of a walk: what of v it reads; frames ===== -/
def up (S : Nat → Int32) (i : Nat) (x : Int32) : Nat → Int32 := fun j => if j = i then x else S j
theorem up_s {S : Nat → Int32} {i : Nat} {x : Int32} : up S i x i = x := if_pos rfl
theorem up_n {S : Nat → Int32} {i j : Nat} {x : Int32} (h : j ≠ i) : up S i x j = S j := if_neg h
theorem up_e (S : Nat → Int32) (i : Nat) (x : Int32) (j : Nat) : up S i x j = if j = i then x else S j := rfl
def envC (a j : Nat) : Prop := (98 ≤ a ∧ a ≤ 113) ∨ a = 116 ∨ a = 117 ∨ (a = 96 ∧ (j = 3 ∨ j = 14 ∨ j = 15 ∨ j = 16 ∨ j = 37))
def eqV (v m : hM) : Prop := ∀ a j, envC a j → gI m a j = gI v a j
theorem eqV.rf {v : hM} : eqV v v := fun _ _ _ => rfl
theorem eqV.tr {v m m' : hM} (h : eqV v m) (g : eqV m m') : eqV v m' := fun a j q => (g a j q).trans (h a j q)
theorem eqV.sy {v m : hM} (h : eqV v m) : eqV m v := fun a j q => (h a j q).symm
theorem eqV.a {v m : hM} (h : eqV v m) {a : Nat} (j : Nat) (h1 : 98 ≤ a) (h2 : a ≤ 113) : gI m a j = gI v a j := h a j (Or.inl ⟨h1, h2⟩)
theorem opn_eqV {v m : hM} (h : eqV v m) (o : Nat) (x : Int32) : opn m o x = opn v o x := opn_congr (fun j hj => h.a o (by omega) (by omega)) (fun d hd => h.a _ (by omega) (by omega)) x
theorem ovl_eqV {v m : hM} (h : eqV v m) (a b x k : Nat) : ovl m a b x k = ovl v a b x k := ovl_congr (fun y => opn_eqV h a y) (fun y => opn_eqV h b y) k
theorem lst_eqV {v m : hM} (h : eqV v m) (a b x : Nat) : lst m a b x = lst v a b x := by
  unfold lst
  rw [ovl_eqV h, h 96 14 (by unfold envC; omega), h.a (6 * a + b) (by omega) (by omega)]
theorem nxt_eqV {v m : hM} (h : eqV v m) (o x : Nat) : ∀ k, nxt m o x k = nxt v o x k
  | 0 => rfl
  | k + 1 => by rw [nxt, nxt, opn_eqV h, nxt_eqV h o x k]
theorem vRel_eqV {v m : hM} {n : Nat} (h : vRel v n) (g : eqV v m) : vRel m n := by
  have e : ∀ a j, 98 ≤ a → a ≤ 113 → gI m a j = gI v a j := fun a j h1 h2 => g.a j h1 h2
  refine ⟨h.1, by rw [g _ _ (by unfold envC; omega)]; exact h.2.1, fun o ho => ?_, fun a b ha hb => ?_, fun a ha => ?_, ?_, ?_⟩
  · have := h.2.2.1 o ho
    unfold oRng at this ⊢
    rw [e 98 o (by omega) (by omega), e 99 o (by omega) (by omega), e 100 o (by omega) (by omega), e 101 o (by omega) (by omega), e 102 o (by omega) (by omega), e 103 o (by omega) (by omega), e 104 o (by omega) (by omega), e 105 o (by omega) (by omega)]
    refine ⟨this.1, this.2.1, this.2.2.1, this.2.2.2.1, this.2.2.2.2.1, this.2.2.2.2.2.1, this.2.2.2.2.2.2.1, this.2.2.2.2.2.2.2.1, fun d hd => ?_⟩
    rw [e 106 _ (by omega) (by omega)]; exact this.2.2.2.2.2.2.2.2 d hd
  · rw [e 107 _ (by omega) (by omega), e 107 _ (by omega) (by omega)]; exact h.2.2.2.1 a b ha hb
  · rw [e 107 _ (by omega) (by omega)]; exact h.2.2.2.2.1 a ha
  · rw [g _ _ (by unfold envC; omega)]; exact h.2.2.2.2.2.1
  · rw [g _ _ (by unfold envC; omega)]; exact h.2.2.2.2.2.2
/-- nothing but the told places is another -/
def fr (P : Nat → Nat → Prop) (m m' : hM) : Prop := (∀ a j, ¬ P a j → gI m' a j = gI m a j) ∧ (∀ a j, gL m' a j = gL m a j) ∧ ∀ a j, gR m' a j = gR m a j
theorem fr.rf {P : Nat → Nat → Prop} {m : hM} : fr P m m := ⟨fun _ _ _ => rfl, fun _ _ => rfl, fun _ _ => rfl⟩
theorem fr.tr {P : Nat → Nat → Prop} {m m1 m2 : hM} (h : fr P m m1) (g : fr P m1 m2) : fr P m m2 := ⟨fun a j ha => (g.1 a j ha).trans (h.1 a j ha), fun a j => (g.2.1 a j).trans (h.2.1 a j), fun a j => (g.2.2 a j).trans (h.2.2 a j)⟩
theorem fr.si {P : Nat → Nat → Prop} {m m1 : hM} {k j : Nat} {x : Int32} (h : fr P m m1) (hp : P k j) : fr P m (sI m1 k j x) := ⟨fun a b ha => by rw [gI_sI, if_neg (fun z => ha (by rw [z.1, z.2]; exact hp))]; exact h.1 a b ha, h.2.1, h.2.2⟩
theorem fr.mono {P Q : Nat → Nat → Prop} {m m1 : hM} (h : fr P m m1) (hp : ∀ a j, P a j → Q a j) : fr Q m m1 := ⟨fun a j ha => h.1 a j (fun q => ha (hp a j q)), h.2.1, h.2.2⟩
/-- what a walk of the reference touches -/
def PR (a j : Nat) : Prop := a = 114 ∨ a = 118 ∨ a = 120 ∨ (a = 96 ∧ (j = 34 ∨ j = 35 ∨ j = 36))
/-- what a walk of the class touches -/
def PC (s a j : Nat) : Prop := (s ≤ a ∧ a ≤ s + 8) ∨ a = 27 ∨ a = 33 ∨ (a = 25 ∧ j = 3) ∨ (a = 32 ∧ (j = 5 ∨ j = 7))
theorem eqV_fr {v m m' : hM} (h : eqV v m) (g : fr PR m m') : eqV v m' := fun a j q => (g.1 a j (by unfold envC at q; unfold PR; omega)).trans (h a j q)
theorem st_rng {s : Nat} (h : s ∈ stL) : (46 ≤ s ∧ s ≤ 55) ∨ (69 ≤ s ∧ s ≤ 87) := by
  simp only [stL, List.mem_cons, List.not_mem_nil, or_false] at h
  omega
/-! what is told of the pieces -/
def pRng (v : hM) (n c : Nat) : Prop := c ≤ 8 ∧ gI v 96 16 = nI c ∧ ∀ p, p < c → hIn (gI v 108 p) 6 ∧ (1 ≤ (gI v 113 p).toInt ∧ (gI v 113 p).toInt ≤ 60) ∧ (1 ≤ (gI v 109 p).toInt ∧ (gI v 109 p).toInt ≤ 60) ∧ (0 ≤ (gI v 110 p).toInt ∧ (gI v 110 p).toInt < 2 ^ p) ∧ hIn (gI v 111 p) n ∧ (gI v 112 p = -1 ∨ hIn (gI v 112 p) n)
theorem pRng_eqV {v m : hM} {n c : Nat} (h : pRng v n c) (g : eqV v m) : pRng m n c := by
  refine ⟨h.1, by rw [g _ _ (by unfold envC; omega)]; exact h.2.1, fun p hp => ?_⟩
  rw [g.a p (show 98 ≤ 108 by omega) (by omega), g.a p (show 98 ≤ 109 by omega) (by omega), g.a p (show 98 ≤ 110 by omega) (by omega), g.a p (show 98 ≤ 111 by omega) (by omega), g.a p (show 98 ≤ 112 by omega) (by omega), g.a p (show 98 ≤ 113 by omega) (by omega)]
  exact h.2.2 p hp
def pRel (v m : hM) (c : Nat) : Prop := gI m 18 6 = nI c ∧ ∀ p, p < c → gI m 19 p = gI v 108 p ∧ gI m 20 p = gI v 113 p ∧ gI m 21 p = gI v 109 p ∧ gI m 22 p = gI v 110 p ∧ gI m 24 p = gI v 112 p
/-! the rule: depths of its stack, and how the two codes go together -/
def isUn (x : Int32) : Prop := x = 2033 ∨ x = 2126
def isBi (x : Int32) : Prop := x = 2038 ∨ x = 2042 ∨ x = 2043 ∨ x = 2045 ∨ x = 2060 ∨ x = 2061 ∨ x = 2062 ∨ x = 2124
def lett (i : Nat) : Nat := [107, 108, 111, 119, 114, 99, 115, 98, 113, 112, 102, 110].getD i 110
def dpt (v : hM) : Nat → Nat
  | 0 => 0
  | k + 1 => if gI v 116 k < 2000 then dpt v k + 1 else if gI v 116 k = 2033 ∨ gI v 116 k = 2126 then dpt v k else dpt v k - 1
theorem dpt_le (v : hM) : ∀ k, dpt v k ≤ k
  | 0 => Nat.le_refl 0
  | k + 1 => by
    rw [dpt]
    have := dpt_le v k
    split
    · omega
    · split <;> omega
def cRel (x y : Int32) (d : Nat) : Prop := (x = y ∧ 0 ≤ x.toInt ∧ x.toInt < 1000) ∨ (∃ i, i < 12 ∧ x = nI (1000 + i) ∧ y = nI (1000 + lett i)) ∨ (x = y ∧ isUn x ∧ 1 ≤ d) ∨ (x = y ∧ isBi x ∧ 2 ≤ d)
def rRel (v m : hM) (L : Nat) : Prop := L ≤ 40 ∧ gI v 117 0 = nI L ∧ gI m 25 1 = nI L ∧ (∀ k, k < L → cRel (gI v 116 k) (gI m 26 k) (dpt v k)) ∧ (0 < L → dpt v L = 1)
theorem dpt_eqV {v m : hM} (h : eqV v m) : ∀ k, dpt m k = dpt v k
  | 0 => rfl
  | k + 1 => by rw [dpt, dpt, h 116 k (Or.inr (Or.inl rfl)), dpt_eqV h k]
def rOn (v m : hM) (c : Nat) : Prop := (gI v 117 0 = 0 ∧ (gI m 32 3 = 0 ∨ gI m 25 1 = 0)) ∨ (gI m 32 3 = 1 ∧ (∃ L, 0 < L ∧ rRel v m L) ∧ ∀ p, p < c → gI m 23 p = gI v 111 p)
def aFl (v m : hM) : Prop := (gI m 32 4 = 1 ∧ gI v 96 37 = 0) ∨ (gI m 32 4 = 0 ∧ gI v 96 37 = 1)
def cEnv (v m : hM) (n c : Nat) : Prop := vRel v n ∧ eRel v m n ∧ pRng v n c ∧ pRel v m c ∧ rOn v m c ∧ aFl v m
theorem eRel_fr {v m m' : hM} {n : Nat} (h : eRel v m n) (hn : n ≤ 6) (g : ∀ a j, 1 ≤ a → a ≤ 17 → gI m' a j = gI m a j) : eRel v m' n := by
  refine ⟨by rw [g _ _ (by omega) (by omega)]; exact h.1, by rw [g _ _ (by omega) (by omega)]; exact h.2.1, by rw [g _ _ (by omega) (by omega)]; exact h.2.2.1, fun o ho => ?_, fun o h1 h2 => ?_, fun a b ha hb => ?_, fun a b ha hb q => ?_⟩
  · exact off_keep (h.2.2.2.1 o ho) (fun _ _ => rfl) (fun _ _ => rfl) (fun j => g _ _ (by omega) (by omega)) (fun j => g _ _ (by omega) (by omega)) (fun j => by rw [g _ _ (by omega) (by omega)]) (fun j _ _ => g _ _ (by omega) (by omega))
  · rw [g _ _ (by omega) (by omega), g _ _ (by omega) (by omega)]
    exact ⟨(h.2.2.2.2.1 o h1 h2).1, (h.2.2.2.2.1 o h1 h2).2.1, fun d hd => by rw [g _ _ (by omega) (by omega)]; exact (h.2.2.2.2.1 o h1 h2).2.2 d hd⟩
  · rw [g _ _ (by omega) (by omega)]; exact h.2.2.2.2.2.1 a b ha hb
  · rw [g _ _ (by omega) (by omega)]; exact h.2.2.2.2.2.2 a b ha hb q
theorem cEnv_fr {v m m' : hM} {n c s : Nat} (hs : s ∈ stL) (h : cEnv v m n c) (g : fr (PC s) m m') : cEnv v m' n c := by
  have hr := st_rng hs
  obtain ⟨h1, h2, h3, h4, h5, h6⟩ := h
  have hn := h1.1
  have e : ∀ a j, (a ≤ 26 ∧ ¬ (a = 25 ∧ j = 3)) ∨ (a = 32 ∧ j < 5) → gI m' a j = gI m a j := fun a j q => g.1 a j (by unfold PC; omega)
  refine ⟨h1, eRel_fr h2 hn (fun a j q1 q2 => e a j (by omega)), h3, ⟨by rw [e _ _ (by omega)]; exact h4.1, fun p hp => ?_⟩, ?_, ?_⟩
  · rw [e 19 p (by omega), e 20 p (by omega), e 21 p (by omega), e 22 p (by omega), e 24 p (by omega)]; exact h4.2 p hp
  · unfold rOn rRel at h5 ⊢
    rw [e 32 3 (by omega), e 25 1 (by omega)]
    rcases h5 with q | ⟨q1, ⟨L, hL, q2⟩, q3⟩
    · exact Or.inl q
    · exact Or.inr ⟨q1, ⟨L, hL, q2.1, q2.2.1, q2.2.2.1, fun k hk => by rw [e 26 k (by omega)]; exact q2.2.2.2.1 k hk, q2.2.2.2.2⟩, fun p hp => by rw [e 23 p (by omega)]; exact q3 p hp⟩
  · unfold aFl at h6 ⊢
    rw [e 32 4 (by omega)]; exact h6
theorem ix127 (k p : Nat) (h : k + p < 127) : hIn (nI (k + p)) 127 ∧ (nI (k + p)).toNatClampNeg = k + p := ⟨hIn_lt h (by omega), nI_clamp (by omega)⟩
theorem ia (k p : Nat) : nI k + nI p = nI (k + p) := nI_add k p
