/-! ===== questions that change the earth for a while ===== -/
/-- what a walk of the class wants of its surroundings -/
def CW (v m : hM) (n c : Nat) (S : Nat → Int32) : Prop := cEnv v m n c ∧ sInv v S n c ∧ sRel S m 46 c ∧ jk m 55 c ∧ ∀ p, p < c → gI m 23 p = gI v 111 p
/-- what a walk of the reference wants -/
def RW (v m : hM) (n c : Nat) (S : Nat → Int32) : Prop := vRel v n ∧ pRng v n c ∧ rOk v ∧ sInv v S n c ∧ eqV v m ∧ rS S m
def PE (a j : Nat) : Prop := (1 ≤ a ∧ a ≤ 17) ∨ PC 55 a j ∨ a = 45
theorem IW.cw {m : hM} {n c k t : Nat} (h : IW m m n c k t) : CW m m n c (sFn m) := ⟨h.env, h.2.2.2.2.1.1, h.2.2.2.2.1.2, h.2.2.2.2.2.1, h.2.1.2.2⟩
theorem IW.rw' {m m1 : hM} {n c k t : Nat} (h : IW m m n c k t) (k1 : ∀ a j, 96 ≤ a → gI m1 a j = gI m a j) : RW m (sI m1 96 0 0) n c (sFn m) := ⟨h.1.1, h.2.1.1, h.rok, h.2.2.2.2.1.1, eqV_th (eqV_hi k1), fun j hj => by rw [gI_sn (by omega), k1 _ _ (by omega)]; rfl⟩
theorem fr.PEw {m m1 : hM} (f : fr (PC 55) m m1) : fr PE m m1 := f.mono (fun a j z => Or.inr (Or.inl z))
theorem fr.PEe {m m1 : hM} (f : keepE m m1) : fr PE m m1 := ⟨fun a j z => f.1 a j (fun y => z (Or.inl y)), f.2.1, f.2.2⟩
theorem PE_hi {m m1 : hM} (f : fr PE m m1) : ∀ a j, 96 ≤ a → gI m1 a j = gI m a j := fun a j z => f.1 a j (by unfold PE PC; omega)
theorem CW.walk {v m m1 : hM} {n c : Nat} {S : Nat → Int32} (h : CW v m n c S) (f : fr (PC 55) m m1) (j : jk m1 55 c) : CW v m1 n c S := ⟨cEnv_fr (by decide) h.1 f, h.2.1, sRel_fr h.2.2.1 (fun a j z1 z2 => f.1 a j (by unfold PC; omega)), j, fun p hp => by rw [f.1 _ _ (by unfold PC; omega)]; exact h.2.2.2.2 p hp⟩
theorem CW.earth {v v' m m1 : hM} {n n' c : Nat} {S : Nat → Int32} (h : CW v m n c S) (hn : n ≤ n') (he : erR v' m1 n') (g : ∀ a j, envC a j → ¬ erV a j → gI v' a j = gI v a j) (f : ∀ a j, 18 ≤ a → a ≠ 45 → gI m1 a j = gI m a j) : CW v' m1 n' c S := by
  obtain ⟨⟨h1, h2, h3, h4, h5, h6⟩, h7, h8, h9, h10⟩ := h
  have hc := h3.1
  have w : ∀ x : Int32, hIn x n → hIn x n' := fun x z => ⟨z.1, by have := z.2; omega⟩
  have g' : ∀ a j, envC a j → ¬ erV a j → gI v' a j = gI v a j := g
  refine ⟨⟨he.1, he.2, ⟨h3.1, by rw [g' _ _ (by unfold envC; omega) (by unfold erV; omega)]; exact h3.2.1, fun p hp => ?_⟩, ⟨by rw [f _ _ (by omega) (by omega)]; exact h4.1, fun p hp => ?_⟩, ?_, ?_⟩, sInv_cg hc (sInv_n h7 hn) (fun _ _ => rfl) (fun p hp => g' _ _ (by unfold envC; omega) (by unfold erV; omega)), sRel_fr h8 (fun a j z1 z2 => f a j (by omega) (by omega)), jk_cg h9 (fun a j z1 z2 => f a j (by omega) (by omega)), fun p hp => by rw [f _ _ (by omega) (by omega), g' _ _ (by unfold envC; omega) (by unfold erV; omega)]; exact h10 p hp⟩
  · rw [g' 108 _ (by unfold envC; omega) (by unfold erV; omega), g' 109 _ (by unfold envC; omega) (by unfold erV; omega), g' 110 _ (by unfold envC; omega) (by unfold erV; omega), g' 111 _ (by unfold envC; omega) (by unfold erV; omega), g' 112 _ (by unfold envC; omega) (by unfold erV; omega), g' 113 _ (by unfold envC; omega) (by unfold erV; omega)]
    obtain ⟨a1, a2, a3, a4, a5, a6⟩ := h3.2.2 p hp
    exact ⟨a1, a2, a3, a4, w _ a5, a6.elim Or.inl (fun z => Or.inr (w _ z))⟩
  · rw [f 19 _ (by omega) (by omega), f 20 _ (by omega) (by omega), f 21 _ (by omega) (by omega), f 22 _ (by omega) (by omega), f 24 _ (by omega) (by omega), g' 108 _ (by unfold envC; omega) (by unfold erV; omega), g' 109 _ (by unfold envC; omega) (by unfold erV; omega), g' 110 _ (by unfold envC; omega) (by unfold erV; omega), g' 112 _ (by unfold envC; omega) (by unfold erV; omega), g' 113 _ (by unfold envC; omega) (by unfold erV; omega)]
    exact h4.2 p hp
  · rcases h5 with q | ⟨q1, ⟨L, hL, q2⟩, q3⟩
    · exact Or.inl ⟨by rw [g' _ _ (by unfold envC; omega) (by unfold erV; omega)]; exact q.1, by rw [f 32 3 (by omega) (by omega), f 25 1 (by omega) (by omega)]; exact q.2⟩
    · exact Or.inr ⟨by rw [f 32 3 (by omega) (by omega)]; exact q1, ⟨L, hL, rRel_cg q2 (fun k => g' _ _ (by unfold envC; omega) (by unfold erV; omega)) (g' _ _ (by unfold envC; omega) (by unfold erV; omega)) (f _ _ (by omega) (by omega)) (fun k => f _ _ (by omega) (by omega))⟩, fun p hp => by rw [f _ _ (by omega) (by omega), g' _ _ (by unfold envC; omega) (by unfold erV; omega)]; exact q3 p hp⟩
  · unfold aFl at h6 ⊢
    rw [f 32 4 (by omega) (by omega), g' 96 37 (by unfold envC; omega) (by unfold erV; omega)]; exact h6
theorem keepE.hi {m m1 : hM} (f : keepE m m1) : ∀ a j, 18 ≤ a → a ≠ 45 → gI m1 a j = gI m a j := fun a j z _ => f.1 a j (by omega)
theorem RW.earth {v v' m m1 : hM} {n n' c : Nat} {S : Nat → Int32} (h : RW v m n c S) (hn : n ≤ n') (hv : vRel v' n') (g : ∀ a j, envC a j → ¬ erV a j → gI v' a j = gI v a j) (ge : eqV v' m1) (hS : rS S m1) : RW v' m1 n' c S := by
  obtain ⟨h1, h2, h3, h4, h5, h6⟩ := h
  have w : ∀ x : Int32, hIn x n → hIn x n' := fun x z => ⟨z.1, by have := z.2; omega⟩
  have g' : ∀ a j, envC a j → ¬ erV a j → gI v' a j = gI v a j := g
  refine ⟨hv, ⟨h2.1, by rw [g' _ _ (by unfold envC; omega) (by unfold erV; omega)]; exact h2.2.1, fun p hp => ?_⟩, ?_, sInv_cg h2.1 (sInv_n h4 hn) (fun _ _ => rfl) (fun p hp => g' _ _ (by unfold envC; omega) (by unfold erV; omega)), ge, hS⟩
  · rw [g' 108 _ (by unfold envC; omega) (by unfold erV; omega), g' 109 _ (by unfold envC; omega) (by unfold erV; omega), g' 110 _ (by unfold envC; omega) (by unfold erV; omega), g' 111 _ (by unfold envC; omega) (by unfold erV; omega), g' 112 _ (by unfold envC; omega) (by unfold erV; omega), g' 113 _ (by unfold envC; omega) (by unfold erV; omega)]
    obtain ⟨a1, a2, a3, a4, a5, a6⟩ := h2.2.2 p hp
    exact ⟨a1, a2, a3, a4, w _ a5, a6.elim Or.inl (fun z => Or.inr (w _ z))⟩
  · rcases h3 with q | ⟨L, mc, hL, q⟩
    · exact Or.inl (by rw [g' _ _ (by unfold envC; omega) (by unfold erV; omega)]; exact q)
    · exact Or.inr ⟨L, mc, hL, rRel_cg q (fun k => g' _ _ (by unfold envC; omega) (by unfold erV; omega)) (g' _ _ (by unfold envC; omega) (by unfold erV; omega)) rfl (fun _ => rfl)⟩
theorem RW.keep {v m m1 : hM} {n c : Nat} {S : Nat → Int32} (h : RW v m n c S) (f : ∀ a j, envC a j ∨ (a = 114 ∧ j < 127) → gI m1 a j = gI m a j) : RW v m1 n c S := ⟨h.1, h.2.1, h.2.2.1, h.2.2.2.1, fun a j z => (f a j (Or.inl z)).trans (h.2.2.2.2.1 a j z), fun j hj => (f 114 j (Or.inr ⟨rfl, hj⟩)).trans (h.2.2.2.2.2 j hj)⟩
theorem PS_env {a j : Nat} (h : envC a j ∨ (a = 114 ∧ j < 127)) : ¬ PS a j := by unfold PS; rcases h with z | z; unfold envC at z; omega; omega
theorem RW.ps {v m m1 : hM} {n c : Nat} {S : Nat → Int32} (h : RW v m n c S) (f : fr PS m m1) : RW v m1 n c S := h.keep (fun a j z => f.1 a j (PS_env z))
theorem CW.run {fu : Nat} (hfu : 3000 ≤ fu) {v m : hM} {n c x : Nat} {S : Nat → Int32} (h : CW v m n c S) (hx : x < 2400) (h0 : S 0 = nI x) (L : Int32) : ∃ m1 m', f_X10_fromNow fu m = some (55, m1) ∧ f_X8_runToEnd fu 55 L m1 = some (cEnd v n c x S L, m') ∧ CW v m' n c S ∧ fr (PC 55) m m' := by
  obtain ⟨m1, m', a1, a2, a3, a4, a5⟩ := cx_now hfu h.1 hx h.2.1 h0 h.2.2.1 L
  exact ⟨m1, m', a1, a2, h.walk a5 a4, a5⟩
theorem CW.beg {fu : Nat} (hfu : 3000 ≤ fu) {v m : hM} {n c x : Nat} {S : Nat → Int32} (h : CW v m n c S) (hx : x < 2400) (L : Int32) (S0 : Nat → Int32) : ∃ m1 m', f_X10_begunAt fu (nI x) m = some (55, m1) ∧ f_X8_runToEnd fu 55 L m1 = some (cEnd v n c x (begR v (nI x) c S0) L, m') ∧ CW v m' n c S ∧ fr (PC 55) m m' := by
  obtain ⟨m1, m', a1, a2, a4, a5⟩ := cx_begun hfu h.1 hx h.2.2.2.1 h.2.2.2.2 L S0
  exact ⟨m1, m', a1, a2, h.walk a5 a4, a5⟩
theorem RW.run {fu : Nat} (hfu : 3000 ≤ fu) {v m : hM} {n c x : Nat} {S : Nat → Int32} (h : RW v m n c S) (hx : x < 2400) (h0 : S 0 = nI x) : ∃ m', f_X11_endsNow fu m = some (eEnd v n c x S, m') ∧ RW v m' n c S ∧ fr PS m m' := by
  obtain ⟨m', a1, a2⟩ := rx_endsNow hfu h.1 h.2.1 h.2.2.1 hx h.2.2.2.1 h0 h.2.2.2.2.1 h.2.2.2.2.2
  exact ⟨m', a1, h.ps a2, a2⟩
theorem RW.beg {fu : Nat} (hfu : 3000 ≤ fu) {v m : hM} {n c x : Nat} {S : Nat → Int32} (h : RW v m n c S) (hx : x < 2400) : ∃ m', f_X11_endsFrom fu (nI x) m = some (eEnd v n c x (begR v (nI x) c S), m') ∧ RW v m' n c S ∧ fr PS m m' := by
  obtain ⟨m', a1, a2⟩ := rx_endsFrom hfu h.1 h.2.1 h.2.2.1 hx h.2.2.2.2.1 h.2.2.2.2.2
  exact ⟨m', a1, h.ps a2, a2⟩
theorem cEnd_all {v : hM} {n c x : Nat} {S : Nat → Int32} (hx : x < 2400) : (∃ e : Nat, eEnd v n c x S = nI e ∧ x ≤ e ∧ e ≤ 2399 ∧ cEnd v n c x S 2399 = nI e) ∨ (eEnd v n c x S = -1 ∧ cEnd v n c x S 2399 = -2) := by
  rcases cEnd_e (v := v) (n := n) (c := c) (S := S) hx 2399 with ⟨e, h1, h2, h3, h4⟩ | h
  · refine Or.inl ⟨e, h1, h2, h3, ?_⟩
    rw [h4, if_pos (Or.inl (by rw [show (2399 : Int32).toInt = 2399 from rfl]; omega))]
  · exact Or.inr h
theorem nI_nm {e : Nat} (h : e ≤ 2399) : ¬ nI e = -2 ∧ ¬ nI e = -1 ∧ ¬ nI e < 0 ∧ 0 ≤ nI e := by
  refine ⟨?_, ?_, nI_pos (by omega), nI_pos' (by omega)⟩
  · rw [i_eq, nI_toInt (by omega)]; show ¬ (e : Int) = -2; omega
  · rw [i_eq, nI_toInt (by omega)]; show ¬ (e : Int) = -1; omega
/-- by how much later: both sides -/
def ltr (a b : Int32) : Int32 := if a < 0 then -9999 else if b < 0 then -9999 else b - a
theorem cx_later (fu : Nat) {v v' : hM} {n c x x' : Nat} {S S' : Nat → Int32} (hx : x < 2400) (hx' : x' < 2400) (m : hM) : f_X10_later fu (cEnd v n c x S 2399) (cEnd v' n c x' S' 2399) m = some (ltr (eEnd v n c x S) (eEnd v' n c x' S'), m) := by
  unfold f_X10_later ltr
  rcases cEnd_all (v := v) (n := n) (c := c) (S := S) hx with ⟨e, h1, h2, h3, h4⟩ | ⟨h1, h4⟩
  · rcases cEnd_all (v := v') (n := n) (c := c) (S := S') hx' with ⟨e', k1, k2, k3, k4⟩ | ⟨k1, k4⟩
    · rw [h1, h4, k1, k4, if_neg (nI_nm h3).1, if_pos (nI_nm k3).1, if_neg (nI_nm h3).2.2.1, if_neg (nI_nm k3).2.2.1]
    · rw [h1, h4, k1, k4, if_neg (nI_nm h3).1, if_neg (by decide), if_neg (nI_nm h3).2.2.1, if_pos (by decide)]
  · rw [h1, h4, if_pos rfl, if_pos (by decide)]
theorem rx_later {v v' : hM} {n c x x' : Nat} {S S' : Nat → Int32} (hx : x < 2400) (hx' : x' < 2400) (m : hM) : (if eEnd v' n c x' S' < 0 then some ((-9999 : Int32), m) else (if 0 ≤ eEnd v n c x S then some (eEnd v' n c x' S' - eEnd v n c x S, m) else some ((-9999), m))) = some (ltr (eEnd v n c x S) (eEnd v' n c x' S'), m) := by
  unfold ltr
  rcases cEnd_all (v := v) (n := n) (c := c) (S := S) hx with ⟨e, h1, h2, h3, h4⟩ | ⟨h1, h4⟩
  · rcases cEnd_all (v := v') (n := n) (c := c) (S := S') hx' with ⟨e', k1, k2, k3, k4⟩ | ⟨k1, k4⟩
    · rw [h1, k1, if_neg (nI_nm k3).2.2.1, if_pos (nI_nm h3).2.2.2, if_neg (nI_nm h3).2.2.1, if_neg (nI_nm k3).2.2.1]
    · rw [h1, k1, if_pos (by decide), if_neg (nI_nm h3).2.2.1, if_pos (by decide)]
  · rw [h1, if_pos (show (-1 : Int32) < 0 by decide)]
    by_cases q : eEnd v' n c x' S' < 0
    · rw [if_pos q]
    · rw [if_neg q, if_neg (by decide)]
/-- the earth as it was, on the class's side -/
theorem IW.m6 {m m6 : hM} {n c k t : Nat} (h : IW m m n c k t) (f : fr PE m m6) (he : erR m m6 n) (j : jk m6 55 c) : IW m m6 n c k t :=
  h.earth (Nat.le_refl n) he (fun _ _ _ _ _ => rfl) (fun _ => rfl) (fun z => z) (fun a j z1 z2 => f.1 a j (by unfold cI at z1; unfold PE PC; omega)) (fun j => f.2.1 _ _) j
theorem IW.q1 {m m6 m2 : hM} {n c k t : Nat} (h : IW m m6 n c k t) (k1 : ∀ a j, 96 ≤ a → gI m6 a j = gI m a j) (l1 : ∀ a j, gL m6 a j = gL m a j) (r1 : ∀ a j, gR m6 a j = gR m a j) {P : Nat → Nat → Prop} (g : fr P m6 m2) (hP : ∀ a j, P a j → 96 ≤ a ∧ ¬ rI a j) : IV m2 := by
  refine ⟨n, c, k, t, h.cg ⟨fun a j z => ?_, fun j => ?_, fun z => rfOk_cg z (fun j => (g.2.2 _ _).trans (r1 _ _))⟩ ⟨fun a j z => g.1 a j (fun y => by have := (hP a j y).1; unfold cI at z; omega), fun j => g.2.1 _ _⟩ (jk_cg h.2.2.2.2.2.1 (fun a j z1 z2 => g.1 a j (fun y => by have := (hP a j y).1; omega)))⟩
  · rw [g.1 a j (fun y => (hP a j y).2 z)]; exact k1 a j (by unfold rI at z; omega)
  · rw [g.2.1]; exact l1 _ _
/-- the same, with a row told: the reference's memory was m7 ahead of it -/
theorem IW.q2 {m m6 m7 m2 : hM} {n c k t : Nat} (h : IW m m6 n c k t) (k1 : ∀ a j, 96 ≤ a → gI m6 a j = gI m a j) (l1 : ∀ a j, gL m6 a j = gL m a j) (r1 : ∀ a j, gR m6 a j = gR m a j) {xs : List Int64} (hx : xs.length ≤ 11) {P : Nat → Nat → Prop} (g : fr P (setRow m6 67 66 1 xs) m7) (hP : ∀ a j, P a j → 96 ≤ a ∧ ¬ rI a j) (e : m2 = setRow m7 97 96 1 xs) : IV m2 := by
  subst e
  have h2 := h.row hx
  have gc : ∀ a j, a ≤ 95 → gI (setRow m7 97 96 1 xs) a j = gI (setRow m6 67 66 1 xs) a j := fun a j z => by rw [sr_In (by omega), g.1 a j (fun y => by have := (hP a j y).1; omega)]
  refine ⟨n, c, k, t, h2.cg ⟨fun a j z => ?_, fun j => ?_, fun z => rfOk_cg (show rfOk m from z) (fun j => (g.2.2 _ _).trans (r1 _ _))⟩ ⟨fun a j z => gc a j (by unfold cI at z; omega), fun j => ?_⟩ (jk_cg h2.2.2.2.2.2.1 (fun a j z1 z2 => gc a j (by omega)))⟩
  · rw [sr_I, sr_I]
    by_cases q : a = 96 ∧ j = 1
    · rw [if_pos q, if_pos q]
    · rw [if_neg q, if_neg q, g.1 a j (fun y => (hP a j y).2 z), sr_In (by unfold rI at z; omega)]; exact k1 a j (by unfold rI at z; omega)
  · rw [sr_L, sr_L]
    by_cases q : 97 = 97 ∧ j < xs.length
    · rw [if_pos q, if_pos q]
    · rw [if_neg q, if_neg q, g.2.1, sr_Ln (by omega)]; exact l1 _ _
  · rw [sr_Ln (m := m7) (by omega), g.2.1]
def P0S (a j : Nat) : Prop := PS a j ∨ (a = 96 ∧ j = 0) ∨ a = 131 ∨ a = 126 ∨ a = 127 ∨ (a = 96 ∧ (j = 41 ∨ j = 42 ∨ j = 46 ∨ j = 47)) ∨ a = 121 ∨ a = 122 ∨ a = 123
theorem P0S_ok {a j : Nat} (h : P0S a j) : 96 ≤ a ∧ ¬ rI a j := by
  unfold P0S PS at h
  unfold rI
  omega
theorem fr.p0 {m m1 : hM} (f : fr PS m m1) : fr P0S m m1 := f.mono (fun a j z => Or.inl z)
theorem fr.th {m : hM} {x : Int32} : fr P0S m (sI m 96 0 x) := fr.rf.si (Or.inr (Or.inl ⟨rfl, rfl⟩))
