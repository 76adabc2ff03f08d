/-! ===== what holds between any two calls ===== -/
def rI (a j : Nat) : Prop := (a = 96 ∧ (j = 1 ∨ j = 3 ∨ j = 14 ∨ j = 15 ∨ j = 16 ∨ j = 29 ∨ j = 37 ∨ j = 50)) ∨ (98 ≤ a ∧ a ≤ 113) ∨ (a = 114 ∧ j < 127) ∨ a = 116 ∨ a = 117 ∨ a = 119 ∨ (128 ≤ a ∧ a ≤ 130) ∨ a = 133 ∨ a = 134
def cI (a j : Nat) : Prop := a < 25 ∨ (a = 25 ∧ j = 1) ∨ a = 26 ∨ (a = 32 ∧ (j = 3 ∨ j = 4)) ∨ (41 ≤ a ∧ a ≤ 44) ∨ (46 ≤ a ∧ a ≤ 54) ∨ (64 ≤ a ∧ a ≤ 95)
def rfOk (v : hM) : Prop := ((gR v 96 38 = 121 ∧ gR v 96 39 = 122) ∨ (gR v 96 38 = 122 ∧ gR v 96 39 = 121)) ∧ ((gR v 96 43 = 124 ∧ gR v 96 44 = 125) ∨ (gR v 96 43 = 125 ∧ gR v 96 44 = 124))
def eqR (v v' : hM) : Prop := (∀ a j, rI a j → gI v' a j = gI v a j) ∧ (∀ j, gL v' 97 j = gL v 97 j) ∧ (rfOk v → rfOk v')
def eqC (m m' : hM) : Prop := (∀ a j, cI a j → gI m' a j = gI m a j) ∧ ∀ j, gL m' 67 j = gL m 67 j
def sFn (v : hM) : Nat → Int32 := fun j => gI v 114 j
def kFn (v : hM) (i : Nat) : Nat → Int32 := fun j => gI v 134 (127 * i + j)
def prR (v m : hM) (n k : Nat) : Prop := k ≤ 9 ∧ gI m 41 4 = nI k ∧ gI v 96 50 = nI k ∧ (∀ i, i < k → gI m 42 i = gI v 128 i ∧ gI m 43 i = gI v 129 i ∧ gI m 44 i = gI v 130 i ∧ hIn (gI v 128 i) n ∧ hIn (gI v 129 i) n ∧ ¬ gI v 128 i = gI v 129 i ∧ 1 ≤ (gI v 130 i).toInt ∧ (gI v 130 i).toInt ≤ 99) ∧ ∀ i j, i < j → j < k → ¬ (gI v 128 i = gI v 128 j ∧ gI v 129 i = gI v 129 j) ∧ ¬ (gI v 128 i = gI v 129 j ∧ gI v 129 i = gI v 128 j)
def kpR (v m : hM) (n c i : Nat) : Prop := gI m 65 i = gI v 133 i ∧ (gI v 133 i = -1 ∨ ∃ ci, ci ≤ c ∧ gI v 133 i = nI ci ∧ sInv v (kFn v i) n ci ∧ sRel (kFn v i) m (69 + 9 * i) ci)
def txR (v m : hM) (t : Nat) : Prop := t ≤ 60 ∧ gI m 0 13 = nI t ∧ gI v 96 29 = nI t ∧ ∀ j, j < t → gI m 68 j = gI v 119 j ∧ hIn (gI v 119 j) 256
def rlR (v m : hM) : Prop := (gI v 117 0 = 0 ∧ gI m 25 1 = 0) ∨ ∃ L, 0 < L ∧ rRel v m L
def erR (v m : hM) (n : Nat) : Prop := vRel v n ∧ eRel v m n
def pcR (v m : hM) (n c : Nat) : Prop := pRng v n c ∧ pRel v m c ∧ ∀ p, p < c → gI m 23 p = gI v 111 p
def flR (v m : hM) : Prop := gI m 32 3 = 1 ∧ gI m 32 4 = 1 ∧ gI v 96 37 = 0
def stR (v m : hM) (n c : Nat) : Prop := sInv v (sFn v) n c ∧ sRel (sFn v) m 46 c
def IW (v m : hM) (n c k t : Nat) : Prop := erR v m n ∧ pcR v m n c ∧ flR v m ∧ rlR v m ∧ stR v m n c ∧ jk m 55 c ∧ nRel v m ∧ prR v m n k ∧ (∀ i, i < 3 → kpR v m n c i) ∧ txR v m t ∧ rfOk v
theorem IW.env {v m : hM} {n c k t : Nat} (h : IW v m n c k t) : cEnv v m n c := by
  obtain ⟨h1, h2, h3, h4, _⟩ := h
  refine ⟨h1.1, h1.2, h2.1, h2.2.1, ?_, Or.inl ⟨h3.2.1, h3.2.2⟩⟩
  rcases h4 with q | q
  · exact Or.inl ⟨q.1, Or.inr q.2⟩
  · exact Or.inr ⟨h3.1, q, h2.2.2⟩
theorem IW.rok {v m : hM} {n c k t : Nat} (h : IW v m n c k t) : rOk v := by
  rcases h.2.2.2.1 with q | ⟨L, hL, q⟩
  · exact Or.inl q.1
  · exact Or.inr ⟨L, m, hL, q⟩
theorem IW.rs {v m : hM} {n c k t : Nat} (_ : IW v m n c k t) : rS (sFn v) v := fun _ _ => rfl
theorem eqR.env {v v' : hM} (h : eqR v v') : eqV v v' := fun a j q => h.1 a j (by unfold envC at q; unfold rI; omega)
theorem eqR.rf {v : hM} : eqR v v := ⟨fun _ _ _ => rfl, fun _ => rfl, fun h => h⟩
theorem eqR.tr {v v1 v2 : hM} (h : eqR v v1) (g : eqR v1 v2) : eqR v v2 := ⟨fun a j q => (g.1 a j q).trans (h.1 a j q), fun j => (g.2.1 j).trans (h.2.1 j), fun q => g.2.2 (h.2.2 q)⟩
theorem eqC.rf {m : hM} : eqC m m := ⟨fun _ _ _ => rfl, fun _ => rfl⟩
theorem eqC.tr {m m1 m2 : hM} (h : eqC m m1) (g : eqC m1 m2) : eqC m m2 := ⟨fun a j q => (g.1 a j q).trans (h.1 a j q), fun j => (g.2 j).trans (h.2 j)⟩
theorem wRel_cg {v v' m : hM} {o : Nat} (h : wRel v m o) (hq : ∀ x, opn v' o x = opn v o x) : wRel v' m o := fun j hj => by rw [hq]; exact h j hj
theorem aRel_cg {v v' m : hM} {o : Nat} (h : aRel v m o) (hq : ∀ x, opn v' o x = opn v o x) : aRel v' m o := fun j hj => by rw [hq]; exact h j hj
theorem eRel_v {v v' m : hM} {n : Nat} (h : eRel v m n) (g : eqV v v') : eRel v' m n := by
  refine ⟨h.1, by rw [g _ _ (by unfold envC; omega)]; exact h.2.1, by rw [g _ _ (by unfold envC; omega)]; exact h.2.2.1, fun o ho => ?_, h.2.2.2.2.1, fun a b ha hb => by rw [g.a _ (show 98 ≤ 107 by omega) (by omega)]; exact h.2.2.2.2.2.1 a b ha hb, h.2.2.2.2.2.2⟩
  obtain ⟨a1, a2, a3⟩ := h.2.2.2.1 o ho
  refine ⟨⟨fun j hj => ?_, fun d hd => ?_⟩, wRel_cg a2 (fun x => opn_eqV g o x), aRel_cg a3 (fun x => opn_eqV g o x)⟩
  · rw [g.a _ (by omega) (by omega)]; exact a1.1 j hj
  · rw [g.a _ (by omega) (by omega)]; exact a1.2 d hd
theorem sInv_cg {v v' : hM} {S S' : Nat → Int32} {n c : Nat} (hc : c ≤ 8) (h : sInv v S n c) (hS : ∀ j, j < 67 → S' j = S j) (hv : ∀ p, p < c → gI v' 112 p = gI v 112 p) : sInv v' S' n c := by
  refine ⟨fun p hp => ?_, ?_, ?_⟩
  · rw [hS _ (by omega), hS _ (by omega), hv p hp]; exact h.1 p hp
  · rw [hS _ (by omega)]; exact h.2.1
  · rw [hS _ (by omega)]; exact h.2.2
theorem sInv_n {v : hM} {S : Nat → Int32} {n n' c : Nat} (h : sInv v S n c) (hn : n ≤ n') : sInv v S n' c := by
  have w : ∀ x : Int32, hIn x n → hIn x n' := fun x z => ⟨z.1, by have := z.2; omega⟩
  exact ⟨fun p hp => ⟨w _ (h.1 p hp).1, (h.1 p hp).2.elim Or.inl (fun z => Or.inr ⟨z.1, w _ z.2⟩)⟩, h.2⟩
theorem rRel_cg {v v' m m' : hM} {L : Nat} (h : rRel v m L) (g1 : ∀ k, gI v' 116 k = gI v 116 k) (g2 : gI v' 117 0 = gI v 117 0) (g3 : gI m' 25 1 = gI m 25 1) (g4 : ∀ k, gI m' 26 k = gI m 26 k) : rRel v' m' L := by
  have e : ∀ k, dpt v' k = dpt v k := by
    intro k
    induction k with
    | zero => rfl
    | succ k ih => rw [dpt, dpt, g1, ih]
  exact ⟨h.1, by rw [g2]; exact h.2.1, by rw [g3]; exact h.2.2.1, fun k hk => by rw [g1, g4, e]; exact h.2.2.2.1 k hk, fun q => by rw [e]; exact h.2.2.2.2 q⟩
theorem kpR_cg {v v' m m' : hM} {n n' c c' i : Nat} (hc : c ≤ 8) (h : kpR v m n c i) (hi : i < 3) (hn : n ≤ n') (hcc : c ≤ c') (h1 : gI m' 65 i = gI m 65 i) (h2 : gI v' 133 i = gI v 133 i) (h3 : ∀ j, gI v' 134 j = gI v 134 j) (h4 : ∀ a j, 69 ≤ a → a ≤ 95 → gI m' a j = gI m a j) (h5 : ∀ p, p < c → gI v' 112 p = gI v 112 p) : kpR v' m' n' c' i := by
  refine ⟨by rw [h1, h2]; exact h.1, ?_⟩
  rw [h2]
  rcases h.2 with q | ⟨ci, q1, q2, q3, q4⟩
  · exact Or.inl q
  · have e : kFn v' i = kFn v i := funext (fun j => h3 _)
    refine Or.inr ⟨ci, by omega, q2, ?_, ?_⟩
    · rw [e]; exact sInv_cg (by omega) (sInv_n q3 hn) (fun _ _ => rfl) (fun p hp => h5 p (by omega))
    · rw [e]; exact sRel_fr q4 (fun a j z1 z2 => h4 a j (by omega) (by omega))
theorem prR_cg {v v' m m' : hM} {n n' k : Nat} (h : prR v m n k) (hn : n ≤ n') (h1 : gI m' 41 4 = gI m 41 4) (h2 : gI v' 96 50 = gI v 96 50) (h3 : ∀ a j, 42 ≤ a → a ≤ 44 → gI m' a j = gI m a j) (h4 : ∀ a j, 128 ≤ a → a ≤ 130 → gI v' a j = gI v a j) : prR v' m' n' k := by
  have w : ∀ x : Int32, hIn x n → hIn x n' := fun x z => ⟨z.1, by have := z.2; omega⟩
  refine ⟨h.1, by rw [h1]; exact h.2.1, by rw [h2]; exact h.2.2.1, fun i hi => ?_, fun i j hij hj => ?_⟩
  · rw [h3 42 i (by omega) (by omega), h3 43 i (by omega) (by omega), h3 44 i (by omega) (by omega), h4 128 i (by omega) (by omega), h4 129 i (by omega) (by omega), h4 130 i (by omega) (by omega)]
    obtain ⟨a1, a2, a3, a4, a5, a6⟩ := h.2.2.2.1 i hi
    exact ⟨a1, a2, a3, w _ a4, w _ a5, a6⟩
  · rw [h4 128 i (by omega) (by omega), h4 129 i (by omega) (by omega), h4 128 j (by omega) (by omega), h4 129 j (by omega) (by omega)]
    exact h.2.2.2.2 i j hij hj
theorem nRel_cg {v v' m m' : hM} (h : nRel v m) (h1 : gI m' 66 1 = gI m 66 1) (h2 : gI v' 96 1 = gI v 96 1) (h3 : ∀ j, gL m' 67 j = gL m 67 j) (h4 : ∀ j, gL v' 97 j = gL v 97 j) : nRel v' m' := by
  obtain ⟨xs, a1, a2, a3, a4⟩ := h
  exact ⟨xs, a1, by rw [h1]; exact a2, by rw [h2]; exact a3, fun j hj => by rw [h3, h4]; exact a4 j hj⟩
theorem IW.cg {v v' m m' : hM} {n c k t : Nat} (h : IW v m n c k t) (g : eqR v v') (f : eqC m m') (j : jk m' 55 c) : IW v' m' n c k t := by
  obtain ⟨h1, h2, h3, h4, h5, h6, h7, h8, h9, h10, h11⟩ := h
  have hn := h1.1.1
  have hc := h2.1.1
  have gv := g.env
  have gr : ∀ a j, rI a j → gI v' a j = gI v a j := g.1
  have fc : ∀ a j, cI a j → gI m' a j = gI m a j := f.1
  have eS : ∀ j, j < 127 → sFn v' j = sFn v j := fun j hj => gr 114 j (by unfold rI; omega)
  refine ⟨⟨vRel_eqV h1.1 gv, eRel_v (eRel_fr h1.2 hn (fun a j z1 z2 => fc a j (by unfold cI; omega))) gv⟩, ⟨pRng_eqV h2.1 gv, ⟨?_, fun p hp => ?_⟩, fun p hp => ?_⟩, ⟨?_, ?_, ?_⟩, ?_, ⟨?_, ?_⟩, j, ?_, ?_, fun i hi => ?_, ⟨h10.1, ?_, ?_, fun j hj => ?_⟩, g.2.2 h11⟩
  · rw [fc _ _ (by unfold cI; omega)]; exact h2.2.1.1
  · rw [fc 19 _ (by unfold cI; omega), fc 20 _ (by unfold cI; omega), fc 21 _ (by unfold cI; omega), fc 22 _ (by unfold cI; omega), fc 24 _ (by unfold cI; omega), gr 108 _ (by unfold rI; omega), gr 113 _ (by unfold rI; omega), gr 109 _ (by unfold rI; omega), gr 110 _ (by unfold rI; omega), gr 112 _ (by unfold rI; omega)]
    exact h2.2.1.2 p hp
  · rw [fc _ _ (by unfold cI; omega), gr _ _ (by unfold rI; omega)]; exact h2.2.2 p hp
  · rw [fc _ _ (by unfold cI; omega)]; exact h3.1
  · rw [fc _ _ (by unfold cI; omega)]; exact h3.2.1
  · rw [gr _ _ (by unfold rI; omega)]; exact h3.2.2
  · rcases h4 with q | ⟨L, hL, q⟩
    · exact Or.inl ⟨by rw [gr _ _ (by unfold rI; omega)]; exact q.1, by rw [fc _ _ (by unfold cI; omega)]; exact q.2⟩
    · exact Or.inr ⟨L, hL, rRel_cg q (fun k => gr _ _ (by unfold rI; omega)) (gr _ _ (by unfold rI; omega)) (fc _ _ (by unfold cI; omega)) (fun k => fc _ _ (by unfold cI; omega))⟩
  · exact sInv_cg hc h5.1 (fun j hj => eS j (by omega)) (fun p hp => gr _ _ (by unfold rI; omega))
  · obtain ⟨kk, hk, hke⟩ := wr_num h5.1
    refine sRel_cg (sRel_fr h5.2 (fun a j z1 z2 => fc a j (by unfold cI; omega))) (fun j hj => eS j ?_)
    rw [hke, nI_clamp (show kk < 2 ^ 31 by omega)] at hj; omega
  · exact nRel_cg h7 (fc _ _ (by unfold cI; omega)) (gr _ _ (by unfold rI; omega)) f.2 g.2.1
  · exact prR_cg h8 (Nat.le_refl n) (fc _ _ (by unfold cI; omega)) (gr _ _ (by unfold rI; omega)) (fun a j z1 z2 => fc _ _ (by unfold cI; omega)) (fun a j z1 z2 => gr _ _ (by unfold rI; omega))
  · exact kpR_cg hc (h9 i hi) hi (Nat.le_refl n) (Nat.le_refl c) (fc _ _ (by unfold cI; omega)) (gr _ _ (by unfold rI; omega)) (fun j => gr _ _ (by unfold rI; omega)) (fun a j z1 z2 => fc _ _ (by unfold cI; omega)) (fun p hp => gr _ _ (by unfold rI; omega))
  · rw [fc _ _ (by unfold cI; omega)]; exact h10.2.1
  · rw [gr _ _ (by unfold rI; omega)]; exact h10.2.2.1
  · rw [fc _ _ (by unfold cI; omega), gr _ _ (by unfold rI; omega)]; exact h10.2.2.2 j hj
/-- the earth is another, the rest stays -/
theorem IW.earth {v v' m m' : hM} {n n' c k t : Nat} (h : IW v m n c k t) (hn : n ≤ n') (he : erR v' m' n') (g : ∀ a j, rI a j → ¬ (98 ≤ a ∧ a ≤ 107) → ¬ (a = 96 ∧ (j = 3 ∨ j = 14 ∨ j = 15)) → gI v' a j = gI v a j) (gl : ∀ j, gL v' 97 j = gL v 97 j) (gr' : rfOk v → rfOk v') (f : ∀ a j, cI a j → ¬ (1 ≤ a ∧ a ≤ 17) → gI m' a j = gI m a j) (fl : ∀ j, gL m' 67 j = gL m 67 j) (j : jk m' 55 c) : IW v' m' n' c k t := by
  obtain ⟨h1, h2, h3, h4, h5, h6, h7, h8, h9, h10, h11⟩ := h
  have hc := h2.1.1
  have w : ∀ x : Int32, hIn x n → hIn x n' := fun x z => ⟨z.1, by have := z.2; omega⟩
  have gr : ∀ a j, rI a j → ¬ (98 ≤ a ∧ a ≤ 107) → ¬ (a = 96 ∧ (j = 3 ∨ j = 14 ∨ j = 15)) → gI v' a j = gI v a j := g
  have fc : ∀ a j, cI a j → ¬ (1 ≤ a ∧ a ≤ 17) → gI m' a j = gI m a j := f
  have eS : ∀ j, j < 127 → sFn v' j = sFn v j := fun j hj => gr 114 j (by unfold rI; omega) (by omega) (by omega)
  refine ⟨he, ⟨⟨hc, ?_, fun p hp => ?_⟩, ⟨?_, fun p hp => ?_⟩, fun p hp => ?_⟩, ⟨?_, ?_, ?_⟩, ?_, ⟨?_, ?_⟩, j, ?_, ?_, fun i hi => ?_, ⟨h10.1, ?_, ?_, fun j hj => ?_⟩, gr' h11⟩
  · rw [gr _ _ (by unfold rI; omega) (by omega) (by omega)]; exact h2.1.2.1
  · rw [gr 108 _ (by unfold rI; omega) (by omega) (by omega), gr 113 _ (by unfold rI; omega) (by omega) (by omega), gr 109 _ (by unfold rI; omega) (by omega) (by omega), gr 110 _ (by unfold rI; omega) (by omega) (by omega), gr 111 _ (by unfold rI; omega) (by omega) (by omega), gr 112 _ (by unfold rI; omega) (by omega) (by omega)]
    obtain ⟨a1, a2, a3, a4, a5, a6⟩ := h2.1.2.2 p hp
    exact ⟨a1, a2, a3, a4, w _ a5, a6.elim Or.inl (fun z => Or.inr (w _ z))⟩
  · rw [fc _ _ (by unfold cI; omega) (by omega)]; exact h2.2.1.1
  · rw [fc 19 _ (by unfold cI; omega) (by omega), fc 20 _ (by unfold cI; omega) (by omega), fc 21 _ (by unfold cI; omega) (by omega), fc 22 _ (by unfold cI; omega) (by omega), fc 24 _ (by unfold cI; omega) (by omega), gr 108 _ (by unfold rI; omega) (by omega) (by omega), gr 113 _ (by unfold rI; omega) (by omega) (by omega), gr 109 _ (by unfold rI; omega) (by omega) (by omega), gr 110 _ (by unfold rI; omega) (by omega) (by omega), gr 112 _ (by unfold rI; omega) (by omega) (by omega)]
    exact h2.2.1.2 p hp
  · rw [fc _ _ (by unfold cI; omega) (by omega), gr _ _ (by unfold rI; omega) (by omega) (by omega)]; exact h2.2.2 p hp
  · rw [fc _ _ (by unfold cI; omega) (by omega)]; exact h3.1
  · rw [fc _ _ (by unfold cI; omega) (by omega)]; exact h3.2.1
  · rw [gr _ _ (by unfold rI; omega) (by omega) (by omega)]; exact h3.2.2
  · rcases h4 with q | ⟨L, hL, q⟩
    · exact Or.inl ⟨by rw [gr _ _ (by unfold rI; omega) (by omega) (by omega)]; exact q.1, by rw [fc _ _ (by unfold cI; omega) (by omega)]; exact q.2⟩
    · exact Or.inr ⟨L, hL, rRel_cg q (fun k => gr _ _ (by unfold rI; omega) (by omega) (by omega)) (gr _ _ (by unfold rI; omega) (by omega) (by omega)) (fc _ _ (by unfold cI; omega) (by omega)) (fun k => fc _ _ (by unfold cI; omega) (by omega))⟩
  · exact sInv_cg hc (sInv_n h5.1 hn) (fun j hj => eS j (by omega)) (fun p hp => gr _ _ (by unfold rI; omega) (by omega) (by omega))
  · obtain ⟨kk, hk, hke⟩ := wr_num h5.1
    refine sRel_cg (sRel_fr h5.2 (fun a j z1 z2 => fc a j (by unfold cI; omega) (by omega))) (fun j hj => eS j ?_)
    rw [hke, nI_clamp (show kk < 2 ^ 31 by omega)] at hj; omega
  · exact nRel_cg h7 (fc _ _ (by unfold cI; omega) (by omega)) (gr _ _ (by unfold rI; omega) (by omega) (by omega)) fl gl
  · exact prR_cg h8 hn (fc _ _ (by unfold cI; omega) (by omega)) (gr _ _ (by unfold rI; omega) (by omega) (by omega)) (fun a j z1 z2 => fc _ _ (by unfold cI; omega) (by omega)) (fun a j z1 z2 => gr _ _ (by unfold rI; omega) (by omega) (by omega))
  · exact kpR_cg hc (h9 i hi) hi hn (Nat.le_refl c) (fc _ _ (by unfold cI; omega) (by omega)) (gr _ _ (by unfold rI; omega) (by omega) (by omega)) (fun j => gr _ _ (by unfold rI; omega) (by omega) (by omega)) (fun a j z1 z2 => fc _ _ (by unfold cI; omega) (by omega)) (fun p hp => gr _ _ (by unfold rI; omega) (by omega) (by omega))
  · rw [fc _ _ (by unfold cI; omega) (by omega)]; exact h10.2.1
  · rw [gr _ _ (by unfold rI; omega) (by omega) (by omega)]; exact h10.2.2.1
  · rw [fc _ _ (by unfold cI; omega) (by omega), gr _ _ (by unfold rI; omega) (by omega) (by omega)]; exact h10.2.2.2 j hj
/-- another row is told -/
theorem IW.row {v m : hM} {n c k t : Nat} (h : IW v m n c k t) {xs : List Int64} (hx : xs.length ≤ 11) : IW (setRow v 97 96 1 xs) (setRow m 67 66 1 xs) n c k t := by
  have gv : ∀ a j, ¬ (a = 96 ∧ j = 1) → gI (setRow v 97 96 1 xs) a j = gI v a j := fun a j z => by rw [sr_I, if_neg z]
  have gm : ∀ a j, ¬ (a = 66 ∧ j = 1) → gI (setRow m 67 66 1 xs) a j = gI m a j := fun a j z => by rw [sr_I, if_neg z]
  obtain ⟨h1, h2, h3, h4, h5, h6, h7, h8, h9, h10, h11⟩ := h
  have hn := h1.1.1
  have hc := h2.1.1
  have g1 : eqV v (setRow v 97 96 1 xs) := fun a j z => gv a j (by unfold envC at z; omega)
  refine ⟨⟨vRel_eqV h1.1 g1, eRel_v (eRel_fr h1.2 hn (fun a j z1 z2 => gm a j (by omega))) g1⟩, ⟨pRng_eqV h2.1 g1, ⟨by rw [gm _ _ (by omega)]; exact h2.2.1.1, fun p hp => ?_⟩, fun p hp => by rw [gm _ _ (by omega), gv _ _ (by omega)]; exact h2.2.2 p hp⟩, ⟨by rw [gm _ _ (by omega)]; exact h3.1, by rw [gm _ _ (by omega)]; exact h3.2.1, by rw [gv _ _ (by omega)]; exact h3.2.2⟩, ?_, ⟨?_, ?_⟩, ?_, nRel_set hx, ?_, fun i hi => ?_, ⟨h10.1, by rw [gm _ _ (by omega)]; exact h10.2.1, by rw [gv _ _ (by omega)]; exact h10.2.2.1, fun j hj => by rw [gm _ _ (by omega), gv _ _ (by omega)]; exact h10.2.2.2 j hj⟩, h11⟩
  · rw [gm 19 _ (by omega), gm 20 _ (by omega), gm 21 _ (by omega), gm 22 _ (by omega), gm 24 _ (by omega), gv 108 _ (by omega), gv 113 _ (by omega), gv 109 _ (by omega), gv 110 _ (by omega), gv 112 _ (by omega)]
    exact h2.2.1.2 p hp
  · rcases h4 with q | ⟨L, hL, q⟩
    · exact Or.inl ⟨by rw [gv _ _ (by omega)]; exact q.1, by rw [gm _ _ (by omega)]; exact q.2⟩
    · exact Or.inr ⟨L, hL, rRel_cg q (fun k => gv _ _ (by omega)) (gv _ _ (by omega)) (gm _ _ (by omega)) (fun k => gm _ _ (by omega))⟩
  · exact sInv_cg hc h5.1 (fun j hj => gv _ _ (by omega)) (fun p hp => gv _ _ (by omega))
  · exact sRel_cg (sRel_fr h5.2 (fun a j z1 z2 => gm a j (by omega))) (fun j hj => gv _ _ (by omega))
  · exact ⟨h6.1, fun i z1 z2 => by rw [gm _ _ (by omega), gm _ _ (by omega)]; exact h6.2.1 i z1 z2, fun p z1 z2 => by rw [gm _ _ (by omega), gm _ _ (by omega)]; exact h6.2.2 p z1 z2⟩
  · exact prR_cg h8 (Nat.le_refl n) (gm _ _ (by omega)) (gv _ _ (by omega)) (fun a j z1 z2 => gm _ _ (by omega)) (fun a j z1 z2 => gv _ _ (by omega))
  · exact kpR_cg hc (h9 i hi) hi (Nat.le_refl n) (Nat.le_refl c) (gm _ _ (by omega)) (gv _ _ (by omega)) (fun j => gv _ _ (by omega)) (fun a j z1 z2 => gm _ _ (by omega)) (fun p hp => gv _ _ (by omega))
/-- between two calls: one memory -/
def IV (m : hM) : Prop := ∃ n c k t, IW m m n c k t
/-- a call's answers are one, and what holds goes on holding -/
def okC (E F : hM → Option (Int32 × hM)) (m : hM) : Prop := ∃ (r : Int32) (m1 m2 : hM), E m = some (r, m1) ∧ F m1 = some (r, m2) ∧ IV m2
