/-! ===== the parts of what holds, each by the cells that it reads ===== -/
def erV (a j : Nat) : Prop := (98 ≤ a ∧ a ≤ 107) ∨ (a = 96 ∧ (j = 3 ∨ j = 14 ∨ j = 15))
theorem opn_cgE {v m : hM} (g : ∀ a j, erV a j → gI m a j = gI v a j) (o : Nat) (x : Int32) : opn m o x = opn v o x := opn_congr (fun j hj => g _ _ (by unfold erV; omega)) (fun d hd => g _ _ (by unfold erV; omega)) x
theorem erR_cg {v v' m m' : hM} {n : Nat} (h : erR v m n) (g : ∀ a j, erV a j → gI v' a j = gI v a j) (f : ∀ a j, 1 ≤ a → a ≤ 17 → gI m' a j = gI m a j) : erR v' m' n := by
  obtain ⟨h, h'⟩ := h
  have e : ∀ a j, 98 ≤ a → a ≤ 107 → gI v' a j = gI v a j := fun a j h1 h2 => g a j (by unfold erV; omega)
  refine ⟨⟨h.1, by rw [g _ _ (by unfold erV; omega)]; exact h.2.1, fun o ho => ?_, fun a b ha hb => ?_, fun a ha => ?_, ?_, ?_⟩, ?_⟩
  · have := h.2.2.1 o ho
    unfold oRng at this ⊢
    rw [e 98 o (by omega) (by omega), e 99 o (by omega) (by omega), e 100 o (by omega) (by omega), e 101 o (by omega) (by omega), e 102 o (by omega) (by omega), e 103 o (by omega) (by omega), e 104 o (by omega) (by omega), e 105 o (by omega) (by omega)]
    refine ⟨this.1, this.2.1, this.2.2.1, this.2.2.2.1, this.2.2.2.2.1, this.2.2.2.2.2.1, this.2.2.2.2.2.2.1, this.2.2.2.2.2.2.2.1, fun d hd => ?_⟩
    rw [e 106 _ (by omega) (by omega)]; exact this.2.2.2.2.2.2.2.2 d hd
  · rw [e 107 _ (by omega) (by omega), e 107 _ (by omega) (by omega)]; exact h.2.2.2.1 a b ha hb
  · rw [e 107 _ (by omega) (by omega)]; exact h.2.2.2.2.1 a ha
  · rw [g _ _ (by unfold erV; omega)]; exact h.2.2.2.2.2.1
  · rw [g _ _ (by unfold erV; omega)]; exact h.2.2.2.2.2.2
  · have hf := eRel_fr h' h.1 f
    refine ⟨hf.1, by rw [g _ _ (by unfold erV; omega)]; exact hf.2.1, by rw [g _ _ (by unfold erV; omega)]; exact hf.2.2.1, fun o ho => ?_, hf.2.2.2.2.1, fun a b ha hb => by rw [e _ _ (by omega) (by omega)]; exact hf.2.2.2.2.2.1 a b ha hb, hf.2.2.2.2.2.2⟩
    obtain ⟨a1, a2, a3⟩ := hf.2.2.2.1 o ho
    refine ⟨⟨fun j hj => ?_, fun d hd => ?_⟩, wRel_cg a2 (fun x => opn_cgE g o x), aRel_cg a3 (fun x => opn_cgE g o x)⟩
    · rw [e _ _ (by omega) (by omega)]; exact a1.1 j hj
    · rw [e _ _ (by omega) (by omega)]; exact a1.2 d hd
theorem pcR_cg {v v' m m' : hM} {n c : Nat} (h : pcR v m n c) (g : ∀ a j, (108 ≤ a ∧ a ≤ 113) ∨ (a = 96 ∧ j = 16) → gI v' a j = gI v a j) (f : ∀ a j, 18 ≤ a → a ≤ 24 → gI m' a j = gI m a j) : pcR v' m' n c := by
  refine ⟨⟨h.1.1, by rw [g _ _ (by omega)]; exact h.1.2.1, fun p hp => ?_⟩, ⟨by rw [f _ _ (by omega) (by omega)]; exact h.2.1.1, fun p hp => ?_⟩, fun p hp => ?_⟩
  · rw [g 108 p (by omega), g 109 p (by omega), g 110 p (by omega), g 111 p (by omega), g 112 p (by omega), g 113 p (by omega)]; exact h.1.2.2 p hp
  · rw [f 19 p (by omega) (by omega), f 20 p (by omega) (by omega), f 21 p (by omega) (by omega), f 22 p (by omega) (by omega), f 24 p (by omega) (by omega), g 108 p (by omega), g 109 p (by omega), g 110 p (by omega), g 112 p (by omega), g 113 p (by omega)]; exact h.2.1.2 p hp
  · rw [f 23 p (by omega) (by omega), g 111 p (by omega)]; exact h.2.2 p hp
theorem flR_cg {v v' m m' : hM} (h : flR v m) (g : gI v' 96 37 = gI v 96 37) (f3 : gI m' 32 3 = gI m 32 3) (f4 : gI m' 32 4 = gI m 32 4) : flR v' m' := by
  unfold flR; rw [g, f3, f4]; exact h
theorem rlR_cg {v v' m m' : hM} (h : rlR v m) (g : ∀ a j, a = 116 ∨ a = 117 → gI v' a j = gI v a j) (f1 : gI m' 25 1 = gI m 25 1) (f2 : ∀ j, gI m' 26 j = gI m 26 j) : rlR v' m' := by
  rcases h with q | ⟨L, hL, q⟩
  · exact Or.inl ⟨by rw [g _ _ (by omega)]; exact q.1, by rw [f1]; exact q.2⟩
  · exact Or.inr ⟨L, hL, rRel_cg q (fun k => g _ _ (by omega)) (g _ _ (by omega)) f1 f2⟩
theorem stR_cg {v v' m m' : hM} {n c : Nat} (hc : c ≤ 8) (h : stR v m n c) (g : ∀ j, j < 127 → gI v' 114 j = gI v 114 j) (g2 : ∀ p, p < c → gI v' 112 p = gI v 112 p) (f : ∀ a j, 46 ≤ a → a ≤ 54 → gI m' a j = gI m a j) : stR v' m' n c := by
  refine ⟨sInv_cg hc h.1 (fun j hj => g j (by omega)) g2, ?_⟩
  obtain ⟨kk, hk, hke⟩ := wr_num h.1
  refine sRel_cg (sRel_fr h.2 (fun a j z1 z2 => f a j (by omega) (by omega))) (fun j hj => g j ?_)
  rw [hke, nI_clamp (show kk < 2 ^ 31 by omega)] at hj; omega
theorem jk_cg {m m' : hM} {c : Nat} (h : jk m 55 c) (f : ∀ a j, 55 ≤ a → a ≤ 63 → gI m' a j = gI m a j) : jk m' 55 c := ⟨h.1, fun i z1 z2 => by rw [f _ _ (by omega) (by omega), f _ _ (by omega) (by omega)]; exact h.2.1 i z1 z2, fun p z1 z2 => by rw [f _ _ (by omega) (by omega), f _ _ (by omega) (by omega)]; exact h.2.2 p z1 z2⟩
theorem txR_cg {v v' m m' : hM} {t : Nat} (h : txR v m t) (g1 : gI v' 96 29 = gI v 96 29) (g2 : ∀ j, gI v' 119 j = gI v 119 j) (f1 : gI m' 0 13 = gI m 0 13) (f2 : ∀ j, gI m' 68 j = gI m 68 j) : txR v' m' t := ⟨h.1, by rw [f1]; exact h.2.1, by rw [g1]; exact h.2.2.1, fun j hj => by rw [f2, g2]; exact h.2.2.2 j hj⟩
theorem rfOk_cg {v v' : hM} (h : rfOk v) (g : ∀ j, gR v' 96 j = gR v 96 j) : rfOk v' := by
  unfold rfOk; rw [g, g, g, g]; exact h
/-- the state is another, the rest stays -/
theorem IW.st {v v' m m' : hM} {n c k t : Nat} (h : IW v m n c k t) (g : ∀ a j, rI a j → a ≠ 114 → gI v' a j = gI v a j) (gl : ∀ j, gL v' 97 j = gL v 97 j) (gr : ∀ j, gR v' 96 j = gR v 96 j) (f : ∀ a j, cI a j ∨ (55 ≤ a ∧ a ≤ 63) → ¬ (46 ≤ a ∧ a ≤ 54) → gI m' a j = gI m a j) (fl : ∀ j, gL m' 67 j = gL m 67 j) (s : stR v' m' n c) : IW v' m' n c k t := by
  obtain ⟨h1, h2, h3, h4, h5, h6, h7, h8, h9, h10, h11⟩ := h
  have hc := h2.1.1
  refine ⟨erR_cg h1 (fun a j z => g _ _ (by unfold erV at z; unfold rI; omega) (by unfold erV at z; omega)) (fun a j z1 z2 => f _ _ (by unfold cI; omega) (by omega)), pcR_cg h2 (fun a j z => g _ _ (by unfold rI; omega) (by omega)) (fun a j z1 z2 => f _ _ (by unfold cI; omega) (by omega)), flR_cg h3 (g _ _ (by unfold rI; omega) (by omega)) (f _ _ (by unfold cI; omega) (by omega)) (f _ _ (by unfold cI; omega) (by omega)), rlR_cg h4 (fun a j z => g _ _ (by unfold rI; omega) (by omega)) (f _ _ (by unfold cI; omega) (by omega)) (fun j => f _ _ (by unfold cI; omega) (by omega)), s, jk_cg h6 (fun a j z1 z2 => f _ _ (by omega) (by omega)), nRel_cg h7 (f _ _ (by unfold cI; omega) (by omega)) (g _ _ (by unfold rI; omega) (by omega)) fl gl, prR_cg h8 (Nat.le_refl n) (f _ _ (by unfold cI; omega) (by omega)) (g _ _ (by unfold rI; omega) (by omega)) (fun a j z1 z2 => f _ _ (by unfold cI; omega) (by omega)) (fun a j z1 z2 => g _ _ (by unfold rI; omega) (by omega)), fun i hi => kpR_cg hc (h9 i hi) hi (Nat.le_refl n) (Nat.le_refl c) (f _ _ (by unfold cI; omega) (by omega)) (g _ _ (by unfold rI; omega) (by omega)) (fun j => g _ _ (by unfold rI; omega) (by omega)) (fun a j z1 z2 => f _ _ (by unfold cI; omega) (by omega)) (fun p hp => g _ _ (by unfold rI; omega) (by omega)), txR_cg h10 (g _ _ (by unfold rI; omega) (by omega)) (fun j => g _ _ (by unfold rI; omega) (by omega)) (f _ _ (by unfold cI; omega) (by omega)) (fun j => f _ _ (by unfold cI; omega) (by omega)), rfOk_cg h11 gr⟩
/-- a call whose state both sides hold as S: class side in m1, reference side in m2 -/
theorem IW.sc {m m1 m2 : hM} {n c k t : Nat} (h : IW m m n c k t) {S : Nat → Int32} (hI : sInv m S n c) (f : fr (PC 46) m m1) (hR : sRel S m1 46 c) {P : Nat → Nat → Prop} (g : fr P m1 m2) (hP : ∀ a j, P a j → 96 ≤ a ∧ (rI a j → a = 114)) (hS : rS S m2) : IV m2 := by
  have hc := h.2.1.1.1
  have g1 : ∀ a j, a ≤ 95 → gI m2 a j = gI m1 a j := fun a j z => g.1 a j (fun y => by have := (hP a j y).1; omega)
  have g2 : ∀ a j, rI a j → a ≠ 114 → gI m2 a j = gI m a j := fun a j z1 z2 => by
    rw [g.1 a j (fun y => z2 ((hP a j y).2 z1)), f.1 a j (by unfold rI at z1; unfold PC; omega)]
  refine ⟨n, c, k, t, h.st g2 (fun j => (g.2.1 _ _).trans (f.2.1 _ _)) (fun j => (g.2.2 _ _).trans (f.2.2 _ _)) (fun a j z1 z2 => ?_) (fun j => (g.2.1 _ _).trans (f.2.1 _ _)) ⟨?_, ?_⟩⟩
  · have : a ≤ 95 := by unfold cI at z1; omega
    rw [g1 a j this, f.1 a j (by unfold cI at z1; unfold PC; omega)]
  · exact sInv_cg hc hI (fun j hj => hS j (by omega)) (fun p hp => g2 112 p (by unfold rI; omega) (by omega))
  · obtain ⟨kk, hk, hke⟩ := wr_num hI
    refine sRel_cg (sRel_fr hR (fun a j z1 z2 => g1 a j (by omega))) (fun j hj => hS j ?_)
    rw [hke, nI_clamp (show kk < 2 ^ 31 by omega)] at hj; omega
/-- a question: nothing but scratch and perhaps the row is another -/
theorem IW.qu {m m1 m2 : hM} {n c k t : Nat} (h : IW m m n c k t) (f : eqC m m1) (fR : ∀ a j, 96 ≤ a → gI m1 a j = gI m a j) (fl : ∀ a j, gL m1 a j = gL m a j) (fr' : ∀ a j, gR m1 a j = gR m a j) (j : jk m1 55 c) (g : eqR m1 m2) (g1 : ∀ a j, a ≤ 95 → gI m2 a j = gI m1 a j) (g2 : ∀ j, gL m2 67 j = gL m1 67 j) : IV m2 := by
  refine ⟨n, c, k, t, h.cg ?_ ?_ (jk_cg j (fun a j z1 z2 => g1 a j (by omega)))⟩
  · refine ⟨fun a j z => (g.1 a j z).trans (fR a j (by unfold rI at z; omega)), fun j => (g.2.1 j).trans (fl _ _), fun z => g.2.2 ?_⟩
    unfold rfOk at z ⊢; rw [fr', fr', fr', fr']; exact z
  · exact ⟨fun a j z => (g1 a j (by unfold cI at z; omega)).trans (f.1 a j z), fun j => (g2 j).trans (f.2 j)⟩
theorem eqC_pc {m m1 : hM} (f : fr (PC 55) m m1) : eqC m m1 := ⟨fun a j z => f.1 a j (by unfold cI at z; unfold PC; omega), fun j => f.2.1 _ _⟩
theorem eqR_ps {m m1 : hM} {P : Nat → Nat → Prop} (f : fr P m m1) (hP : ∀ a j, P a j → ¬ rI a j) : eqR m m1 := ⟨fun a j z => f.1 a j (fun y => hP a j y z), fun j => f.2.1 _ _, fun z => rfOk_cg z (fun j => f.2.2 _ _)⟩
