/-! ===== a state in the class's cells, and as the reference holds it ===== -/
def pcS (S : Nat → Int32) (m : hM) (s p : Nat) : Prop := gI m (s + 1) p = S (3 + p) ∧ gI m (s + 2) p = S (11 + p) ∧ gI m (s + 3) p = S (19 + p) ∧ gI m (s + 4) p = S (35 + p) ∧ gI m (s + 5) p = S (43 + p) ∧ gI m (s + 6) p = S (51 + p) ∧ gI m (s + 7) p = S (59 + p) ∧ bt (gI m s 2) p = decide (S (27 + p) = 1) ∧ bt (gI m s 1) p = decide (0 ≤ (S (35 + p)).toInt)
def sRel (S : Nat → Int32) (m : hM) (s c : Nat) : Prop := c ≤ 8 ∧ gI m s 0 = S 0 ∧ gI m s 10 = S 1 ∧ gI m s 12 = S 2 ∧ (∀ p, p < c → pcS S m s p) ∧ (∀ i, i < (S 2).toNatClampNeg → gI m (s + 8) i = S (67 + i)) ∧ (∀ i, c ≤ i → i < 32 → bt (gI m s 1) i = false ∧ bt (gI m s 2) i = false) ∧ (∀ p, c ≤ p → p < 8 → gI m (s + 6) p = 0 ∧ gI m (s + 7) p = 0)
theorem sRel_fr {S : Nat → Int32} {m m' : hM} {s c : Nat} (h : sRel S m s c) (g : ∀ a j, s ≤ a → a ≤ s + 8 → gI m' a j = gI m a j) : sRel S m' s c := by
  obtain ⟨h0, h1, h2, h3, h4, h5, h6, h7⟩ := h
  refine ⟨h0, by rw [g _ _ (by omega) (by omega)]; exact h1, by rw [g _ _ (by omega) (by omega)]; exact h2, by rw [g _ _ (by omega) (by omega)]; exact h3, fun p hp => ?_, fun i hi => by rw [g _ _ (by omega) (by omega)]; exact h5 i hi, fun i q1 q2 => by rw [g _ _ (by omega) (by omega), g _ _ (by omega) (by omega)]; exact h6 i q1 q2, fun p q1 q2 => by rw [g _ _ (by omega) (by omega), g _ _ (by omega) (by omega)]; exact h7 p q1 q2⟩
  unfold pcS
  rw [g (s + 1) p (by omega) (by omega), g (s + 2) p (by omega) (by omega), g (s + 3) p (by omega) (by omega), g (s + 4) p (by omega) (by omega), g (s + 5) p (by omega) (by omega), g (s + 6) p (by omega) (by omega), g (s + 7) p (by omega) (by omega), g s 2 (by omega) (by omega), g s 1 (by omega) (by omega)]
  exact h4 p hp
theorem sRel_cg {S S' : Nat → Int32} {m : hM} {s c : Nat} (h : sRel S m s c) (g : ∀ j, j < 67 + (S 2).toNatClampNeg → S' j = S j) : sRel S' m s c := by
  obtain ⟨h0, h1, h2, h3, h4, h5, h6, h7⟩ := h
  have g2 : S' 2 = S 2 := g 2 (by omega)
  refine ⟨h0, by rw [g 0 (by omega)]; exact h1, by rw [g 1 (by omega)]; exact h2, by rw [g2]; exact h3, fun p hp => ?_, fun i hi => by rw [g2] at hi; rw [g _ (by omega)]; exact h5 i hi, h6, h7⟩
  unfold pcS
  rw [g _ (show 3 + p < _ by omega), g _ (show 11 + p < _ by omega), g _ (show 19 + p < _ by omega), g _ (show 27 + p < _ by omega), g _ (show 35 + p < _ by omega), g _ (show 43 + p < _ by omega), g _ (show 51 + p < _ by omega), g _ (show 59 + p < _ by omega)]
  exact h4 p hp
theorem pcS_o {S S' : Nat → Int32} {m m' : hM} {s p : Nat} (h : pcS S m s p) (g : ∀ a, 1 ≤ a → a ≤ 7 → gI m' (s + a) p = gI m (s + a) p) (k : S' (3 + p) = S (3 + p) ∧ S' (11 + p) = S (11 + p) ∧ S' (19 + p) = S (19 + p) ∧ S' (27 + p) = S (27 + p) ∧ S' (35 + p) = S (35 + p) ∧ S' (43 + p) = S (43 + p) ∧ S' (51 + p) = S (51 + p) ∧ S' (59 + p) = S (59 + p))
    (g1 : bt (gI m' s 1) p = bt (gI m s 1) p) (g2 : bt (gI m' s 2) p = bt (gI m s 2) p) : pcS S' m' s p := by
  unfold pcS
  rw [g 1 (by omega) (by omega), g 2 (by omega) (by omega), g 3 (by omega) (by omega), g 4 (by omega) (by omega), g 5 (by omega) (by omega), g 6 (by omega) (by omega), g 7 (by omega) (by omega), k.1, k.2.1, k.2.2.1, k.2.2.2.1, k.2.2.2.2.1, k.2.2.2.2.2.1, k.2.2.2.2.2.2.1, k.2.2.2.2.2.2.2, g1, g2]
  exact h
theorem sRel_u1 {S : Nat → Int32} {m : hM} {s c p : Nat} (h : sRel S m s c) (hp : p < c) (x : Int32) : sRel (up S (3 + p) x) (sI m (s + 1) p x) s c := by
  obtain ⟨h0, h1, h2, h3, h4, h5, h6, h7⟩ := h
  have u2 : up S (3 + p) x 2 = S 2 := up_n (by omega)
  refine ⟨h0, by rw [gI_sI, if_neg (by omega), up_n (by omega)]; exact h1, by rw [gI_sI, if_neg (by omega), up_n (by omega)]; exact h2, by rw [gI_sI, if_neg (by omega), u2]; exact h3, fun p' hp' => ?_, fun i hi => by rw [u2] at hi; rw [gI_sI, if_neg (by omega), up_n (by omega)]; exact h5 i hi, fun i q1 q2 => by rw [gI_sI, if_neg (by omega), gI_sI, if_neg (by omega)]; exact h6 i q1 q2, fun p' q1 q2 => by rw [gI_sI, if_neg (by omega), gI_sI, if_neg (by omega)]; exact h7 p' q1 q2⟩
  by_cases e : p' = p
  · subst e
    obtain ⟨k1, k2, k3, k4, k5, k6, k7, k8, k9⟩ := h4 p' hp'
    unfold pcS
    rw [gI_sI, gI_sI, gI_sI, gI_sI, gI_sI, gI_sI, gI_sI, gI_sI, gI_sI]
    refine ⟨by rw [if_pos ⟨rfl, rfl⟩, up_s], by rw [if_neg (by omega), up_n (by omega)]; exact k2, by rw [if_neg (by omega), up_n (by omega)]; exact k3, by rw [if_neg (by omega), up_n (by omega)]; exact k4, by rw [if_neg (by omega), up_n (by omega)]; exact k5, by rw [if_neg (by omega), up_n (by omega)]; exact k6, by rw [if_neg (by omega), up_n (by omega)]; exact k7, by rw [if_neg (by omega), up_n (by omega)]; exact k8, by rw [if_neg (by omega), up_n (by omega)]; exact k9⟩
  · exact pcS_o (h4 p' hp') (fun a a1 a2 => by rw [gI_sI, if_neg (by omega)]) ⟨up_n (by omega), up_n (by omega), up_n (by omega), up_n (by omega), up_n (by omega), up_n (by omega), up_n (by omega), up_n (by omega)⟩ (by rw [gI_sI, if_neg (by omega)]) (by rw [gI_sI, if_neg (by omega)])
theorem sRel_u2 {S : Nat → Int32} {m : hM} {s c p : Nat} (h : sRel S m s c) (hp : p < c) (x : Int32) : sRel (up S (11 + p) x) (sI m (s + 2) p x) s c := by
  obtain ⟨h0, h1, h2, h3, h4, h5, h6, h7⟩ := h
  have u2 : up S (11 + p) x 2 = S 2 := up_n (by omega)
  refine ⟨h0, by rw [gI_sI, if_neg (by omega), up_n (by omega)]; exact h1, by rw [gI_sI, if_neg (by omega), up_n (by omega)]; exact h2, by rw [gI_sI, if_neg (by omega), u2]; exact h3, fun p' hp' => ?_, fun i hi => by rw [u2] at hi; rw [gI_sI, if_neg (by omega), up_n (by omega)]; exact h5 i hi, fun i q1 q2 => by rw [gI_sI, if_neg (by omega), gI_sI, if_neg (by omega)]; exact h6 i q1 q2, fun p' q1 q2 => by rw [gI_sI, if_neg (by omega), gI_sI, if_neg (by omega)]; exact h7 p' q1 q2⟩
  by_cases e : p' = p
  · subst e
    obtain ⟨k1, k2, k3, k4, k5, k6, k7, k8, k9⟩ := h4 p' hp'
    unfold pcS
    rw [gI_sI, gI_sI, gI_sI, gI_sI, gI_sI, gI_sI, gI_sI, gI_sI, gI_sI]
    refine ⟨by rw [if_neg (by omega), up_n (by omega)]; exact k1, by rw [if_pos ⟨rfl, rfl⟩, up_s], by rw [if_neg (by omega), up_n (by omega)]; exact k3, by rw [if_neg (by omega), up_n (by omega)]; exact k4, by rw [if_neg (by omega), up_n (by omega)]; exact k5, by rw [if_neg (by omega), up_n (by omega)]; exact k6, by rw [if_neg (by omega), up_n (by omega)]; exact k7, by rw [if_neg (by omega), up_n (by omega)]; exact k8, by rw [if_neg (by omega), up_n (by omega)]; exact k9⟩
  · exact pcS_o (h4 p' hp') (fun a a1 a2 => by rw [gI_sI, if_neg (by omega)]) ⟨up_n (by omega), up_n (by omega), up_n (by omega), up_n (by omega), up_n (by omega), up_n (by omega), up_n (by omega), up_n (by omega)⟩ (by rw [gI_sI, if_neg (by omega)]) (by rw [gI_sI, if_neg (by omega)])
theorem sRel_u3 {S : Nat → Int32} {m : hM} {s c p : Nat} (h : sRel S m s c) (hp : p < c) (x : Int32) : sRel (up S (19 + p) x) (sI m (s + 3) p x) s c := by
  obtain ⟨h0, h1, h2, h3, h4, h5, h6, h7⟩ := h
  have u2 : up S (19 + p) x 2 = S 2 := up_n (by omega)
  refine ⟨h0, by rw [gI_sI, if_neg (by omega), up_n (by omega)]; exact h1, by rw [gI_sI, if_neg (by omega), up_n (by omega)]; exact h2, by rw [gI_sI, if_neg (by omega), u2]; exact h3, fun p' hp' => ?_, fun i hi => by rw [u2] at hi; rw [gI_sI, if_neg (by omega), up_n (by omega)]; exact h5 i hi, fun i q1 q2 => by rw [gI_sI, if_neg (by omega), gI_sI, if_neg (by omega)]; exact h6 i q1 q2, fun p' q1 q2 => by rw [gI_sI, if_neg (by omega), gI_sI, if_neg (by omega)]; exact h7 p' q1 q2⟩
  by_cases e : p' = p
  · subst e
    obtain ⟨k1, k2, k3, k4, k5, k6, k7, k8, k9⟩ := h4 p' hp'
    unfold pcS
    rw [gI_sI, gI_sI, gI_sI, gI_sI, gI_sI, gI_sI, gI_sI, gI_sI, gI_sI]
    refine ⟨by rw [if_neg (by omega), up_n (by omega)]; exact k1, by rw [if_neg (by omega), up_n (by omega)]; exact k2, by rw [if_pos ⟨rfl, rfl⟩, up_s], by rw [if_neg (by omega), up_n (by omega)]; exact k4, by rw [if_neg (by omega), up_n (by omega)]; exact k5, by rw [if_neg (by omega), up_n (by omega)]; exact k6, by rw [if_neg (by omega), up_n (by omega)]; exact k7, by rw [if_neg (by omega), up_n (by omega)]; exact k8, by rw [if_neg (by omega), up_n (by omega)]; exact k9⟩
  · exact pcS_o (h4 p' hp') (fun a a1 a2 => by rw [gI_sI, if_neg (by omega)]) ⟨up_n (by omega), up_n (by omega), up_n (by omega), up_n (by omega), up_n (by omega), up_n (by omega), up_n (by omega), up_n (by omega)⟩ (by rw [gI_sI, if_neg (by omega)]) (by rw [gI_sI, if_neg (by omega)])
theorem sRel_u5 {S : Nat → Int32} {m : hM} {s c p : Nat} (h : sRel S m s c) (hp : p < c) (x : Int32) : sRel (up S (43 + p) x) (sI m (s + 5) p x) s c := by
  obtain ⟨h0, h1, h2, h3, h4, h5, h6, h7⟩ := h
  have u2 : up S (43 + p) x 2 = S 2 := up_n (by omega)
  refine ⟨h0, by rw [gI_sI, if_neg (by omega), up_n (by omega)]; exact h1, by rw [gI_sI, if_neg (by omega), up_n (by omega)]; exact h2, by rw [gI_sI, if_neg (by omega), u2]; exact h3, fun p' hp' => ?_, fun i hi => by rw [u2] at hi; rw [gI_sI, if_neg (by omega), up_n (by omega)]; exact h5 i hi, fun i q1 q2 => by rw [gI_sI, if_neg (by omega), gI_sI, if_neg (by omega)]; exact h6 i q1 q2, fun p' q1 q2 => by rw [gI_sI, if_neg (by omega), gI_sI, if_neg (by omega)]; exact h7 p' q1 q2⟩
  by_cases e : p' = p
  · subst e
    obtain ⟨k1, k2, k3, k4, k5, k6, k7, k8, k9⟩ := h4 p' hp'
    unfold pcS
    rw [gI_sI, gI_sI, gI_sI, gI_sI, gI_sI, gI_sI, gI_sI, gI_sI, gI_sI]
    refine ⟨by rw [if_neg (by omega), up_n (by omega)]; exact k1, by rw [if_neg (by omega), up_n (by omega)]; exact k2, by rw [if_neg (by omega), up_n (by omega)]; exact k3, by rw [if_neg (by omega), up_n (by omega)]; exact k4, by rw [if_pos ⟨rfl, rfl⟩, up_s], by rw [if_neg (by omega), up_n (by omega)]; exact k6, by rw [if_neg (by omega), up_n (by omega)]; exact k7, by rw [if_neg (by omega), up_n (by omega)]; exact k8, by rw [if_neg (by omega), up_n (by omega)]; exact k9⟩
  · exact pcS_o (h4 p' hp') (fun a a1 a2 => by rw [gI_sI, if_neg (by omega)]) ⟨up_n (by omega), up_n (by omega), up_n (by omega), up_n (by omega), up_n (by omega), up_n (by omega), up_n (by omega), up_n (by omega)⟩ (by rw [gI_sI, if_neg (by omega)]) (by rw [gI_sI, if_neg (by omega)])
theorem sRel_u6 {S : Nat → Int32} {m : hM} {s c p : Nat} (h : sRel S m s c) (hp : p < c) (x : Int32) : sRel (up S (51 + p) x) (sI m (s + 6) p x) s c := by
  obtain ⟨h0, h1, h2, h3, h4, h5, h6, h7⟩ := h
  have u2 : up S (51 + p) x 2 = S 2 := up_n (by omega)
  refine ⟨h0, by rw [gI_sI, if_neg (by omega), up_n (by omega)]; exact h1, by rw [gI_sI, if_neg (by omega), up_n (by omega)]; exact h2, by rw [gI_sI, if_neg (by omega), u2]; exact h3, fun p' hp' => ?_, fun i hi => by rw [u2] at hi; rw [gI_sI, if_neg (by omega), up_n (by omega)]; exact h5 i hi, fun i q1 q2 => by rw [gI_sI, if_neg (by omega), gI_sI, if_neg (by omega)]; exact h6 i q1 q2, fun p' q1 q2 => by rw [gI_sI, if_neg (by omega), gI_sI, if_neg (by omega)]; exact h7 p' q1 q2⟩
  by_cases e : p' = p
  · subst e
    obtain ⟨k1, k2, k3, k4, k5, k6, k7, k8, k9⟩ := h4 p' hp'
    unfold pcS
    rw [gI_sI, gI_sI, gI_sI, gI_sI, gI_sI, gI_sI, gI_sI, gI_sI, gI_sI]
    refine ⟨by rw [if_neg (by omega), up_n (by omega)]; exact k1, by rw [if_neg (by omega), up_n (by omega)]; exact k2, by rw [if_neg (by omega), up_n (by omega)]; exact k3, by rw [if_neg (by omega), up_n (by omega)]; exact k4, by rw [if_neg (by omega), up_n (by omega)]; exact k5, by rw [if_pos ⟨rfl, rfl⟩, up_s], by rw [if_neg (by omega), up_n (by omega)]; exact k7, by rw [if_neg (by omega), up_n (by omega)]; exact k8, by rw [if_neg (by omega), up_n (by omega)]; exact k9⟩
  · exact pcS_o (h4 p' hp') (fun a a1 a2 => by rw [gI_sI, if_neg (by omega)]) ⟨up_n (by omega), up_n (by omega), up_n (by omega), up_n (by omega), up_n (by omega), up_n (by omega), up_n (by omega), up_n (by omega)⟩ (by rw [gI_sI, if_neg (by omega)]) (by rw [gI_sI, if_neg (by omega)])
theorem sRel_u7 {S : Nat → Int32} {m : hM} {s c p : Nat} (h : sRel S m s c) (hp : p < c) (x : Int32) : sRel (up S (59 + p) x) (sI m (s + 7) p x) s c := by
  obtain ⟨h0, h1, h2, h3, h4, h5, h6, h7⟩ := h
  have u2 : up S (59 + p) x 2 = S 2 := up_n (by omega)
  refine ⟨h0, by rw [gI_sI, if_neg (by omega), up_n (by omega)]; exact h1, by rw [gI_sI, if_neg (by omega), up_n (by omega)]; exact h2, by rw [gI_sI, if_neg (by omega), u2]; exact h3, fun p' hp' => ?_, fun i hi => by rw [u2] at hi; rw [gI_sI, if_neg (by omega), up_n (by omega)]; exact h5 i hi, fun i q1 q2 => by rw [gI_sI, if_neg (by omega), gI_sI, if_neg (by omega)]; exact h6 i q1 q2, fun p' q1 q2 => by rw [gI_sI, if_neg (by omega), gI_sI, if_neg (by omega)]; exact h7 p' q1 q2⟩
  by_cases e : p' = p
  · subst e
    obtain ⟨k1, k2, k3, k4, k5, k6, k7, k8, k9⟩ := h4 p' hp'
    unfold pcS
    rw [gI_sI, gI_sI, gI_sI, gI_sI, gI_sI, gI_sI, gI_sI, gI_sI, gI_sI]
    refine ⟨by rw [if_neg (by omega), up_n (by omega)]; exact k1, by rw [if_neg (by omega), up_n (by omega)]; exact k2, by rw [if_neg (by omega), up_n (by omega)]; exact k3, by rw [if_neg (by omega), up_n (by omega)]; exact k4, by rw [if_neg (by omega), up_n (by omega)]; exact k5, by rw [if_neg (by omega), up_n (by omega)]; exact k6, by rw [if_pos ⟨rfl, rfl⟩, up_s], by rw [if_neg (by omega), up_n (by omega)]; exact k8, by rw [if_neg (by omega), up_n (by omega)]; exact k9⟩
  · exact pcS_o (h4 p' hp') (fun a a1 a2 => by rw [gI_sI, if_neg (by omega)]) ⟨up_n (by omega), up_n (by omega), up_n (by omega), up_n (by omega), up_n (by omega), up_n (by omega), up_n (by omega), up_n (by omega)⟩ (by rw [gI_sI, if_neg (by omega)]) (by rw [gI_sI, if_neg (by omega)])
theorem sRel_pay {S : Nat → Int32} {m : hM} {s c : Nat} (h : sRel S m s c) (x : Int32) : sRel (up S 1 x) (sI m s 10 x) s c := by
  obtain ⟨h0, h1, h2, h3, h4, h5, h6, h7⟩ := h
  have u2 : up S 1 x 2 = S 2 := up_n (by omega)
  refine ⟨h0, by rw [gI_sI, if_neg (by omega), up_n (by omega)]; exact h1, by rw [gI_sI, if_pos ⟨rfl, rfl⟩, up_s], by rw [gI_sI, if_neg (by omega), u2]; exact h3, fun p' hp' => ?_, fun i hi => by rw [u2] at hi; rw [gI_sI, if_neg (by omega), up_n (by omega)]; exact h5 i hi, fun i q1 q2 => by rw [gI_sI, if_neg (by omega), gI_sI, if_neg (by omega)]; exact h6 i q1 q2, fun p' q1 q2 => by rw [gI_sI, if_neg (by omega), gI_sI, if_neg (by omega)]; exact h7 p' q1 q2⟩
  exact pcS_o (h4 p' hp') (fun a a1 a2 => by rw [gI_sI, if_neg (by omega)]) ⟨up_n (by omega), up_n (by omega), up_n (by omega), up_n (by omega), up_n (by omega), up_n (by omega), up_n (by omega), up_n (by omega)⟩ (by rw [gI_sI, if_neg (by omega)]) (by rw [gI_sI, if_neg (by omega)])
theorem sRel_now {S : Nat → Int32} {m : hM} {s c : Nat} (h : sRel S m s c) (x : Int32) : sRel (up S 0 x) (sI m s 0 x) s c := by
  obtain ⟨h0, h1, h2, h3, h4, h5, h6, h7⟩ := h
  have u2 : up S 0 x 2 = S 2 := up_n (by omega)
  refine ⟨h0, by rw [gI_sI, if_pos ⟨rfl, rfl⟩, up_s], by rw [gI_sI, if_neg (by omega), up_n (by omega)]; exact h2, by rw [gI_sI, if_neg (by omega), u2]; exact h3, fun p' hp' => ?_, fun i hi => by rw [u2] at hi; rw [gI_sI, if_neg (by omega), up_n (by omega)]; exact h5 i hi, fun i q1 q2 => by rw [gI_sI, if_neg (by omega), gI_sI, if_neg (by omega)]; exact h6 i q1 q2, fun p' q1 q2 => by rw [gI_sI, if_neg (by omega), gI_sI, if_neg (by omega)]; exact h7 p' q1 q2⟩
  exact pcS_o (h4 p' hp') (fun a a1 a2 => by rw [gI_sI, if_neg (by omega)]) ⟨up_n (by omega), up_n (by omega), up_n (by omega), up_n (by omega), up_n (by omega), up_n (by omega), up_n (by omega), up_n (by omega)⟩ (by rw [gI_sI, if_neg (by omega)]) (by rw [gI_sI, if_neg (by omega)])
theorem b_set {x : Int32} {p i : Nat} (hp : p < 32) (hi : i < 32) : bt (x ||| (1 <<< (nI p &&& 31))) i = (bt x i || decide (i = p)) := by rw [b_or, b_one hp hi]
theorem b_clr {x : Int32} {p i : Nat} (hp : p < 32) (hi : i < 32) : bt (x &&& ((1 <<< (nI p &&& 31)) ^^^ (-1))) i = (bt x i && !decide (i = p)) := by rw [b_and, b_not hi, b_one hp hi]
theorem sRel_w {S : Nat → Int32} {m : hM} {s c p : Nat} (h : sRel S m s c) (hp : p < c) (x y : Int32) (hy : ∀ i, i < 32 → bt y i = if i = p then decide (x = 1) else bt (gI m s 2) i) : sRel (up S (27 + p) x) (sI m s 2 y) s c := by
  obtain ⟨h0, h1, h2, h3, h4, h5, h6, h7⟩ := h
  have u2 : up S (27 + p) x 2 = S 2 := up_n (by omega)
  refine ⟨h0, by rw [gI_sI, if_neg (by omega), up_n (by omega)]; exact h1, by rw [gI_sI, if_neg (by omega), up_n (by omega)]; exact h2, by rw [gI_sI, if_neg (by omega), u2]; exact h3, fun p' hp' => ?_, fun i hi => by rw [u2] at hi; rw [gI_sI, if_neg (by omega), up_n (by omega)]; exact h5 i hi, fun i q1 q2 => by rw [gI_sI, if_neg (by omega), gI_sI, if_pos ⟨rfl, rfl⟩, hy i q2, if_neg (by omega)]; exact h6 i q1 q2, fun p' q1 q2 => by rw [gI_sI, if_neg (by omega), gI_sI, if_neg (by omega)]; exact h7 p' q1 q2⟩
  by_cases e : p' = p
  · subst e
    obtain ⟨k1, k2, k3, k4, k5, k6, k7, k8, k9⟩ := h4 p' hp'
    unfold pcS
    rw [gI_sI, gI_sI, gI_sI, gI_sI, gI_sI, gI_sI, gI_sI, gI_sI, gI_sI]
    refine ⟨by rw [if_neg (by omega), up_n (by omega)]; exact k1, by rw [if_neg (by omega), up_n (by omega)]; exact k2, by rw [if_neg (by omega), up_n (by omega)]; exact k3, by rw [if_neg (by omega), up_n (by omega)]; exact k4, by rw [if_neg (by omega), up_n (by omega)]; exact k5, by rw [if_neg (by omega), up_n (by omega)]; exact k6, by rw [if_neg (by omega), up_n (by omega)]; exact k7, by rw [if_pos ⟨rfl, rfl⟩, up_s, hy p' (by omega), if_pos rfl], by rw [if_neg (by omega), up_n (by omega)]; exact k9⟩
  · exact pcS_o (h4 p' hp') (fun a a1 a2 => by rw [gI_sI, if_neg (by omega)]) ⟨up_n (by omega), up_n (by omega), up_n (by omega), up_n (by omega), up_n (by omega), up_n (by omega), up_n (by omega), up_n (by omega)⟩ (by rw [gI_sI, if_neg (by omega)]) (by rw [gI_sI, if_pos ⟨rfl, rfl⟩, hy p' (by omega), if_neg e])
theorem sRel_w1 {S : Nat → Int32} {m : hM} {s c p : Nat} (h : sRel S m s c) (hp : p < c) : sRel (up S (27 + p) 1) (sI m s 2 (gI m s 2 ||| (1 <<< (nI p &&& 31)))) s c := by
  have := h.1
  refine sRel_w h hp 1 _ (fun i hi => ?_)
  rw [b_set (by omega) hi]
  by_cases e : i = p <;> simp [e]
theorem sRel_w0 {S : Nat → Int32} {m : hM} {s c p : Nat} (h : sRel S m s c) (hp : p < c) : sRel (up S (27 + p) 0) (sI m s 2 (gI m s 2 &&& ((1 <<< (nI p &&& 31)) ^^^ (-1)))) s c := by
  have := h.1
  refine sRel_w h hp 0 _ (fun i hi => ?_)
  rw [b_clr (by omega) hi]
  by_cases e : i = p <;> simp [e]
theorem sRel_d {S : Nat → Int32} {m : hM} {s c p : Nat} (h : sRel S m s c) (hp : p < c) (x y : Int32) (hy : ∀ i, i < 32 → bt y i = if i = p then decide (0 ≤ x.toInt) else bt (gI m s 1) i) : sRel (up S (35 + p) x) (sI (sI m s 1 y) (s + 4) p x) s c := by
  obtain ⟨h0, h1, h2, h3, h4, h5, h6, h7⟩ := h
  have u2 : up S (35 + p) x 2 = S 2 := up_n (by omega)
  have g : ∀ a j, ¬ (a = s ∧ j = 1) → ¬ (a = s + 4 ∧ j = p) → gI (sI (sI m s 1 y) (s + 4) p x) a j = gI m a j := fun a j q1 q2 => by rw [gI_sI, if_neg q2, gI_sI, if_neg q1]
  have g1 : gI (sI (sI m s 1 y) (s + 4) p x) s 1 = y := by rw [gI_sI, if_neg (by omega), gI_sI, if_pos ⟨rfl, rfl⟩]
  refine ⟨h0, by rw [g _ _ (by omega) (by omega), up_n (by omega)]; exact h1, by rw [g _ _ (by omega) (by omega), up_n (by omega)]; exact h2, by rw [g _ _ (by omega) (by omega), u2]; exact h3, fun p' hp' => ?_, fun i hi => by rw [u2] at hi; rw [g _ _ (by omega) (by omega), up_n (by omega)]; exact h5 i hi, fun i q1 q2 => by rw [g1, g _ _ (by omega) (by omega), hy i q2, if_neg (by omega)]; exact h6 i q1 q2, fun p' q1 q2 => by rw [g _ _ (by omega) (by omega), g _ _ (by omega) (by omega)]; exact h7 p' q1 q2⟩
  by_cases e : p' = p
  · subst e
    obtain ⟨k1, k2, k3, k4, k5, k6, k7, k8, k9⟩ := h4 p' hp'
    unfold pcS
    refine ⟨by rw [g _ _ (by omega) (by omega), up_n (by omega)]; exact k1, by rw [g _ _ (by omega) (by omega), up_n (by omega)]; exact k2, by rw [g _ _ (by omega) (by omega), up_n (by omega)]; exact k3, by rw [gI_sI, if_pos ⟨rfl, rfl⟩, up_s], by rw [g _ _ (by omega) (by omega), up_n (by omega)]; exact k5, by rw [g _ _ (by omega) (by omega), up_n (by omega)]; exact k6, by rw [g _ _ (by omega) (by omega), up_n (by omega)]; exact k7, by rw [g _ _ (by omega) (by omega), up_n (by omega)]; exact k8, by rw [g1, up_s, hy p' (by omega), if_pos rfl]⟩
  · exact pcS_o (h4 p' hp') (fun a a1 a2 => g _ _ (by omega) (by omega)) ⟨up_n (by omega), up_n (by omega), up_n (by omega), up_n (by omega), up_n (by omega), up_n (by omega), up_n (by omega), up_n (by omega)⟩ (by rw [g1, hy p' (by omega), if_neg e]) (by rw [g _ _ (by omega) (by omega)])
theorem sRel_d1 {S : Nat → Int32} {m : hM} {s c p : Nat} (h : sRel S m s c) (hp : p < c) {x : Int32} (hx : 0 ≤ x.toInt) : sRel (up S (35 + p) x) (sI (sI m s 1 (gI m s 1 ||| (1 <<< (nI p &&& 31)))) (s + 4) p x) s c := by
  have := h.1
  refine sRel_d h hp x _ (fun i hi => ?_)
  rw [b_set (by omega) hi]
  by_cases e : i = p <;> simp [e, hx]
/-- one more is booked -/
theorem sRel_b {S : Nat → Int32} {m : hM} {s c k : Nat} (h : sRel S m s c) (hk : k < 60) (hS : S 2 = nI k) (x : Int32) : sRel (up (up S (67 + k) x) 2 (nI (k + 1))) (sI (sI m (s + 8) k x) s 12 (nI (k + 1))) s c := by
  obtain ⟨h0, h1, h2, h3, h4, h5, h6, h7⟩ := h
  have g : ∀ a j, ¬ (a = s ∧ j = 12) → ¬ (a = s + 8 ∧ j = k) → gI (sI (sI m (s + 8) k x) s 12 (nI (k + 1))) a j = gI m a j := fun a j q1 q2 => by rw [gI_sI, if_neg q1, gI_sI, if_neg q2]
  have u : ∀ j, j ≠ 2 → j ≠ 67 + k → up (up S (67 + k) x) 2 (nI (k + 1)) j = S j := fun j q1 q2 => by rw [up_n q1, up_n q2]
  have u2 : up (up S (67 + k) x) 2 (nI (k + 1)) 2 = nI (k + 1) := up_s
  refine ⟨h0, by rw [g _ _ (by omega) (by omega), u _ (by omega) (by omega)]; exact h1, by rw [g _ _ (by omega) (by omega), u _ (by omega) (by omega)]; exact h2, by rw [gI_sI, if_pos ⟨rfl, rfl⟩, u2], fun p' hp' => ?_, fun i hi => ?_, fun i q1 q2 => by rw [g _ _ (by omega) (by omega), g _ _ (by omega) (by omega)]; exact h6 i q1 q2, fun p' q1 q2 => by rw [g _ _ (by omega) (by omega), g _ _ (by omega) (by omega)]; exact h7 p' q1 q2⟩
  · exact pcS_o (h4 p' hp') (fun a a1 a2 => g _ _ (by omega) (by omega)) ⟨u _ (by omega) (by omega), u _ (by omega) (by omega), u _ (by omega) (by omega), u _ (by omega) (by omega), u _ (by omega) (by omega), u _ (by omega) (by omega), u _ (by omega) (by omega), u _ (by omega) (by omega)⟩ (by rw [g _ _ (by omega) (by omega)]) (by rw [g _ _ (by omega) (by omega)])
  · rw [u2, nI_clamp (show k + 1 < 2 ^ 31 by omega)] at hi
    by_cases e : i = k
    · subst e
      rw [gI_sI, if_neg (by omega), gI_sI, if_pos ⟨rfl, rfl⟩, up_n (by omega), up_s]
    · rw [g _ _ (by omega) (by omega), u _ (by omega) (by omega)]
      exact h5 i (by rw [hS, nI_clamp (show k < 2 ^ 31 by omega)]; omega)
