/-! ===== the rule's reading: the kept rule on both sides ===== -/
theorem dpt_lo {v v' : hM} {L : Nat} (g : ∀ k, k < L → gI v' 116 k = gI v 116 k) : ∀ k, k ≤ L → dpt v' k = dpt v k
  | 0, _ => rfl
  | k + 1, h => by rw [dpt, dpt, g k (by omega), dpt_lo g k (by omega)]
theorem rlR_lo {v v' m m' : hM} (h : rlR v m) (g1 : ∀ k, k < 48 → gI v' 116 k = gI v 116 k) (g2 : gI v' 117 0 = gI v 117 0) (f1 : gI m' 25 1 = gI m 25 1) (f2 : ∀ j, gI m' 26 j = gI m 26 j) : rlR v' m' := by
  rcases h with q | ⟨L, hL, q⟩
  · exact Or.inl ⟨by rw [g2]; exact q.1, by rw [f1]; exact q.2⟩
  · have h40 := q.1
    have e := dpt_lo g1
    exact Or.inr ⟨L, hL, h40, by rw [g2]; exact q.2.1, by rw [f1]; exact q.2.2.1, fun k hk => by rw [g1 k (by omega), f2, e k (by omega)]; exact q.2.2.2.1 k hk, fun z => by rw [e L (by omega)]; exact q.2.2.2.2 z⟩
theorem cdR_get : ∀ (a b : List Nat), cdR a b → a.length = b.length ∧ ∀ i, i < a.length → cd1 (a.getD i 0) (b.getD i 0)
  | [], [], _ => ⟨rfl, fun i hi => absurd hi (Nat.not_lt_zero _)⟩
  | [], _ :: _, h => h.elim
  | _ :: _, [], h => h.elim
  | x :: a, y :: b, h => by
    obtain ⟨e, g⟩ := cdR_get a b h.2
    refine ⟨by rw [List.length_cons, List.length_cons, e], fun i hi => ?_⟩
    cases i with
    | zero => exact h.1
    | succ i => exact g i (by rw [List.length_cons] at hi; omega)
def dk (x d : Nat) : Prop := x < 2000 ∨ ((x = 2033 ∨ x = 2126) ∧ 1 ≤ d) ∨ (¬ (x = 2033 ∨ x = 2126) ∧ 2 ≤ d)
theorem dp_dpt {v : hM} : ∀ (C : List Nat), (∀ k, k < C.length → gI v 116 k = nI (C.getD (C.length - 1 - k) 0)) → (∀ k, k < C.length → C.getD k 0 < 3000) → ∀ d, dp C = some d → dpt v C.length = d ∧ ∀ k, k < C.length → dk (C.getD (C.length - 1 - k) 0) (dpt v k)
  | [], _, _, d, h => by
    cases h
    exact ⟨rfl, fun k hk => absurd hk (Nat.not_lt_zero _)⟩
  | x :: r, g, b, d, h => by
    have g' : ∀ k, k < r.length → gI v 116 k = nI (r.getD (r.length - 1 - k) 0) := fun k hk => by
      have := g k (by rw [List.length_cons]; omega)
      rw [List.length_cons, show r.length + 1 - 1 - k = r.length - 1 - k + 1 by omega] at this
      exact this
    have b' : ∀ k, k < r.length → r.getD k 0 < 3000 := fun k hk => b (k + 1) (by rw [List.length_cons]; omega)
    have gx : gI v 116 r.length = nI x := by
      have := g r.length (by rw [List.length_cons]; omega)
      rw [List.length_cons, show r.length + 1 - 1 - r.length = 0 by omega] at this
      exact this
    have bx : x < 3000 := b 0 (by rw [List.length_cons]; omega)
    rw [dp] at h
    cases hr : dp r with
    | none => rw [hr] at h; cases h
    | some e =>
      rw [hr] at h
      simp only at h
      obtain ⟨i1, i2⟩ := dp_dpt r g' b' e hr
      have e1 : (gI v 116 r.length < 2000) ↔ x < 2000 := by
        rw [gx]
        constructor
        · intro z
          by_cases q : x < 2000
          · exact q
          · exact absurd z (nI_nlt (b := 2000) (by omega) (by omega))
        · exact fun z => nI_lt (b := 2000) z (by omega)
      have e2 : (gI v 116 r.length = 2033 ∨ gI v 116 r.length = 2126) ↔ (x = 2033 ∨ x = 2126) := by
        rw [gx]
        exact or_congr (nI_eq (b := 2033) (by omega) (by omega)) (nI_eq (b := 2126) (by omega) (by omega))
      have key : dpt v (r.length + 1) = d ∧ dk x (dpt v r.length) := by
        rw [dpt, i1]
        simp only [e1, e2]
        unfold dk
        by_cases c1 : x < 2000
        · rw [if_pos c1] at h ⊢
          cases h
          exact ⟨rfl, Or.inl c1⟩
        · rw [if_neg c1] at h ⊢
          by_cases c2 : x = 2033 ∨ x = 2126
          · rw [if_pos c2] at h ⊢
            by_cases c3 : 1 ≤ e
            · rw [if_pos c3] at h
              cases h
              exact ⟨rfl, Or.inr (Or.inl ⟨c2, c3⟩)⟩
            · rw [if_neg c3] at h; cases h
          · rw [if_neg c2] at h ⊢
            by_cases c3 : 2 ≤ e
            · rw [if_pos c3] at h
              cases h
              exact ⟨rfl, Or.inr (Or.inr ⟨c2, c3⟩)⟩
            · rw [if_neg c3] at h; cases h
      refine ⟨by rw [List.length_cons]; exact key.1, fun k hk => ?_⟩
      rw [List.length_cons] at hk ⊢
      by_cases ek : k = r.length
      · subst ek
        rw [show r.length + 1 - 1 - r.length = 0 by omega]
        exact key.2
      · rw [show r.length + 1 - 1 - k = r.length - 1 - k + 1 by omega]
        exact i2 k (by omega)
theorem lett_C : ∀ i, i < 12 → lettC.getD i 0 = lett i ∧ lett i < 256 := by decide
theorem cd_c {x y d : Nat} (h : cd1 x y) (g : dk x d) : cRel (nI x) (nI y) d := by
  unfold dk at g
  rcases h with ⟨rfl, h1⟩ | ⟨i, h1, rfl, rfl⟩ | ⟨rfl, h1⟩
  · refine Or.inl ⟨rfl, ?_, ?_⟩
    · rw [nI_toInt (by omega)]; omega
    · rw [nI_toInt (by omega)]; omega
  · exact Or.inr (Or.inl ⟨i, h1, rfl, by rw [(lett_C i h1).1]⟩)
  · rcases h1 with rfl | rfl | ⟨c, h1, rfl⟩
    · exact Or.inr (Or.inr (Or.inl ⟨rfl, Or.inl rfl, by omega⟩))
    · exact Or.inr (Or.inr (Or.inl ⟨rfl, Or.inr rfl, by omega⟩))
    · unfold bnS at h1
      refine Or.inr (Or.inr (Or.inr ⟨rfl, ?_, by omega⟩))
      unfold isBi
      rcases h1 with rfl | rfl | rfl | rfl | rfl | rfl | rfl | rfl
      · exact Or.inr (Or.inr (Or.inr (Or.inr (Or.inr (Or.inr (Or.inr rfl))))))
      · exact Or.inl rfl
      · exact Or.inr (Or.inr (Or.inr (Or.inr (Or.inl rfl))))
      · exact Or.inr (Or.inr (Or.inr (Or.inr (Or.inr (Or.inr (Or.inl rfl))))))
      · exact Or.inr (Or.inr (Or.inr (Or.inr (Or.inr (Or.inl rfl)))))
      · exact Or.inr (Or.inr (Or.inl rfl))
      · exact Or.inr (Or.inr (Or.inr (Or.inl rfl)))
      · exact Or.inr (Or.inl rfl)
theorem cd_lt {x y : Nat} (h : cd1 x y) : x < 3000 ∧ y < 3000 := by
  rcases h with ⟨rfl, h1⟩ | ⟨i, h1, rfl, rfl⟩ | ⟨rfl, h1⟩
  · omega
  · have := lett_C i h1; omega
  · rcases h1 with rfl | rfl | ⟨c, h1, rfl⟩
    · omega
    · omega
    · unfold bnS at h1; omega
/-- the two codes, laid in the cells, are the kept rule -/
theorem rl_new {v m : hM} {A B : List Nat} (h : cdR A B) (hd : dp A = some 1) (hl : A.length ≤ 40) (g1 : ∀ k, k < A.length → gI v 116 k = nI (A.getD (A.length - 1 - k) 0)) (g2 : gI v 117 0 = nI A.length) (f1 : gI m 25 1 = nI A.length) (f2 : ∀ k, k < B.length → gI m 26 k = nI (B.getD (B.length - 1 - k) 0)) : rlR v m := by
  obtain ⟨e, q⟩ := cdR_get A B h
  have hp : 0 < A.length := by
    cases A with
    | nil => cases hd
    | cons x r => rw [List.length_cons]; omega
  obtain ⟨i1, i2⟩ := dp_dpt A g1 (fun k hk => (cd_lt (q k hk)).1) 1 hd
  refine Or.inr ⟨A.length, hp, hl, g2, f1, fun k hk => ?_, fun _ => i1⟩
  rw [g1 k hk, f2 k (by omega), ← e]
  exact cd_c (q _ (by omega)) (i2 k hk)
/-- the reference copies its code down -/
theorem rx_rule130 (fu : Nat) : ∀ (t k : Nat) (m : hM), k ≤ 48 → 48 - k < t → ∃ m', f_X11_rule_130 fu t (nI k) m = some (0, m') ∧ (∀ j, k ≤ j → j < 48 → gI m' 116 j = gI m 116 (48 + j)) ∧ fr (fun a j => a = 116 ∧ k ≤ j ∧ j < 48) m m' := by
  intro t
  induction t with
  | zero => intro k m h1 h2; exact absurd h2 (Nat.not_lt_zero _)
  | succ t ih =>
    intro k m hk ht
    rw [f_X11_rule_130_s]
    unfold s_X11_rule_130
    by_cases q : nI 48 ≤ nI k
    · rw [if_pos (show (48 : Int32) ≤ nI k from q)]
      rw [nI_leI (by omega) (by omega)] at q
      exact ⟨m, rfl, fun j h1 h2 => by omega, fr.rf⟩
    · rw [if_neg (show ¬ (48 : Int32) ≤ nI k from q)]
      rw [nI_leI (by omega) (by omega)] at q
      rw [show (48 : Int32) = nI 48 from rfl, nI_add, if_pos (hIn_lt (show 48 + k < 96 by omega) (by omega)), if_pos (hIn_lt (show k < 96 by omega) (by omega)), nI_clamp (show k < 2 ^ 31 by omega), nI_clamp (show 48 + k < 2 ^ 31 by omega), hLet_n, hLet_n, nI_1]
      obtain ⟨m', s1, s2, s3⟩ := ih (k + 1) (sI m 116 k (gI m 116 (48 + k))) (by omega) (by omega)
      refine ⟨m', s1, fun j h1 h2 => ?_, ?_⟩
      · by_cases ej : j = k
        · subst ej
          rw [s3.1 116 j (by omega), gI_ss]
        · rw [s2 j (by omega) h2, gI_sn (by omega)]
      · exact (fr.rf.si ⟨rfl, by omega, by omega⟩).tr (s3.mono (fun a j z => ⟨z.1, by omega, z.2.2⟩))
def RC (a j : Nat) : Prop := (a = 0 ∧ j = 13) ∨ (a = 25 ∧ j = 1) ∨ a = 26 ∨ (28 ≤ a ∧ a ≤ 31) ∨ (a = 96 ∧ (j = 0 ∨ j = 29 ∨ j = 30 ∨ j = 31 ∨ j = 32)) ∨ a = 116 ∨ a = 117
theorem IW.rl {m m' : hM} {n c k t : Nat} (h : IW m m n c k t) (f : fr RC m m') (hr : rlR m' m') (e1 : gI m' 0 13 = 0) (e2 : gI m' 96 29 = 0) : IV m' := by
  obtain ⟨h1, h2, h3, h4, h5, h6, h7, h8, h9, h10, h11⟩ := h
  have hc := h2.1.1
  have g := f.1
  exact ⟨n, c, k, 0, erR_cg h1 (fun a j z => g _ _ (by unfold erV at z; unfold RC; omega)) (fun a j z1 z2 => g _ _ (by unfold RC; omega)), pcR_cg h2 (fun a j z => g _ _ (by unfold RC; omega)) (fun a j z1 z2 => g _ _ (by unfold RC; omega)), flR_cg h3 (g _ _ (by unfold RC; omega)) (g _ _ (by unfold RC; omega)) (g _ _ (by unfold RC; omega)), hr, stR_cg hc h5 (fun j hj => g _ _ (by unfold RC; omega)) (fun p hp => g _ _ (by unfold RC; omega)) (fun a j z1 z2 => g _ _ (by unfold RC; omega)), jk_cg h6 (fun a j z1 z2 => g _ _ (by unfold RC; omega)), nRel_cg h7 (g _ _ (by unfold RC; omega)) (g _ _ (by unfold RC; omega)) (fun j => f.2.1 _ _) (fun j => f.2.1 _ _), prR_cg h8 (Nat.le_refl n) (g _ _ (by unfold RC; omega)) (g _ _ (by unfold RC; omega)) (fun a j z1 z2 => g _ _ (by unfold RC; omega)) (fun a j z1 z2 => g _ _ (by unfold RC; omega)), fun i hi => kpR_cg hc (h9 i hi) hi (Nat.le_refl n) (Nat.le_refl c) (g _ _ (by unfold RC; omega)) (g _ _ (by unfold RC; omega)) (fun j => g _ _ (by unfold RC; omega)) (fun a j z1 z2 => g _ _ (by unfold RC; omega)) (fun p hp => g _ _ (by unfold RC; omega)), ⟨by omega, e1, e2, fun j hj => absurd hj (Nat.not_lt_zero _)⟩, rfOk_cg h11 (fun j => f.2.2 _ _)⟩
/-- where the class stands once the place is known -/
theorem rd_at {sg : Nat → Nat} {cnt to p : Nat} {a a' : AS} {res : Int32} {m' : hM} (h : rdR sg cnt to 0 a res m') (hp : p ≤ to) (hr : rA sg p 0 a = some a') (hn : p < to → stp a' (sg p) = none) :
    (p < to ∧ res = nI p) ∨ (p = to ∧ (((40 < cnt ∨ dueA a' = true ∨ 1 < dptA a') ∧ res = nI to) ∨ (cnt ≤ 40 ∧ dueA a' = false ∧ dptA a' ≤ 1 ∧ res = -1 ∧ gI m' 28 1 = nI (clo 0 a'.2.2.2.1 a'.2.2.2.2).2.length ∧ rvR 29 m' (clo 0 a'.2.2.2.1 a'.2.2.2.2).2))) := by
  rcases h with ⟨k, b, h1, h2, h3, h4⟩ | ⟨b, h2, h3⟩
  · rw [Nat.zero_add] at h1 h4
    have i1 := rA_cut h2 h3 hr
    have i2 := rA_cut hr (by rw [Nat.zero_add]; exact hn (by omega)) h2
    exact Or.inl ⟨by omega, by rw [h4, show k = p by omega]⟩
  · rw [Nat.sub_zero] at h2
    by_cases c : p < to
    · have := rA_cut hr (by rw [Nat.zero_add]; exact hn c) h2
      omega
    · have e : p = to := by omega
      subst e
      rw [hr] at h2
      cases h2
      exact Or.inr ⟨rfl, h3⟩
