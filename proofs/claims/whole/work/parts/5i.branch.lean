/-! ===== the rows of Ways: branch ===== -/
def oth (o k : Nat) : Nat := if k < o then k else k + 1
def othN (o k : Nat) : Nat := if k ≤ o then k else k - 1
theorem cx_branch {fu : Nat} (hfu : 100 ≤ fu) {m : hM} {n i C oi : Nat} {lev : Int32} (hn : n ≤ 6) (he : gI m 1 4 = nI n) (hi : i < C) (ho : oi < n) (h36 : gI m 36 i = nI oi) (h34 : gI m 34 4 = nI C) (hC : C + (n - 1) ≤ 156) :
    ∃ m', f_X9_branch fu (nI i) lev m = some ((), m') ∧ gI m' 34 4 = nI (C + (n - 1)) ∧ (∀ k, k < n - 1 → gI m' 35 (C + k) = nI i ∧ gI m' 36 (C + k) = nI (oth oi k) ∧ gI m' 37 (C + k) = lev) ∧ fr (fun a j => (35 ≤ a ∧ a ≤ 37 ∧ C ≤ j) ∨ (a = 34 ∧ j = 4)) m m' := by
  have key : ∀ (t o : Nat) (m1 : hM), o ≤ n → n - o < t → gI m1 34 4 = nI (C + othN oi o) → (∀ k, k < othN oi o → gI m1 35 (C + k) = nI i ∧ gI m1 36 (C + k) = nI (oth oi k) ∧ gI m1 37 (C + k) = lev) → fr (fun a j => (35 ≤ a ∧ a ≤ 37 ∧ C ≤ j) ∨ (a = 34 ∧ j = 4)) m m1 →
      ∃ m', f_X9_branch_2 fu t (nI i) lev (nI o) m1 = some ((), m') ∧ gI m' 34 4 = nI (C + (n - 1)) ∧ (∀ k, k < n - 1 → gI m' 35 (C + k) = nI i ∧ gI m' 36 (C + k) = nI (oth oi k) ∧ gI m' 37 (C + k) = lev) ∧ fr (fun a j => (35 ≤ a ∧ a ≤ 37 ∧ C ≤ j) ∨ (a = 34 ∧ j = 4)) m m' := by
    intro t
    induction t with
    | zero => intro o m1 h1 h2; exact absurd h2 (Nat.not_lt_zero _)
    | succ t ih =>
      intro o m1 ho1 ht g r f
      have sN : othN oi o ≤ n - 1 := by unfold othN; split <;> omega
      have stop : othN oi o = n - 1 → ∃ m', some ((), m1) = some ((), m') ∧ gI m' 34 4 = nI (C + (n - 1)) ∧ (∀ k, k < n - 1 → gI m' 35 (C + k) = nI i ∧ gI m' 36 (C + k) = nI (oth oi k) ∧ gI m' 37 (C + k) = lev) ∧ fr (fun a j => (35 ≤ a ∧ a ≤ 37 ∧ C ≤ j) ∨ (a = 34 ∧ j = 4)) m m' := fun e => ⟨m1, rfl, by rw [← e]; exact g, fun k hk => r k (by omega), f⟩
      rw [f_X9_branch_2_s]
      unfold s_X9_branch_2 f_X9_branch_73
      simp only [hLet_n, nI_1]
      rw [f.1 1 4 (by omega), he]
      by_cases q : nI n ≤ nI o
      · rw [if_pos q]
        rw [nI_leI (by omega) (by omega)] at q
        exact stop (by unfold othN; split <;> omega)
      rw [if_neg q, g]
      rw [nI_leI (by omega) (by omega)] at q
      by_cases q2 : nI 156 ≤ nI (C + othN oi o)
      · rw [if_pos (show (156 : Int32) ≤ nI (C + othN oi o) from q2)]
        rw [nI_leI (by omega) (by omega)] at q2
        exact stop (by omega)
      rw [if_neg (show ¬ (156 : Int32) ≤ nI (C + othN oi o) from q2)]
      rw [nI_leI (by omega) (by omega)] at q2
      rw [if_pos (hIn_lt (show i < 156 by omega) (by omega)), nI_clamp (show i < 2 ^ 31 by omega), f.1 36 i (by omega), h36]
      by_cases q3 : o = oi
      · rw [if_pos (by rw [q3])]
        have e : othN oi (o + 1) = othN oi o := by unfold othN; rw [if_neg (by omega), if_pos (by omega)]; omega
        exact ih (o + 1) m1 (by omega) (by omega) (by rw [e]; exact g) (by rw [e]; exact r) f
      rw [if_neg (fun z => q3 ((nI_eq (by omega) (by omega)).mp z))]
      have hN : hIn (nI (C + othN oi o)) 156 := hIn_lt (by omega) (by omega)
      have cN : (nI (C + othN oi o)).toNatClampNeg = C + othN oi o := nI_clamp (by omega)
      have e : othN oi (o + 1) = othN oi o + 1 := by unfold othN; split <;> split <;> omega
      have eo : oth oi (othN oi o) = o := by unfold oth othN; split <;> split <;> omega
      generalize hs : othN oi o = s at *
      rw [if_pos hN, cN]
      simp (disch := omega) only [gI_sn, g, cN, if_pos hN]
      rw [nI_1]
      refine ih (o + 1) _ (by omega) (by omega) (by rw [gI_ss, e, show C + s + 1 = C + (s + 1) by omega]) (fun k hk => ?_) ((((f.si (Or.inl ⟨by omega, by omega, by omega⟩)).si (Or.inl ⟨by omega, by omega, by omega⟩)).si (Or.inl ⟨by omega, by omega, by omega⟩)).si (Or.inr ⟨rfl, rfl⟩))
      rw [e] at hk
      by_cases ek : k = s
      · subst ek
        refine ⟨?_, ?_, ?_⟩
        · simp (disch := omega) only [gI_sn, gI_ss]
        · simp (disch := omega) only [gI_sn, gI_ss]; rw [eo]
        · simp (disch := omega) only [gI_sn, gI_ss]
      · simp (disch := omega) only [gI_sn]
        exact r k (by omega)
  unfold f_X9_branch
  exact key fu 0 m (by omega) (by omega) (by rw [show othN oi 0 = 0 by unfold othN; rw [if_pos (by omega)], Nat.add_zero]; exact h34) (fun k hk => by unfold othN at hk; rw [if_pos (by omega)] at hk; exact absurd hk (Nat.not_lt_zero _)) fr.rf
