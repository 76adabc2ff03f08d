/-! ===== the reference's maps: empties, least ===== -/
theorem rx_empties {fu : Nat} (hfu : 4000 ≤ fu) {a : Nat} (ha : a = 121 ∨ a = 122) (m : hM) : ∃ m', f_X11_empties fu a m = some ((), m') ∧ (∀ j, j < 3072 → gI m' a j = -1) ∧ fr (fun b j => b = a ∧ j < 3072) m m' := by
  have hl : hAr LY[a]? 0 3072 = true := by rcases ha with rfl | rfl <;> decide +kernel
  have key : ∀ (t k : Nat) (m1 : hM), k ≤ 3072 → 3072 - k < t → (∀ j, j < k → gI m1 a j = -1) → fr (fun b j => b = a ∧ j < 3072) m m1 → ∃ m', f_X11_empties_2 fu t a (nI k) m1 = some ((), m') ∧ (∀ j, j < 3072 → gI m' a j = -1) ∧ fr (fun b j => b = a ∧ j < 3072) m m' := by
    intro t
    induction t with
    | zero => intro k m1 h1 h2; exact absurd h2 (Nat.not_lt_zero _)
    | succ t ih =>
      intro k m1 hk ht r f
      rw [f_X11_empties_2_s]
      unfold s_X11_empties_2
      by_cases q : nI 3072 ≤ nI k
      · rw [if_pos (show (3072 : Int32) ≤ nI k from q)]
        rw [nI_leI (by omega) (by omega)] at q
        exact ⟨m1, rfl, fun j hj => r j (by omega), f⟩
      · rw [if_neg (show ¬ (3072 : Int32) ≤ nI k from q)]
        rw [nI_leI (by omega) (by omega)] at q
        rw [if_pos (hIn_lt (show k < 3072 by omega) (by omega)), hLet_n, hLet_n, nI_1, nI_clamp (show k < 2 ^ 31 by omega)]
        refine ih (k + 1) _ (by omega) (by omega) (fun j hj => ?_) (f.si ⟨rfl, by omega⟩)
        by_cases e : j = k
        · rw [e, gI_ss]
        · rw [gI_sn (by omega)]; exact r j (by omega)
  unfold f_X11_empties
  rw [if_pos hl]
  exact key fu 0 m (by omega) (by omega) (fun j hj => absurd hj (Nat.not_lt_zero _)) fr.rf
/-- the lesser of what stands there and what comes, -1 being nothing -/
def lsM (x y : Int32) : Int32 := if 0 ≤ x then (if y < x then y else x) else y
theorem rx_least (fu : Nat) {a j : Nat} (ha : a = 121 ∨ a = 122) (hj : j < 3072) (y : Int32) (m : hM) : f_X11_least fu a (nI j) y m = some ((), sI m a j (lsM (gI m a j) y)) := by
  have hl : hAr LY[a]? 0 3072 = true := by rcases ha with rfl | rfl <;> decide +kernel
  have h1 : hIn (nI j) 3072 := hIn_lt hj (by omega)
  unfold f_X11_least f_X11_least_19 lsM
  simp only [e_min, hBd_some, hLet_n]
  rw [if_pos hl, if_pos h1, if_pos h1, if_pos h1, nI_clamp (show j < 2 ^ 31 by omega)]
  by_cases q : 0 ≤ gI m a j
  · rw [if_pos q, if_pos q]
  · rw [if_neg q, if_neg q, if_pos h1]
theorem pl_at {n o l : Nat} (hn : n < 4) (ho : o < 6) (hl : l < 128) (fu : Nat) (m : hM) : f_X11_placeAt fu (nI n) (nI o) (nI l) m = some (nI ((n * 6 + o) * 128 + l), m) ∧ (n * 6 + o) * 128 + l < 3072 := by
  refine ⟨?_, by omega⟩
  unfold f_X11_placeAt
  rw [show (6 : Int32) = nI 6 from rfl, show (128 : Int32) = nI 128 from rfl, pk_mul, nI_add, pk_mul, nI_add]
