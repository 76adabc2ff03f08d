/-! ===== a route is told ===== -/
def tlR (r : List Nat) (j : Nat) : List Int64 := (nI r.length).toInt64 :: ((r.reverse.take j).map (fun o => (nI o).toInt64))
theorem tlR_s {r : List Nat} {j : Nat} (h : j < r.length) : tlR r j ++ [(nI (r.getD (r.length - 1 - j) 0)).toInt64] = tlR r (j + 1) := by
  unfold tlR
  have e : r.reverse[j]? = some (r.getD (r.length - 1 - j) 0) := by
    rw [List.getElem?_reverse h, List.getD_eq_getElem?_getD, List.getElem?_eq_getElem (show r.length - 1 - j < r.length by omega)]; rfl
  rw [List.take_succ, e, List.map_append, List.cons_append]; rfl
theorem tlR_len {r : List Nat} {j : Nat} (h : j ≤ r.length) : (tlR r j).length = j + 1 := by
  unfold tlR
  rw [List.length_cons, List.length_map, List.length_take, List.length_reverse]; omega
theorem rtV_get {n b : Nat} : ∀ {r : List Nat}, rtV n b r → ∀ j, j < r.length → r.getD j 0 < n
  | [], _, j, h => absurd h (Nat.not_lt_zero _)
  | o :: r, h, 0, _ => h.1
  | o :: r, h, j + 1, hj => rtV_get h.2.2 j (by rw [List.length_cons] at hj; omega)
theorem rtC_dig {n b : Nat} (hn : n ≤ 6) : ∀ {r : List Nat}, rtV n b r → ∀ j, j < r.length → rtC r / 2 ^ (3 * j) % 8 = r.getD j 0
  | [], _, j, h => absurd h (Nat.not_lt_zero _)
  | o :: r, h, 0, _ => by
    have := h.1
    show (8 * rtC r + o) / 2 ^ (3 * 0) % 8 = o
    rw [Nat.mul_zero, Nat.pow_zero, Nat.div_one]; omega
  | o :: r, h, j + 1, hj => by
    have := h.1
    have ih := rtC_dig hn h.2.2 j (by rw [List.length_cons] at hj; omega)
    show (8 * rtC r + o) / 2 ^ (3 * (j + 1)) % 8 = r.getD j 0
    rw [show 3 * (j + 1) = 3 + 3 * j by omega, Nat.pow_add, ← Nat.div_div_eq_div_mul, show (8 * rtC r + o) / 2 ^ 3 = rtC r by omega]
    exact ih
theorem sh_dig : ∀ k, k < 3 → ((((3 : Int32) * nI k) &&& 31).toBitVec.smod 32).toNat = 3 * k := by decide +kernel
theorem rx_entersRoute {fu : Nat} (hfu : 10 ≤ fu) {n b : Nat} (hn : n ≤ 6) {r : List Nat} (hr : rtV n b r) (hl : r.length ≤ 3) (m : hM) : f_X11_entersRoute fu (nI r.length) (nI (rtC r)) (setRow m 97 96 1 (tlR r 0)) = some ((), setRow m 97 96 1 (tlR r r.length)) := by
  have hc := rtC_lt hn hr
  have h8 : 8 ^ r.length ≤ 8 ^ 3 := Nat.pow_le_pow_right (by omega) hl
  have key : ∀ (k t : Nat), k ≤ r.length → k < t → f_X11_entersRoute_4 fu t (nI (rtC r)) (nI k - 1) (setRow m 97 96 1 (tlR r (r.length - k))) = some ((), setRow m 97 96 1 (tlR r r.length)) := by
    intro k
    induction k with
    | zero =>
      intro t h1 h2
      obtain ⟨t', rfl⟩ : ∃ t', t = t' + 1 := ⟨t - 1, by omega⟩
      rw [f_X11_entersRoute_4_s]
      unfold s_X11_entersRoute_4
      rw [if_pos (show nI 0 - 1 < 0 by decide)]; rfl
    | succ k ih =>
      intro t h1 h2
      obtain ⟨t', rfl⟩ : ∃ t', t = t' + 1 := ⟨t - 1, by omega⟩
      rw [f_X11_entersRoute_4_s]
      unfold s_X11_entersRoute_4
      rw [nI_pred, if_neg (nI_pos (by omega)), pk_shrN (by omega) _ (3 * k) (sh_dig k (by omega)), pk_andN (Nat.lt_of_le_of_lt (Nat.div_le_self _ _) (by omega)) 3 (by decide), show (2 : Nat) ^ 3 = 8 from rfl, rtC_dig hn hr k (by omega), rx_enters fu m (by rw [tlR_len (by omega)]; omega), hBd_some, hLet_n]
      have e := tlR_s (r := r) (j := r.length - (k + 1)) (by omega)
      rw [show r.length - 1 - (r.length - (k + 1)) = k by omega] at e
      rw [e, show r.length - (k + 1) + 1 = r.length - k by omega, show nI k + (-1) = nI k - 1 by rw [Int32.sub_eq_add_neg]]
      exact ih t' (by omega) (by omega)
  unfold f_X11_entersRoute
  rw [hLet_n]
  have := key r.length fu (Nat.le_refl _) (by omega)
  rw [Nat.sub_self] at this
  exact this
theorem cx_tell36 {fu : Nat} {n b C : Nat} (hq : 0 < n - 1) (hC : C ≤ 156) (K : Int32 → Int32 → hM → Option (Unit × hM)) (i N : Nat) : ∀ (u t w : Nat) (m : hM), gwR n b m C → w < C → u ≤ (rtW (n - 1) b w).length → u < t → i + u < 1000 →
    ∃ w', f_X9_tellBest_36 fu K t (nI N) (nI i) (nI w) (nI (i + u)) m = f_X9_tellBest_57 fu K (nI N) (nI i) (nI w') m ∧ w' < C ∧ rtW (n - 1) b w' = (rtW (n - 1) b w).drop u := by
  intro u
  induction u with
  | zero =>
    intro t w m g hw hu ht hi
    obtain ⟨t', rfl⟩ : ∃ t', t = t' + 1 := ⟨t - 1, by omega⟩
    rw [f_X9_tellBest_36_s]
    unfold s_X9_tellBest_36
    rw [if_pos (nI_le (by omega) (by omega))]
    exact ⟨w, rfl, hw, rfl⟩
  | succ u ih =>
    intro t w m g hw hu ht hi
    obtain ⟨t', rfl⟩ : ∃ t', t = t' + 1 := ⟨t - 1, by omega⟩
    rw [f_X9_tellBest_36_s]
    unfold s_X9_tellBest_36
    have hw0 : 0 < w := by
      rcases Nat.eq_zero_or_pos w with rfl | z
      · rw [rtW_0] at hu; exact absurd hu (Nat.not_succ_le_zero _)
      · exact z
    obtain ⟨pp, kk, hkk, e1, e2, e3⟩ := rt_child (q := n - 1) (i := w) hq hw0
    have eW : rtW (n - 1) b w = oth (rtL b (rtW (n - 1) b pp)) kk :: rtW (n - 1) b pp := by rw [e1, rtW_s hkk]
    have g35 := (g.2 w hw).2.2 hw0
    rw [e3] at g35
    rw [if_neg (nI_ge (by omega) (by omega)), if_pos (hIn_lt (show w < 156 by omega) (by omega)), nI_clamp (show w < 2 ^ 31 by omega), g35, hLet_n, hLet_n, show i + (u + 1) = i + u + 1 by omega, pk_m1]
    rw [eW, List.length_cons] at hu
    obtain ⟨w', s1, s2, s3⟩ := ih t' pp m g (by omega) (by omega) (by omega) (by omega)
    exact ⟨w', s1, s2, by rw [s3, eW, List.drop_succ_cons]⟩
theorem cx_tellBest {fu : Nat} (hfu : 10 ≤ fu) {n b k i : Nat} (hn : n ≤ 6) (hb : b < n) (hk : k ≤ 3) {m : hM} (g : gwR n b m (rtN (n - 1) k)) (hi : i < rtN (n - 1) k) (h5 : gI m 34 5 = nI i) : f_X9_tellBest fu m = some ((), setRow m 67 66 1 (tlR (rtW (n - 1) b i) (rtW (n - 1) b i).length)) := by
  have hC : rtN (n - 1) k ≤ 156 := rtN_le (show n - 1 ≤ 5 by omega) _ hk
  obtain ⟨hV, hlen⟩ := rt_rowV (n := n) (b := b) hb hi
  have h37 := (g.2 i hi).2.1
  have gs : ∀ xs, gwR n b (setRow m 67 66 1 xs) (rtN (n - 1) k) := fun xs => gwR_fr g (fun a j z => sr_In (by unfold PW at z; omega))
  unfold f_X9_tellBest
  rw [h5, if_pos (hIn_lt (show i < 156 by omega) (by omega)), nI_clamp (show i < 2 ^ 31 by omega), h37, hLet_n, cx_clear, hBd_some, cx_tell fu m (by simp), hBd_some]
  generalize er : rtW (n - 1) b i = r at *
  have key : ∀ (d t : Nat), d ≤ r.length → d < t → f_X9_tellBest_22 fu t (nI r.length) (nI (r.length - d + 1)) (setRow m 67 66 1 (tlR r (r.length - d))) = some ((), setRow m 67 66 1 (tlR r r.length)) := by
    intro d
    induction d with
    | zero =>
      intro t h1 h2
      obtain ⟨t', rfl⟩ : ∃ t', t = t' + 1 := ⟨t - 1, by omega⟩
      rw [f_X9_tellBest_22_s]
      unfold s_X9_tellBest_22
      rw [if_pos (nI_lt (by omega) (by omega))]; rfl
    | succ d ih =>
      intro t h1 h2
      obtain ⟨t', rfl⟩ : ∃ t', t = t' + 1 := ⟨t - 1, by omega⟩
      have hq : 0 < n - 1 := by
        rcases Nat.eq_zero_or_pos (n - 1) with q | q
        · rw [q] at hi
          have h0 := rtN_F 0 k
          have : i = 0 := by omega
          subst this
          rw [rtW_0] at er
          rw [← er] at h1
          exact absurd h1 (Nat.not_succ_le_zero _)
        · exact q
      rw [f_X9_tellBest_22_s]
      unfold s_X9_tellBest_22
      rw [if_neg (nI_nlt (by omega) (by omega)), hLet_n, sr_In (by omega), h5]
      obtain ⟨w', s1, s2, s3⟩ := cx_tell36 (fu := fu) hq hC (f_X9_tellBest_22 fu t') (r.length - (d + 1) + 1) r.length d fu i (setRow m 67 66 1 (tlR r (r.length - (d + 1)))) (gs _) hi (by rw [er]; omega) (by omega) (by omega)
      rw [show r.length - (d + 1) + 1 + d = r.length by omega] at s1
      rw [s1]
      unfold f_X9_tellBest_57
      rw [er] at s3
      have g36 := ((gs (tlR r (r.length - (d + 1)))).2 w' s2).1
      have ed : r.drop d = r.getD d 0 :: r.drop (d + 1) := by
        rw [List.drop_eq_getElem_cons (show d < r.length by omega), List.getD_eq_getElem?_getD, List.getElem?_eq_getElem (show d < r.length by omega)]; rfl
      rw [s3, ed, rtL] at g36
      rw [if_pos (hIn_lt (show w' < 156 by omega) (by omega)), nI_clamp (show w' < 2 ^ 31 by omega), g36, cx_tell fu m (by rw [tlR_len (by omega)]; omega), hBd_some, hLet_n, nI_1]
      have e := tlR_s (r := r) (j := r.length - (d + 1)) (by omega)
      rw [show r.length - 1 - (r.length - (d + 1)) = d by omega] at e
      rw [e, show r.length - (d + 1) + 1 = r.length - d by omega]
      exact ih t' (by omega) (by omega)
  have := key r.length fu (Nat.le_refl _) (by omega)
  rw [Nat.sub_self] at this
  exact this
