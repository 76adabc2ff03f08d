/-! ===== fractions; mean, riskiest ===== -/
def fibp : Nat → Nat × Nat
  | 0 => (1, 2)
  | n + 1 => ((fibp n).2, (fibp n).1 + (fibp n).2)
theorem fib_big : 10000000000000000 < (fibp 99).1 := by decide +kernel
theorem rem_nat (a b : Int64) : (a - a / b * b).toInt.natAbs = a.toInt.natAbs % b.toInt.natAbs := by
  have e : (a - a / b * b).toInt = a.toInt.tmod b.toInt := by
    rw [Int64.toInt_sub, Int64.toInt_mul, Int64.toInt_div, Int.bmod_mul_bmod, Int.sub_bmod_bmod]
    have h := Int.tmod_add_tdiv_mul a.toInt b.toInt
    rw [show a.toInt - a.toInt.tdiv b.toInt * b.toInt = a.toInt.tmod b.toInt by omega, ← Int64.toInt_mod]
    have h1 := Int64.le_toInt (a % b)
    have h2 := Int64.toInt_lt (a % b)
    exact Int.bmod_eq_of_le (by omega) (by omega)
  rw [e, Int.natAbs_tmod]
theorem l_z (b : Int64) : b = 0 ↔ b.toInt.natAbs = 0 := by
  rw [Int.natAbs_eq_zero, ← Int64.toInt_inj]; rfl
def eu : Nat → Int64 → Int64 → Int64
  | 0, a, _ => a
  | n + 1, a, b => if b = 0 then a else eu n b (a - a / b * b)
def euk : Nat → Int64 → Int64 → Prop
  | 0, _, b => b = 0
  | n + 1, a, b => b = 0 ∨ euk n b (a - a / b * b)
theorem euk_fib : ∀ (n : Nat) (a b : Int64), (b.toInt.natAbs < (fibp n).1 → euk n a b) ∧ (b.toInt.natAbs < (fibp n).2 → euk (n + 1) a b)
  | 0, a, b => by
    refine ⟨fun h => ?_, fun h => ?_⟩
    · have : b.toInt.natAbs < 1 := h
      exact (l_z b).mpr (by omega)
    · have h2 : b.toInt.natAbs < 2 := h
      by_cases q : b = 0
      · exact Or.inl q
      · right
        have := rem_nat a b
        have q2 : b.toInt.natAbs ≠ 0 := fun z => q ((l_z b).mpr z)
        rw [show b.toInt.natAbs = 1 by omega, Nat.mod_one] at this
        exact (l_z _).mpr this
  | n + 1, a, b => by
    have ih := euk_fib n
    refine ⟨fun h => (ih a b).2 h, fun h => ?_⟩
    have h2 : b.toInt.natAbs < (fibp n).1 + (fibp n).2 := h
    by_cases q : b = 0
    · exact Or.inl q
    · right
      have q2 : b.toInt.natAbs ≠ 0 := fun z => q ((l_z b).mpr z)
      have hr := rem_nat a b
      by_cases c1 : (a - a / b * b).toInt.natAbs < (fibp n).2
      · exact (ih b (a - a / b * b)).2 c1
      · have hlt : (a - a / b * b).toInt.natAbs < b.toInt.natAbs := by rw [hr]; exact Nat.mod_lt _ (by omega)
        generalize hR : a - a / b * b = r at *
        right
        have hr2 := rem_nat b r
        refine (ih r (b - b / r * r)).1 ?_
        rw [hr2]
        have h3 : b.toInt.natAbs % r.toInt.natAbs ≤ b.toInt.natAbs - r.toInt.natAbs := by
          rw [Nat.mod_eq_sub_mod (by omega)]
          exact Nat.mod_le _ _
        omega
theorem eu_ne : ∀ (n : Nat) (a b : Int64), euk n a b → (a ≠ 0 ∨ b ≠ 0) → eu n a b ≠ 0
  | 0, a, b, h, q => by
    rw [eu]
    rcases q with q | q
    · exact q
    · exact absurd h q
  | n + 1, a, b, h, q => by
    rw [eu]
    by_cases z : b = 0
    · rw [if_pos z]
      rcases q with q | q
      · exact q
      · exact absurd z q
    · rw [if_neg z]
      exact eu_ne n b _ (h.resolve_left z) (Or.inl z)
theorem rx_common6 (fu : Nat) (m : hM) : ∀ (n t : Nat) (a b : Int64), n < t → euk n a b → f_X11_common_6 fu t a b m = some (eu n a b, m)
  | 0, t + 1, a, b, _, h => by
    rw [f_X11_common_6_s]
    unfold s_X11_common_6
    have : b = 0 := h
    rw [if_pos ((lg_cmp_eq b 0).mpr this), eu]
  | n + 1, t + 1, a, b, ht, h => by
    rw [f_X11_common_6_s]
    unfold s_X11_common_6
    rw [eu]
    by_cases z : b = 0
    · rw [if_pos ((lg_cmp_eq b 0).mpr z), if_pos z]
    · rw [if_neg (fun y => z ((lg_cmp_eq b 0).mp y)), if_pos z, if_neg z, hLet_n]
      exact rx_common6 fu m n t b _ (by omega) (h.resolve_left z)
theorem cx_frac9 (fu : Nat) (m : hM) (u l : Int64) : ∀ (n t i : Nat) (a b : Int64), n < t → i + n ≤ 100 → euk n a b → f_X1_tellFraction_9 fu t u l a b (nI i) m = f_X1_tellFraction_44 fu u l (eu n a b) m
  | 0, t + 1, i, a, b, _, hi, h => by
    rw [f_X1_tellFraction_9_s]
    unfold s_X1_tellFraction_9
    have : b = 0 := h
    rw [if_pos ((lg_cmp_eq b 0).mpr this), eu]
    split <;> rfl
  | n + 1, t + 1, i, a, b, ht, hi, h => by
    rw [f_X1_tellFraction_9_s]
    unfold s_X1_tellFraction_9
    rw [eu, if_neg (show ¬ (100 : Int32) ≤ nI i from nI_ge (b := 100) (by omega) (by omega))]
    by_cases z : b = 0
    · rw [if_pos ((lg_cmp_eq b 0).mpr z), if_pos z]
    · rw [if_neg (fun y => z ((lg_cmp_eq b 0).mp y)), if_pos z, if_neg z, hLet_n, hLet_n, nI_1]
      exact cx_frac9 fu m u l n t (i + 1) b _ (by omega) (by omega) (h.resolve_left z)
def frq (u l : Int64) : List Int64 := [u / eu 99 u l] ++ [l / eu 99 u l]
theorem cx_frac {fu : Nat} (hfu : 200 ≤ fu) (m : hM) (u l : Int64) (h1 : l.toInt.natAbs ≤ 10000000000000000) (h0 : l ≠ 0) : f_X1_tellFraction fu u l (setRow m 67 66 1 []) = some ((), setRow m 67 66 1 (frq u l)) := by
  have hk := (euk_fib 99 u l).1 (by have := fib_big; omega)
  have hne := eu_ne 99 u l hk (Or.inr h0)
  unfold f_X1_tellFraction
  show f_X1_tellFraction_9 fu fu u l u l (nI 0) _ = _
  rw [cx_frac9 fu _ u l 99 fu 0 u l (by omega) (by omega) hk]
  unfold f_X1_tellFraction_44 f_X1_tellFraction_54
  rw [if_pos (fun y => hne ((lg_cmp_eq _ 0).mp y)), if_pos hne, cx_tell fu m (by simp), hBd_some, if_pos hne, cx_tell fu m (by simp), hBd_some]
  rfl
theorem rx_frac {fu : Nat} (hfu : 200 ≤ fu) (m : hM) (u l : Int64) (h1 : l.toInt.natAbs ≤ 10000000000000000) (h0 : l ≠ 0) : f_X11_entersFraction fu u l (setRow m 97 96 1 []) = some ((), setRow m 97 96 1 (frq u l)) := by
  have hk := (euk_fib 99 u l).1 (by have := fib_big; omega)
  have hne := eu_ne 99 u l hk (Or.inr h0)
  unfold f_X11_entersFraction f_X11_common
  rw [rx_common6 fu _ 99 fu u l (by omega) hk, hBd_some, if_pos hne, rx_enters fu m (by simp), hBd_some, if_pos hne, rx_enters fu m (by simp), hBd_some]
  rfl
/-- a question that only tells a row -/
theorem IW.rowq {m : hM} {n c k t : Nat} (h : IW m m n c k t) {xs : List Int64} (hx : xs.length ≤ 11) : IV (setRow (sI (setRow m 67 66 1 xs) 96 0 0) 97 96 1 xs) :=
  IW.q2 h (fun _ _ _ => rfl) (fun _ _ => rfl) (fun _ _ => rfl) hx (P := P0S) fr.th (fun a j z => P0S_ok z) rfl
def lsm (S : Nat → Int32) : Nat → Int64
  | 0 => 0
  | k + 1 => lsm S k + (S (67 + k)).toInt64
theorem ok_mean {fu : Nat} (hfu : 3000 ≤ fu) {m : hM} (h : IV m) (x1 : Int32) : okC (f_X10_mean fu x1) (f_X11_mean fu x1) m := by
  obtain ⟨n, c, k, t, h⟩ := h
  have hst := h.2.2.2.2.1
  have e1 : (1 : Int32).toInt = 1 := rfl
  have e99 : (99 : Int32).toInt = 99 := rfl
  obtain ⟨w, hw, hwe⟩ := wr_num hst.1
  unfold okC f_X10_mean f_X11_mean
  by_cases q : 1 ≤ x1.toInt ∧ x1.toInt ≤ 99
  rotate_left
  · refine ⟨-1, m, sI m 96 0 0, ?_, ?_, h.th rfl rfl⟩
    · by_cases c1 : x1 < 1
      · rw [if_pos c1]
      · rw [if_neg c1, if_neg (by rw [i_lt, e1] at c1; rw [i_le, e99]; omega)]
    · rw [hLet_n, rx_inI, hBd_some, if_neg (show ¬ ((1 : Int64).toInt ≤ x1.toInt ∧ x1.toInt ≤ (99 : Int64).toInt) from q), if_neg (by decide)]
  have clsL : ∀ (t k : Nat), k ≤ w → w - k < t → f_X10_mean_18 fu t x1 (lsm (sFn m) k) (nI k) m = f_X10_mean_50 fu x1 (lsm (sFn m) w) m := by
    intro t
    induction t with
    | zero => intro k h1 h2; omega
    | succ t ih =>
      intro k hk ht
      rw [f_X10_mean_18_s]
      unfold s_X10_mean_18
      rw [hst.2.2.2.2.1, hwe]
      by_cases z : nI w ≤ nI k
      · rw [if_pos z]
        rw [nI_leI (by omega) (by omega)] at z
        rw [show k = w by omega]
      · rw [if_neg z]
        rw [nI_leI (by omega) (by omega)] at z
        rw [if_pos (hIn_lt (show k < 60 by omega) (by omega)), hLet_n, hLet_n, nI_1, nI_clamp (show k < 2 ^ 31 by omega), hst.2.2.2.2.2.2.1 k (by rw [hwe, nI_clamp (show w < 2 ^ 31 by omega)]; omega)]
        exact ih (k + 1) (by omega) (by omega)
  have refL : ∀ (M : hM), rS (sFn m) M → ∀ (t k : Nat), k ≤ w → w - k < t → f_X11_mean_24 fu t x1 (lsm (sFn m) k) (nI k) M = f_X11_mean_55 fu x1 (lsm (sFn m) w) M := by
    intro M hM' t
    induction t with
    | zero => intro k h1 h2; omega
    | succ t ih =>
      intro k hk ht
      rw [f_X11_mean_24_s]
      unfold s_X11_mean_24
      rw [hM' 2 (by omega), hwe]
      by_cases z : nI w ≤ nI k
      · rw [if_pos z]
        rw [nI_leI (by omega) (by omega)] at z
        rw [show k = w by omega]
      · rw [if_neg z]
        rw [nI_leI (by omega) (by omega)] at z
        rw [q_67, if_pos (hIn_lt (show 67 + k < 127 by omega) (by omega)), hLet_n, hLet_n, nI_1, nI_clamp (show 67 + k < 2 ^ 31 by omega), hM' _ (by omega)]
        exact ih (k + 1) (by omega) (by omega)
  have h100 : (100 : Int64).toInt.natAbs ≤ 10000000000000000 := by decide
  have n100 : (100 : Int64) ≠ 0 := by decide
  refine ⟨nI w, setRow m 67 66 1 (frq (lsm (sFn m) w * x1.toInt64) 100), setRow (sI (setRow m 67 66 1 (frq (lsm (sFn m) w * x1.toInt64) 100)) 96 0 0) 97 96 1 (frq (lsm (sFn m) w * x1.toInt64) 100), ?_, ?_, h.rowq (by unfold frq; simp)⟩
  · have := clsL fu 0 (by omega) (by omega)
    have this' : f_X10_mean_18 fu fu x1 0 0 m = _ := this
    rw [if_neg (show ¬ x1 < 1 by rw [i_lt, e1]; omega), if_pos (show x1 ≤ 99 by rw [i_le, e99]; omega), this']
    unfold f_X10_mean_50
    rw [cx_clear, hBd_some, cx_frac (by omega) m _ _ h100 n100, hBd_some, sr_In (by omega), hst.2.2.2.2.1, hwe]
  · have hS : rS (sFn m) (sI (setRow m 67 66 1 (frq (lsm (sFn m) w * x1.toInt64) 100)) 96 0 0) := fun j hj => by rw [gI_sn (by omega), sr_In (by omega)]; rfl
    have := refL _ hS fu 0 (by omega) (by omega)
    have this' : f_X11_mean_24 fu fu x1 0 0 (sI (setRow m 67 66 1 (frq (lsm (sFn m) w * x1.toInt64) 100)) 96 0 0) = _ := this
    rw [hLet_n, rx_inI, hBd_some, if_pos (show ((1 : Int64).toInt ≤ x1.toInt ∧ x1.toInt ≤ (99 : Int64).toInt) from q), if_pos (by decide), this']
    unfold f_X11_mean_55
    rw [hLet_n, sr_nil _ 97 96 1, rx_frac (by omega) _ _ _ h100 n100, hBd_some, sr_In (by omega), hS 2 (by omega), hwe]
/-- the riskiest of the first k -/
def rk (S : Nat → Int32) : Nat → Nat
  | 0 => 0
  | k + 1 => if S (67 + (k + 1)) ≤ S (67 + rk S k) then rk S k else k + 1
theorem rk_le (S : Nat → Int32) : ∀ k, rk S k ≤ k
  | 0 => Nat.le_refl 0
  | k + 1 => by
    rw [rk]
    have := rk_le S k
    split <;> omega
theorem ok_riskiest {fu : Nat} (hfu : 3000 ≤ fu) {m : hM} (h : IV m) : okC (f_X10_riskiest fu) (f_X11_riskiest fu) m := by
  obtain ⟨n, c, k, t, h⟩ := h
  have hst := h.2.2.2.2.1
  obtain ⟨w, hw, hwe⟩ := wr_num hst.1
  unfold okC f_X10_riskiest f_X11_riskiest
  by_cases q : w = 0
  · refine ⟨-2, m, sI m 96 0 0, ?_, ?_, h.th rfl rfl⟩
    · rw [hst.2.2.2.2.1, hwe, if_neg (fun z => z (by rw [q]; rfl))]
    · rw [hLet_n, gI_sn (by omega), show gI m 114 2 = nI w from hwe, if_neg (fun z => z (by rw [q]; rfl))]
  have nw : ¬ nI w = 0 := nI_ne0 (by omega) (by omega)
  have wv : ∀ i, i < w → gI m 54 i = sFn m (67 + i) := fun i hi => hst.2.2.2.2.2.2.1 i (by rw [hwe, nI_clamp (show w < 2 ^ 31 by omega)]; exact hi)
  have clsL : ∀ (t k : Nat), k + 1 ≤ w → w - k < t → f_X10_riskiest_17 fu t (nI (rk (sFn m) k)) (nI (k + 1)) m = f_X10_riskiest_57 fu (nI (rk (sFn m) (w - 1))) m := by
    intro t
    induction t with
    | zero => intro k h1 h2; omega
    | succ t ih =>
      intro k hk ht
      have hr := rk_le (sFn m) k
      rw [f_X10_riskiest_17_s]
      unfold s_X10_riskiest_17 f_X10_riskiest_51
      rw [hst.2.2.2.2.1, hwe]
      by_cases z : nI w ≤ nI (k + 1)
      · rw [if_pos z]
        rw [nI_leI (by omega) (by omega)] at z
        rw [show k = w - 1 by omega]
      · rw [if_neg z]
        rw [nI_leI (by omega) (by omega)] at z
        have e := ih (k + 1) (by omega) (by omega)
        rw [rk] at e
        rw [if_pos (hIn_lt (show k + 1 < 60 by omega) (by omega)), if_pos (hIn_lt (show rk (sFn m) k < 60 by omega) (by omega)), nI_clamp (show k + 1 < 2 ^ 31 by omega), nI_clamp (show rk (sFn m) k < 2 ^ 31 by omega), wv _ (by omega), wv _ (by omega), hLet_n, hLet_n, nI_1]
        by_cases y : sFn m (67 + (k + 1)) ≤ sFn m (67 + rk (sFn m) k)
        · rw [if_pos y] at e ⊢; exact e
        · rw [if_neg y] at e ⊢; exact e
  have refL : ∀ (M : hM), rS (sFn m) M → ∀ (t k : Nat), k + 1 ≤ w → w - k < t → f_X11_riskiest_21 fu t (nI (rk (sFn m) k)) (nI (k + 1)) M = f_X11_riskiest_64 fu (nI (rk (sFn m) (w - 1))) M := by
    intro M hM' t
    induction t with
    | zero => intro k h1 h2; omega
    | succ t ih =>
      intro k hk ht
      have hr := rk_le (sFn m) k
      rw [f_X11_riskiest_21_s]
      unfold s_X11_riskiest_21 f_X11_riskiest_57
      rw [hM' 2 (by omega), hwe]
      by_cases z : nI w ≤ nI (k + 1)
      · rw [if_pos z]
        rw [nI_leI (by omega) (by omega)] at z
        rw [show k = w - 1 by omega]
      · rw [if_neg z]
        rw [nI_leI (by omega) (by omega)] at z
        have e := ih (k + 1) (by omega) (by omega)
        rw [rk] at e
        rw [q_67, q_67, if_pos (hIn_lt (show 67 + (k + 1) < 127 by omega) (by omega)), if_pos (hIn_lt (show 67 + rk (sFn m) k < 127 by omega) (by omega)), nI_clamp (show 67 + (k + 1) < 2 ^ 31 by omega), nI_clamp (show 67 + rk (sFn m) k < 2 ^ 31 by omega), hM' _ (by omega), hM' _ (by omega), hLet_n, hLet_n, nI_1]
        by_cases y : sFn m (67 + (k + 1)) ≤ sFn m (67 + rk (sFn m) k)
        · rw [if_pos y] at e ⊢; exact e
        · rw [if_neg y] at e ⊢; exact e
  have hr := rk_le (sFn m) (w - 1)
  refine ⟨nI (rk (sFn m) (w - 1)), setRow m 67 66 1 [(sFn m (67 + rk (sFn m) (w - 1))).toInt64], setRow (sI (setRow m 67 66 1 [(sFn m (67 + rk (sFn m) (w - 1))).toInt64]) 96 0 0) 97 96 1 [(sFn m (67 + rk (sFn m) (w - 1))).toInt64], ?_, ?_, h.rowq (by simp)⟩
  · have := clsL fu 0 (by omega) (by omega)
    have this' : f_X10_riskiest_17 fu fu 0 1 m = _ := this
    rw [hst.2.2.2.2.1, hwe, if_pos nw, this']
    unfold f_X10_riskiest_57
    rw [cx_clear, hBd_some, if_pos (hIn_lt (show rk (sFn m) (w - 1) < 60 by omega) (by omega)), nI_clamp (show rk (sFn m) (w - 1) < 2 ^ 31 by omega), sr_In (by omega), wv _ (by omega), cx_tell fu m (by simp), hBd_some]
    rfl
  · have hS : rS (sFn m) (sI (setRow m 67 66 1 [(sFn m (67 + rk (sFn m) (w - 1))).toInt64]) 96 0 0) := fun j hj => by rw [gI_sn (by omega), sr_In (by omega)]; rfl
    have := refL _ hS fu 0 (by omega) (by omega)
    have this' : f_X11_riskiest_21 fu fu 0 1 (sI (setRow m 67 66 1 [(sFn m (67 + rk (sFn m) (w - 1))).toInt64]) 96 0 0) = _ := this
    rw [hLet_n, hS 2 (by omega), hwe, if_pos nw, this']
    unfold f_X11_riskiest_64
    rw [hLet_n, q_67, if_pos (hIn_lt (show 67 + rk (sFn m) (w - 1) < 127 by omega) (by omega)), nI_clamp (show 67 + rk (sFn m) (w - 1) < 2 ^ 31 by omega), gI_sn (by omega), hS _ (by omega), sr_nil _ 97 96 1, rx_enters fu _ (by simp), hBd_some]
    rfl
