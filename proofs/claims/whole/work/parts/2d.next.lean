/-! ===== overlap and loses, asked; the next hour at work ===== -/
theorem ovl_congr {v v' : hM} {a b h : Nat} (ha : ∀ x, opn v' a x = opn v a x) (hb : ∀ x, opn v' b x = opn v b x) (k : Nat) : ovl v' a b h k = ovl v a b h k := by
  induction k with
  | zero => rfl
  | succ k ih => unfold ovl; rw [ih, ha, hb]
theorem opn_thr {v : hM} {x : Int32} {o : Nat} (h : Int32) : opn (sI v 96 0 x) o h = opn v o h := opn_congr (fun j hj => by rw [gI_sI, if_neg (by omega)]) (fun d hd => by rw [gI_sI, if_neg (by omega)]) h
theorem lst_thr {v : hM} {x : Int32} {a b h : Nat} : lst (sI v 96 0 x) a b h = lst v a b h := by
  unfold lst
  rw [ovl_congr (fun x => opn_thr x) (fun x => opn_thr x)]
  rfl
theorem cx_overlap (fu : Nat) {v m : hM} {n : Nat} (hv : vRel v n) (he : eRel v m n) (a b h : Int32) : f_X10_overlap fu a b h m = some (if hIn a n ∧ hIn b n ∧ hIn h 2400 then nI (ovl v a.toNatClampNeg b.toNatClampNeg h.toNatClampNeg 24) else -1, m) := by
  have hn := hv.1
  unfold f_X10_overlap
  rw [cx_has fu a m (by omega) he.1, hBd_some]
  by_cases c1 : hIn a n
  · rw [if_pos c1, if_neg (by decide), cx_has fu b m (by omega) he.1, hBd_some]
    by_cases c2 : hIn b n
    · rw [if_pos c2, if_neg (by decide), cx_isHour, hBd_some]
      by_cases c3 : hIn h 2400
      · obtain ⟨j, hj, rfl⟩ := hIn_of c1 (by omega)
        obtain ⟨k, hk, rfl⟩ := hIn_of c2 (by omega)
        obtain ⟨x, hx, rfl⟩ := hIn_of c3 (by omega)
        have ra := (he.2.2.2.1 j hj).2.2 x (by omega)
        have rb := (he.2.2.2.1 k hk).2.2 x (by omega)
        rw [if_pos c3, if_pos (by decide), cx_overlapFrom fu (show j < 6 by omega) (show k < 6 by omega) (by omega) ra rb, hBd_some, if_pos (show hIn (nI j) n ∧ hIn (nI k) n ∧ hIn (nI x) 2400 from ⟨c1, c2, c3⟩), nI_clamp (show j < 2 ^ 31 by omega), nI_clamp (show k < 2 ^ 31 by omega), nI_clamp (show x < 2 ^ 31 by omega)]
      · rw [if_neg c3, if_neg (fun q => q rfl), if_neg (fun q => c3 q.2.2)]
    · rw [if_neg c2, if_pos rfl, if_neg (fun q => c2 q.2.1)]
  · rw [if_neg c1, if_pos rfl, if_neg (fun q => c1 q.1)]
theorem cx_loses (fu : Nat) {v m : hM} {n : Nat} (hv : vRel v n) (he : eRel v m n) (a b h : Int32) : f_X10_loses fu a b h m = some (if hIn a n ∧ hIn b n ∧ hIn h 2400 then lst v a.toNatClampNeg b.toNatClampNeg h.toNatClampNeg else -1, m) := by
  have hn := hv.1
  unfold f_X10_loses
  rw [cx_has fu a m (by omega) he.1, hBd_some]
  by_cases c1 : hIn a n
  · rw [if_pos c1, if_neg (by decide), cx_has fu b m (by omega) he.1, hBd_some]
    by_cases c2 : hIn b n
    · rw [if_pos c2, if_neg (by decide), cx_isHour, hBd_some]
      by_cases c3 : hIn h 2400
      · obtain ⟨j, hj, rfl⟩ := hIn_of c1 (by omega)
        obtain ⟨k, hk, rfl⟩ := hIn_of c2 (by omega)
        obtain ⟨x, hx, rfl⟩ := hIn_of c3 (by omega)
        have ra := (he.2.2.2.1 j hj).2.2 x (by omega)
        have rb := (he.2.2.2.1 k hk).2.2 x (by omega)
        rw [if_pos c3, if_pos (by decide), cx_lostFrom fu (show j < 6 by omega) (show k < 6 by omega) (by omega) ra rb he.2.1 (he.2.2.2.2.2.1 j k hj hk), hBd_some, if_pos (show hIn (nI j) n ∧ hIn (nI k) n ∧ hIn (nI x) 2400 from ⟨c1, c2, c3⟩), nI_clamp (show j < 2 ^ 31 by omega), nI_clamp (show k < 2 ^ 31 by omega), nI_clamp (show x < 2 ^ 31 by omega)]
      · rw [if_neg c3, if_neg (fun q => q rfl), if_neg (fun q => c3 q.2.2)]
    · rw [if_neg c2, if_pos rfl, if_neg (fun q => c2 q.2.1)]
  · rw [if_neg c1, if_pos rfl, if_neg (fun q => c1 q.1)]
theorem rx_overlap {fu : Nat} (hfu : 30 ≤ fu) {m : hM} {n : Nat} (hv : vRel m n) (a b h : Int32) : f_X11_overlap fu a b h m = some (if hIn a n ∧ hIn b n ∧ hIn h 2400 then nI (ovl m a.toNatClampNeg b.toNatClampNeg h.toNatClampNeg 24) else -1, sI m 96 0 0) := by
  have hn := hv.1
  have h3 : gI (sI m 96 0 0) 96 3 = nI n := hv.2.1
  unfold f_X11_overlap
  simp only [hLet_e]
  rw [rx_isOffice fu a _ (by omega) h3, hBd_some]
  by_cases c1 : hIn a n
  · rw [if_pos c1, if_neg (by decide), rx_isOffice fu b _ (by omega) h3, hBd_some]
    by_cases c2 : hIn b n
    · rw [if_pos c2, if_neg (by decide), rx_isHour, hBd_some]
      by_cases c3 : hIn h 2400
      · obtain ⟨j, hj, rfl⟩ := hIn_of c1 (by omega)
        obtain ⟨k, hk, rfl⟩ := hIn_of c2 (by omega)
        obtain ⟨x, hx, rfl⟩ := hIn_of c3 (by omega)
        rw [if_pos c3, if_neg (by decide), rx_overlapOf hfu (show j < 6 by omega) (show k < 6 by omega) (by omega), hBd_some, if_pos (show hIn (nI j) n ∧ hIn (nI k) n ∧ hIn (nI x) 2400 from ⟨c1, c2, c3⟩), nI_clamp (show j < 2 ^ 31 by omega), nI_clamp (show k < 2 ^ 31 by omega), nI_clamp (show x < 2 ^ 31 by omega), ovl_congr (fun x => opn_thr x) (fun x => opn_thr x)]
      · rw [if_neg c3, if_pos rfl, if_neg (fun q => c3 q.2.2)]
    · rw [if_neg c2, if_pos rfl, if_neg (fun q => c2 q.2.1)]
  · rw [if_neg c1, if_pos rfl, if_neg (fun q => c1 q.1)]
theorem rx_loses {fu : Nat} (hfu : 30 ≤ fu) {m : hM} {n : Nat} (hv : vRel m n) (a b h : Int32) : f_X11_loses fu a b h m = some (if hIn a n ∧ hIn b n ∧ hIn h 2400 then lst m a.toNatClampNeg b.toNatClampNeg h.toNatClampNeg else -1, sI m 96 0 0) := by
  have hn := hv.1
  have h3 : gI (sI m 96 0 0) 96 3 = nI n := hv.2.1
  unfold f_X11_loses
  simp only [hLet_e]
  rw [rx_isOffice fu a _ (by omega) h3, hBd_some]
  by_cases c1 : hIn a n
  · rw [if_pos c1, if_neg (by decide), rx_isOffice fu b _ (by omega) h3, hBd_some]
    by_cases c2 : hIn b n
    · rw [if_pos c2, if_neg (by decide), rx_isHour, hBd_some]
      by_cases c3 : hIn h 2400
      · obtain ⟨j, hj, rfl⟩ := hIn_of c1 (by omega)
        obtain ⟨k, hk, rfl⟩ := hIn_of c2 (by omega)
        obtain ⟨x, hx, rfl⟩ := hIn_of c3 (by omega)
        rw [if_pos c3, if_neg (by decide), rx_lostOf hfu (show j < 6 by omega) (show k < 6 by omega) (by omega), hBd_some, if_pos (show hIn (nI j) n ∧ hIn (nI k) n ∧ hIn (nI x) 2400 from ⟨c1, c2, c3⟩), nI_clamp (show j < 2 ^ 31 by omega), nI_clamp (show k < 2 ^ 31 by omega), nI_clamp (show x < 2 ^ 31 by omega), lst_thr]
      · rw [if_neg c3, if_pos rfl, if_neg (fun q => c3 q.2.2)]
    · rw [if_neg c2, if_pos rfl, if_neg (fun q => c2 q.2.1)]
  · rw [if_neg c1, if_pos rfl, if_neg (fun q => c1 q.1)]
/-- in how many hours from h on it is at work next, looked for from the place 99 - k on -/
def nxt (v : hM) (o h : Nat) : Nat → Nat
  | 0 => 99
  | k + 1 => if opn v o (nI (h + (98 - k))) = 0 then nxt v o h k else 98 - k
theorem rx_opensIn_loop (fu : Nat) {o h : Nat} (ho : o < 6) (hh : h ≤ 100000) (m : hM) : ∀ (t k : Nat), k ≤ 99 → k < t → f_X11_opensIn_2 fu t (nI o) (nI h) (nI (99 - k)) m = some (nI (nxt m o h k), m) := by
  intro t
  induction t with
  | zero => intro k h1 h2; omega
  | succ t ih =>
    intro k hk ht
    rw [f_X11_opensIn_2_s]
    unfold s_X11_opensIn_2
    have e99 : (99 : Int32) = nI 99 := rfl
    cases k with
    | zero => rfl
    | succ k =>
      rw [if_neg (by rw [e99, nI_leI (by omega) (by omega)]; omega), nI_add, rx_isOpen fu ho, hBd_some, show 99 - (k + 1) = 98 - k by omega]
      unfold nxt
      by_cases c : opn m o (nI (h + (98 - k))) = 0
      · rw [if_neg (fun q => q c), if_pos c]
        simp only [hLet_e, nI_1]
        rw [show 98 - k + 1 = 99 - k by omega]
        exact ih k (by omega) (by omega)
      · rw [if_pos c, if_neg c]
theorem rx_opensIn {fu : Nat} (hfu : 200 ≤ fu) {o h : Nat} (ho : o < 6) (hh : h ≤ 100000) (m : hM) : f_X11_opensIn fu (nI o) (nI h) m = some (nI (nxt m o h 99), m) := by
  unfold f_X11_opensIn
  exact rx_opensIn_loop fu ho hh m fu 99 (by omega) (by omega)
/-- past hours in which it is not at work -/
theorem nxt_skip {v : hM} {o h : Nat} : ∀ (j k : Nat), j ≤ k → k ≤ 99 → (∀ i, i < j → opn v o (nI (h + (99 - k + i))) = 0) → nxt v o h k = nxt v o h (k - j)
  | 0, k, _, _, _ => rfl
  | j + 1, k, hj, hk, hq => by
    obtain ⟨k', rfl⟩ : ∃ k', k = k' + 1 := ⟨k - 1, by omega⟩
    have h0 := hq 0 (by omega)
    rw [show 99 - (k' + 1) + 0 = 98 - k' by omega] at h0
    rw [nxt, if_pos h0, nxt_skip j k' (by omega) (by omega) (fun i hi => by
      have := hq (i + 1) (by omega)
      rw [show 99 - (k' + 1) + (i + 1) = 99 - k' + i by omega] at this
      exact this), show k' + 1 - (j + 1) = k' - j by omega]
/-- the value for 2 ^ t - 1 -/
def ntzF (y1 : Int32) : Int32 :=
  let a34 := fun (x0 x1 : Int32) =>
    let a49 := fun (x0 x1 : Int32) =>
      let a62 := fun (x0 x1 : Int32) =>
        let a74 := fun (x0 x1 : Int32) => x1 + ((Int32.toUInt32 x0 >>> (Int32.toUInt32 1 &&& Int32.toUInt32 31)).toInt32)
        if x0 ≤ 4 then a74 x0 x1 else a74 ((Int32.toUInt32 x0 >>> (Int32.toUInt32 2 &&& Int32.toUInt32 31)).toInt32) (x1 + 2)
      if x0 ≤ 16 then a62 x0 x1 else a62 ((Int32.toUInt32 x0 >>> (Int32.toUInt32 4 &&& Int32.toUInt32 31)).toInt32) (x1 + 4)
    if x0 ≤ 256 then a49 x0 x1 else a49 ((Int32.toUInt32 x0 >>> (Int32.toUInt32 8 &&& Int32.toUInt32 31)).toInt32) (x1 + 8)
  if 0 < y1 then (if y1 ≤ 65536 then a34 y1 1 else a34 ((Int32.toUInt32 y1 >>> (Int32.toUInt32 16 &&& Int32.toUInt32 31)).toInt32) (1 + 16)) else y1 &&& 32
theorem ntzF_v : ∀ t, t < 24 → ntzF (nI (2 ^ t - 1)) = nI t := by decide +kernel
theorem cx_ntzF (fu : Nat) (x : Int32) (m : hM) : f_J6_numberOfTrailingZeros_0f7a4 fu x m = some (ntzF ((x ^^^ (-1)) &&& (x - 1)), m) := by
  unfold f_J6_numberOfTrailingZeros_0f7a4
  simp only [hLet_e]
  generalize (x ^^^ (-1)) &&& (x - 1) = y
  have k62 : ∀ a b, f_J6_numberOfTrailingZeros_0f7a4_62 fu a b m = some (if a ≤ 4 then b + ((Int32.toUInt32 a >>> (Int32.toUInt32 1 &&& Int32.toUInt32 31)).toInt32) else (b + 2) + ((Int32.toUInt32 ((Int32.toUInt32 a >>> (Int32.toUInt32 2 &&& Int32.toUInt32 31)).toInt32) >>> (Int32.toUInt32 1 &&& Int32.toUInt32 31)).toInt32), m) := by
    intro a b
    unfold f_J6_numberOfTrailingZeros_0f7a4_62 f_J6_numberOfTrailingZeros_0f7a4_74
    simp only [hLet_e]
    split <;> rfl
  unfold ntzF
  by_cases c : 0 < y
  · rw [if_pos c]
    simp only [if_pos c]
    by_cases c2 : y ≤ 65536
    · simp only [if_pos c2]
      unfold f_J6_numberOfTrailingZeros_0f7a4_34 f_J6_numberOfTrailingZeros_0f7a4_49
      simp only [hLet_e, k62]
      split <;> split <;> rfl
    · simp only [if_neg c2]
      unfold f_J6_numberOfTrailingZeros_0f7a4_34 f_J6_numberOfTrailingZeros_0f7a4_49
      simp only [hLet_e, k62]
      split <;> split <;> rfl
  · rw [if_neg c]
    simp only [if_neg c]
/-- the lowest bit: behind it the bits of x less one are those of x -/
theorem low_bits {x t : Nat} (h0 : ∀ i, i < t → x.testBit i = false) (h1 : x.testBit t = true) : ∃ q, x = 2 ^ (t + 1) * q + 2 ^ t := by
  refine ⟨x / 2 ^ (t + 1), ?_⟩
  have hm : x % 2 ^ (t + 1) = 2 ^ t := by
    apply Nat.eq_of_testBit_eq
    intro i
    rw [Nat.testBit_mod_two_pow, Nat.testBit_two_pow]
    by_cases c : i < t
    · rw [h0 i c]; simp [show t ≠ i from by omega]
    · by_cases c2 : i = t
      · subst c2; rw [h1]; simp
      · simp [show ¬ i < t + 1 from by omega, show t ≠ i from by omega]
  have := Nat.div_add_mod x (2 ^ (t + 1))
  rw [hm] at this
  exact this.symm
theorem low_mask {x t : Nat} (hx : x < 16777216) (ht : t < 24) (h0 : ∀ i, i < t → x.testBit i = false) (h1 : x.testBit t = true) : (nI x ^^^ (-1)) &&& (nI x - 1) = nI (2 ^ t - 1) := by
  obtain ⟨q, hq⟩ := low_bits h0 h1
  have hp : 0 < 2 ^ t := Nat.two_pow_pos t
  have e1 : nI x - 1 = nI (x - 1) := by rw [show (1 : Int32) = nI 1 from rfl]; exact pk_sub (by omega)
  have e2 : x - 1 = 2 ^ (t + 1) * q + (2 ^ t - 1) := by omega
  have hlt : 2 ^ t - 1 < 2 ^ (t + 1) := by rw [Nat.pow_succ]; omega
  have hlt2 : 2 ^ t < 2 ^ (t + 1) := by rw [Nat.pow_succ]; omega
  apply b_ext
  intro i hi
  rw [b_and, b_not hi, e1, bt_nI _ _ hi, bt_nI _ _ hi, bt_nI _ _ hi, Nat.testBit_two_pow_sub_one]
  by_cases c : i < t
  · rw [h0 i c, e2, Nat.testBit_two_pow_mul_add _ hlt, if_pos (by omega), Nat.testBit_two_pow_sub_one]
    simp [c]
  · by_cases c2 : i = t
    · subst c2; rw [h1]; simp
    · have a1 : x.testBit i = q.testBit (i - (t + 1)) := by rw [hq, Nat.testBit_two_pow_mul_add _ hlt2, if_neg (by omega)]
      have a2 : (x - 1).testBit i = q.testBit (i - (t + 1)) := by rw [e2, Nat.testBit_two_pow_mul_add _ hlt, if_neg (by omega)]
      rw [a1, a2]
      cases q.testBit (i - (t + 1)) <;> simp [c]
theorem cx_ntz (fu : Nat) {x t : Nat} (hx : x < 16777216) (ht : t < 24) (h0 : ∀ i, i < t → x.testBit i = false) (h1 : x.testBit t = true) (m : hM) : f_J6_numberOfTrailingZeros_0f7a4 fu (nI x) m = some (nI t, m) := by
  rw [cx_ntzF, low_mask hx ht h0 h1, ntzF_v t ht]
theorem nxt_here {v : hM} {o h k : Nat} (hk : k < 99) (h1 : ¬ opn v o (nI (h + (98 - k))) = 0) : nxt v o h (k + 1) = 98 - k := by rw [nxt, if_neg h1]
theorem first_one {p : Nat → Bool} : ∀ n, (∃ i, i < n ∧ p i = true) → ∃ t, t < n ∧ p t = true ∧ ∀ i, i < t → p i = false
  | 0, h => by obtain ⟨i, hi, -⟩ := h; omega
  | n + 1, h => by
    by_cases c : ∃ i, i < n ∧ p i = true
    · obtain ⟨t, h1, h2, h3⟩ := first_one n c
      exact ⟨t, by omega, h2, h3⟩
    · obtain ⟨i, hi, hp⟩ := h
      refine ⟨i, hi, hp, fun j hj => ?_⟩
      cases hq : p j with
      | false => rfl
      | true => exact absurd ⟨j, by omega, hq⟩ c
/-- the class's way to the next hour at work: by steps of 24 hours -/
theorem cx_nextWork_loop (fu : Nat) {v m : hM} {o h : Nat} (ho : o < 6) (hh : h ≤ 2400) (ra : aRel v m o) : ∀ (t i : Nat), i ≤ 99 → i % 24 = 0 → 99 - i < t → f_X0_nextWork_11 fu t (nI h) (nI (2500 * o + h)) (nI i) m = some (nI (nxt v o h (99 - i)), m) := by
  intro t
  induction t with
  | zero => intro i h1 h2 h3; omega
  | succ t ih =>
    intro i hi h24 ht
    rw [f_X0_nextWork_11_s]
    unfold s_X0_nextWork_11
    have e99 : (99 : Int32) = nI 99 := rfl
    have e25 : (2500 : Int32) = nI 2500 := rfl
    rw [if_neg (by rw [e99, nI_leI (by omega) (by omega)]; omega), nI_add, nI_add, if_neg (by rw [e25, nI_leI (by omega) (by omega)]; omega), if_pos (hIn_lt (show 2500 * o + h + i < 15000 by omega) (by omega)), nI_clamp (show 2500 * o + h + i < 2 ^ 31 by omega)]
    have ra' := ra (h + i) (by omega)
    unfold aAt at ra'
    rw [show 2500 * o + (h + i) = 2500 * o + h + i by omega] at ra'
    by_cases c : gI m 5 (2500 * o + h + i) = 0
    · rw [if_pos c]
      rw [c] at ra'
      simp only [hLet_e]
      have hz : ∀ j, j < 24 → h + i + j < 2500 → opn v o (nI (h + i + j)) = 0 := by
        intro j hj hl
        have := ra' j (by omega)
        rw [b_0] at this
        rcases opn_01 v o (nI (h + i + j)) with e | e
        · exact e
        · rw [e] at this; simp [hj, hl] at this
      rw [show (24 : Int32) = nI 24 from rfl, nI_add]
      by_cases c2 : i + 24 ≤ 99
      · rw [ih (i + 24) c2 (by omega) (by omega)]
        rw [nxt_skip 24 (99 - i) (by omega) (by omega) (fun j hj => by
          rw [show h + (99 - (99 - i) + j) = h + i + j by omega]
          exact hz j hj (by omega)), show 99 - i - 24 = 99 - (i + 24) by omega]
      · have e96 : i = 96 := by omega
        subst e96
        rw [nxt_skip 3 (99 - 96) (by omega) (by omega) (fun j hj => by
          rw [show h + (99 - (99 - 96) + j) = h + 96 + j by omega]
          exact hz j (by omega) (by omega))]
        cases t with
        | zero => omega
        | succ t =>
          rw [f_X0_nextWork_11_s]
          unfold s_X0_nextWork_11
          rw [if_pos (by rw [e99, nI_leI (by omega) (by omega)]; omega)]
          rfl
    · rw [if_neg c]
      unfold f_X0_nextWork_40
      rw [nI_add, if_pos (hIn_lt (show 2500 * o + h + i < 15000 by omega) (by omega)), nI_clamp (show 2500 * o + h + i < 2 ^ 31 by omega)]
      obtain ⟨x, hx, hxe⟩ := nI_of24 (x := gI m 5 (2500 * o + h + i)) (fun j h1 h2 => by rw [ra' j h2]; simp [show ¬ j < 24 from by omega])
      rw [hxe] at ra' c ⊢
      have rb : ∀ j, j < 24 → x.testBit j = (decide (h + i + j < 2500) && decide (opn v o (nI (h + i + j)) = 1)) := by
        intro j hj
        have := ra' j (by omega)
        rw [bt_nI _ _ (by omega)] at this
        rw [this]; simp [hj]
      obtain ⟨s, s1, s2, s3⟩ := first_one (p := fun j => x.testBit j) 24 (by
        rcases Classical.em (∃ j, j < 24 ∧ x.testBit j = true) with q | q
        · exact q
        · exfalso
          apply c
          apply b_ext
          intro j hj
          rw [bt_nI _ _ hj, b_0]
          by_cases c3 : j < 24
          · cases hq : x.testBit j with
            | false => rfl
            | true => exact absurd ⟨j, c3, hq⟩ q
          · have := ra' j hj
            rw [bt_nI _ _ hj] at this
            rw [this]; simp [c3])
      rw [cx_ntz fu hx s1 s3 s2, hBd_some]
      simp only [hLet_e]
      rw [nI_add]
      have s4 := rb s s1
      rw [s2] at s4
      simp only [Bool.true_eq, Bool.and_eq_true, decide_eq_true_eq] at s4
      have hz : ∀ j, j < s → opn v o (nI (h + i + j)) = 0 := by
        intro j hj
        have h1 := rb j (by omega)
        rw [s3 j hj] at h1
        rcases opn_01 v o (nI (h + i + j)) with e | e
        · exact e
        · rw [e] at h1; simp [show h + i + j < 2500 from by omega] at h1
      by_cases c4 : 99 ≤ i + s
      · rw [if_pos (by rw [e99, nI_leI (by omega) (by omega)]; exact c4)]
        rw [nxt_skip (99 - i) (99 - i) (by omega) (by omega) (fun j hj => by
          rw [show h + (99 - (99 - i) + j) = h + i + j by omega]
          exact hz j (by omega)), Nat.sub_self]
        rfl
      · rw [if_neg (by rw [e99, nI_leI (by omega) (by omega)]; exact c4)]
        rw [nxt_skip s (99 - i) (by omega) (by omega) (fun j hj => by
          rw [show h + (99 - (99 - i) + j) = h + i + j by omega]
          exact hz j hj)]
        obtain ⟨k, hk⟩ : ∃ k, 99 - i - s = k + 1 := ⟨98 - i - s, by omega⟩
        rw [hk, nxt_here (by omega) (by rw [show h + (98 - k) = h + i + s by omega, s4.2]; decide), show 98 - k = i + s by omega]
theorem cx_nextWork {fu : Nat} (hfu : 200 ≤ fu) {v m : hM} {o h : Nat} (ho : o < 6) (hh : h ≤ 2400) (ra : aRel v m o) : f_X0_nextWork fu (nI o) (nI h) m = some (nI (nxt v o h 99), m) := by
  unfold f_X0_nextWork
  simp only [hLet_e]
  rw [show (2500 : Int32) = nI 2500 from rfl, pk_mul, nI_add, Nat.mul_comm]
  exact cx_nextWork_loop fu ho hh ra fu 0 (by omega) (by omega) (by omega)
