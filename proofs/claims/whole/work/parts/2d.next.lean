/-! ===== overlap and loses, asked; the next hour at work ===== -/
theorem ovl_congr {v v' : hM} {a b h : Nat} (ha : ∀ x, opn v' a x = opn v a x) (hb : ∀ x, opn v' b x = opn v b x) (k : Nat) : ovl v' a b h k = ovl v a b h k := by
  induction k with
  | zero => rfl
  | succ k ih => unfold ovl; rw [ih, ha, hb]
theorem opn_thr {v : hM} {x : Int32} {o : Nat} (h : Int32) : opn (sI v 96 0 x) o h = opn v o h := opn_congr (fun j hj => by rw [gI_sI, if_neg (by omega)]) (fun d hd => by rw [gI_sI, if_neg (by omega)]) h
theorem lst_thr {v : hM} {x : Int32} {a b h : Nat} : lst (sI v 96 0 x) a b h = lst v a b h := by
  unfold lst
  rw [ovl_congr (fun x => opn_thr x) (fun x => opn_thr x)]
  rfl
theorem cx_overlap (fu : Nat) {v m : hM} {n : Nat} (hv : vRel v n) (he : eRel v m n) (a b h : Int32) : f_X10_overlap fu a b h m = some (if hIn a n ∧ hIn b n ∧ hIn h 2400 then nI (ovl v a.toNatClampNeg b.toNatClampNeg h.toNatClampNeg 24) else -1, m) := by
  have hn := hv.1
  unfold f_X10_overlap
  rw [cx_has fu a m (by omega) he.1, hBd_some]
  by_cases c1 : hIn a n
  · rw [if_pos c1, if_neg (by decide), cx_has fu b m (by omega) he.1, hBd_some]
    by_cases c2 : hIn b n
    · rw [if_pos c2, if_neg (by decide), cx_isHour, hBd_some]
      by_cases c3 : hIn h 2400
      · obtain ⟨j, hj, rfl⟩ := hIn_of c1 (by omega)
        obtain ⟨k, hk, rfl⟩ := hIn_of c2 (by omega)
        obtain ⟨x, hx, rfl⟩ := hIn_of c3 (by omega)
        obtain ⟨z, z1, z2⟩ := cx_bothFrom fu (show j < 6 by omega) (show k < 6 by omega) (show x + 24 ≤ 2500 by omega) (he.2.2.2.1 j hj).2.2 (he.2.2.2.1 k hk).2.2
        rw [if_pos c3, if_pos (by decide), z1, hBd_some, cx_both_cnt fu z2, hBd_some, if_pos (show hIn (nI j) n ∧ hIn (nI k) n ∧ hIn (nI x) 2400 from ⟨c1, c2, c3⟩), nI_clamp (show j < 2 ^ 31 by omega), nI_clamp (show k < 2 ^ 31 by omega), nI_clamp (show x < 2 ^ 31 by omega)]
      · rw [if_neg c3, if_neg (fun q => q rfl), if_neg (fun q => c3 q.2.2)]
    · rw [if_neg c2, if_pos rfl, if_neg (fun q => c2 q.2.1)]
  · rw [if_neg c1, if_pos rfl, if_neg (fun q => c1 q.1)]
theorem cx_loses (fu : Nat) {v m : hM} {n : Nat} (hv : vRel v n) (he : eRel v m n) (a b h : Int32) : f_X10_loses fu a b h m = some (if hIn a n ∧ hIn b n ∧ hIn h 2400 then lst v a.toNatClampNeg b.toNatClampNeg h.toNatClampNeg else -1, m) := by
  have hn := hv.1
  unfold f_X10_loses
  rw [cx_has fu a m (by omega) he.1, hBd_some]
  by_cases c1 : hIn a n
  · rw [if_pos c1, if_neg (by decide), cx_has fu b m (by omega) he.1, hBd_some]
    by_cases c2 : hIn b n
    · rw [if_pos c2, if_neg (by decide), cx_isHour, hBd_some]
      by_cases c3 : hIn h 2400
      · obtain ⟨j, hj, rfl⟩ := hIn_of c1 (by omega)
        obtain ⟨k, hk, rfl⟩ := hIn_of c2 (by omega)
        obtain ⟨x, hx, rfl⟩ := hIn_of c3 (by omega)
        obtain ⟨z, z1, z2⟩ := cx_bothFrom fu (show j < 6 by omega) (show k < 6 by omega) (show x + 24 ≤ 2500 by omega) (he.2.2.2.1 j hj).2.2 (he.2.2.2.1 k hk).2.2
        rw [if_pos c3, if_pos (by decide), z1, hBd_some, cx_lostBy fu (show j < 6 by omega) (show k < 6 by omega) z2 he.2.1 (he.2.2.2.2.2.1 j k hj hk), hBd_some, if_pos (show hIn (nI j) n ∧ hIn (nI k) n ∧ hIn (nI x) 2400 from ⟨c1, c2, c3⟩), nI_clamp (show j < 2 ^ 31 by omega), nI_clamp (show k < 2 ^ 31 by omega), nI_clamp (show x < 2 ^ 31 by omega)]
      · rw [if_neg c3, if_neg (fun q => q rfl), if_neg (fun q => c3 q.2.2)]
    · rw [if_neg c2, if_pos rfl, if_neg (fun q => c2 q.2.1)]
  · rw [if_neg c1, if_pos rfl, if_neg (fun q => c1 q.1)]
theorem rx_overlap {fu : Nat} (hfu : 30 ≤ fu) {m : hM} {n : Nat} (hv : vRel m n) (a b h : Int32) : f_X11_overlap fu a b h m = some (if hIn a n ∧ hIn b n ∧ hIn h 2400 then nI (ovl m a.toNatClampNeg b.toNatClampNeg h.toNatClampNeg 24) else -1, sI m 96 0 0) := by
  have hn := hv.1
  have h3 : gI (sI m 96 0 0) 96 3 = nI n := hv.2.1
  unfold f_X11_overlap
  simp only [hLet_e]
  rw [rx_isOffice fu a _ (by omega) h3, hBd_some]
  by_cases c1 : hIn a n
  · rw [if_pos c1, if_neg (by decide), rx_isOffice fu b _ (by omega) h3, hBd_some]
    by_cases c2 : hIn b n
    · rw [if_pos c2, if_neg (by decide), rx_isHour, hBd_some]
      by_cases c3 : hIn h 2400
      · obtain ⟨j, hj, rfl⟩ := hIn_of c1 (by omega)
        obtain ⟨k, hk, rfl⟩ := hIn_of c2 (by omega)
        obtain ⟨x, hx, rfl⟩ := hIn_of c3 (by omega)
        rw [if_pos c3, if_neg (by decide), rx_overlapOf hfu (show j < 6 by omega) (show k < 6 by omega) (by omega), hBd_some, if_pos (show hIn (nI j) n ∧ hIn (nI k) n ∧ hIn (nI x) 2400 from ⟨c1, c2, c3⟩), nI_clamp (show j < 2 ^ 31 by omega), nI_clamp (show k < 2 ^ 31 by omega), nI_clamp (show x < 2 ^ 31 by omega), ovl_congr (fun x => opn_thr x) (fun x => opn_thr x)]
      · rw [if_neg c3, if_pos rfl, if_neg (fun q => c3 q.2.2)]
    · rw [if_neg c2, if_pos rfl, if_neg (fun q => c2 q.2.1)]
  · rw [if_neg c1, if_pos rfl, if_neg (fun q => c1 q.1)]
theorem rx_loses {fu : Nat} (hfu : 30 ≤ fu) {m : hM} {n : Nat} (hv : vRel m n) (a b h : Int32) : f_X11_loses fu a b h m = some (if hIn a n ∧ hIn b n ∧ hIn h 2400 then lst m a.toNatClampNeg b.toNatClampNeg h.toNatClampNeg else -1, sI m 96 0 0) := by
  have hn := hv.1
  have h3 : gI (sI m 96 0 0) 96 3 = nI n := hv.2.1
  unfold f_X11_loses
  simp only [hLet_e]
  rw [rx_isOffice fu a _ (by omega) h3, hBd_some]
  by_cases c1 : hIn a n
  · rw [if_pos c1, if_neg (by decide), rx_isOffice fu b _ (by omega) h3, hBd_some]
    by_cases c2 : hIn b n
    · rw [if_pos c2, if_neg (by decide), rx_isHour, hBd_some]
      by_cases c3 : hIn h 2400
      · obtain ⟨j, hj, rfl⟩ := hIn_of c1 (by omega)
        obtain ⟨k, hk, rfl⟩ := hIn_of c2 (by omega)
        obtain ⟨x, hx, rfl⟩ := hIn_of c3 (by omega)
        rw [if_pos c3, if_neg (by decide), rx_lostOf hfu (show j < 6 by omega) (show k < 6 by omega) (by omega), hBd_some, if_pos (show hIn (nI j) n ∧ hIn (nI k) n ∧ hIn (nI x) 2400 from ⟨c1, c2, c3⟩), nI_clamp (show j < 2 ^ 31 by omega), nI_clamp (show k < 2 ^ 31 by omega), nI_clamp (show x < 2 ^ 31 by omega), lst_thr]
      · rw [if_neg c3, if_pos rfl, if_neg (fun q => c3 q.2.2)]
    · rw [if_neg c2, if_pos rfl, if_neg (fun q => c2 q.2.1)]
  · rw [if_neg c1, if_pos rfl, if_neg (fun q => c1 q.1)]
/-- in how many hours from h on it is at work next, looked for from the place 99 - k on -/
def nxt (v : hM) (o h : Nat) : Nat → Nat
  | 0 => 99
  | k + 1 => if opn v o (nI (h + (98 - k))) = 0 then nxt v o h k else 98 - k
theorem rx_opensIn_loop (fu : Nat) {o h : Nat} (ho : o < 6) (hh : h ≤ 100000) (m : hM) : ∀ (t k : Nat), k ≤ 99 → k < t → f_X11_opensIn_2 fu t (nI o) (nI h) (nI (99 - k)) m = some (nI (nxt m o h k), m) := by
  intro t
  induction t with
  | zero => intro k h1 h2; omega
  | succ t ih =>
    intro k hk ht
    rw [f_X11_opensIn_2_s]
    unfold s_X11_opensIn_2
    have e99 : (99 : Int32) = nI 99 := rfl
    cases k with
    | zero => rfl
    | succ k =>
      rw [if_neg (by rw [e99, nI_leI (by omega) (by omega)]; omega), nI_add, rx_isOpen fu ho, hBd_some, show 99 - (k + 1) = 98 - k by omega]
      unfold nxt
      by_cases c : opn m o (nI (h + (98 - k))) = 0
      · rw [if_neg (fun q => q c), if_pos c]
        simp only [hLet_e, nI_1]
        rw [show 98 - k + 1 = 99 - k by omega]
        exact ih k (by omega) (by omega)
      · rw [if_pos c, if_neg c]
theorem rx_opensIn {fu : Nat} (hfu : 200 ≤ fu) {o h : Nat} (ho : o < 6) (hh : h ≤ 100000) (m : hM) : f_X11_opensIn fu (nI o) (nI h) m = some (nI (nxt m o h 99), m) := by
  unfold f_X11_opensIn
  exact rx_opensIn_loop fu ho hh m fu 99 (by omega) (by omega)
/-- the class's way to the next hour at work -/
theorem cx_nextWork_loop (fu : Nat) {v m : hM} {o h : Nat} (ho : o < 6) (hh : h ≤ 2400) (ra : wRel v m o) : ∀ (t k : Nat), k ≤ 99 → k < t → f_X0_nextWork_2 fu t (nI o) (nI h) (nI (99 - k)) m = some (nI (nxt v o h k), m) := by
  intro t
  induction t with
  | zero => intro k h1 h2; omega
  | succ t ih =>
    intro k hk ht
    rw [f_X0_nextWork_2_s]
    unfold s_X0_nextWork_2
    have e99 : (99 : Int32) = nI 99 := rfl
    have e25 : (2560 : Int32) = nI 2560 := rfl
    cases k with
    | zero =>
      rw [if_pos (by rw [e99, nI_leI (by omega) (by omega)]; omega)]
      rfl
    | succ k =>
      rw [if_neg (by rw [e99, nI_leI (by omega) (by omega)]; omega), nI_add, if_neg (by rw [e25, nI_leI (by omega) (by omega)]; omega), if_pos (hIn_lt (show h + (99 - (k + 1)) < 2560 by omega) (by omega)), nI_clamp (show h + (99 - (k + 1)) < 2 ^ 31 by omega), b_rd (by omega), ra (h + (99 - (k + 1))) (by omega), show 99 - (k + 1) = 98 - k by omega]
      unfold nxt
      by_cases c : opn v o (nI (h + (98 - k))) = 0
      · rw [if_pos c, c, if_pos (by decide)]
        simp only [hLet_e, nI_1]
        rw [show 98 - k + 1 = 99 - k by omega]
        exact ih k (by omega) (by omega)
      · have c1 : opn v o (nI (h + (98 - k))) = 1 := (opn_01 v o _).resolve_left c
        rw [if_neg c, c1, if_neg (by decide)]
theorem cx_nextWork {fu : Nat} (hfu : 200 ≤ fu) {v m : hM} {o h : Nat} (ho : o < 6) (hh : h ≤ 2400) (ra : wRel v m o) : f_X0_nextWork fu (nI o) (nI h) m = some (nI (nxt v o h 99), m) := by
  unfold f_X0_nextWork
  exact cx_nextWork_loop fu ho hh ra fu 99 (by omega) (by omega)
