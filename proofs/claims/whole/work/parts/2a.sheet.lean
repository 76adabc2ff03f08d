/-! ===== sheet on both sides ===== -/
def trn (kind x : Int32) : Int32 := if kind = 3 then 0 else if kind = 0 then x.toInt8.toInt32 else if kind = 1 then x.toInt16.toInt32 else x
def clp (x : Int32) : Int32 := if 0 ≤ x then (if x ≤ 9 then x else 9) else 0
def shE (kind f step : Int32) (o : Nat) : Int32 := clp (trn kind (f + nI o * step))
def shV (v : hM) (a : Nat) (kind k f step : Int32) : Nat → hM
  | 0 => v
  | o + 1 => if o = a then shV v a kind k f step o else if kind = 3 ∨ ¬ k ≤ nI o then kn (shV v a kind k f step o) 107 a o (shE kind f step o) else shV v a kind k f step o
def shSum (v : hM) (a : Nat) (kind k f step : Int32) : Nat → Int32
  | 0 => 0
  | o + 1 => if o = a then shSum v a kind k f step o else shSum v a kind k f step o + gI (shV v a kind k f step (o + 1)) 107 (6 * a + o)
theorem clp_rng (x : Int32) : 0 ≤ (clp x).toInt ∧ (clp x).toInt ≤ 9 := by
  have e0 : (0 : Int32).toInt = 0 := rfl
  have e9 : (9 : Int32).toInt = 9 := rfl
  unfold clp
  by_cases c : 0 ≤ x
  · rw [if_pos c]
    rw [i_le, e0] at c
    by_cases c2 : x ≤ 9
    · rw [if_pos c2]
      rw [i_le, e9] at c2
      exact ⟨c, c2⟩
    · rw [if_neg c2, e9]; omega
  · rw [if_neg c, e0]; omega
theorem cx_entry (fu : Nat) {kind : Int32} (h : ¬ kind = 3) (x : Int32) (m : hM) : f_X10_knownByEntry fu kind x m = some (clp (trn kind x), m) := by
  have key : ∀ z, f_X10_knownByEntry_20 fu z m = some (clp z, m) := by
    intro z
    unfold f_X10_knownByEntry_20 clp
    by_cases c : 0 ≤ z
    · rw [if_pos c, if_pos c]
      by_cases c2 : z ≤ 9
      · rw [if_pos c2, if_pos c2]
      · rw [if_neg c2, if_neg c2]
    · rw [if_neg c, if_neg c]
  unfold f_X10_knownByEntry trn
  rw [if_neg h]
  by_cases c0 : kind = 0
  · rw [if_neg (fun q => q c0), if_pos c0, key]
  · rw [if_pos c0, if_neg c0]
    by_cases c1 : kind = 1
    · rw [if_neg (fun q => q c1), if_pos c1, key]
    · rw [if_pos c1, if_neg c1, key]
theorem cx_sheet_loop (fu : Nat) {n a : Nat} (hn : n ≤ 6) (ha : a < n) (kind k f step : Int32) {v : hM} : ∀ (t o : Nat) (m : hM), o ≤ n → n - o < t → eRel (shV v a kind k f step o) m n →
    ∃ m', f_X10_sheet_58 fu t (nI a) kind k f step (if kind = 3 then 1 else 0) (shSum v a kind k f step o) (nI o) m = some (shSum v a kind k f step n, m') ∧ eRel (shV v a kind k f step n) m' n ∧ keepE m m' := by
  intro t
  induction t with
  | zero => intro o m h1 h2; omega
  | succ t ih =>
    intro o m ho ht he
    rw [f_X10_sheet_58_s]
    unfold s_X10_sheet_58
    rw [he.1]
    by_cases c : nI n ≤ nI o
    · rw [if_pos c]
      rw [nI_leI (by omega) (by omega)] at c
      have : o = n := by omega
      subst this
      exact ⟨m, rfl, he, keepE.rf⟩
    · rw [if_neg c]
      rw [nI_leI (by omega) (by omega)] at c
      by_cases c1 : o = a
      · have e1 : shV v a kind k f step (o + 1) = shV v a kind k f step o := by rw [shV, if_pos c1]
        have e2 : shSum v a kind k f step (o + 1) = shSum v a kind k f step o := by rw [shSum, if_pos c1]
        rw [if_neg (fun q => q (by rw [c1]))]
        unfold f_X10_sheet_146
        simp only [hLet_e, nI_1]
        obtain ⟨m', f1, f2, f3⟩ := ih (o + 1) m (by omega) (by omega) (by rw [e1]; exact he)
        rw [e2] at f1
        exact ⟨m', f1, f2, f3⟩
      · rw [if_pos (fun q => c1 ((nI_eq (by omega) (by omega)).mp q))]
        have next : ∀ m1, eRel (shV v a kind k f step (o + 1)) m1 n → keepE m m1 → ∃ m', f_X10_sheet_126 fu (f_X10_sheet_58 fu t) (nI a) kind k f step (if kind = 3 then 1 else 0) (shSum v a kind k f step o) (nI o) m1 = some (shSum v a kind k f step n, m') ∧ eRel (shV v a kind k f step n) m' n ∧ keepE m m' := by
          intro m1 he1 hk1
          obtain ⟨k1, -, k3, k4⟩ := kn_ix (show a < 6 by omega) (show o < 6 by omega)
          unfold f_X10_sheet_126 f_X10_sheet_146
          simp only [hLet_e, nI_1]
          rw [k1, if_pos k3, k4, he1.2.2.2.2.2.1 a o ha (by omega)]
          have e2 : shSum v a kind k f step (o + 1) = shSum v a kind k f step o + gI (shV v a kind k f step (o + 1)) 107 (6 * a + o) := by rw [shSum, if_neg c1]
          rw [← e2]
          obtain ⟨m', f1, f2, f3⟩ := ih (o + 1) m1 (by omega) (by omega) he1
          exact ⟨m', f1, f2, hk1.tr f3⟩
        by_cases c3 : kind = 3
        · have e1 : shV v a kind k f step (o + 1) = kn (shV v a kind k f step o) 107 a o 0 := by
            rw [shV, if_neg c1, if_pos (Or.inl c3)]
            have : shE kind f step o = 0 := by unfold shE trn; rw [if_pos c3]; decide
            rw [this]
          rw [if_pos c3] at next ⊢
          rw [if_neg (by decide), cx_putKnown fu (show a < 6 by omega) (show o < 6 by omega), hBd_some]
          exact next _ (by rw [e1]; exact e_know hn he ha (by omega) 0) keepE_kn
        · rw [if_neg c3] at next ⊢
          rw [if_pos rfl]
          by_cases c4 : k ≤ nI o
          · rw [if_pos c4]
            have e1 : shV v a kind k f step (o + 1) = shV v a kind k f step o := by
              rw [shV, if_neg c1, if_neg (fun q => q.elim c3 (fun z => z c4))]
            exact next m (by rw [e1]; exact he) keepE.rf
          · have e1 : shV v a kind k f step (o + 1) = kn (shV v a kind k f step o) 107 a o (shE kind f step o) := by
              rw [shV, if_neg c1, if_pos (Or.inr c4)]
            rw [if_neg c4, cx_entry fu c3, hBd_some, cx_putKnown fu (show a < 6 by omega) (show o < 6 by omega), hBd_some]
            exact next _ (by rw [e1]; exact e_know hn he ha (by omega) _) keepE_kn
/-- sheet: NONE, -2, or the sum -/
def shBad (a kind k : Int32) (n : Nat) : Prop := ¬ (hIn a n ∧ (0 ≤ kind.toInt ∧ kind.toInt ≤ 3) ∧ k.toInt ≤ 6)
theorem cx_sheet {fu : Nat} (hfu : 100 ≤ fu) {v m : hM} {n : Nat} (hv : vRel v n) (he : eRel v m n) (a kind k f step : Int32) :
    (shBad a kind k n → f_X10_sheet fu a kind k f step m = some (-1, m)) ∧ (¬ shBad a kind k n → ¬ kind = 3 → k.toInt < 0 → f_X10_sheet fu a kind k f step m = some (-2, m)) ∧
    (¬ shBad a kind k n → (kind = 3 ∨ 0 ≤ k.toInt) → ∃ m', f_X10_sheet fu a kind k f step m = some (shSum v a.toNatClampNeg kind k f step n, m') ∧ eRel (shV v a.toNatClampNeg kind k f step n) m' n ∧ keepE m m') := by
  have hn := hv.1
  have e0 : (0 : Int32).toInt = 0 := rfl
  have e3 : (3 : Int32).toInt = 3 := rfl
  have e6 : (6 : Int32).toInt = 6 := rfl
  unfold f_X10_sheet shBad
  rw [cx_has fu a m (by omega) he.1, hBd_some]
  by_cases c1 : hIn a n
  · rw [if_pos c1, if_neg (by decide)]
    by_cases c2 : kind < 0
    · rw [if_pos c2]
      rw [i_lt, e0] at c2
      exact ⟨fun _ => rfl, fun q => absurd (fun z => by omega) q, fun q => absurd (fun z => by omega) q⟩
    · rw [if_neg c2]
      rw [i_lt, e0] at c2
      by_cases c3 : 3 < kind
      · rw [if_pos c3]
        rw [i_lt, e3] at c3
        exact ⟨fun _ => rfl, fun q => absurd (fun z => by omega) q, fun q => absurd (fun z => by omega) q⟩
      · rw [if_neg c3]
        rw [i_lt, e3] at c3
        by_cases c4 : k ≤ 6
        · rw [if_pos c4]
          rw [i_le, e6] at c4
          refine ⟨fun q => absurd ⟨c1, ⟨by omega, by omega⟩, c4⟩ q, fun _ h3 hk => ?_, fun _ hk => ?_⟩
          · rw [if_pos h3]
            unfold f_X10_sheet_38
            rw [if_neg (fun q => q rfl), if_neg (by rw [i_le, e0]; omega)]
          · obtain ⟨j, hj, rfl⟩ := hIn_of c1 (by omega)
            rw [nI_clamp (show j < 2 ^ 31 by omega)]
            have run := cx_sheet_loop fu hn hj kind k f step (v := v) fu 0 m (by omega) (by omega) he
            by_cases h3 : kind = 3
            · rw [if_neg (fun q => q h3)]
              unfold f_X10_sheet_38 f_X10_sheet_52
              rw [if_pos h3] at run
              rw [if_pos (by decide)]
              exact run
            · rw [if_pos h3]
              unfold f_X10_sheet_38 f_X10_sheet_52
              rw [if_neg h3] at run
              rw [if_neg (fun q => q rfl), if_pos (by rw [i_le, e0]; exact hk.resolve_left h3)]
              exact run
        · rw [if_neg c4]
          rw [i_le, e6] at c4
          exact ⟨fun _ => rfl, fun q => absurd (fun z => by omega) q, fun q => absurd (fun z => by omega) q⟩
  · rw [if_neg c1, if_pos rfl]
    exact ⟨fun _ => rfl, fun q => absurd (fun z => c1 z.1) q, fun q => absurd (fun z => c1 z.1) q⟩
theorem shV_cnt {v : hM} {a : Nat} {kind k f step : Int32} (o p q : Nat) (hp : p ≠ 107) : gI (shV v a kind k f step o) p q = gI v p q := by
  induction o with
  | zero => rfl
  | succ o ih =>
    rw [shV]
    split
    · exact ih
    · split
      · rw [kn_g, if_neg (fun z => hp z.1), if_neg (fun z => hp z.1)]; exact ih
      · exact ih
theorem clp_mm (x : Int32) : (if (0 : Int32) < (if x < 9 then x else 9) then (if x < 9 then x else 9) else 0) = clp x := by
  have e0 : (0 : Int32).toInt = 0 := rfl
  have e9 : (9 : Int32).toInt = 9 := rfl
  unfold clp
  rw [i_eq]
  simp only [i_lt, i_le, e0, e9]
  by_cases c1 : x.toInt < 9
  · simp only [if_pos c1]
    by_cases c2 : 0 < x.toInt
    · rw [if_pos c2, if_pos (by omega), if_pos (by omega)]
    · rw [if_neg c2]
      by_cases c3 : 0 ≤ x.toInt
      · rw [if_pos c3, if_pos (by omega), e0]; omega
      · rw [if_neg c3]
  · simp only [if_neg c1, e9]
    rw [if_pos (by omega), if_pos (by omega)]
    by_cases c3 : x.toInt ≤ 9
    · rw [if_pos c3, e9]; omega
    · rw [if_neg c3]
theorem rx_sheet_loop (fu : Nat) {n a : Nat} (hn : n ≤ 6) (ha : a < n) (kind k f step : Int32) {m : hM} (h3 : gI m 96 3 = nI n) : ∀ (t o : Nat), o ≤ n → n - o < t →
    f_X11_sheet_55 fu t (nI a) kind k step (f + nI o * step) (shSum m a kind k f step o) (nI o) (shV m a kind k f step o) = some (shSum m a kind k f step n, shV m a kind k f step n) := by
  intro t
  induction t with
  | zero => intro o h1 h2; omega
  | succ t ih =>
    intro o ho ht
    rw [f_X11_sheet_55_s]
    unfold s_X11_sheet_55
    rw [shV_cnt o 96 3 (by omega), h3]
    by_cases c : nI n ≤ nI o
    · rw [if_pos c]
      rw [nI_leI (by omega) (by omega)] at c
      have : o = n := by omega
      subst this
      rfl
    · rw [if_neg c]
      rw [nI_leI (by omega) (by omega)] at c
      have enx : f + nI o * step + step = f + nI (o + 1) * step := by
        rw [← nI_1, Int32.add_mul, Int32.one_mul, Int32.add_assoc]
      have fin : ∀ s1 : Int32, shSum m a kind k f step (o + 1) = shSum m a kind k f step o + s1 → f_X11_sheet_157 fu (f_X11_sheet_55 fu t) (nI a) kind k step (f + nI o * step) (nI o) (shSum m a kind k f step o) s1 (shV m a kind k f step (o + 1)) = some (shSum m a kind k f step n, shV m a kind k f step n) := by
        intro s1 hs
        unfold f_X11_sheet_157
        simp only [hLet_e, nI_1]
        rw [enx, ← hs]
        exact ih (o + 1) (by omega) (by omega)
      have last : f_X11_sheet_133 fu (f_X11_sheet_55 fu t) (nI a) kind k step (f + nI o * step) (shSum m a kind k f step o) (nI o) (shV m a kind k f step (o + 1)) = some (shSum m a kind k f step n, shV m a kind k f step n) := by
        unfold f_X11_sheet_133
        by_cases c1 : o = a
        · rw [if_neg (fun q => q (by rw [c1]))]
          exact fin 0 (by rw [shSum, if_pos c1, Int32.add_zero])
        · obtain ⟨-, k1, k3, k4⟩ := kn_ix (show a < 6 by omega) (show o < 6 by omega)
          rw [if_pos (fun q => c1 ((nI_eq (by omega) (by omega)).mp q)), k1, if_pos k3, k4]
          exact fin _ (by rw [shSum, if_neg c1])
      have main : ∀ z : Int32, z = trn kind (f + nI o * step) → f_X11_sheet_96 fu (f_X11_sheet_55 fu t) (nI a) kind k step (f + nI o * step) (shSum m a kind k f step o) (nI o) z (shV m a kind k f step o) = some (shSum m a kind k f step n, shV m a kind k f step n) := by
        intro z hz
        have put : ¬ o = a → (kind = 3 ∨ ¬ k ≤ nI o) → f_X11_sheet_115 fu (f_X11_sheet_55 fu t) (nI a) kind k step (f + nI o * step) (shSum m a kind k f step o) (nI o) z (shV m a kind k f step o) = some (shSum m a kind k f step n, shV m a kind k f step n) := by
          intro c1 c2
          unfold f_X11_sheet_115
          rw [e_min, hBd_some, e_max, hBd_some, clp_mm, rx_knows fu (show a < 6 by omega) (show o < 6 by omega), hBd_some]
          have e1 : shV m a kind k f step (o + 1) = kn (shV m a kind k f step o) 107 a o (clp z) := by
            rw [shV, if_neg c1, if_pos c2, hz]; rfl
          rw [← e1]
          exact last
        have skip : shV m a kind k f step (o + 1) = shV m a kind k f step o → f_X11_sheet_133 fu (f_X11_sheet_55 fu t) (nI a) kind k step (f + nI o * step) (shSum m a kind k f step o) (nI o) (shV m a kind k f step o) = some (shSum m a kind k f step n, shV m a kind k f step n) := by
          intro e
          rw [e] at last
          exact last
        unfold f_X11_sheet_96
        by_cases c1 : o = a
        · rw [if_pos (by rw [c1])]
          exact skip (by rw [shV, if_pos c1])
        · rw [if_neg (fun q => c1 ((nI_eq (by omega) (by omega)).mp q))]
          by_cases c3 : kind = 3
          · rw [if_pos c3]
            exact put c1 (Or.inl c3)
          · rw [if_neg c3]
            by_cases c4 : k ≤ nI o
            · rw [if_pos c4]
              exact skip (by rw [shV, if_neg c1, if_neg (fun q => q.elim c3 (fun y => y c4))])
            · rw [if_neg c4]
              exact put c1 (Or.inr c4)
      by_cases c3 : kind = 3
      · rw [if_neg (fun q => q c3)]
        exact main 0 (by unfold trn; rw [if_pos c3])
      · rw [if_pos c3]
        by_cases c0 : kind = 0
        · rw [if_neg (fun q => q c0)]
          exact main _ (by unfold trn; rw [if_neg c3, if_pos c0])
        · rw [if_pos c0]
          by_cases c1 : kind = 1
          · rw [if_neg (fun q => q c1)]
            exact main _ (by unfold trn; rw [if_neg c3, if_neg c0, if_pos c1])
          · rw [if_pos c1]
            exact main _ (by unfold trn; rw [if_neg c3, if_neg c0, if_neg c1])
theorem rx_sheet {fu : Nat} (hfu : 100 ≤ fu) {m : hM} {n : Nat} (hv : vRel m n) (a kind k f step : Int32) :
    (shBad a kind k n → f_X11_sheet fu a kind k f step m = some (-1, sI m 96 0 0)) ∧ (¬ shBad a kind k n → ¬ kind = 3 → k.toInt < 0 → f_X11_sheet fu a kind k f step m = some (-2, sI m 96 0 0)) ∧
    (¬ shBad a kind k n → (kind = 3 ∨ 0 ≤ k.toInt) → f_X11_sheet fu a kind k f step m = some (shSum (sI m 96 0 0) a.toNatClampNeg kind k f step n, shV (sI m 96 0 0) a.toNatClampNeg kind k f step n)) := by
  have hn := hv.1
  have e0 : (0 : Int32).toInt = 0 := rfl
  have e6 : (6 : Int32).toInt = 6 := rfl
  have h3 : gI (sI m 96 0 0) 96 3 = nI n := hv.2.1
  unfold f_X11_sheet shBad
  simp only [hLet_e]
  rw [rx_isOffice fu a _ (by omega) h3, hBd_some]
  by_cases c1 : hIn a n
  · rw [if_pos c1, if_neg (by decide), rx_inI, hBd_some]
    have e03 : ((0 : Int64).toInt ≤ kind.toInt ∧ kind.toInt ≤ (3 : Int64).toInt) ↔ (0 ≤ kind.toInt ∧ kind.toInt ≤ 3) := Iff.rfl
    simp only [e03]
    by_cases c2 : 0 ≤ kind.toInt ∧ kind.toInt ≤ 3
    · rw [if_pos c2, if_neg (by decide)]
      by_cases c4 : k ≤ 6
      · rw [if_pos c4]
        rw [i_le, e6] at c4
        refine ⟨fun q => absurd ⟨c1, c2, c4⟩ q, fun _ h3 hk => ?_, fun _ hk => ?_⟩
        · rw [if_neg h3, if_neg (by rw [i_le, e0]; omega)]
        · obtain ⟨j, hj, rfl⟩ := hIn_of c1 (by omega)
          rw [nI_clamp (show j < 2 ^ 31 by omega)]
          have run := rx_sheet_loop fu hn hj kind k f step h3 fu 0 (by omega) (by omega)
          rw [show f + nI 0 * step = f by rw [show nI 0 = 0 from rfl, Int32.zero_mul, Int32.add_zero]] at run
          by_cases h3 : kind = 3
          · rw [if_pos h3]
            exact run
          · rw [if_neg h3, if_pos (by rw [i_le, e0]; exact hk.resolve_left h3)]
            exact run
      · rw [if_neg c4]
        rw [i_le, e6] at c4
        exact ⟨fun _ => rfl, fun q => absurd (fun z => by omega) q, fun q => absurd (fun z => by omega) q⟩
    · rw [if_neg c2, if_pos rfl]
      exact ⟨fun _ => rfl, fun q => absurd (fun z => c2 z.2.1) q, fun q => absurd (fun z => c2 z.2.1) q⟩
  · rw [if_neg c1, if_pos rfl]
    exact ⟨fun _ => rfl, fun q => absurd (fun z => c1 z.1) q, fun q => absurd (fun z => c1 z.1) q⟩
