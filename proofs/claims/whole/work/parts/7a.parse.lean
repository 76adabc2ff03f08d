/-! ===== the rule's reading: the reference's small words ===== -/
def chS (i : Nat) : List Nat := [lettC, [40], [41], [33, 45], [124], [38], [60, 62, 61], [43, 45], [42]].getD i []
def ixS (c : Nat) : List Nat → Nat → Int32
  | [], _ => -1
  | x :: l, k => if x = c then nI k else ixS c l (k + 1)
theorem str_len : ∀ i, i < 9 → lnS.getD i 0 = (chS i).length ∧ (Int32.ofNat (lnS.getD i 0)) >>> ((0 : Int32) &&& 31) = nI (chS i).length ∧ (chS i).length ≤ 12 := by decide +kernel
theorem str_ch : ∀ i, i < 9 → ∀ k, k < (chS i).length → (Int32.toUInt32 (((byS.getD i []).getD k 0) &&& 255) % 65536).toInt32 = nI ((chS i).getD k 0) ∧ narrow .char (.int (nI ((chS i).getD k 0))) = .int (nI ((chS i).getD k 0)) ∧ (chS i).getD k 0 < 256 := by decide +kernel
theorem rx_charAt (fu : Nat) {i k : Nat} (hi : i < 9) (hk : k < (chS i).length) (m : hM) : f_J0_charAt_5068e fu i (nI k) m = some (nI ((chS i).getD k 0), m) := by
  obtain ⟨e1, e2, e3⟩ := str_len i hi
  obtain ⟨q1, q2, q3⟩ := str_ch i hi k hk
  unfold f_J0_charAt_5068e f_J0_isLatin1_aae02 f_J1_charAt_3b067 f_J0_checkIndex_df160 f_J3_checkIndex_8e157
  have hlt : nI k < Int32.ofNat (lnS.getD i 0) := by rw [e1]; exact nI_lt hk (by omega)
  rw [if_pos hi, if_pos hi, hBd_some, if_neg (by decide), if_pos hi, if_neg (nI_pos (by omega)), if_pos hlt, hBd_some, hBd_some, if_pos (by rw [e1]; exact hIn_lt hk (by omega)), nI_clamp (show k < 2 ^ 31 by omega), q1, if_pos q2, hBd_some, if_pos q2]
theorem rx_among {fu : Nat} (hfu : 100 ≤ fu) {m : hM} {i p to c : Nat} (hi : i < 9) (h30 : gI m 96 30 = nI p) (h31 : gI m 96 31 = nI to) (hp : p < 60) (hto : to < 60) (ht : p < to → gI m 119 p = nI c ∧ c < 256) : f_X11_among fu i m = some (if p < to then ixS c (chS i) 0 else -1, m) := by
  obtain ⟨e1, e2, e3⟩ := str_len i hi
  have key : ∀ (t k : Nat), k ≤ (chS i).length → (chS i).length - k < t → f_X11_among_2 fu t i (nI k) m = some (if p < to then ixS c ((chS i).drop k) k else -1, m) := by
    intro t
    induction t with
    | zero => intro k h1 h2; exact absurd h2 (Nat.not_lt_zero _)
    | succ t ih =>
      intro k hk hn
      rw [f_X11_among_2_s]
      unfold s_X11_among_2 f_J0_length_8abf5 f_J0_coder_7d493
      rw [if_pos hi, if_pos hi, hBd_some, hBd_some, e2]
      by_cases q : nI (chS i).length ≤ nI k
      · rw [if_pos q]
        rw [nI_leI (by omega) (by omega)] at q
        rw [List.drop_eq_nil_of_le q, ixS]
        split <;> rfl
      · rw [if_neg q]
        rw [nI_leI (by omega) (by omega)] at q
        rw [h31, h30]
        by_cases q2 : to ≤ p
        · rw [if_pos (nI_le q2 (by omega)), if_neg (by omega)]
        · obtain ⟨t1, t2⟩ := ht (by omega)
          have hkl : k < (chS i).length := by omega
          obtain ⟨-, -, q3⟩ := str_ch i hi k hkl
          rw [if_neg (nI_ge (by omega) (by omega)), rx_charAt fu hi hkl, hBd_some, h30, if_pos (hIn_lt hp (by omega)), nI_clamp (by omega), t1, if_pos (show p < to by omega), hLet_n, nI_1]
          have ed : (chS i).drop k = (chS i).getD k 0 :: (chS i).drop (k + 1) := by
            rw [List.drop_eq_getElem_cons hkl, List.getD_eq_getElem?_getD, List.getElem?_eq_getElem hkl]; rfl
          rw [ed, ixS]
          by_cases q4 : (chS i).getD k 0 = c
          · rw [if_neg (show ¬ ¬ nI ((chS i).getD k 0) = nI c from fun z => z (by rw [q4])), if_pos q4]
          · have n4 : ¬ nI ((chS i).getD k 0) = nI c := fun z => q4 ((nI_eq (by omega) (by omega)).mp z)
            rw [if_pos n4, if_neg q4, ih (k + 1) (by omega) (by omega), if_pos (show p < to by omega)]
  unfold f_X11_among
  rw [if_pos hi]
  exact key fu 0 (by omega) (by omega)
theorem am_1 : ∀ c, c < 256 → (ixS c (chS 1) 0 < 0 ↔ ¬ c = 40) := by decide +kernel
theorem am_2 : ∀ c, c < 256 → (0 ≤ ixS c (chS 2) 0 ↔ c = 41) := by decide +kernel
theorem am_3 : ∀ c, c < 256 → (c = 33 ∧ ixS c (chS 3) 0 = 0) ∨ (c = 45 ∧ ixS c (chS 3) 0 = 1) ∨ (¬ c = 33 ∧ ¬ c = 45 ∧ ixS c (chS 3) 0 = -1) := by decide +kernel
theorem am_r : ∀ c, c < 256 → ∀ r, r < 5 → (ixS c (chS (4 + r)) 0 < 0 ↔ ¬ lvl c = r + 1) := by decide +kernel
theorem am_0 : ∀ c, c < 256 → (¬ c ∈ lettC ∧ ixS c (chS 0) 0 = -1) ∨ (c ∈ lettC ∧ ∃ k, k < 12 ∧ ixS c (chS 0) 0 = nI k ∧ lettC.getD k 0 = c) := by decide +kernel
/-! the reference's memory while it reads: place, depth of brackets, codes (the last first) -/
def rvO (m : hM) (C : List Nat) : Prop := ∀ i, i < C.length → gI m 116 (48 + i) = nI (C.getD (C.length - 1 - i) 0)
def rqM (sg : Nat → Nat) (to : Nat) (m : hM) (p d : Nat) (C : List Nat) : Prop := gI m 96 30 = nI p ∧ gI m 96 31 = nI to ∧ gI m 96 32 = nI d ∧ gI m 117 1 = nI C.length ∧ rvO m C ∧ (∀ j, j < to → gI m 119 j = nI (sg j) ∧ sg j < 256) ∧ p ≤ to ∧ to ≤ 40 ∧ C.length ≤ p
def PF (a j : Nat) : Prop := (a = 96 ∧ (j = 30 ∨ j = 32)) ∨ (a = 117 ∧ j = 1) ∨ (a = 116 ∧ 48 ≤ j)
theorem rqM.go {sg : Nat → Nat} {to : Nat} {m : hM} {p d q e : Nat} {C : List Nat} {m' : hM} (h : rqM sg to m p d C) (h1 : gI m' 96 30 = nI q) (h2 : gI m' 96 32 = nI e) (g : ∀ a j, ¬ (a = 96 ∧ (j = 30 ∨ j = 32)) → gI m' a j = gI m a j) (hq : q ≤ to) (hC : C.length ≤ q) : rqM sg to m' q e C := by
  obtain ⟨a1, a2, a3, a4, a5, a6, a7, a8, a9⟩ := h
  exact ⟨h1, by rw [g _ _ (by omega)]; exact a2, h2, by rw [g _ _ (by omega)]; exact a4, fun i hi => by rw [g _ _ (by omega)]; exact a5 i hi, fun j hj => by rw [g _ _ (by omega)]; exact a6 j hj, hq, a8, hC⟩
theorem rqM.nx {sg : Nat → Nat} {to : Nat} {m : hM} {p d : Nat} {C : List Nat} (h : rqM sg to m p d C) (hp : p < to) : rqM sg to (sI m 96 30 (gI m 96 30 + 1)) (p + 1) d C := by
  refine h.go (by rw [gI_ss, h.1, nI_1]) (by rw [gI_sn (by omega)]; exact h.2.2.1) (fun a j z => gI_sn (by omega)) (by omega) ?_
  have := h.2.2.2.2.2.2.2.2; omega
theorem rx_marks (fu : Nat) {sg : Nat → Nat} {to : Nat} {m : hM} {p d x : Nat} {C : List Nat} (h : rqM sg to m p d C) (hC : C.length + 1 ≤ p) : ∃ m', f_X11_marks fu (nI x) m = some ((), m') ∧ rqM sg to m' p d (x :: C) ∧ fr PF m m' := by
  obtain ⟨a1, a2, a3, a4, a5, a6, a7, a8, a9⟩ := h
  unfold f_X11_marks
  rw [a4, show (48 : Int32) = nI 48 from rfl, nI_add, if_pos (hIn_lt (show 48 + C.length < 96 by omega) (by omega)), hLet_n, nI_clamp (by omega), gI_sn (by omega), a4, nI_1, hLet_n]
  refine ⟨_, rfl, ⟨by simp (disch := omega) only [gI_sn]; exact a1, by simp (disch := omega) only [gI_sn]; exact a2, by simp (disch := omega) only [gI_sn]; exact a3, by rw [gI_ss, List.length_cons], fun i hi => ?_, fun j hj => by simp (disch := omega) only [gI_sn]; exact a6 j hj, a7, a8, by rw [List.length_cons]; exact hC⟩, (fr.rf.si (by unfold PF; omega)).si (by unfold PF; omega)⟩
  rw [List.length_cons] at hi ⊢
  by_cases e : i = C.length
  · subst e
    rw [gI_sn (by omega), gI_ss, show C.length + 1 - 1 - C.length = 0 by omega]; rfl
  · rw [gI_sn (by omega), gI_sn (by omega), a5 i (by omega), show C.length + 1 - 1 - i = C.length - 1 - i + 1 by omega]; rfl
theorem rx_isDigit (fu : Nat) {sg : Nat → Nat} {to : Nat} {m : hM} {p d : Nat} {C : List Nat} (h : rqM sg to m p d C) : f_X11_isDigit fu m = some (if p < to ∧ 48 ≤ sg p ∧ sg p ≤ 57 then 1 else 0, m) := by
  obtain ⟨a1, a2, a3, a4, a5, a6, a7, a8, a9⟩ := h
  unfold f_X11_isDigit
  rw [a1, a2]
  by_cases q : to ≤ p
  · rw [if_pos (nI_le q (by omega)), if_neg (by omega)]
  · obtain ⟨t1, t2⟩ := a6 p (by omega)
    rw [if_neg (nI_ge (by omega) (by omega)), if_pos (hIn_lt (show p < 60 by omega) (by omega)), nI_clamp (by omega), t1, rx_inI, hBd_some, nI_toInt (by omega)]
    have e : ((48 : Int64).toInt ≤ (sg p : Int) ∧ (sg p : Int) ≤ (57 : Int64).toInt) ↔ (p < to ∧ 48 ≤ sg p ∧ sg p ≤ 57) := by
      show ((48 : Int) ≤ (sg p : Int) ∧ (sg p : Int) ≤ 57) ↔ _
      omega
    simp only [e]
    by_cases c : p < to ∧ 48 ≤ sg p ∧ sg p ≤ 57
    · rw [if_pos c, if_neg (by decide)]
    · rw [if_neg c, if_pos rfl]
theorem rqM.am {fu : Nat} (hfu : 100 ≤ fu) {sg : Nat → Nat} {to : Nat} {m : hM} {p d : Nat} {C : List Nat} (h : rqM sg to m p d C) {i : Nat} (hi : i < 9) : f_X11_among fu i m = some (if p < to then ixS (sg p) (chS i) 0 else -1, m) :=
  rx_among hfu hi h.1 h.2.1 (by have := h.2.2.2.2.2.2; omega) (by have := h.2.2.2.2.2.2; omega) (fun z => h.2.2.2.2.2.1 p z)
/-! the two codes; how deep the stack is behind them -/
def bnS (c : Nat) : Prop := c = 124 ∨ c = 38 ∨ c = 60 ∨ c = 62 ∨ c = 61 ∨ c = 43 ∨ c = 45 ∨ c = 42
def cd1 (x y : Nat) : Prop := (x = y ∧ x < 1000) ∨ (∃ i, i < 12 ∧ x = 1000 + i ∧ y = 1000 + lettC.getD i 0) ∨ (x = y ∧ (x = 2033 ∨ x = 2126 ∨ ∃ c, bnS c ∧ x = 2000 + c))
def cdR : List Nat → List Nat → Prop
  | [], [] => True
  | x :: a, y :: b => cd1 x y ∧ cdR a b
  | _, _ => False
def dp : List Nat → Option Nat
  | [] => some 0
  | x :: r => match dp r with
    | none => none
    | some k => if x < 2000 then some (k + 1) else if x = 2033 ∨ x = 2126 then (if 1 ≤ k then some k else none) else (if 2 ≤ k then some (k - 1) else none)
theorem lvl_bn0 : ∀ c, c < 256 → (lvl c = 0 ∨ lvl c = 6 ∨ ((c = 124 ∨ c = 38 ∨ c = 60 ∨ c = 62) ∨ (c = 61 ∨ c = 43 ∨ c = 45 ∨ c = 42))) := by decide +kernel
theorem lvl_bn {c : Nat} (h : c < 256) (h1 : 1 ≤ lvl c) (h2 : lvl c ≤ 5) : bnS c ∧ ¬ (48 ≤ c ∧ c ≤ 57) ∧ ¬ c = 41 ∧ ¬ c = 40 := by
  have := lvl_bn0 c h
  unfold bnS
  omega
theorem fls_app : ∀ (K L C : List Nat), fls (K ++ L) C = fls L (fls K C)
  | [], L, C => rfl
  | o :: K, L, C => by rw [List.cons_append, fls, fls, fls_app K L]
def Bok (r : Nat) : List Nat → Prop
  | [] => True
  | o :: _ => o = 40 ∨ lvl o ≤ r
theorem clo_app {l : Nat} : ∀ (K B Q : List Nat), (∀ o ∈ K, o ≠ 40 ∧ l ≤ lvl o) → (∀ o B', B = o :: B' → o = 40 ∨ lvl o < l) → clo l (K ++ B) Q = (B, fls K Q)
  | [], [], Q, _, _ => rfl
  | [], o :: B, Q, _, h2 => by rw [List.nil_append, clo, if_pos (h2 o B rfl)]; rfl
  | o :: K, B, Q, h1, h2 => by
    have := h1 o List.mem_cons_self
    rw [List.cons_append, clo, if_neg (by omega), fls]
    exact clo_app K B _ (fun z hz => h1 z (List.mem_cons_of_mem _ hz)) h2
