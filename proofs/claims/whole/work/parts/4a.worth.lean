/-! ===== worth ===== -/
theorem CW.earth2 {v v' m m1 : hM} {n n' c : Nat} {S : Nat → Int32} (h : CW v m n c S) (hn : n ≤ n') (he : erR v' m1 n') (g : ∀ a j, envC a j → ¬ erV a j → gI v' a j = gI v a j) (f : ∀ a j, 18 ≤ a → (a ≤ 63 ∧ a ≠ 45) → gI m1 a j = gI m a j) : CW v' m1 n' c S := by
  obtain ⟨⟨h1, h2, h3, h4, h5, h6⟩, h7, h8, h9, h10⟩ := h
  have hc := h3.1
  have w : ∀ x : Int32, hIn x n → hIn x n' := fun x z => ⟨z.1, by have := z.2; omega⟩
  have g' : ∀ a j, envC a j → ¬ erV a j → gI v' a j = gI v a j := g
  refine ⟨⟨he.1, he.2, ⟨h3.1, by rw [g' _ _ (by unfold envC; omega) (by unfold erV; omega)]; exact h3.2.1, fun p hp => ?_⟩, ⟨by rw [f _ _ (by omega) (by omega)]; exact h4.1, fun p hp => ?_⟩, ?_, ?_⟩, sInv_cg hc (sInv_n h7 hn) (fun _ _ => rfl) (fun p hp => g' _ _ (by unfold envC; omega) (by unfold erV; omega)), sRel_fr h8 (fun a j z1 z2 => f a j (by omega) (by omega)), jk_cg h9 (fun a j z1 z2 => f a j (by omega) (by omega)), fun p hp => by rw [f _ _ (by omega) (by omega), g' _ _ (by unfold envC; omega) (by unfold erV; omega)]; exact h10 p hp⟩
  · rw [g' 108 _ (by unfold envC; omega) (by unfold erV; omega), g' 109 _ (by unfold envC; omega) (by unfold erV; omega), g' 110 _ (by unfold envC; omega) (by unfold erV; omega), g' 111 _ (by unfold envC; omega) (by unfold erV; omega), g' 112 _ (by unfold envC; omega) (by unfold erV; omega), g' 113 _ (by unfold envC; omega) (by unfold erV; omega)]
    obtain ⟨a1, a2, a3, a4, a5, a6⟩ := h3.2.2 p hp
    exact ⟨a1, a2, a3, a4, w _ a5, a6.elim Or.inl (fun z => Or.inr (w _ z))⟩
  · rw [f 19 _ (by omega) (by omega), f 20 _ (by omega) (by omega), f 21 _ (by omega) (by omega), f 22 _ (by omega) (by omega), f 24 _ (by omega) (by omega), g' 108 _ (by unfold envC; omega) (by unfold erV; omega), g' 109 _ (by unfold envC; omega) (by unfold erV; omega), g' 110 _ (by unfold envC; omega) (by unfold erV; omega), g' 112 _ (by unfold envC; omega) (by unfold erV; omega), g' 113 _ (by unfold envC; omega) (by unfold erV; omega)]
    exact h4.2 p hp
  · rcases h5 with q | ⟨q1, ⟨L, hL, q2⟩, q3⟩
    · exact Or.inl ⟨by rw [g' _ _ (by unfold envC; omega) (by unfold erV; omega)]; exact q.1, by rw [f 32 3 (by omega) (by omega), f 25 1 (by omega) (by omega)]; exact q.2⟩
    · exact Or.inr ⟨by rw [f 32 3 (by omega) (by omega)]; exact q1, ⟨L, hL, rRel_cg q2 (fun k => g' _ _ (by unfold envC; omega) (by unfold erV; omega)) (g' _ _ (by unfold envC; omega) (by unfold erV; omega)) (f _ _ (by omega) (by omega)) (fun k => f _ _ (by omega) (by omega))⟩, fun p hp => by rw [f _ _ (by omega) (by omega), g' _ _ (by unfold envC; omega) (by unfold erV; omega)]; exact q3 p hp⟩
  · unfold aFl at h6 ⊢
    rw [f 32 4 (by omega) (by omega), g' 96 37 (by unfold envC; omega) (by unfold erV; omega)]; exact h6
theorem CW.row {v m : hM} {n c : Nat} {S : Nat → Int32} (h : CW v m n c S) (xs : List Int64) : CW v (setRow m 67 66 1 xs) n c S :=
  h.earth2 (Nat.le_refl n) (erR_cg ⟨h.1.1, h.1.2.1⟩ (fun _ _ _ => rfl) (fun a j z1 z2 => sr_In (by omega))) (fun _ _ _ _ => rfl) (fun a j z1 z2 => sr_In (by omega))
theorem row_id {m : hM} {c fc fj : Nat} {xs : List Int64} (h1 : gI m fc fj = nI xs.length) (h2 : ∀ j, j < xs.length → gL m c j = xs.getD j 0) : m = setRow m c fc fj xs := by
  refine mext (fun a j => ?_) (fun a j => ?_) (fun a j => rfl)
  · rw [sr_I]
    by_cases q : a = fc ∧ j = fj
    · rw [if_pos q, q.1, q.2, h1]
    · rw [if_neg q]
  · rw [sr_L]
    by_cases q : a = c ∧ j < xs.length
    · rw [if_pos q, q.1, h2 j q.2]
    · rw [if_neg q]
/-- walked, with a row told so far: the class, the reference -/
def frC (m F : hM) (xs : List Int64) : Prop := (∀ a j, ¬ PE a j → ¬ (a = 66 ∧ j = 1) → gI F a j = gI m a j) ∧ (∀ a j, gL F a j = if a = 67 ∧ j < xs.length then xs.getD j 0 else gL m a j) ∧ (∀ a j, gR F a j = gR m a j) ∧ gI F 66 1 = nI xs.length
def frV (m p : hM) (xs : List Int64) : Prop := (∀ a j, ¬ P0S a j → ¬ (a = 96 ∧ j = 1) → gI p a j = gI m a j) ∧ (∀ a j, gL p a j = if a = 97 ∧ j < xs.length then xs.getD j 0 else gL m a j) ∧ (∀ a j, gR p a j = gR m a j) ∧ gI p 96 1 = nI xs.length
theorem frC.w {m F F' : hM} {xs : List Int64} (h : frC m F xs) (f : fr PE F F') : frC m F' xs := ⟨fun a j z1 z2 => (f.1 a j z1).trans (h.1 a j z1 z2), fun a j => (f.2.1 a j).trans (h.2.1 a j), fun a j => (f.2.2 a j).trans (h.2.2.1 a j), (f.1 _ _ (by unfold PE PC; omega)).trans h.2.2.2⟩
theorem frV.w {m F F' : hM} {xs : List Int64} (h : frV m F xs) (f : fr P0S F F') : frV m F' xs := ⟨fun a j z1 z2 => (f.1 a j z1).trans (h.1 a j z1 z2), fun a j => (f.2.1 a j).trans (h.2.1 a j), fun a j => (f.2.2 a j).trans (h.2.2.1 a j), (f.1 _ _ (by unfold P0S PS; omega)).trans h.2.2.2⟩
theorem app_get {xs : List Int64} {x : Int64} {j : Nat} : (xs ++ [x]).getD j 0 = if j < xs.length then xs.getD j 0 else if j = xs.length then x else 0 := by
  by_cases q : j < xs.length
  · rw [if_pos q]; simp [List.getElem?_append_left q]
  · rw [if_neg q]
    by_cases q2 : j = xs.length
    · rw [if_pos q2, q2]; simp
    · rw [if_neg q2]
      rw [List.getD_eq_getElem?_getD, List.getElem?_eq_none (by rw [List.length_append]; simp; omega)]; rfl
theorem frC.tell {m F : hM} {xs : List Int64} (fu : Nat) (h : frC m F xs) (hl : xs.length < 11) (x : Int64) : f_X1_tell fu x F = some ((), setRow F 67 66 1 (xs ++ [x])) ∧ frC m (setRow F 67 66 1 (xs ++ [x])) (xs ++ [x]) := by
  have e : F = setRow F 67 66 1 xs := row_id h.2.2.2 (fun j hj => by rw [h.2.1, if_pos ⟨rfl, hj⟩])
  refine ⟨?_, fun a j z1 z2 => by rw [sr_In z2]; exact h.1 a j z1 z2, fun a j => ?_, fun a j => h.2.2.1 a j, by rw [sr_I, if_pos ⟨rfl, rfl⟩]⟩
  · have := cx_tell fu F hl x
    rw [← e] at this
    exact this
  · rw [sr_L]
    by_cases q : a = 67 ∧ j < (xs ++ [x]).length
    · rw [if_pos q, if_pos q]
    · rw [if_neg q, if_neg q, h.2.1, if_neg (fun z => q ⟨z.1, by rw [List.length_append]; have := z.2; omega⟩)]
theorem frV.tell {m F : hM} {xs : List Int64} (fu : Nat) (h : frV m F xs) (hl : xs.length < 24) (x : Int64) : f_X11_enters fu x F = some ((), setRow F 97 96 1 (xs ++ [x])) ∧ frV m (setRow F 97 96 1 (xs ++ [x])) (xs ++ [x]) := by
  have e : F = setRow F 97 96 1 xs := row_id h.2.2.2 (fun j hj => by rw [h.2.1, if_pos ⟨rfl, hj⟩])
  refine ⟨?_, fun a j z1 z2 => by rw [sr_In z2]; exact h.1 a j z1 z2, fun a j => ?_, fun a j => h.2.2.1 a j, by rw [sr_I, if_pos ⟨rfl, rfl⟩]⟩
  · have := rx_enters fu F hl x
    rw [← e] at this
    exact this
  · rw [sr_L]
    by_cases q : a = 97 ∧ j < (xs ++ [x]).length
    · rw [if_pos q, if_pos q]
    · rw [if_neg q, if_neg q, h.2.1, if_neg (fun z => q ⟨z.1, by rw [List.length_append]; have := z.2; omega⟩)]
theorem frC.nil {m F : hM} (f : fr PE m F) : frC m (setRow F 67 66 1 []) [] := ⟨fun a j z1 z2 => by rw [sr_In z2]; exact f.1 a j z1, fun a j => by rw [sr_Ln (by simp), if_neg (by simp)]; exact f.2.1 a j, fun a j => f.2.2 a j, by rw [sr_I, if_pos ⟨rfl, rfl⟩]⟩
theorem frV.nil {m F : hM} (f : fr P0S m F) : frV m (sI F 96 1 0) [] := ⟨fun a j z1 z2 => by rw [gI_sn z2]; exact f.1 a j z1, fun a j => by rw [if_neg (by simp)]; exact f.2.1 a j, fun a j => f.2.2 a j, gI_ss _ _ _ _⟩
theorem IW.q5 {m F p : hM} {n c k t : Nat} {xs : List Int64} (h : IW m m n c k t) (f : frC m F xs) (he : erR m F n) (j : jk F 55 c) (g : frV F p xs) (hl : xs.length ≤ 11) : IV p := by
  have e66 : ∀ a j, 96 ≤ a → gI F a j = gI m a j := fun a j z => f.1 a j (by unfold PE PC; omega) (by omega)
  have h6 : IW m (fun a j => if a = 66 ∧ j = 1 then gI m 66 1 else gI F a j, fun a j => if a = 67 then gL m a j else gL F a j, F.2.2) n c k t := by
    have w1 : ∀ a j, gI ((fun a j => if a = 66 ∧ j = 1 then gI m 66 1 else gI F a j, fun a j => if a = 67 then gL m a j else gL F a j, F.2.2) : hM) a j = if a = 66 ∧ j = 1 then gI m 66 1 else gI F a j := fun _ _ => rfl
    have w2 : ∀ a j, gL ((fun a j => if a = 66 ∧ j = 1 then gI m 66 1 else gI F a j, fun a j => if a = 67 then gL m a j else gL F a j, F.2.2) : hM) a j = if a = 67 then gL m a j else gL F a j := fun _ _ => rfl
    refine h.m6 ⟨fun a j z => ?_, fun a j => ?_, fun a j => f.2.2.1 a j⟩ (erR_cg he (fun _ _ _ => rfl) (fun a j z1 z2 => by rw [w1, if_neg (by omega)])) (jk_cg j (fun a j z1 z2 => by rw [w1, if_neg (by omega)]))
    · rw [w1]
      by_cases q : a = 66 ∧ j = 1
      · rw [if_pos q, q.1, q.2]
      · rw [if_neg q]; exact f.1 a j z q
    · rw [w2]
      by_cases q : a = 67
      · rw [if_pos q]
      · rw [if_neg q, f.2.1, if_neg (fun z => q z.1)]
  have h2 := h6.row hl
  have eF : setRow (fun a j => if a = 66 ∧ j = 1 then gI m 66 1 else gI F a j, fun a j => if a = 67 then gL m a j else gL F a j, F.2.2) 67 66 1 xs = F := by
    refine mext (fun a j => ?_) (fun a j => ?_) (fun a j => rfl)
    · rw [sr_I]
      by_cases q : a = 66 ∧ j = 1
      · rw [if_pos q, q.1, q.2, f.2.2.2]
      · rw [if_neg q]
        show (if a = 66 ∧ j = 1 then gI m 66 1 else gI F a j) = _
        rw [if_neg q]
    · rw [sr_L, f.2.1]
      by_cases q : a = 67 ∧ j < xs.length
      · rw [if_pos q, if_pos q]
      · rw [if_neg q, if_neg q]
        show (if a = 67 then gL m a j else gL F a j) = _
        by_cases q2 : a = 67
        · rw [if_pos q2]
        · rw [if_neg q2, f.2.1, if_neg (fun z => q2 z.1)]
  rw [eF] at h2
  have gc : ∀ a j, a ≤ 95 → gI p a j = gI F a j := fun a j z => g.1 a j (fun y => by have := (P0S_ok y).1; omega) (by omega)
  refine ⟨n, c, k, t, h2.cg ⟨fun a j z => ?_, fun j => ?_, fun z => rfOk_cg (show rfOk m from z) (fun j => (g.2.2.1 _ _).trans (f.2.2.1 _ _))⟩ ⟨fun a j z => gc a j (by unfold cI at z; omega), fun j => by rw [g.2.1, if_neg (by omega)]⟩ (jk_cg j (fun a j z1 z2 => gc a j (by omega)))⟩
  · rw [sr_I]
    by_cases q : a = 96 ∧ j = 1
    · rw [if_pos q, q.1, q.2]; exact g.2.2.2
    · rw [if_neg q, g.1 a j (fun y => (P0S_ok y).2 z) q]; exact e66 a j (by unfold rI at z; omega)
  · rw [sr_L, g.2.1]
    by_cases q : 97 = 97 ∧ j < xs.length
    · rw [if_pos q, if_pos q]
    · rw [if_neg q, if_neg q, f.2.1, if_neg (by omega)]
noncomputable def woS (v : hM) (n c x k : Nat) (S : Nat → Int32) (i : Nat) : Int32 := ltr (eEnd (pB v (bit1 i) k) n c x (begR (pB v (bit1 i) k) (nI x) c S)) (eEnd v n c x (begR v (nI x) c S))
noncomputable def woB (v : hM) (n c x k : Nat) (S : Nat → Int32) : Nat → Nat × Int32
  | 0 => (0, -9999)
  | i + 1 => if woS v n c x k S i ≤ (woB v n c x k S i).2 then woB v n c x k S i else (i, woS v n c x k S i)
noncomputable def woR (v : hM) (n c x k : Nat) (S : Nat → Int32) : Nat → List Int64
  | 0 => []
  | i + 1 => woR v n c x k S i ++ [(woS v n c x k S i).toInt64]
theorem woR_len {v : hM} {n c x k : Nat} {S : Nat → Int32} : ∀ i, (woR v n c x k S i).length = i
  | 0 => rfl
  | i + 1 => by rw [woR, List.length_append, woR_len i]; rfl
theorem eEnd_rng {v : hM} {n c x : Nat} {S : Nat → Int32} (hx : x < 2400) : (eEnd v n c x S).toInt = -1 ∨ (0 ≤ (eEnd v n c x S).toInt ∧ (eEnd v n c x S).toInt ≤ 2399) := by
  rcases cEnd_all (v := v) (n := n) (c := c) (S := S) hx with ⟨e, h1, h2, h3, _⟩ | ⟨h1, _⟩
  · right; rw [h1, nI_toInt (by omega)]; omega
  · left; rw [h1]; rfl
theorem ltr_rng {v w : hM} {n c x : Nat} {S T : Nat → Int32} (hx : x < 2400) : -9999 ≤ (ltr (eEnd v n c x S) (eEnd w n c x T)).toInt := by
  have a := eEnd_rng (v := v) (n := n) (c := c) (S := S) hx
  have b := eEnd_rng (v := w) (n := n) (c := c) (S := T) hx
  unfold ltr
  split
  · decide
  · split
    · decide
    · rename_i p q
      rw [i_lt] at p q
      have e0 : (0 : Int32).toInt = 0 := rfl
      rw [i_sub] <;> omega
theorem frC.hi {m F : hM} {xs : List Int64} (f : frC m F xs) : ∀ a j, 96 ≤ a → gI F a j = gI m a j := fun a j z => f.1 a j (by unfold PE PC; omega) (by omega)
theorem prR.row {v m : hM} {n k : Nat} (h : prR v m n k) (xs : List Int64) : prR v (setRow m 67 66 1 xs) n k := prR_v h (fun _ _ _ => rfl) (fun a j z1 z2 => sr_In (by omega))
theorem cx_worth65 {fu : Nat} (hfu : 3000 ≤ fu) {v m0 : hM} {n c x k : Nat} {S : Nat → Int32} (hx : x < 2400) (hk9 : k ≤ 9) : ∀ (t i : Nat) (m : hM), i ≤ k → k - i < t → CW v m n c S → prR v m n k → frC m0 m (woR v n c x k S i) →
    ∃ m', f_X10_worth_65 fu t (nI x) (cEnd v n c x (begR v (nI x) c S) 2399) (nI (woB v n c x k S i).1) (woB v n c x k S i).2 (nI i) m = some (nI (woB v n c x k S k).1, m') ∧ CW v m' n c S ∧ frC m0 m' (woR v n c x k S k) := by
  intro t
  induction t with
  | zero => intro i m h1 h2; omega
  | succ t ih =>
    intro i m hi ht h hp hf
    rw [f_X10_worth_65_s]
    unfold s_X10_worth_65
    rw [hp.2.1]
    by_cases q : nI k ≤ nI i
    · rw [if_pos q]
      rw [nI_leI (by omega) (by omega)] at q
      have : i = k := by omega
      subst this
      exact ⟨m, rfl, h, hf⟩
    · rw [if_neg q]
      rw [nI_leI (by omega) (by omega)] at q
      obtain ⟨m1, m2, m3, m4, a1, a2, a3, a4, a5, a6, a7⟩ := cx_with hfu h hp hx (bit1 i) 2399
      have hl := woR_len (v := v) (n := n) (c := c) (x := x) (k := k) (S := S) i
      obtain ⟨b1, b2⟩ := (hf.w a7).tell fu (by omega) (woS v n c x k S i).toInt64
      have a1' : f_X3_bringTogether fu (1 <<< (nI i &&& 31)) m = some ((), m1) := a1
      have a4' : f_X3_takeBack fu (1 <<< (nI i &&& 31)) m3 = some ((), m4) := a4
      rw [a1', hBd_some, a2, hBd_some, if_pos rfl, a3, hBd_some, a4', hBd_some, cx_later fu hx hx, hBd_some]
      have e : ltr (eEnd (pB v (bit1 i) k) n c x (begR (pB v (bit1 i) k) (nI x) c S)) (eEnd v n c x (begR v (nI x) c S)) = woS v n c x k S i := rfl
      rw [e, b1, hBd_some]
      unfold f_X10_worth_156
      simp only [hLet_n, nI_1]
      obtain ⟨m5, s1, s2, s3⟩ := ih (i + 1) _ (by omega) (by omega) (a5.row _) (a6.row _) b2
      refine ⟨m5, ?_, s2, s3⟩
      rw [← s1, woB]
      by_cases y : woS v n c x k S i ≤ (woB v n c x k S i).2
      · rw [if_pos y, if_pos y]
      · rw [if_neg y, if_neg y]
theorem rx_worth51 {fu : Nat} (hfu : 3000 ≤ fu) {v m0 mp : hM} {n c x k : Nat} {S : Nat → Int32} (hx : x < 2400) (hk9 : k ≤ 9) (hpr : prR v mp n k) : ∀ (t i : Nat) (m : hM), i ≤ k → k - i < t → RW v m n c S → prM v m → frV m0 m (woR v n c x k S i) →
    ∃ m', f_X11_worth_51 fu t (nI x) (eEnd v n c x (begR v (nI x) c S)) (if i = 0 then -1 else nI (woB v n c x k S i).1) (if i = 0 then 0 else (woB v n c x k S i).2.toInt64) (nI i) m = some (if k = 0 then -1 else nI (woB v n c x k S k).1, m') ∧ frV m0 m' (woR v n c x k S k) := by
  intro t
  induction t with
  | zero => intro i m h1 h2; omega
  | succ t ih =>
    intro i m hi ht h hp hf
    rw [f_X11_worth_51_s]
    unfold s_X11_worth_51
    rw [hp.1, hpr.2.2.1]
    by_cases q : nI k ≤ nI i
    · rw [if_pos q]
      rw [nI_leI (by omega) (by omega)] at q
      have : i = k := by omega
      subst this
      exact ⟨m, rfl, hf⟩
    · rw [if_neg q]
      rw [nI_leI (by omega) (by omega)] at q
      obtain ⟨m4, a1, a5, a7⟩ := rx_endsWith hfu h hpr hp hx (bit1 i)
      have a1' : f_X11_endsWith fu (1 <<< (nI i &&& 31)) (nI x) m = _ := a1
      have hl := woR_len (v := v) (n := n) (c := c) (x := x) (k := k) (S := S) i
      obtain ⟨b1, b2⟩ := (hf.w a7).tell fu (by omega) (woS v n c x k S i).toInt64
      have r2 : RW v (setRow m4 97 96 1 (woR v n c x k S i ++ [(woS v n c x k S i).toInt64])) n c S := a5.keep (fun a j z => sr_In (by rcases z with z | z; unfold envC at z; omega; omega))
      have p2 : prM v (setRow m4 97 96 1 (woR v n c x k S i ++ [(woS v n c x k S i).toInt64])) := by
        have := hp.k a7 (fun a j z => (P0S_ok z).2)
        exact ⟨by rw [sr_In (by omega)]; exact this.1, fun a j z1 z2 => by rw [sr_In (by omega)]; exact this.2 a j z1 z2⟩
      obtain ⟨m5, s1, s3⟩ := ih (i + 1) _ (by omega) (by omega) r2 p2 b2
      rw [a1', hBd_some]
      have key : ∀ X : Int64, X = (woS v n c x k S i).toInt64 → ∃ m', f_X11_worth_91 fu (f_X11_worth_51 fu t) (nI x) (eEnd v n c x (begR v (nI x) c S)) (if i = 0 then -1 else nI (woB v n c x k S i).1) (if i = 0 then 0 else (woB v n c x k S i).2.toInt64) (nI i) X m4 = some (if k = 0 then -1 else nI (woB v n c x k S k).1, m') ∧ frV m0 m' (woR v n c x k S k) := by
        intro X hX
        subst hX
        unfold f_X11_worth_91 f_X11_worth_111 f_X11_worth_118
        simp only [hLet_n, nI_1]
        rw [b1, hBd_some]
        refine ⟨m5, ?_, s3⟩
        rw [← s1, if_neg (show ¬ i + 1 = 0 by omega), if_neg (show ¬ i + 1 = 0 by omega), woB]
        have hrg : -9999 ≤ (woS v n c x k S i).toInt := ltr_rng hx
        by_cases i0 : i = 0
        · subst i0
          rw [if_pos rfl, if_pos (show (-1 : Int32) < 0 by decide)]
          have hb0 : woB v n c x k S 0 = (0, -9999) := rfl
          rw [hb0]
          by_cases y : woS v n c x k S 0 ≤ -9999
          · rw [if_pos (show woS v n c x k S 0 ≤ (0, (-9999 : Int32)).2 from y)]
            have : woS v n c x k S 0 = -9999 := by
              rw [i_eq]; rw [i_le] at y
              have e9 : (-9999 : Int32).toInt = -9999 := rfl
              rw [e9] at y ⊢; omega
            rw [this]
          · rw [if_neg (show ¬ woS v n c x k S 0 ≤ (0, (-9999 : Int32)).2 from y)]
        · have hb : ∀ i, (woB v n c x k S i).1 ≤ i := by
            intro i
            induction i with
            | zero => exact Nat.le_refl 0
            | succ i ih => rw [woB]; split; omega; exact Nat.le_succ i
          rw [if_neg i0, if_neg (nI_pos (show (woB v n c x k S i).1 < 2 ^ 31 by have := hb i; omega)), if_neg i0]
          by_cases y : woS v n c x k S i ≤ (woB v n c x k S i).2
          · rw [if_pos (by rw [lg_cmp_le, w_le]; rw [i_le] at y; exact y), if_pos y]
          · rw [if_neg (by rw [lg_cmp_le, w_le]; rw [i_le] at y; exact y), if_neg y]
      unfold f_X11_worth_80
      have hs : woS v n c x k S i = ltr (eEnd (pB v (bit1 i) k) n c x (begR (pB v (bit1 i) k) (nI x) c S)) (eEnd v n c x (begR v (nI x) c S)) := rfl
      unfold ltr at hs
      by_cases y : eEnd (pB v (bit1 i) k) n c x (begR (pB v (bit1 i) k) (nI x) c S) < 0
      · rw [if_pos y] at hs ⊢
        exact key _ (by rw [hs]; rfl)
      · rw [if_neg y] at hs ⊢
        by_cases y2 : eEnd v n c x (begR v (nI x) c S) < 0
        · rw [if_pos y2] at hs
          rw [if_neg (by rw [i_lt] at y2; rw [i_le]; omega)]
          exact key _ (by rw [hs]; rfl)
        · rw [if_neg y2] at hs
          rw [if_pos (by rw [i_lt] at y2; rw [i_le]; omega)]
          exact key _ (by rw [hs])
theorem pB_0 {v : hM} {n k : Nat} (h : k ≤ 9) : ∀ i, i ≤ k → pB v 0 i = v
  | 0, _ => rfl
  | i + 1, hi => by rw [pB, if_neg (by rw [b_0]; decide)]; exact pB_0 (n := n) h i (by omega)
theorem ok_worth {fu : Nat} (hfu : 3000 ≤ fu) {m : hM} (h : IV m) (x1 : Int32) : okC (f_X10_worth fu x1) (f_X11_worth fu x1) m := by
  obtain ⟨n, c, k, t, h⟩ := h
  have hp := h.2.1.1
  have hc := hp.1
  have hpr := h.2.2.2.2.2.2.2.1
  have hk9 := hpr.1
  have h16 : ∀ M : hM, (∀ a j, 96 ≤ a → gI M a j = gI m a j) → gI (sI M 96 0 0) 96 16 = nI c := fun M z => by rw [gI_sn (by omega), z _ _ (by omega)]; exact hp.2.1
  have h50 : ∀ M : hM, (∀ a j, 96 ≤ a → gI M a j = gI m a j) → gI (sI M 96 0 0) 96 50 = nI k := fun M z => by rw [gI_sn (by omega), z _ _ (by omega)]; exact hpr.2.2.1
  have id1 : ∀ a j, 96 ≤ a → gI m a j = gI m a j := fun _ _ _ => rfl
  unfold okC f_X10_worth f_X11_worth
  by_cases c2 : hIn x1 2400
  rotate_left
  · refine ⟨-1, m, sI m 96 0 0, ?_, ?_, h.th rfl rfl⟩
    · rw [cx_isHour, hBd_some, if_neg c2, if_pos rfl]
    · rw [hLet_n, rx_isHour, hBd_some, if_neg c2, if_pos rfl]
  by_cases c0 : c = 0
  · refine ⟨-1, m, sI m 96 0 0, ?_, ?_, h.th rfl rfl⟩
    · rw [cx_isHour, hBd_some, if_pos c2, if_neg (by decide), h.2.1.2.1.1, if_neg (fun z => z (by rw [c0]; rfl))]
    · rw [hLet_n, rx_isHour, hBd_some, if_pos c2, if_neg (by decide), h16 m id1, if_neg (fun z => z (by rw [c0]; rfl))]
  have nc : ¬ nI c = 0 := nI_ne0 (by omega) (by omega)
  by_cases k0 : k = 0
  · refine ⟨-2, m, sI m 96 0 0, ?_, ?_, h.th rfl rfl⟩
    · rw [cx_isHour, hBd_some, if_pos c2, if_neg (by decide), h.2.1.2.1.1, if_pos nc, hpr.2.1, if_neg (fun z => z (by rw [k0]; rfl))]
    · rw [hLet_n, rx_isHour, hBd_some, if_pos c2, if_neg (by decide), h16 m id1, if_pos nc, h50 m id1, if_neg (fun z => z (by rw [k0]; rfl))]
  have nk : ¬ nI k = 0 := nI_ne0 (by omega) (by omega)
  obtain ⟨x, hx, rfl⟩ := hIn_of c2 (by omega)
  obtain ⟨m1, m2, a1, a2, a3, a4⟩ := h.cw.beg hfu hx 2399 (sFn m)
  have p2 : prR m m2 n k := prR_v hpr (fun _ _ _ => rfl) (fun a j z1 z2 => a4.1 a j (by unfold PC; omega))
  obtain ⟨F, s1, s2, s3⟩ := cx_worth65 hfu hx hk9 (m0 := m) fu 0 (setRow m2 67 66 1 []) (by omega) (by omega) (a3.row []) (p2.row []) (frC.nil (fr.PEw a4))
  have s1' : f_X10_worth_65 fu fu (nI x) (cEnd m n c x (begR m (nI x) c (sFn m)) 2399) 0 (-9999) 0 (setRow m2 67 66 1 []) = _ := s1
  obtain ⟨p1, b1, b2, b3⟩ := rx_endsWith hfu (h.rw' s3.hi) hpr (h.prm s3.hi) hx 0
  rw [pB_0 (n := n) hk9 k (Nat.le_refl k)] at b1
  obtain ⟨p3, d1, d3⟩ := rx_worth51 hfu hx hk9 hpr (m0 := F) fu 0 (sI p1 96 1 0) (by omega) (by omega) (b2.keep (fun a j z => gI_sn (by rcases z with z | z; unfold envC at z; omega; omega))) (by
    have := (h.prm s3.hi).k b3 (fun a j z => (P0S_ok z).2)
    exact ⟨by rw [gI_sn (by omega)]; exact this.1, fun a j z1 z2 => by rw [gI_sn (by omega)]; exact this.2 a j z1 z2⟩) (frV.nil (fr.th.tr b3))
  have d1' : f_X11_worth_51 fu fu (nI x) (eEnd m n c x (begR m (nI x) c (sFn m))) (-1) 0 0 (sI p1 96 1 0) = _ := d1
  rw [if_neg k0] at d1'
  refine ⟨nI (woB m n c x k (sFn m) k).1, F, p3, ?_, ?_, h.q5 s3 ⟨h.1.1, s2.1.2.1⟩ s2.2.2.2.1 d3 (by rw [woR_len]; omega)⟩
  · rw [cx_isHour, hBd_some, if_pos c2, if_neg (by decide), h.2.1.2.1.1, if_pos nc, hpr.2.1, if_pos nk, a1, hBd_some, if_pos rfl, a2, hBd_some, cx_clear, hBd_some, s1']
  · rw [hLet_n, rx_isHour, hBd_some, if_pos c2, if_neg (by decide), h16 F s3.hi, if_pos nc, h50 F s3.hi, if_pos nk, b1, hBd_some, hLet_n, d1']
