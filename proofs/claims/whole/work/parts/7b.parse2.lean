/-! ===== the rule's reading: the reference's way down, and the class beside it ===== -/
def NX (sg : Nat → Nat) (to r : Nat) (c1 : Bool) (dg p : Nat) : Prop := p < to → (48 ≤ sg p ∧ sg p ≤ 57 → dg = 0 ∨ dg = 3) ∧ (r + 1 ≤ lvl (sg p) → lvl (sg p) ≤ 5 → lvl (sg p) = 3 ∧ c1 = true)
def sOk (sg : Nat → Nat) (to : Nat) (p d : Nat) (C : List Nat) (c0 : Bool) (cs : List Bool) (B Q : List Nat) (r : Nat) (m' : hM) (p' : Nat) (C' : List Nat) (c1 : Bool) (dg : Nat) (K Q' : List Nat) : Prop :=
  p < p' ∧ rqM sg to m' p' d C' ∧ rA sg (p' - p) p (true, 0, c0 :: cs, B, Q) = some (false, dg, c1 :: cs, K ++ B, Q') ∧ (∀ o ∈ K, o ≠ 40 ∧ r + 1 ≤ lvl o) ∧ cdR C' (fls K Q') ∧ (∀ k, dp C = some k → dp C' = some (k + 1)) ∧ (3 ≤ r → c1 = c0) ∧ NX sg to r c1 dg p' ∧ C'.length + p ≤ C.length + p'
def sNo (sg : Nat → Nat) (to : Nat) (p : Nat) (a : AS) (m' : hM) : Prop :=
  ∃ p' a', p ≤ p' ∧ p' ≤ to ∧ gI m' 96 30 = nI p' ∧ rA sg (p' - p) p a = some a' ∧ ((p' = to ∧ (dueA a' = true ∨ 1 < dptA a')) ∨ (p' < to ∧ stp a' (sg p') = none))
def pS (sg : Nat → Nat) (to : Nat) (m : hM) (p d : Nat) (C : List Nat) (c0 : Bool) (cs : List Bool) (B Q : List Nat) (r : Nat) (y : Int32) (m' : hM) : Prop :=
  fr PF m m' ∧ ((y = 1 ∧ ∃ p' C' c1 dg K Q', sOk sg to p d C c0 cs B Q r m' p' C' c1 dg K Q') ∨ (y = 0 ∧ sNo sg to p (true, 0, c0 :: cs, B, Q) m'))
theorem sNo.at {sg : Nat → Nat} {to p p1 k : Nat} {a a1 : AS} {m' : hM} (h : rA sg k p a = some a1) (e : p1 = p + k) (g : sNo sg to p1 a1 m') : sNo sg to p a m' := by
  subst e
  obtain ⟨p', a', g1, g2, g3, g4, g5⟩ := g
  refine ⟨p', a', by omega, g2, g3, ?_, g5⟩
  have := rA_add h g4
  rw [show k + (p' - (p + k)) = p' - p by omega] at this
  exact this
/-- the start that all three have -/
def st0 (sg : Nat → Nat) (to : Nat) (m : hM) (p d : Nat) (C : List Nat) (cs : List Bool) (Q : List Nat) : Prop := rqM sg to m p d C ∧ cdR C Q ∧ cs.length = d ∧ d ≤ 5
theorem fr.pf {m m' : hM} {x : Int32} {j : Nat} (h : fr PF m m') (hj : j = 30 ∨ j = 32) : fr PF m (sI m' 96 j x) := h.si (Or.inl ⟨rfl, hj⟩)
theorem dp_num {C : List Nat} {k x : Nat} (h : dp C = some k) (hx : x < 2000) : dp (x :: C) = some (k + 1) := by
  simp only [dp, h, if_pos hx]
theorem dp_un {C : List Nat} {k x : Nat} (h : dp C = some k) (hx : x = 2033 ∨ x = 2126) (hk : 1 ≤ k) : dp (x :: C) = some k := by
  simp only [dp, h, if_neg (show ¬ x < 2000 by omega), if_pos hx, if_pos hk]
theorem dp_bi {C : List Nat} {k c : Nat} (h : dp C = some k) (hc : bnS c) (hk : 2 ≤ k) : dp ((2000 + c) :: C) = some (k - 1) := by
  unfold bnS at hc
  simp only [dp, h, if_neg (show ¬ 2000 + c < 2000 by omega), if_neg (show ¬ (2000 + c = 2033 ∨ 2000 + c = 2126) by omega), if_pos hk]
/-- a number -/
theorem rx_num {fu : Nat} (hfu : 100 ≤ fu) {sg : Nat → Nat} {to : Nat} (qT qA) (qR : Int32 → hM → Option (Int32 × hM)) {m0 : hM} {p0 d : Nat} {C Q B : List Nat} {c0 : Bool} {cs : List Bool} (h0 : st0 sg to m0 p0 d C cs Q) : ∀ (t n x : Nat) (m : hM), n ≤ 3 → 3 - n < t → x < 10 ^ n → rqM sg to m (p0 + n) d C → fr PF m0 m → (n = 0 → x = 0 ∧ p0 < to ∧ 48 ≤ sg p0 ∧ sg p0 ≤ 57) → (0 < n → rA sg n p0 (true, 0, c0 :: cs, B, Q) = some (false, n, c0 :: cs, B, x :: Q)) →
    ∃ m', f_X11_thing_11 fu qT qA qR t (nI x) (nI n) m = some (1, m') ∧ pS sg to m0 p0 d C c0 cs B Q 6 1 m' := by
  intro t
  induction t with
  | zero => intro n x m h1 h2; exact absurd h2 (Nat.not_lt_zero _)
  | succ t ih =>
    intro n x m hn ht hx hM hf hz hr
    rw [f_X11_thing_11_s]
    unfold s_X11_thing_11 f_X11_thing_57
    have hC := h0.1.2.2.2.2.2.2.2.2
    have hto := h0.1.2.2.2.2.2.2.2.1
    have x3 : x < 1000 := by
      have : 10 ^ n ≤ 10 ^ 3 := Nat.pow_le_pow_right (by omega) hn
      omega
    have fin : 0 < n → (p0 + n < to → 48 ≤ sg (p0 + n) ∧ sg (p0 + n) ≤ 57 → n = 3) → ∃ m', (hBd (f_X11_marks fu (nI x) m) fun _ m24 => some ((1 : Int32), m24)) = some (1, m') ∧ pS sg to m0 p0 d C c0 cs B Q 6 1 m' := by
      intro n0 hnx
      obtain ⟨m2, a1, a2, a3⟩ := rx_marks fu (x := x) hM (by omega)
      rw [a1, hBd_some]
      refine ⟨m2, rfl, hf.tr a3, Or.inl ⟨rfl, p0 + n, x :: C, c0, n, [], x :: Q, by omega, a2, ?_, fun o ho => absurd ho List.not_mem_nil, ⟨Or.inl ⟨rfl, x3⟩, h0.2.1⟩, fun k hk => ?_, fun _ => rfl, fun z => ⟨fun y => Or.inr (hnx z y), fun y1 y2 => by omega⟩, by rw [List.length_cons]; omega⟩⟩
      · rw [show p0 + n - p0 = n by omega]; exact hr n0
      · exact dp_num hk (by omega)
    by_cases q : nI 3 ≤ nI n
    · rw [if_pos (show (3 : Int32) ≤ nI n from q)]
      rw [nI_leI (by omega) (by omega)] at q
      exact fin (by omega) (fun _ _ => by omega)
    · rw [if_neg (show ¬ (3 : Int32) ≤ nI n from q)]
      rw [nI_leI (by omega) (by omega)] at q
      rw [rx_isDigit fu hM, hBd_some]
      by_cases q2 : p0 + n < to ∧ 48 ≤ sg (p0 + n) ∧ sg (p0 + n) ≤ 57
      · obtain ⟨t1, t2⟩ := hM.2.2.2.2.2.1 (p0 + n) q2.1
        rw [if_pos q2, if_neg (by decide), hM.1, if_pos (hIn_lt (show p0 + n < 60 by omega) (by omega)), nI_clamp (by omega), t1, show (10 : Int32) = nI 10 from rfl, show (48 : Int32) = nI 48 from rfl, pk_mul, nI_add, pk_sub (by omega), hLet_n, hLet_n, hLet_n, nI_1, nI_1]
        have hM2 := hM.nx q2.1
        rw [hM.1, nI_1] at hM2
        refine ih (n + 1) (10 * x + sg (p0 + n) - 48) _ (by omega) (by omega) (by rw [Nat.pow_succ]; omega) hM2 (hf.pf (Or.inl rfl)) (fun z => by omega) (fun _ => ?_)
        rcases Nat.eq_zero_or_pos n with e | e
        · subst e
          have hz2 := hz rfl
          show (stp (true, 0, c0 :: cs, B, Q) (sg p0)).bind (rA sg 0 (p0 + 1)) = some (false, 0 + 1, c0 :: cs, B, (10 * x + sg (p0 + 0) - 48) :: Q)
          rw [stp, Nat.add_zero, hz2.1]
          rw [if_neg (by omega), if_neg (by omega), if_neg (by omega), if_pos (by omega)]
          show some (false, 1, c0 :: cs, B, (sg p0 - 48) :: Q) = some (false, 0 + 1, c0 :: cs, B, (10 * 0 + sg p0 - 48) :: Q)
          rw [show 10 * 0 + sg p0 - 48 = sg p0 - 48 by omega]
        · refine rA_s (hr e) ?_
          rw [stp, if_pos q2.2, dgS, if_neg (by omega), show x * 10 + (sg (p0 + n) - 48) = 10 * x + sg (p0 + n) - 48 by omega]
      · rw [if_neg q2, if_pos rfl]
        refine fin ?_ (fun y1 y2 => absurd ⟨y1, y2⟩ q2)
        rcases Nat.eq_zero_or_pos n with e | e
        · subst e
          have := hz rfl
          exact absurd ⟨this.2.1, this.2.2⟩ q2
        · exact e
/-- what the class says of a sign that can't follow a thing -/
theorem nx_none {sg : Nat → Nat} {to : Nat} {c1 : Bool} {dg p : Nat} {cm : List Bool} {P C : List Nat} (h : NX sg to 0 c1 dg p) (hp : p < to) (h41 : sg p = 41 → cm.length = 0) : stp (false, dg, c1 :: cm, P, C) (sg p) = none := by
  obtain ⟨n1, n2⟩ := h hp
  rw [stp]
  by_cases cd : 48 ≤ sg p ∧ sg p ≤ 57
  · rw [if_pos cd]
    cases C with
    | nil => rfl
    | cons x C => rw [dgS, if_pos (n1 cd)]
  rw [if_neg cd]
  by_cases c41 : sg p = 41
  · rw [if_pos c41, if_pos (by rw [List.length_cons, h41 c41]; omega)]
  rw [if_neg c41]
  by_cases z : lvl (sg p) = 0 ∨ lvl (sg p) = 6
  · rw [if_pos z]
  · have := lvl_le (sg p)
    have q := n2 (by omega) (by omega)
    rw [if_neg z, if_pos ⟨q.1, q.2⟩]
/-- thing: a way down that holds a level deeper -/
theorem rx_thing {fu : Nat} (hfu : 100 ≤ fu) {sg : Nat → Nat} {to : Nat} (qT qA) (qR : Int32 → hM → Option (Int32 × hM)) {m : hM} {p d : Nat} {C Q B : List Nat} {c0 : Bool} {cs : List Bool} (h0 : st0 sg to m p d C cs Q) (hu : p < to → ¬ sg p = 33 ∧ ¬ sg p = 45)
    (IH : ∀ (m2 : hM) (cs2 : List Bool) (B2 : List Nat), d < 5 → p < to → st0 sg to m2 (p + 1) (d + 1) C cs2 Q → Bok 0 B2 → ∃ y m', qR 0 m2 = some (y, m') ∧ pS sg to m2 (p + 1) (d + 1) C false cs2 B2 Q 0 y m') :
    ∃ y m', b_X11_thing fu qT qA qR m = some (y, m') ∧ pS sg to m p d C c0 cs B Q 6 y m' := by
  have hM := h0.1
  have hC := hM.2.2.2.2.2.2.2.2
  have hto := hM.2.2.2.2.2.2.2.1
  have hpt := hM.2.2.2.2.2.2.1
  unfold b_X11_thing
  rw [rx_isDigit fu hM, hBd_some]
  by_cases cd : p < to ∧ 48 ≤ sg p ∧ sg p ≤ 57
  · rw [if_pos cd, if_neg (by decide)]
    obtain ⟨m', a1, a2⟩ := rx_num hfu qT qA qR (B := B) (c0 := c0) h0 fu 0 0 m (by omega) (by omega) (by decide) hM fr.rf (fun _ => ⟨rfl, cd⟩) (fun z => absurd z (Nat.lt_irrefl 0))
    exact ⟨1, m', a1, a2⟩
  rw [if_neg cd, if_pos rfl, hM.am hfu (show 0 < 9 by omega), hBd_some]
  -- it fails here
  have no : (p < to → stp (true, 0, c0 :: cs, B, Q) (sg p) = none) → pS sg to m p d C c0 cs B Q 6 0 m := by
    intro z
    refine ⟨fr.rf, Or.inr ⟨rfl, p, (true, 0, c0 :: cs, B, Q), Nat.le_refl _, hpt, hM.1, by rw [Nat.sub_self]; rfl, ?_⟩⟩
    rcases Nat.lt_or_ge p to with u | u
    · exact Or.inr ⟨u, z u⟩
    · exact Or.inl ⟨by omega, Or.inl rfl⟩
  by_cases hp : p < to
  rotate_left
  · rw [if_neg hp, if_pos (by decide), hM.am hfu (show 1 < 9 by omega), hBd_some, if_neg hp, if_pos (by decide)]
    exact ⟨0, m, rfl, no (fun z => absurd z hp)⟩
  rw [if_pos hp]
  obtain ⟨t1, t2⟩ := hM.2.2.2.2.2.1 p hp
  obtain ⟨u1, u2⟩ := hu hp
  have nd : ¬ (48 ≤ sg p ∧ sg p ≤ 57) := fun z => cd ⟨hp, z⟩
  rcases am_0 (sg p) t2 with ⟨l1, l2⟩ | ⟨l1, k, l2, l3, l4⟩
  · rw [l2, if_pos (by decide), hM.am hfu (show 1 < 9 by omega), hBd_some, if_pos hp]
    by_cases c40 : sg p = 40
    · have n1 : ¬ ixS (sg p) (chS 1) 0 < 0 := fun z => (am_1 (sg p) t2).mp z c40
      rw [if_neg n1, hM.2.2.1]
      by_cases d5 : d = 5
      · rw [if_neg (show ¬ ¬ nI d = 5 by rw [d5]; exact fun z => z rfl)]
        refine ⟨0, m, rfl, no (fun _ => ?_)⟩
        rw [stp, if_neg u1, if_neg u2, if_pos c40, if_pos (by rw [List.length_cons, h0.2.2.1, d5])]
      · have hd5 := h0.2.2.2
        have n5 : ¬ nI d = 5 := fun z => d5 ((nI_eq (show d < 2 ^ 31 by omega) (show 5 < 2 ^ 31 by omega)).mp z)
        rw [if_pos n5, hLet_n, hLet_n]
        have hM1 := hM.nx hp
        have e32 : gI (sI m 96 30 (gI m 96 30 + 1)) 96 32 = nI d := by rw [gI_sn (by omega)]; exact hM.2.2.1
        rw [e32, nI_1]
        have hM2 : rqM sg to (sI (sI m 96 30 (gI m 96 30 + 1)) 96 32 (nI (d + 1))) (p + 1) (d + 1) C := hM1.go (by rw [gI_sn (by omega)]; exact hM1.1) (gI_ss _ _ _ _) (fun a j z => gI_sn (by omega)) (by omega) (by omega)
        have f2 : fr PF m (sI (sI m 96 30 (gI m 96 30 + 1)) 96 32 (nI (d + 1))) := (fr.rf.pf (Or.inl rfl)).pf (Or.inr rfl)
        obtain ⟨y, m3, a1, a2⟩ := IH (sI (sI m 96 30 (gI m 96 30 + 1)) 96 32 (nI (d + 1))) (c0 :: cs) (40 :: B) (by omega) hp ⟨hM2, h0.2.1, by rw [List.length_cons, h0.2.2.1], by omega⟩ (Or.inl rfl)
        have r1 : rA sg 1 p (true, 0, c0 :: cs, B, Q) = some (true, 0, false :: c0 :: cs, 40 :: B, Q) := by
          rw [rA, stp, if_neg u1, if_neg u2, if_pos c40, if_neg (by rw [List.length_cons, h0.2.2.1]; omega)]; rfl
        rw [a1, hBd_some]
        rcases a2.2 with ⟨rfl, p', C', c1, dg, K, Q', s1, s2, s3, s4, s5, s6, s7, s8, s9⟩ | ⟨rfl, s⟩
        · rw [if_neg (by decide), s2.am hfu (show 2 < 9 by omega), hBd_some]
          have hpt' := s2.2.2.2.2.2.2.1
          have r2 : rA sg (p' - p) p (true, 0, c0 :: cs, B, Q) = some (false, dg, c1 :: c0 :: cs, K ++ 40 :: B, Q') := by
            have := rA_add r1 s3
            rw [show 1 + (p' - (p + 1)) = p' - p by omega] at this
            exact this
          by_cases c41 : p' < to ∧ sg p' = 41
          · obtain ⟨t1', t2'⟩ := s2.2.2.2.2.2.1 p' c41.1
            rw [if_pos c41.1, if_pos ((am_2 _ t2').mpr c41.2), hLet_n, hLet_n]
            have hM4 := s2.nx c41.1
            have e33 : gI (sI m3 96 30 (gI m3 96 30 + 1)) 96 32 = nI (d + 1) := by rw [gI_sn (by omega)]; exact s2.2.2.1
            rw [e33, nI_pred]
            have hM5 : rqM sg to (sI (sI m3 96 30 (gI m3 96 30 + 1)) 96 32 (nI d)) (p' + 1) d C' := hM4.go (by rw [gI_sn (by omega)]; exact hM4.1) (gI_ss _ _ _ _) (fun a j z => gI_sn (by omega)) (by omega) (by have := s2.2.2.2.2.2.2.2.2; omega)
            have hcl := clo_app (l := 0) K (40 :: B) Q' (fun o ho => ⟨(s4 o ho).1, by omega⟩) (fun o B' e => Or.inl (by injection e with e1 e2; exact e1.symm))
            refine ⟨1, _, rfl, ((f2.tr a2.1).pf (Or.inl rfl)).pf (Or.inr rfl), Or.inl ⟨rfl, p' + 1, C', c0, 0, [], fls K Q', by omega, hM5, ?_, fun o ho => absurd ho List.not_mem_nil, s5, s6, fun _ => rfl, fun _ => ⟨fun _ => Or.inl rfl, fun y1 y2 => by omega⟩, by omega⟩⟩
            rw [show p' + 1 - p = p' - p + 1 by omega]
            refine rA_s r2 ?_
            rw [show p + (p' - p) = p' by omega, stp, if_neg (by omega), if_pos c41.2, if_neg (by simp only [List.length_cons]; omega), hcl]
            rfl
          · have ny : ¬ 0 ≤ (if p' < to then ixS (sg p') (chS 2) 0 else -1) := by
              by_cases z : p' < to
              · rw [if_pos z]; exact fun w => c41 ⟨z, (am_2 _ (s2.2.2.2.2.2.1 p' z).2).mp w⟩
              · rw [if_neg z]; decide
            rw [if_neg ny]
            refine ⟨0, m3, rfl, f2.tr a2.1, Or.inr ⟨rfl, p', _, by omega, hpt', s2.1, r2, ?_⟩⟩
            rcases Nat.lt_or_ge p' to with u | u
            · exact Or.inr ⟨u, nx_none s8 u (fun w => absurd ⟨u, w⟩ c41)⟩
            · exact Or.inl ⟨by omega, Or.inr (by show 1 < (c1 :: c0 :: cs).length; simp only [List.length_cons]; omega)⟩
        · rw [if_pos rfl]
          exact ⟨0, m3, rfl, f2.tr a2.1, Or.inr ⟨rfl, s.at r1 rfl⟩⟩
    · rw [if_pos ((am_1 (sg p) t2).mpr c40)]
      refine ⟨0, m, rfl, no (fun _ => ?_)⟩
      rw [stp, if_neg u1, if_neg u2, if_neg c40, if_neg nd, if_neg l1]
  · rw [l3, if_neg (nI_pos (by omega)), show (1000 : Int32) = nI 1000 from rfl, nI_add]
    -- the place goes on behind the mark
    have hc := lett_dig l1
    unfold f_X11_marks
    obtain ⟨a1, a2, a3, a4, a5, a6, a7, a8, a9⟩ := hM
    rw [a4, show (48 : Int32) = nI 48 from rfl, nI_add, if_pos (hIn_lt (show 48 + C.length < 96 by omega) (by omega)), hLet_n, nI_clamp (by omega), gI_sn (by omega), a4, nI_1, hLet_n, hBd_some, hLet_n]
    have e30 : gI (sI (sI m 116 (48 + C.length) (nI (1000 + k))) 117 1 (nI (C.length + 1))) 96 30 = nI p := by simp (disch := omega) only [gI_sn]; exact a1
    rw [e30, nI_1]
    refine ⟨1, _, rfl, ((fr.rf.si (by unfold PF; omega)).si (by unfold PF; omega)).pf (Or.inl rfl), Or.inl ⟨rfl, p + 1, (1000 + k) :: C, c0, 0, [], (1000 + sg p) :: Q, by omega, ⟨gI_ss _ _ _ _, by simp (disch := omega) only [gI_sn]; exact a2, by simp (disch := omega) only [gI_sn]; exact a3, by rw [gI_sn (by omega), gI_ss, List.length_cons], fun i hi => ?_, fun j hj => by simp (disch := omega) only [gI_sn]; exact a6 j hj, by omega, a8, by rw [List.length_cons]; omega⟩, ?_, fun o ho => absurd ho List.not_mem_nil, ⟨Or.inr (Or.inl ⟨k, l2, rfl, by rw [l4]⟩), h0.2.1⟩, fun j hj => ?_, fun _ => rfl, fun _ => ⟨fun _ => Or.inl rfl, fun y1 y2 => by omega⟩, by rw [List.length_cons]; omega⟩⟩
    · rw [List.length_cons] at hi ⊢
      by_cases e : i = C.length
      · subst e
        rw [gI_sn (by omega), gI_sn (by omega), gI_ss, show C.length + 1 - 1 - C.length = 0 by omega]; rfl
      · rw [gI_sn (by omega), gI_sn (by omega), gI_sn (by omega), a5 i (by omega), show C.length + 1 - 1 - i = C.length - 1 - i + 1 by omega]; rfl
    · rw [show p + 1 - p = 1 by omega, rA, stp, if_neg u1, if_neg u2, if_neg hc.2.2.1, if_neg nd, if_pos l1]; rfl
    · exact dp_num hj (by omega)
