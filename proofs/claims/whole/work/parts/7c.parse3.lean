/-! ===== the rule's reading: ahead, ranked, and all together ===== -/
theorem rx_ahead {fu : Nat} (hfu : 100 ≤ fu) {sg : Nat → Nat} {to : Nat} (qT qA) (qR : Int32 → hM → Option (Int32 × hM)) {m : hM} {p d : Nat} {C Q B : List Nat} {c0 : Bool} {cs : List Bool} (h0 : st0 sg to m p d C cs Q)
    (IHT : (p < to → ¬ sg p = 33 ∧ ¬ sg p = 45) → ∃ y m', qT m = some (y, m') ∧ pS sg to m p d C c0 cs B Q 6 y m')
    (IHA : ∀ (m2 : hM) (B2 : List Nat), p < to → st0 sg to m2 (p + 1) d C cs Q → ∃ y m', qA m2 = some (y, m') ∧ pS sg to m2 (p + 1) d C c0 cs B2 Q 5 y m') :
    ∃ y m', b_X11_ahead fu qT qA qR m = some (y, m') ∧ pS sg to m p d C c0 cs B Q 5 y m' := by
  have hm := h0.1
  have hC := hm.2.2.2.2.2.2.2.2
  unfold b_X11_ahead f_X11_ahead_50
  rw [hm.am hfu (show 3 < 9 by omega), hBd_some]
  -- no sign ahead
  have low : (p < to → ¬ sg p = 33 ∧ ¬ sg p = 45) → ∃ y m', (hBd (qT m) fun y12 m13 => if y12 = 0 ∨ y12 = 1 then some (y12, m13) else none) = some (y, m') ∧ pS sg to m p d C c0 cs B Q 5 y m' := by
    intro z
    obtain ⟨y, m', a1, a2⟩ := IHT z
    rw [a1, hBd_some]
    have hy : y = 0 ∨ y = 1 := by
      rcases a2.2 with ⟨e, -⟩ | ⟨e, -⟩
      · exact Or.inr e
      · exact Or.inl e
    rw [if_pos hy]
    refine ⟨y, m', rfl, a2.1, ?_⟩
    rcases a2.2 with ⟨e, p', C', c1, dg, K, Q', s1, s2, s3, s4, s5, s6, s7, s8, s9⟩ | q
    · exact Or.inl ⟨e, p', C', c1, dg, K, Q', s1, s2, s3, fun o ho => ⟨(s4 o ho).1, by have := (s4 o ho).2; omega⟩, s5, s6, fun _ => s7 (by omega), fun u => ⟨(s8 u).1, fun y1 y2 => by omega⟩, s9⟩
    · exact Or.inr q
  by_cases hp : p < to
  rotate_left
  · rw [if_neg hp, if_neg (by decide)]
    exact low (fun z => absurd z hp)
  rw [if_pos hp]
  obtain ⟨t1, t2⟩ := hm.2.2.2.2.2.1 p hp
  -- a sign u ahead
  have up : ∀ u : Nat, (u = 33 ∨ u = 126) → stp (true, 0, c0 :: cs, B, Q) (sg p) = some (true, 0, c0 :: cs, u :: B, Q) → ∀ (F : Int32 → hM → Option (Int32 × hM)), (∀ (m6 : hM), F 0 m6 = some (0, m6)) → (∀ (m6 : hM), F 1 m6 = hBd (f_X11_marks fu (nI (2000 + u)) m6) fun _ m10 => some (1, m10)) → ∃ y m', (hBd (qA (sI m 96 30 (gI m 96 30 + 1))) F) = some (y, m') ∧ pS sg to m p d C c0 cs B Q 5 y m' := by
    intro u hu hst F F0 F1
    have f1 : fr PF m (sI m 96 30 (gI m 96 30 + 1)) := fr.rf.pf (Or.inl rfl)
    obtain ⟨y, m3, a1, a2⟩ := IHA (sI m 96 30 (gI m 96 30 + 1)) (u :: B) hp ⟨hm.nx hp, h0.2.1, h0.2.2⟩
    have r1 : rA sg 1 p (true, 0, c0 :: cs, B, Q) = some (true, 0, c0 :: cs, u :: B, Q) := by rw [rA, hst]; rfl
    rw [a1, hBd_some]
    rcases a2.2 with ⟨rfl, p', C', c1, dg, K, Q', s1, s2, s3, s4, s5, s6, s7, s8, s9⟩ | ⟨rfl, s⟩
    · obtain ⟨m4, b1, b2, b3⟩ := rx_marks fu (x := 2000 + u) s2 (by omega)
      rw [F1, b1, hBd_some]
      have lu : lvl u = 6 := by rcases hu with rfl | rfl <;> decide
      refine ⟨1, m4, rfl, (f1.tr a2.1).tr b3, Or.inl ⟨rfl, p', (2000 + u) :: C', c1, dg, K ++ [u], Q', by omega, b2, ?_, fun o ho => ?_, ?_, fun k hk => ?_, fun _ => s7 (by omega), s8, by rw [List.length_cons]; omega⟩⟩
      · have := rA_add r1 s3
        rw [show 1 + (p' - (p + 1)) = p' - p by omega] at this
        rw [List.append_assoc]; exact this
      · rcases List.mem_append.mp ho with z | z
        · exact s4 o z
        · rw [List.mem_singleton.mp z, lu]; exact ⟨by omega, by omega⟩
      · rw [fls_app]
        exact ⟨Or.inr (Or.inr ⟨rfl, by omega⟩), s5⟩
      · exact dp_un (s6 k hk) (by omega) (by omega)
    · rw [F0]
      exact ⟨0, m3, rfl, f1.tr a2.1, Or.inr ⟨rfl, s.at r1 rfl⟩⟩
  rcases am_3 (sg p) t2 with ⟨e1, e2⟩ | ⟨e1, e2⟩ | ⟨e1, e2, e3⟩
  · rw [e2, if_pos (by decide), hLet_n]
    refine up 33 (Or.inl rfl) (by rw [stp, if_pos e1]) _ (fun m6 => ?_) (fun m6 => ?_)
    · rw [if_pos rfl, if_pos (Or.inl rfl)]
    · rw [if_neg (by decide), if_neg (fun z => z rfl), show (2000 : Int32) + 33 = nI (2000 + 33) from rfl]
      congr 1
  · rw [e2, if_pos (by decide), hLet_n]
    refine up 126 (Or.inr rfl) (by rw [stp, if_neg (by omega), if_pos e1]) _ (fun m6 => ?_) (fun m6 => ?_)
    · rw [if_pos rfl, if_pos (Or.inl rfl)]
    · rw [if_neg (by decide), if_pos (by decide), show (2000 : Int32) + 126 = nI (2000 + 126) from rfl]
      congr 1
  · rw [e3, if_neg (by decide)]
    exact low (fun _ => ⟨e1, e2⟩)
theorem rx_rloop {fu : Nat} (hfu : 100 ≤ fu) {sg : Nat → Nat} {to : Nat} (qT qA) (qR : Int32 → hM → Option (Int32 × hM)) {m : hM} {p d r : Nat} {C Q B : List Nat} {c0 : Bool} {cs : List Bool} (hr : r < 5) (h0 : st0 sg to m p d C cs Q) (hB : Bok r B)
    (IHR : ∀ (m2 : hM) (p2 : Nat) (C2 : List Nat) (c2 : Bool) (B2 Q2 : List Nat), p ≤ p2 → st0 sg to m2 p2 d C2 cs Q2 → (r + 1 ≤ 2 → c2 = false) → Bok (r + 1) B2 → ∃ y m', qR (nI (r + 1)) m2 = some (y, m') ∧ pS sg to m2 p2 d C2 c2 cs B2 Q2 (r + 1) y m') :
    ∀ (t : Nat) (m1 : hM) (p1 : Nat) (C1 : List Nat) (c1 : Bool) (dg : Nat) (K Q1 : List Nat) (more : Int32), to - p1 < t → fr PF m m1 → p < p1 → rqM sg to m1 p1 d C1 → rA sg (p1 - p) p (true, 0, c0 :: cs, B, Q) = some (false, dg, c1 :: cs, K ++ B, Q1) → (∀ o ∈ K, o ≠ 40 ∧ r + 1 ≤ lvl o) → cdR C1 (fls K Q1) → (∀ k, dp C = some k → dp C1 = some (k + 1)) → (3 ≤ r → c1 = c0) → NX sg to (r + 1) c1 dg p1 → C1.length + p ≤ C.length + p1 → ((more = 0 ∧ r = 2 ∧ c1 = true) ∨ (more = 1 ∧ (r = 2 → c1 = false))) →
    ∃ y m', f_X11_ranked_63 fu qT qA qR t (nI r) (4 + r) 1 more m1 = some (y, m') ∧ pS sg to m p d C c0 cs B Q r y m' := by
  intro t
  induction t with
  | zero => intro m1 p1 C1 c1 dg K Q1 more h; exact absurd h (Nat.not_lt_zero _)
  | succ t ih =>
    intro m1 p1 C1 c1 dg K Q1 more ht hf hpp hm hra hK hcd hdp hc1 hnx hlen hmore
    have hpt := hm.2.2.2.2.2.2.1
    rw [f_X11_ranked_63_s]
    unfold s_X11_ranked_63 f_X11_ranked_123 f_X11_ranked_133
    rw [if_neg (by decide)]
    have done : NX sg to r c1 dg p1 → ∃ y m', (if (1 : Int32) = 0 ∨ (1 : Int32) = 1 then some ((1 : Int32), m1) else none) = some (y, m') ∧ pS sg to m p d C c0 cs B Q r y m' := by
      intro nx
      rw [if_pos (Or.inr rfl)]
      exact ⟨1, m1, rfl, hf, Or.inl ⟨rfl, p1, C1, c1, dg, K, Q1, hpp, hm, hra, hK, hcd, hdp, hc1, nx, hlen⟩⟩
    rcases hmore with ⟨rfl, r2, ct⟩ | ⟨rfl, hc2⟩
    · rw [if_pos rfl]
      refine done (fun u => ⟨(hnx u).1, fun y1 y2 => ?_⟩)
      by_cases e : lvl (sg p1) = 3
      · exact ⟨e, ct⟩
      · exact (hnx u).2 (by omega) y2
    rw [if_neg (by decide), hm.am hfu (show 4 + r < 9 by omega), hBd_some]
    by_cases hp : p1 < to
    rotate_left
    · rw [if_neg hp, if_pos (by decide)]
      exact done (fun u => absurd u hp)
    rw [if_pos hp]
    obtain ⟨t1, t2⟩ := hm.2.2.2.2.2.1 p1 hp
    have har := am_r (sg p1) t2 r hr
    by_cases cl : lvl (sg p1) = r + 1
    rotate_left
    · rw [if_pos (har.mpr cl)]
      exact done (fun u => ⟨(hnx u).1, fun y1 y2 => (hnx u).2 (by omega) y2⟩)
    have nneg : ¬ ixS (sg p1) (chS (4 + r)) 0 < 0 := fun z => har.mp z cl
    obtain ⟨hbn, hnd, hn41, hn40⟩ := lvl_bn t2 (by omega) (by omega)
    have hto := hm.2.2.2.2.2.2.2.1
    rw [if_neg nneg, hm.1, if_pos (hIn_lt (show p1 < 60 by omega) (by omega)), nI_clamp (by omega), t1, hLet_n, hLet_n, nI_1, nI_1]
    have hm2 := hm.nx hp
    rw [hm.1, nI_1] at hm2
    -- the class takes the operator
    have hcl := clo_app (l := r + 1) K B Q1 hK (fun o B' e => by
      subst e
      rcases hB with z | z
      · exact Or.inl z
      · exact Or.inr (by omega))
    obtain ⟨c2, hc2e⟩ : ∃ c2 : Bool, c2 = if r + 1 ≤ 3 then decide (r + 1 = 3) else c1 := ⟨_, rfl⟩
    have hst : stp (false, dg, c1 :: cs, K ++ B, Q1) (sg p1) = some (true, 0, c2 :: cs, sg p1 :: B, fls K Q1) := by
      rw [stp, if_neg hnd, if_neg hn41, cl, if_neg (by omega), if_neg (fun z => by
        have := hc2 (by omega)
        have h2 : c1 = true := z.2
        rw [this] at h2; exact absurd h2 (by decide)), hcl, hc2e]
      by_cases e : r + 1 ≤ 3
      · rw [if_pos e, if_pos e]; rfl
      · rw [if_neg e, if_neg e]
    have r1 : rA sg (p1 - p + 1) p (true, 0, c0 :: cs, B, Q) = some (true, 0, c2 :: cs, sg p1 :: B, fls K Q1) := rA_s hra (by rw [show p + (p1 - p) = p1 by omega]; exact hst)
    have f2 : fr PF m (sI m1 96 30 (nI (p1 + 1))) := hf.pf (Or.inl rfl)
    obtain ⟨y, m3, a1, a2⟩ := IHR (sI m1 96 30 (nI (p1 + 1))) (p1 + 1) C1 c2 (sg p1 :: B) (fls K Q1) (by omega) ⟨hm2, hcd, h0.2.2⟩ (fun z => by rw [hc2e, if_pos (by omega)]; exact decide_eq_false (by omega)) (Or.inr (by omega))
    rw [a1, hBd_some]
    rcases a2.2 with ⟨rfl, p', C', c3, dg2, K2, Q2, s1, s2, s3, s4, s5, s6, s7, s8, s9⟩ | ⟨rfl, s⟩
    · obtain ⟨m4, b1, b2, b3⟩ := rx_marks fu (x := 2000 + sg p1) s2 (by have := h0.1.2.2.2.2.2.2.2.2; omega)
      rw [if_neg (by decide), show (2000 : Int32) = nI 2000 from rfl, nI_add, b1, hBd_some]
      have hra2 : rA sg (p' - p) p (true, 0, c0 :: cs, B, Q) = some (false, dg2, c3 :: cs, (K2 ++ [sg p1]) ++ B, Q2) := by
        have := rA_add r1 (by rw [show p + (p1 - p + 1) = p1 + 1 by omega]; exact s3)
        rw [show p1 - p + 1 + (p' - (p1 + 1)) = p' - p by omega] at this
        rw [List.append_assoc]; exact this
      have go : ∀ more, ((more = 0 ∧ r = 2 ∧ c3 = true) ∨ (more = 1 ∧ (r = 2 → c3 = false))) → ∃ y m', f_X11_ranked_63 fu qT qA qR t (nI r) (4 + r) 1 more m4 = some (y, m') ∧ pS sg to m p d C c0 cs B Q r y m' := fun more hmr =>
        ih m4 p' ((2000 + sg p1) :: C') c3 dg2 (K2 ++ [sg p1]) Q2 more (by omega) ((f2.tr a2.1).tr b3) (by omega) b2 hra2 (fun o ho => by
          rcases List.mem_append.mp ho with z | z
          · exact ⟨(s4 o z).1, by have := (s4 o z).2; omega⟩
          · rw [List.mem_singleton.mp z]; exact ⟨hn40, by omega⟩) (by rw [fls_app]; exact ⟨Or.inr (Or.inr ⟨rfl, Or.inr (Or.inr ⟨_, hbn, rfl⟩)⟩), s5⟩) (fun k hk => by
          have := dp_bi (s6 _ (hdp k hk)) hbn (by omega)
          rw [show k + 1 + 1 - 1 = k + 1 by omega] at this
          exact this) (fun z => by rw [s7 (by omega), hc2e, if_neg (by omega)]; exact hc1 z) s8 (by rw [List.length_cons]; omega) hmr
      by_cases r2 : r = 2
      · rw [if_pos (show nI r = 2 by rw [r2]; rfl)]
        exact go 0 (Or.inl ⟨rfl, r2, by rw [s7 (by omega), hc2e, r2]; rfl⟩)
      · have n2 : ¬ nI r = 2 := fun z => r2 ((nI_eq (show r < 2 ^ 31 by omega) (show 2 < 2 ^ 31 by omega)).mp z)
        rw [if_neg n2]
        exact go 1 (Or.inr ⟨rfl, fun z => absurd z r2⟩)
    · rw [if_pos rfl]
      -- it failed below: the loop ends
      have end0 : ∀ (t' : Nat) (more : Int32) , ∃ y m', f_X11_ranked_63 fu qT qA qR (t' + 1) (nI r) (4 + r) 0 more m3 = some (y, m') ∧ pS sg to m p d C c0 cs B Q r y m' := by
        intro t' more
        rw [f_X11_ranked_63_s]
        unfold s_X11_ranked_63
        rw [if_pos rfl, if_pos (Or.inl rfl)]
        exact ⟨0, m3, rfl, f2.tr a2.1, Or.inr ⟨rfl, s.at r1 (by omega)⟩⟩
      obtain ⟨t', rfl⟩ : ∃ t', t = t' + 1 := ⟨t - 1, by omega⟩
      by_cases r2 : nI r = 2
      · rw [if_pos r2]; exact end0 t' 0
      · rw [if_neg r2]; exact end0 t' 1
theorem rx_ranked {fu : Nat} (hfu : 100 ≤ fu) {sg : Nat → Nat} {to : Nat} (qT qA) (qR : Int32 → hM → Option (Int32 × hM)) {m : hM} {p d r : Nat} {C Q B : List Nat} {c0 : Bool} {cs : List Bool} (hr : r ≤ 5) (h0 : st0 sg to m p d C cs Q) (hc : r ≤ 2 → c0 = false) (hB : Bok r B)
    (IHA : r = 5 → ∃ y m', qA m = some (y, m') ∧ pS sg to m p d C c0 cs B Q 5 y m')
    (IHR : r < 5 → ∀ (m2 : hM) (p2 : Nat) (C2 : List Nat) (c2 : Bool) (B2 Q2 : List Nat), p ≤ p2 → st0 sg to m2 p2 d C2 cs Q2 → (r + 1 ≤ 2 → c2 = false) → Bok (r + 1) B2 → ∃ y m', qR (nI (r + 1)) m2 = some (y, m') ∧ pS sg to m2 p2 d C2 c2 cs B2 Q2 (r + 1) y m') :
    ∃ y m', b_X11_ranked fu qT qA qR (nI r) m = some (y, m') ∧ pS sg to m p d C c0 cs B Q r y m' := by
  have hto := h0.1.2.2.2.2.2.2.2.1
  have e : ∀ k : Nat, k < 6 → ((nI r = nI k) ↔ r = k) := fun k hk => nI_eq (by omega) (by omega)
  by_cases r5 : r = 5
  · unfold b_X11_ranked
    rw [if_neg (show ¬ ¬ nI r = 5 by rw [r5]; exact fun z => z rfl)]
    obtain ⟨y, m', a1, a2⟩ := IHA r5
    rw [a1, hBd_some]
    have hy : y = 0 ∨ y = 1 := by
      rcases a2.2 with ⟨e, -⟩ | ⟨e, -⟩
      · exact Or.inr e
      · exact Or.inl e
    rw [if_pos hy, r5]
    exact ⟨y, m', rfl, a2⟩
  · have r4 : r < 5 := by omega
    have low : b_X11_ranked fu qT qA qR (nI r) m = f_X11_ranked_51 fu qT qA qR (nI r) (4 + r) m := by
      unfold b_X11_ranked
      have n5 : ¬ nI r = 5 := fun z => r5 ((e 5 (by omega)).mp z)
      rw [if_pos n5]
      by_cases k0 : r = 0
      · rw [if_neg (show ¬ ¬ nI r = 0 by rw [k0]; exact fun z => z rfl), k0]
      have n0 : ¬ nI r = 0 := fun z => k0 ((e 0 (by omega)).mp z)
      rw [if_pos n0]
      by_cases k1 : r = 1
      · rw [if_neg (show ¬ ¬ nI r = 1 by rw [k1]; exact fun z => z rfl), k1]
      have n1 : ¬ nI r = 1 := fun z => k1 ((e 1 (by omega)).mp z)
      rw [if_pos n1]
      by_cases k2 : r = 2
      · rw [if_neg (show ¬ ¬ nI r = 2 by rw [k2]; exact fun z => z rfl), k2]
      have n2 : ¬ nI r = 2 := fun z => k2 ((e 2 (by omega)).mp z)
      rw [if_pos n2]
      by_cases k3 : r = 3
      · rw [if_neg (show ¬ ¬ nI r = 3 by rw [k3]; exact fun z => z rfl), k3]
      have n3 : ¬ nI r = 3 := fun z => k3 ((e 3 (by omega)).mp z)
      rw [if_pos n3, show r = 4 by omega]
    rw [low]
    unfold f_X11_ranked_51
    have hB1 : Bok (r + 1) B := by
      cases B with
      | nil => trivial
      | cons o B =>
        rcases hB with z | z
        · exact Or.inl z
        · exact Or.inr (by omega)
    obtain ⟨y, m1, a1, a2⟩ := IHR r4 m p C c0 B Q (Nat.le_refl _) h0 (fun z => hc (by omega)) hB1
    rw [nI_1, a1, hBd_some]
    rcases a2.2 with ⟨rfl, p', C', c1, dg, K, Q', s1, s2, s3, s4, s5, s6, s7, s8, s9⟩ | ⟨rfl, s⟩
    · exact rx_rloop hfu qT qA qR r4 h0 hB (IHR r4) fu m1 p' C' c1 dg K Q' 1 (by omega) a2.1 s1 s2 s3 (fun o ho => ⟨(s4 o ho).1, by have := (s4 o ho).2; omega⟩) s5 s6 (fun z => s7 (by omega)) s8 s9 (Or.inr ⟨rfl, fun z => by rw [s7 (by omega)]; exact hc (by omega)⟩)
    · obtain ⟨f, rfl⟩ : ∃ f, fu = f + 1 := ⟨fu - 1, by omega⟩
      rw [f_X11_ranked_63_s]
      unfold s_X11_ranked_63
      rw [if_pos rfl, if_pos (Or.inl rfl)]
      exact ⟨0, m1, rfl, a2.1, Or.inr ⟨rfl, s⟩⟩
/-- the way down, all together -/
theorem rx_parse {fu : Nat} (hfu : 100 ≤ fu) {sg : Nat → Nat} {to : Nat} : ∀ (D : Nat),
    (∀ (m : hM) (p d : Nat) (C Q B : List Nat) (c0 : Bool) (cs : List Bool), st0 sg to m p d C cs Q → (p < to → ¬ sg p = 33 ∧ ¬ sg p = 45) → 20 * (6 - d) + (to - p) + 1 ≤ D → ∃ y m', f_X11_thing fu D m = some (y, m') ∧ pS sg to m p d C c0 cs B Q 6 y m') ∧
    (∀ (m : hM) (p d : Nat) (C Q B : List Nat) (c0 : Bool) (cs : List Bool), st0 sg to m p d C cs Q → 20 * (6 - d) + (to - p) + 2 ≤ D → ∃ y m', f_X11_ahead fu D m = some (y, m') ∧ pS sg to m p d C c0 cs B Q 5 y m') ∧
    (∀ (m : hM) (p d r : Nat) (C Q B : List Nat) (c0 : Bool) (cs : List Bool), r ≤ 5 → st0 sg to m p d C cs Q → (r ≤ 2 → c0 = false) → Bok r B → 20 * (6 - d) + (to - p) + 2 + (6 - r) ≤ D → ∃ y m', f_X11_ranked fu D (nI r) m = some (y, m') ∧ pS sg to m p d C c0 cs B Q r y m') := by
  intro D
  induction D with
  | zero =>
    refine ⟨fun m p d C Q B c0 cs h0 hu hb => by omega, fun m p d C Q B c0 cs h0 hb => by omega, fun m p d r C Q B c0 cs hr h0 hc hB hb => by omega⟩
  | succ D ih =>
    obtain ⟨i1, i2, i3⟩ := ih
    refine ⟨fun m p d C Q B c0 cs h0 hu hb => ?_, fun m p d C Q B c0 cs h0 hb => ?_, fun m p d r C Q B c0 cs hr h0 hc hB hb => ?_⟩
    · rw [f_X11_thing_r]
      exact rx_thing hfu _ _ _ h0 hu (fun m2 cs2 B2 hd hp h2 hB2 => i3 m2 (p + 1) (d + 1) 0 C Q B2 false cs2 (by omega) h2 (fun _ => rfl) hB2 (by omega))
    · rw [f_X11_ahead_r]
      exact rx_ahead hfu _ _ _ h0 (fun hu => i1 m p d C Q B c0 cs h0 hu (by omega)) (fun m2 B2 hp h2 => i2 m2 (p + 1) d C Q B2 c0 cs h2 (by omega))
    · rw [f_X11_ranked_r]
      exact rx_ranked hfu _ _ _ hr h0 hc hB (fun r5 => i2 m p d C Q B c0 cs h0 (by omega)) (fun r4 m2 p2 C2 c2 B2 Q2 hp h2 hc2 hB2 => i3 m2 p2 d (r + 1) C2 Q2 B2 c2 cs (by omega) h2 hc2 hB2 (by omega))
