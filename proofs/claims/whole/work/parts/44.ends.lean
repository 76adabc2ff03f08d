/-! ===== sums; ends ===== -/
theorem sr_In {m : hM} {c fc fj a j : Nat} {xs : List Int64} (h : ¬ (a = fc ∧ j = fj)) : gI (setRow m c fc fj xs) a j = gI m a j := by rw [sr_I, if_neg h]
theorem sr_Ln {m : hM} {c fc fj a j : Nat} {xs : List Int64} (h : ¬ (a = c ∧ j < xs.length)) : gL (setRow m c fc fj xs) a j = gL m a j := by rw [sr_L, if_neg h]
def smS (S : Nat → Int32) (b : Nat) : Nat → Int32
  | 0 => 0
  | k + 1 => smS S b k + S (b + k)
theorem rx_sumOf {fu : Nat} (hfu : 100 ≤ fu) {v m : hM} {S : Nat → Int32} {n c b : Nat} (hp : pRng v n c) (hb : b ≤ 59) (h16 : gI m 96 16 = nI c) (hS : rS S m) : f_X11_sumOf fu (nI b) m = some (smS S b c, m) := by
  have hc := hp.1
  have key : ∀ (t k : Nat), k ≤ c → c - k < t → f_X11_sumOf_4 fu t (nI b) (smS S b k) (nI k) m = some (smS S b c, m) := by
    intro t
    induction t with
    | zero => intro k h1 h2; omega
    | succ t ih =>
      intro k hk ht
      rw [f_X11_sumOf_4_s]
      unfold s_X11_sumOf_4
      rw [h16]
      by_cases q : nI c ≤ nI k
      · rw [if_pos q]
        rw [nI_leI (by omega) (by omega)] at q
        have : k = c := by omega
        subst this
        rfl
      · rw [if_neg q]
        rw [nI_leI (by omega) (by omega)] at q
        rw [nI_add, if_pos (hIn_lt (show b + k < 127 by omega) (by omega)), hLet_n, hLet_n, nI_1, nI_clamp (show b + k < 2 ^ 31 by omega), hS _ (by omega)]
        exact ih (k + 1) (by omega) (by omega)
  unfold f_X11_sumOf
  exact key fu 0 (by omega) (by omega)
theorem smS_z {S : Nat → Int32} {b c : Nat} {f : Nat → Int32} (h1 : ∀ p, p < c → f p = S (b + p)) : ∀ k, k ≤ c → (∀ j, j ≤ k → smS (fun i => f (i - b)) b j = smS S b j)
  | 0, _, j, hj => by
    have : j = 0 := by omega
    subst this; rfl
  | k + 1, hk, j, hj => by
    by_cases e : j = k + 1
    · subst e
      rw [smS, smS, smS_z h1 k (by omega) k (Nat.le_refl k), show b + k - b = k by omega, h1 k (by omega)]
    · exact smS_z h1 k (by omega) j (by omega)
theorem cx_allHandings {fu : Nat} (hfu : 100 ≤ fu) {m : hM} {S : Nat → Int32} {s c : Nat} (hs : s ∈ stL) (h : sRel S m s c) : f_X7_allHandings fu s m = some (smS S 51 c, m) := by
  have hc := h.1
  have key : ∀ (t k : Nat), k ≤ 8 → 8 - k < t → f_X7_allHandings_4 fu t s (smS S 51 (min k c)) (nI k) m = some (smS S 51 c, m) := by
    intro t
    induction t with
    | zero => intro k h1 h2; omega
    | succ t ih =>
      intro k hk ht
      rw [f_X7_allHandings_4_s]
      unfold s_X7_allHandings_4
      by_cases q : nI 8 ≤ nI k
      · rw [if_pos (show (8 : Int32) ≤ nI k from q)]
        rw [nI_leI (by omega) (by omega)] at q
        rw [show min k c = c by omega]
      · rw [if_neg (show ¬ (8 : Int32) ≤ nI k from q)]
        rw [nI_leI (by omega) (by omega)] at q
        rw [if_pos (hIn_lt (show k < 8 by omega) (by omega)), hLet_n, hLet_n, nI_1, nI_clamp (show k < 2 ^ 31 by omega)]
        have e := ih (k + 1) (by omega) (by omega)
        by_cases z : k < c
        · rw [(h.2.2.2.2.1 k z).2.2.2.2.2.1]
          rw [show min (k + 1) c = min k c + 1 by omega, smS, show min k c = k by omega] at e
          rw [show min k c = k by omega]; exact e
        · rw [(h.2.2.2.2.2.2.2 k (by omega) (by omega)).1]
          rw [show min (k + 1) c = min k c by omega] at e
          rw [show smS S 51 (min k c) + 0 = smS S 51 (min k c) by simp]; exact e
  unfold f_X7_allHandings
  rw [if_pos hs]
  have := key fu 0 (by omega) (by omega)
  rw [show min 0 c = 0 by omega] at this
  exact this
theorem cx_allLost {fu : Nat} (hfu : 100 ≤ fu) {m : hM} {S : Nat → Int32} {s c : Nat} (hs : s ∈ stL) (h : sRel S m s c) : f_X7_allLost fu s m = some (smS S 59 c, m) := by
  have hc := h.1
  have key : ∀ (t k : Nat), k ≤ 8 → 8 - k < t → f_X7_allLost_4 fu t s (smS S 59 (min k c)) (nI k) m = some (smS S 59 c, m) := by
    intro t
    induction t with
    | zero => intro k h1 h2; omega
    | succ t ih =>
      intro k hk ht
      rw [f_X7_allLost_4_s]
      unfold s_X7_allLost_4
      by_cases q : nI 8 ≤ nI k
      · rw [if_pos (show (8 : Int32) ≤ nI k from q)]
        rw [nI_leI (by omega) (by omega)] at q
        rw [show min k c = c by omega]
      · rw [if_neg (show ¬ (8 : Int32) ≤ nI k from q)]
        rw [nI_leI (by omega) (by omega)] at q
        rw [if_pos (hIn_lt (show k < 8 by omega) (by omega)), hLet_n, hLet_n, nI_1, nI_clamp (show k < 2 ^ 31 by omega)]
        have e := ih (k + 1) (by omega) (by omega)
        by_cases z : k < c
        · rw [(h.2.2.2.2.1 k z).2.2.2.2.2.2.1]
          rw [show min (k + 1) c = min k c + 1 by omega, smS, show min k c = k by omega] at e
          rw [show min k c = k by omega]; exact e
        · rw [(h.2.2.2.2.2.2.2 k (by omega) (by omega)).2]
          rw [show min (k + 1) c = min k c by omega] at e
          rw [show smS S 59 (min k c) + 0 = smS S 59 (min k c) by simp]; exact e
  unfold f_X7_allLost
  rw [if_pos hs]
  have := key fu 0 (by omega) (by omega)
  rw [show min 0 c = 0 by omega] at this
  exact this
/-- what an end tells -/
def rwD (S : Nat → Int32) : Nat → List Int64
  | 0 => []
  | k + 1 => rwD S k ++ [(S (35 + k)).toInt64]
theorem rwD_len (S : Nat → Int32) : ∀ k, (rwD S k).length = k
  | 0 => rfl
  | k + 1 => by rw [rwD, List.length_append, rwD_len S k]; rfl
def rwE (S : Nat → Int32) (c : Nat) (a b d : Int32) : List Int64 := ((rwD S c ++ [(smS S 51 c - a).toInt64]) ++ [(smS S 59 c - b).toInt64]) ++ [(S 1 - d).toInt64]
theorem rwE_len (S : Nat → Int32) (c : Nat) (a b d : Int32) : (rwE S c a b d).length = c + 3 := by
  unfold rwE
  rw [List.length_append, List.length_append, List.length_append, rwD_len]; rfl
theorem sRel_row {S : Nat → Int32} {m : hM} {s c : Nat} (hs : s ∈ stL) (h : sRel S m s c) (xs : List Int64) : sRel S (setRow m 67 66 1 xs) s c := by
  have := st_rng hs
  exact sRel_fr h (fun a j z1 z2 => by rw [sr_In (by omega)])
theorem rS_row {S : Nat → Int32} {m : hM} (h : rS S m) (xs : List Int64) : rS S (setRow m 97 96 1 xs) := fun j hj => by rw [sr_In (by omega)]; exact h j hj
theorem cx_tellEnd {fu : Nat} (hfu : 100 ≤ fu) {m : hM} {S : Nat → Int32} {c : Nat} (h18 : gI m 18 6 = nI c) (h : sRel S m 55 c) (a b d : Int32) : f_X10_tellEnd fu a b d m = some ((), setRow m 67 66 1 (rwE S c a b d)) := by
  have hc := h.1
  have hs : 55 ∈ stL := by decide
  have key : ∀ (t k : Nat), k ≤ c → c - k < t → f_X10_tellEnd_10 fu t a b d (nI k) (setRow m 67 66 1 (rwD S k)) = some ((), setRow m 67 66 1 (rwE S c a b d)) := by
    intro t
    induction t with
    | zero => intro k h1 h2; omega
    | succ t ih =>
      intro k hk ht
      rw [f_X10_tellEnd_10_s]
      unfold s_X10_tellEnd_10
      rw [sr_In (by omega), h18]
      by_cases q : nI c ≤ nI k
      · rw [if_pos q]
        rw [nI_leI (by omega) (by omega)] at q
        have : k = c := by omega
        subst this
        unfold f_X10_tellEnd_46
        have l0 := rwD_len S k
        rw [cx_allHandings hfu hs (sRel_row hs h _), hBd_some, cx_tell fu m (by omega), hBd_some, cx_allLost hfu hs (sRel_row hs h _), hBd_some, cx_tell fu m (by rw [List.length_append, l0]; simp; omega), hBd_some, sr_In (by omega), h.2.2.1, cx_tell fu m (by rw [List.length_append, List.length_append, l0]; simp; omega), hBd_some]
        rfl
      · rw [if_neg q]
        rw [nI_leI (by omega) (by omega)] at q
        have l0 := rwD_len S k
        rw [if_pos (hIn_lt (show k < 8 by omega) (by omega)), nI_clamp (show k < 2 ^ 31 by omega), sr_In (by omega), (h.2.2.2.2.1 k (by omega)).2.2.2.1, cx_tell fu m (by omega), hBd_some, nI_1, hLet_n]
        exact ih (k + 1) (by omega) (by omega)
  unfold f_X10_tellEnd
  rw [cx_clear, hBd_some]
  exact key fu 0 (by omega) (by omega)
theorem rx_tells43 {fu : Nat} (hfu : 100 ≤ fu) {v m : hM} {S : Nat → Int32} {n c : Nat} (hp : pRng v n c) (h16 : gI m 96 16 = nI c) (hS : rS S m) (a b d e : Int32) : f_X11_tellsEnd_43 fu fu a b d e 0 (sI m 96 1 0) = some (e, setRow m 97 96 1 (rwE S c a b d)) := by
  have hc := hp.1
  have key : ∀ (t k : Nat), k ≤ c → c - k < t → f_X11_tellsEnd_43 fu t a b d e (nI k) (setRow m 97 96 1 (rwD S k)) = some (e, setRow m 97 96 1 (rwE S c a b d)) := by
    intro t
    induction t with
    | zero => intro k h1 h2; omega
    | succ t ih =>
      intro k hk ht
      have g16 : ∀ xs, gI (setRow m 97 96 1 xs) 96 16 = nI c := fun xs => by rw [sr_In (by omega)]; exact h16
      rw [f_X11_tellsEnd_43_s]
      unfold s_X11_tellsEnd_43
      rw [g16]
      by_cases q : nI c ≤ nI k
      · rw [if_pos q]
        rw [nI_leI (by omega) (by omega)] at q
        have : k = c := by omega
        subst this
        unfold f_X11_tellsEnd_73
        have l0 := rwD_len S k
        rw [show (51 : Int32) = nI 51 from rfl, show (59 : Int32) = nI 59 from rfl, rx_sumOf hfu hp (by omega) (g16 _) (rS_row hS _), hBd_some, rx_enters fu m (by omega), hBd_some, rx_sumOf hfu hp (by omega) (g16 _) (rS_row hS _), hBd_some, rx_enters fu m (by rw [List.length_append, l0]; simp; omega), hBd_some, sr_In (by omega), hS 1 (by omega), rx_enters fu m (by rw [List.length_append, List.length_append, l0]; simp; omega), hBd_some]
        rfl
      · rw [if_neg q]
        rw [nI_leI (by omega) (by omega)] at q
        have l0 := rwD_len S k
        rw [q_35, if_pos (hIn_lt (show 35 + k < 127 by omega) (by omega)), nI_clamp (show 35 + k < 2 ^ 31 by omega), sr_In (by omega), hS _ (by omega), rx_enters fu m (by omega), hBd_some, nI_1, hLet_n]
        exact ih (k + 1) (by omega) (by omega)
  rw [sr_nil m 97 96 1]
  exact key fu 0 (by omega) (by omega)
/-- a question that tells a row -/
theorem IW.qr {m m6 m2 : hM} {n c k t : Nat} (h : IW m m n c k t) (f : eqC m m6) (j : jk m6 55 c) {xs : List Int64} (hx : xs.length ≤ 11) (g1 : ∀ a j, a ≤ 95 → gI m2 a j = gI (setRow m6 67 66 1 xs) a j) (g2 : ∀ j, gL m2 67 j = gL (setRow m6 67 66 1 xs) 67 j) (g3 : ∀ a j, rI a j → gI m2 a j = gI (setRow m 97 96 1 xs) a j) (g4 : ∀ j, gL m2 97 j = gL (setRow m 97 96 1 xs) 97 j) (g5 : rfOk m → rfOk m2) : IV m2 := by
  have h1 : IW m m6 n c k t := h.cg eqR.rf f j
  have h2 := h1.row hx
  refine ⟨n, c, k, t, h2.cg ⟨g3, g4, fun z => g5 z⟩ ⟨fun a j z => g1 a j (by unfold cI at z; omega), g2⟩ (jk_cg h2.2.2.2.2.2.1 (fun a j z1 z2 => g1 a j (by omega)))⟩
theorem gL_fr {P : Nat → Nat → Prop} {m m1 : hM} (f : fr P m m1) : ∀ a j, gL m1 a j = gL m a j := f.2.1
theorem ok_ends {fu : Nat} (hfu : 3000 ≤ fu) {m : hM} (h : IV m) : okC (f_X10_ends fu) (f_X11_ends fu) m := by
  obtain ⟨n, c, k, t, h⟩ := h
  have hp := h.2.1.1
  have hn := h.1.1.1
  have hc := hp.1
  have hs : 46 ∈ stL := by decide
  have hs5 : 55 ∈ stL := by decide
  unfold okC f_X10_ends f_X11_ends
  by_cases c0 : c = 0
  · refine ⟨-1, m, sI m 96 0 0, ?_, ?_, h.th rfl rfl⟩
    · rw [h.2.1.2.1.1, if_neg (fun z => z (by rw [c0]; rfl))]
    · rw [hLet_n, if_neg (fun z => z (by rw [gI_sn (by omega), hp.2.1, c0]; rfl))]
  have nc : ¬ nI c = 0 := nI_ne0 (by omega) (by omega)
  obtain ⟨x, hx, hxe⟩ := h.now
  have hI := h.2.2.2.2.1.1
  have hR := h.2.2.2.2.1.2
  obtain ⟨m3, m6, a1, a2, a3, a4, a5⟩ := cx_now hfu h.env hx hI hxe hR 2399
  have hq : qOf 2399 x = 2399 - x := by
    unfold qOf
    rw [show (2399 : Int32).toInt = 2399 from rfl, if_pos (by omega)]; omega
  rw [hq] at a3
  have hce : cEnd m n c x (sFn m) 2399 = match gK m n c (2399 - x) (sFn m) with | some k => nI (x + k) | none => -2 := by unfold cEnd; rw [hq]; rfl
  rw [hce] at a2
  have k1 := PC_hi hs5 a5
  -- the reference, begun where the class's end has left the memory as M
  have ref : ∀ M : hM, (∀ a j, 96 ≤ a → gI M a j = gI m a j) → ∃ m2 m7, fr (fun a _ => a = 114) m7 m2 ∧ (∀ a j, rI a j → a ≠ 114 → a ≠ 97 → ¬ (a = 96 ∧ j = 1) → gI m7 a j = gI M a j) ∧ (∀ j, j < 127 → gI m2 114 j = gI M 114 j) ∧ (∀ a j, a ≤ 95 → gI m2 a j = gI M a j) ∧ (∀ a j, a ≠ 97 → gL m2 a j = gL M a j) ∧ (∀ a j, gR m2 a j = gR M a j) ∧
      (hLet (sI M 96 0 0) fun m1 => if ¬ (gI m1 96 16) = 0 then (hBd (f_X11_putsBy fu m1) fun _ m3 => hBd (f_X11_tellsEnd fu m3) fun y4 m5 => hBd (f_X11_takesBack fu m5) fun _ m6 => some (y4, m6)) else some ((-1), m1)) = some ((match gK m n c (2399 - x) (sFn m) with | some k => nI (x + k) | none => -2), m2) ∧
      (gK m n c (2399 - x) (sFn m) = none → gI m2 96 1 = gI M 96 1 ∧ ∀ j, gL m2 97 j = gL M 97 j) ∧ (∀ kk, gK m n c (2399 - x) (sFn m) = some kk → gI m2 96 1 = nI (c + 3) ∧ ∀ j, gL m2 97 j = if j < c + 3 then (rwE (runS m n c kk (sFn m)) c (smS (sFn m) 51 c) (smS (sFn m) 59 c) (sFn m 1)).getD j 0 else gL M 97 j) := by
    intro M hM'
    have hSM : rS (sFn m) M := fun j hj => by rw [hM' _ _ (by omega)]; rfl
    obtain ⟨p1, b1, b2, b3⟩ := rx_putsBy (show 200 ≤ fu by omega) (sI M 96 0 0)
    have g1 : eqV m p1 := fun a j z => by
      rw [b3.1 a j (by unfold envC at z; omega), gI_sn (by unfold envC at z; omega)]; exact hM' a j (by unfold envC at z; omega)
    have s1 : rS (sFn m) p1 := fun j hj => by rw [b3.1 _ _ (by omega), gI_sn (by omega)]; exact hSM j hj
    obtain ⟨p2, d1, d2, d3⟩ := rx_goesOn hfu h.1.1 hp h.rok (r := 2399 - x) (by omega) hI hxe g1 s1
    have e16 : gI p1 96 16 = nI c := by rw [g1 _ _ (by unfold envC; omega)]; exact hp.2.1
    have e162 : gI p2 96 16 = nI c := by rw [(eqV_fr g1 d3) _ _ (by unfold envC; omega)]; exact hp.2.1
    have f2 : ∀ a j, ¬ PR a j → a ≠ 115 → ¬ (a = 96 ∧ j = 0) → gI p2 a j = gI M a j := fun a j z1 z2 z3 => by rw [d3.1 _ _ z1, b3.1 _ _ z2, gI_sn z3]
    have s115 : ∀ j, j < 127 → gI p2 115 j = gI M 114 j := fun j hj => by rw [d3.1 _ _ (by unfold PR; omega), b2 j hj, gI_sn (by omega)]
    have start : ∀ (y : Int32) (p3 : hM), f_X11_tellsEnd fu p1 = some (y, p3) → (∃ p4, f_X11_takesBack fu p3 = some ((), p4)) → True := fun _ _ _ _ => trivial
    clear start
    rw [hLet_n, if_pos (by rw [gI_sn (by omega), hM' _ _ (by omega), hp.2.1]; exact nc), b1, hBd_some]
    unfold f_X11_tellsEnd
    rw [show (51 : Int32) = nI 51 from rfl, show (59 : Int32) = nI 59 from rfl, rx_sumOf (show 100 ≤ fu by omega) hp (by omega) e16 s1, hBd_some, rx_sumOf (show 100 ≤ fu by omega) hp (by omega) e16 s1, hBd_some, hLet_n, s1 1 (by omega), d1, hBd_some]
    cases hg : gK m n c (2399 - x) (sFn m) with
    | none =>
      obtain ⟨p4, t1, t2, t3⟩ := rx_takesBack (show 200 ≤ fu by omega) p2
      simp only []
      rw [if_neg (by decide), hBd_some, t1, hBd_some]
      refine ⟨p4, p2, t3, fun a j z1 z2 z3 z4 => f2 a j (by unfold rI at z1; unfold PR; omega) (by unfold rI at z1; omega) (by unfold rI at z1; omega), fun j hj => by rw [t2 j hj]; exact s115 j hj, fun a j z => ?_, fun a j z => ?_, fun a j => ?_, rfl, fun _ => ⟨?_, fun j => ?_⟩, fun kk hkk => by cases hkk⟩
      · rw [t3.1 _ _ (by omega), f2 a j (by unfold PR; omega) (by omega) (by omega)]
      · rw [gL_fr t3, gL_fr d3, gL_fr b3]; rfl
      · rw [t3.2.2, d3.2.2, b3.2.2]; rfl
      · rw [t3.1 _ _ (by omega), f2 _ _ (by unfold PR; omega) (by omega) (by omega)]
      · rw [gL_fr t3, gL_fr d3, gL_fr b3]; rfl
    | some kk =>
      have hS2 := d2 kk hg
      have hkk := gK_le _ _ _ hg
      have T := rx_tells43 (show 100 ≤ fu by omega) hp e162 hS2 (smS (sFn m) 51 c) (smS (sFn m) 59 c) (sFn m 1) (nI (x + kk))
      obtain ⟨p4, t1, t2, t3⟩ := rx_takesBack (show 200 ≤ fu by omega) (setRow p2 97 96 1 (rwE (runS m n c kk (sFn m)) c (smS (sFn m) 51 c) (smS (sFn m) 59 c) (sFn m 1)))
      simp only []
      rw [if_pos (nI_pos' (by omega)), hLet_n, T, hBd_some, t1, hBd_some]
      refine ⟨p4, setRow p2 97 96 1 (rwE (runS m n c kk (sFn m)) c (smS (sFn m) 51 c) (smS (sFn m) 59 c) (sFn m 1)), t3, fun a j z1 z2 z3 z4 => ?_, fun j hj => ?_, fun a j z => ?_, fun a j z => ?_, fun a j => ?_, rfl, fun q => (by cases q), fun kk' hkk' => ?_⟩
      · rw [sr_In z4, f2 a j (by unfold rI at z1; unfold PR; omega) (by unfold rI at z1; omega) (by unfold rI at z1; omega)]
      · rw [t2 j hj, sr_In (by omega)]; exact s115 j hj
      · rw [t3.1 _ _ (by omega), sr_In (by omega), f2 a j (by unfold PR; omega) (by omega) (by omega)]
      · rw [gL_fr t3, sr_Ln (by omega), gL_fr d3, gL_fr b3]; rfl
      · rw [t3.2.2, sr_R, d3.2.2, b3.2.2]; rfl
      · cases hkk'
        refine ⟨by rw [t3.1 _ _ (by omega), sr_I, if_pos ⟨rfl, rfl⟩, rwE_len], fun j => ?_⟩
        rw [gL_fr t3, sr_L, rwE_len]
        by_cases z : j < c + 3
        · rw [if_pos ⟨rfl, z⟩, if_pos z]
        · rw [if_neg (fun y => z y.2), if_neg z, gL_fr d3, gL_fr b3]; rfl
  rw [h.2.1.2.1.1, if_pos nc, a1, hBd_some, if_pos rfl, a2, hBd_some]
  have R46 : sRel (sFn m) m6 46 c := sRel_fr hR (fun a j z1 z2 => a5.1 a j (by unfold PC; omega))
  have e18 : gI m6 18 6 = nI c := by rw [a5.1 _ _ (by unfold PC; omega)]; exact h.2.1.2.1.1
  cases hg : gK m n c (2399 - x) (sFn m) with
  | none =>
    simp only []
    obtain ⟨m2, m7, u1, u2, u3, u4, u5, u6, u7, u8, u9⟩ := ref m6 k1
    rw [hg] at u7
    obtain ⟨w1, w2⟩ := u8 hg
    refine ⟨-2, m6, m2, by rw [if_pos (by decide)], u7, h.qu (eqC_pc a5) k1 a5.2.1 a5.2.2 a4 ⟨fun a j z => ?_, fun j => w2 j, fun z => rfOk_cg z (fun j => u6 _ _)⟩ u4 (fun j => u5 _ _ (by omega))⟩
    by_cases e1 : a = 114
    · subst e1; exact u3 j (by unfold rI at z; omega)
    · by_cases e2 : a = 96 ∧ j = 1
      · rw [e2.1, e2.2]; exact w1
      · rw [u1.1 _ _ e1, u2 a j z e1 (by unfold rI at z; omega) e2]
  | some kk =>
    have hkk := gK_le _ _ _ hg
    simp only []
    have R55 := a3 kk hg
    rw [if_neg (by rw [i_eq, nI_toInt (by omega)]; show ¬ ((x + kk : Nat) : Int) = -2; omega), cx_allHandings (show 100 ≤ fu by omega) hs R46, hBd_some, cx_allLost (show 100 ≤ fu by omega) hs R46, hBd_some, R46.2.2.1, cx_tellEnd (show 100 ≤ fu by omega) e18 R55, hBd_some]
    obtain ⟨m2, m7, u1, u2, u3, u4, u5, u6, u7, u8, u9⟩ := ref (setRow m6 67 66 1 (rwE (runS m n c kk (sFn m)) c (smS (sFn m) 51 c) (smS (sFn m) 59 c) (sFn m 1))) (fun a j z => by rw [sr_In (by omega)]; exact k1 a j z)
    rw [hg] at u7
    obtain ⟨w1, w2⟩ := u9 kk hg
    refine ⟨_, _, m2, rfl, u7, h.qr (eqC_pc a5) a4 (xs := rwE (runS m n c kk (sFn m)) c (smS (sFn m) 51 c) (smS (sFn m) 59 c) (sFn m 1)) (by rw [rwE_len]; omega) u4 (fun j => u5 _ _ (by omega)) (fun a j z => ?_) (fun j => ?_) (fun z => rfOk_cg z (fun j => by rw [u6, sr_R]; exact a5.2.2 _ _))⟩
    · by_cases e1 : a = 114
      · subst e1
        rw [u3 j (by unfold rI at z; omega), sr_In (by omega), sr_In (by omega)]
        exact k1 _ _ (by omega)
      · by_cases e2 : a = 96 ∧ j = 1
        · rw [e2.1, e2.2, sr_I, if_pos ⟨rfl, rfl⟩, rwE_len]; exact w1
        · rw [u1.1 _ _ e1, u2 a j z e1 (by unfold rI at z; omega) e2, sr_In (by unfold rI at z; omega), sr_In e2]
          exact k1 _ _ (by unfold rI at z; omega)
    · by_cases z : j < c + 3
      · rw [w2 j, if_pos z, sr_L, if_pos ⟨rfl, by rw [rwE_len]; exact z⟩]
      · rw [w2 j, if_neg z, sr_Ln (m := m6) (by omega), sr_Ln (m := m) (fun y => z (by rw [rwE_len] at y; exact y.2))]
        exact a5.2.1 _ _
