/-! the class's walk over the ways -/
theorem cx_homes83 {fu : Nat} (hfu : 3000 ≤ fu) {v mA : hM} {X : Int32} {n c x W : Nat} (hv : vRel v n) (he : eRel v mA n) (hp : pRng v n c) (hpr : pRel v mA c) (h23 : ∀ p, p < c → gI mA 23 p = gI v 111 p) (g3 : gI mA 32 3 = 0) (g4 : gI mA 32 4 = 1) (h37 : gI v 96 37 = 0) (h1 : 1 ≤ n) (hc0 : 0 < c) (hx : x < 2400) (hW : W ≤ 2000) (S : Nat → Int32) :
    ∀ (t w : Nat) (m : hM), w ≤ W → W - w < t → fr (PC 55) mA m → jk m 55 c → ∃ m', f_X10_homes_83 fu t X (nI x) (nI W) (hmA (hmB v X n c x S w)) (wB (hmB v X n c x S w) 2400) (nI w) m = f_X10_homes_141 fu X (hmA (hmB v X n c x S W)) (wB (hmB v X n c x S W) 2400) m' ∧ fr (PC 55) mA m' ∧ jk m' 55 c := by
  have hn := hv.1
  have hc := hp.1
  have hs : 55 ∈ stL := by decide
  intro t
  induction t with
  | zero => intro w m h1 h2; exact absurd h2 (Nat.not_lt_zero _)
  | succ t ih =>
    intro w m hw ht f j
    rw [f_X10_homes_83_s]
    unfold s_X10_homes_83 f_X10_homes_135
    by_cases q : nI W ≤ nI w
    · rw [if_pos q]
      rw [nI_leI (by omega) (by omega)] at q
      rw [show W = w by omega]
      exact ⟨m, rfl, f, j⟩
    rw [if_neg q]
    rw [nI_leI (by omega) (by omega)] at q
    simp only [hLet_n]
    generalize hV : hmV v X n w = V
    have eV : cEnv V mA n c := by
      rw [← hV]
      refine ⟨hm_v hv, hm_e hn he (fun a j z => hm_n (by omega) (by omega)) (fun _ _ _ _ => rfl), hm_p h1 hn hp, ⟨hpr.1, fun p hpc => ?_⟩, Or.inl ⟨by rw [hm_I, if_neg (by omega), if_pos ⟨rfl, rfl⟩], Or.inl g3⟩, Or.inl ⟨g4, by rw [hm_n (by omega) (by omega)]; exact h37⟩⟩
      rw [hm_n (a := 108) (by omega) (by omega), hm_n (a := 113) (by omega) (by omega), hm_n (a := 109) (by omega) (by omega), hm_n (a := 110) (by omega) (by omega), hm_n (a := 112) (by omega) (by omega)]
      exact hpr.2 p hpc
    have em := cEnv_fr hs eV f
    obtain ⟨m1, a1, a2, a3, a4⟩ := cx_begAt (h := x) hfu em.2.2.1 em.2.2.2.1 j S
    have b23 := beg_23 (show 100 ≤ fu by omega) j em.2.2.2.1.1 a1
    obtain ⟨m2, b1, b2, b3⟩ := cx_house (show 100 ≤ fu by omega) (X := X) (w := w) (qsN_ok X n) h1 hn (by omega) (m := m1) (by rw [a2.1 _ _ (by omega)]; exact em.2.1.1)
    have R2 : sRel (begR V (nI x) c S) m2 55 c := a4 m2 (fun a j z1 z2 z3 => b3.1 a j (by omega)) (fun p hpc => by
      rw [← hV, hm_I]
      by_cases z : 111 = 111 ∧ p < 8 ∧ bt X p = true
      · rw [if_pos z]; exact b2 p z.2.1 z.2.2
      · rw [if_neg z, if_neg (by omega), b3.1 _ _ (fun y => z ⟨rfl, y.2.1, y.2.2⟩), b23 p hpc, f.1 _ _ (by unfold PC; omega)]
        exact h23 p hpc)
    have f2 : fr (PC 55) m m2 := (a2.mono (fun a j z => Or.inl z)).tr (b3.mono (fun a j z => Or.inl ⟨by omega, by omega⟩))
    have hb := begR_P V (nI x) hc S
    have hI : sInv V (begR V (nI x) c S) n c := begP_inv hb (fun p hpc => (em.2.2.1.2.2 p hpc).2.2.2.2.1) (hIn_lt hx (by omega))
    have h35 : begR V (nI x) c S (35 + 0) = -1 := (hb.2.2.2 0 hc0).2.2.2.2.1
    have step : ∀ (e0 : Nat) (L : Int32), L.toInt = (e0 : Int) - 1 → e0 ≤ 2400 → ∃ m4 y, f_X8_runToEnd fu 55 L m2 = some (y, m4) ∧ fr (PC 55) mA m4 ∧ jk m4 55 c ∧ (gK V n c (2399 - x) (begR V (nI x) c S) = none → y = -2) ∧ (∀ k, gK V n c (2399 - x) (begR V (nI x) c S) = some k → y = if x + k < e0 then nI (x + k) else -2) := by
      intro e0 L hL h0
      obtain ⟨m4, d1, d2, ⟨S', d3⟩, d4⟩ := cx_runToEnd hfu hs (cEnv_fr hs em f2) hI hb.1 hx R2 L
      have B := cEnd_best (v := V) (n := n) (S := begR V (nI x) c S) hx hc0 h35 hL h0
      exact ⟨m4, cEnd V n c x (begR V (nI x) c S) L, d1, (f.tr f2).tr d4, d3.jk, B.1, B.2⟩
    rw [a1, hBd_some, if_pos rfl, b1, hBd_some, nI_1]
    have stp : hmB v X n c x S (w + 1) = match gK V n c (2399 - x) (begR V (nI x) c S) with | none => hmB v X n c x S w | some k => (match hmB v X n c x S w with | none => some (w, x + k) | some (b, e) => if e ≤ x + k then some (b, e) else some (w, x + k)) := by rw [hmB, hV]; rfl
    have e400 : (2400 : Int32).toInt = 2400 := rfl
    have e1 : (1 : Int32).toInt = 1 := rfl
    cases hw0 : hmB v X n c x S w with
    | none =>
      rw [hw0] at stp
      obtain ⟨m4, y, r1, r2, r3, r4, r5⟩ := step 2400 ((2400 : Int32) - 1) (by decide) (by omega)
      rw [show wB (none : Option (Nat × Nat)) 2400 = 2400 from rfl, r1, hBd_some]
      obtain ⟨m5, s1, s2, s3⟩ := ih (w + 1) m4 (by omega) (by omega) r2 r3
      refine ⟨m5, ?_, s2, s3⟩
      rw [← s1, stp]
      cases hg : gK V n c (2399 - x) (begR V (nI x) c S) with
      | none => rw [r4 hg, if_pos rfl]; rfl
      | some k =>
        have hk := gK_le _ _ _ hg
        rw [r5 k hg, if_pos (show x + k < 2400 by omega), if_neg (nI_nm (show x + k ≤ 2399 by omega)).1]
        rfl
    | some be =>
      obtain ⟨b, e⟩ := be
      rw [hw0] at stp
      have le := hmB_le hx w b e hw0
      obtain ⟨m4, y, r1, r2, r3, r4, r5⟩ := step e (nI e - 1) (nI_m1 (by omega)) (by omega)
      rw [show wB (some (b, e)) 2400 = nI e from rfl, r1, hBd_some]
      obtain ⟨m5, s1, s2, s3⟩ := ih (w + 1) m4 (by omega) (by omega) r2 r3
      refine ⟨m5, ?_, s2, s3⟩
      rw [← s1, stp]
      cases hg : gK V n c (2399 - x) (begR V (nI x) c S) with
      | none => rw [r4 hg, if_pos rfl]; rfl
      | some k =>
        have hk := gK_le _ _ _ hg
        simp only []
        by_cases z : e ≤ x + k
        · rw [r5 k hg, if_neg (show ¬ x + k < e by omega), if_pos rfl, if_pos z]; rfl
        · rw [r5 k hg, if_pos (show x + k < e by omega), if_neg (nI_nm (show x + k ≤ 2399 by omega)).1, if_neg z]; rfl
theorem cx_homes40 {fu : Nat} {X : Int32} {n K : Nat} {x2 : Int32} {m : hM} (hK : K < 2 ^ 31) (he : gI m 1 4 = nI n) : ∀ (t k : Nat), k ≤ K → K - k < t → f_X10_homes_40 fu t X x2 (nI K) (nI (n ^ k)) (nI k) m = f_X10_homes_64 fu X x2 (nI (n ^ K)) m := by
  intro t
  induction t with
  | zero => intro k h1 h2; exact absurd h2 (Nat.not_lt_zero _)
  | succ t ih =>
    intro k hk ht
    rw [f_X10_homes_40_s]
    unfold s_X10_homes_40
    by_cases q : nI K ≤ nI k
    · rw [if_pos q]
      rw [nI_leI (by omega) (by omega)] at q
      rw [show k = K by omega]
    · rw [if_neg q]
      rw [nI_leI (by omega) (by omega)] at q
      rw [hLet_n, hLet_n, nI_1, he, pk_mul, ← Nat.pow_succ]
      exact ih (k + 1) (by omega) (by omega)
/-- the homes told -/
def hmR (B : Nat → Int32) (X : Int32) : Nat → List Int64
  | 0 => []
  | k + 1 => if bt X k = true then hmR B X k ++ [(B k).toInt64] else hmR B X k
theorem hmR_len (B : Nat → Int32) (X : Int32) : ∀ k, (hmR B X k).length ≤ k
  | 0 => Nat.le_refl 0
  | k + 1 => by
    have := hmR_len B X k
    rw [hmR]
    split
    · rw [List.length_append]; simp; omega
    · omega
theorem hmR_c (B : Nat → Int32) {X : Int32} {c : Nat} (h : ∀ i, c ≤ i → i < 32 → bt X i = false) : ∀ d, c + d ≤ 32 → hmR B X (c + d) = hmR B X c
  | 0, _ => rfl
  | d + 1, hd => by
    show hmR B X (c + d + 1) = _
    rw [hmR, if_neg (by rw [h (c + d) (by omega) (by omega)]; decide)]
    exact hmR_c B h d (by omega)
theorem cx_tellHomes {fu : Nat} (hfu : 100 ≤ fu) {X : Int32} {m : hM} {B : Nat → Int32} (hB : ∀ p, p < 8 → bt X p = true → gI m 56 p = B p) : f_X10_tellHomes fu X m = some ((), setRow m 67 66 1 (hmR B X 8)) := by
  have key : ∀ (t k : Nat), k ≤ 8 → 8 - k < t → f_X10_tellHomes_9 fu t X (nI k) (setRow m 67 66 1 (hmR B X k)) = some ((), setRow m 67 66 1 (hmR B X 8)) := by
    intro t
    induction t with
    | zero => intro k h1 h2; exact absurd h2 (Nat.not_lt_zero _)
    | succ t ih =>
      intro k hk ht
      rw [f_X10_tellHomes_9_s]
      unfold s_X10_tellHomes_9 f_X10_tellHomes_41
      simp only [hLet_n, nI_1]
      by_cases q : nI 8 ≤ nI k
      · rw [if_pos (show (8 : Int32) ≤ nI k from q)]
        rw [nI_leI (by omega) (by omega)] at q
        rw [show k = 8 by omega]
      · rw [if_neg (show ¬ (8 : Int32) ≤ nI k from q)]
        rw [nI_leI (by omega) (by omega)] at q
        have e := ih (k + 1) (by omega) (by omega)
        have l := hmR_len B X k
        rw [hmR] at e
        rw [b_rd (show k < 32 by omega)]
        by_cases b : bt X k = true
        · rw [if_pos b] at e
          rw [if_pos b, if_neg (by decide), if_pos (hIn_lt (show k < 8 by omega) (by omega)), nI_clamp (show k < 2 ^ 31 by omega), sr_I, if_neg (by omega), hB k (by omega) b, cx_tell fu m (by omega), hBd_some]
          exact e
        · rw [if_neg b] at e
          rw [if_neg b, if_pos (by decide)]
          exact e
  unfold f_X10_tellHomes
  rw [cx_clear, hBd_some]
  exact key fu 0 (by omega) (by omega)
theorem rx_homes211 {fu : Nat} {X : Int32} {c : Nat} (hc : c ≤ 8) {m : hM} {B : Nat → Int32} (h16 : gI m 96 16 = nI c) (hB : ∀ p, p < c → bt X p = true → gI m 127 p = B p) (y : Int32) : ∀ (t k : Nat), k ≤ c → c - k < t → f_X11_homes_211 fu t X y (nI k) (setRow m 97 96 1 (hmR B X k)) = some (y, setRow m 97 96 1 (hmR B X c)) := by
  intro t
  induction t with
  | zero => intro k h1 h2; exact absurd h2 (Nat.not_lt_zero _)
  | succ t ih =>
    intro k hk ht
    rw [f_X11_homes_211_s]
    unfold s_X11_homes_211 f_X11_homes_241
    simp only [hLet_n, nI_1]
    rw [sr_In (show ¬ (96 = 96 ∧ 16 = 1) by omega), h16]
    by_cases q : nI c ≤ nI k
    · rw [if_pos q]
      rw [nI_leI (by omega) (by omega)] at q
      rw [show k = c by omega]
    · rw [if_neg q]
      rw [nI_leI (by omega) (by omega)] at q
      have e := ih (k + 1) (by omega) (by omega)
      have l := hmR_len B X k
      rw [hmR] at e
      rw [bd_has fu _ (show k < 32 by omega)]
      by_cases b : bt X k = true
      · rw [if_pos b] at e
        rw [if_pos b, if_neg (by decide), if_pos (hIn_lt (show k < 8 by omega) (by omega)), nI_clamp (show k < 2 ^ 31 by omega), sr_I, if_neg (by omega), hB k (by omega) b, rx_enters fu m (by omega), hBd_some]
        exact e
      · rw [if_neg b] at e
        rw [if_neg b, if_pos rfl]
        exact e
