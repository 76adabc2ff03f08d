def tbN (X : Int32) : Nat → Nat
  | 0 => 0
  | t + 1 => if bt X (7 - t) = true then tbN X t + 1 else tbN X t
theorem qs_tb (X : Int32) (n u : Nat) : ∀ t, qsN X n u t = u / n ^ tbN X t
  | 0 => by rw [qsN, tbN, Nat.pow_zero, Nat.div_one]
  | t + 1 => by
    rw [qsN, tbN]
    by_cases b : bt X (7 - t) = true
    · rw [if_pos b, if_pos b, qs_tb X n u t, Nat.div_div_eq_div_mul, Nat.pow_succ]
    · rw [if_neg b, if_neg b]; exact qs_tb X n u t
theorem tb_cnt : ∀ x, x < 256 → tbN (nI x) 8 = cnt (fun i => x.testBit i) 24 := by decide +kernel
theorem qs_lt {x n : Nat} (hx : x < 256) (h1 : 1 ≤ n) (u : Nat) : qsN (nI x) n u 8 = 0 ↔ u < n ^ cnt (fun i => x.testBit i) 24 := by
  rw [qs_tb, tb_cnt x hx]
  exact Nat.div_eq_zero_iff_lt (Nat.pow_pos h1)
theorem pw_le {n K : Nat} (h1 : 1 ≤ n) (h6 : n ≤ 6) (hK : K ≤ 4) : n ^ K ≤ 2000 := by
  have a := Nat.pow_le_pow_left h6 K
  have b := Nat.pow_le_pow_right (n := 6) (by omega) hK
  have e : 6 ^ 4 = 1296 := rfl
  rw [e] at b
  exact Nat.le_trans a (Nat.le_trans b (by omega))
def Phm (X : Int32) (a j : Nat) : Prop := PS a j ∨ (a = 111 ∧ j < 8 ∧ bt X j = true) ∨ a = 127
theorem rx_homes145 {fu : Nat} (K : Int32 → Int32 → Int32 → Int32 → Int32 → hM → Option (Int32 × hM)) {c : Nat} (hc : c ≤ 8) (X x2 x3 x4 : Int32) : ∀ (t k : Nat) (M : hM), k ≤ c → c - k < t → gI M 96 16 = nI c → ∃ M', f_X11_homes_145 fu K t X x2 x3 x4 (nI k) M = f_X11_homes_174 fu K X x2 x3 x4 M' ∧ (∀ j, k ≤ j → j < c → gI M' 127 j = gI M 111 j) ∧ fr (fun a j => a = 127 ∧ k ≤ j) M M' := by
  intro t
  induction t with
  | zero => intro k M h1 h2; exact absurd h2 (Nat.not_lt_zero _)
  | succ t ih =>
    intro k M hk ht h16
    rw [f_X11_homes_145_s]
    unfold s_X11_homes_145
    rw [h16]
    by_cases q : nI c ≤ nI k
    · rw [if_pos q]
      rw [nI_leI (by omega) (by omega)] at q
      exact ⟨M, rfl, fun j h1 h2 => by omega, fr.rf⟩
    · rw [if_neg q]
      rw [nI_leI (by omega) (by omega)] at q
      have h8 : hIn (nI k) 8 := hIn_lt (by omega) (by omega)
      rw [if_pos h8, if_pos h8, hLet_n, hLet_n, nI_1, nI_clamp (show k < 2 ^ 31 by omega)]
      obtain ⟨M', r1, r2, r3⟩ := ih (k + 1) (sI M 127 k (gI M 111 k)) (by omega) (by omega) (by rw [gI_sn (by omega)]; exact h16)
      refine ⟨M', r1, fun j h1 h2 => ?_, (fr.rf.si ⟨rfl, Nat.le_refl k⟩).tr (r3.mono (fun a j z => ⟨z.1, by omega⟩))⟩
      by_cases e : j = k
      · rw [e, r3.1 _ _ (by omega), gI_ss]
      · rw [r2 j (by omega) h2, gI_sn (by omega)]
theorem rx_homes61 {fu : Nat} {c : Nat} (hc : c ≤ 8) (X x2 x3 : Int32) : ∀ (t k : Nat) (M : hM), k ≤ c → c - k < t → gI M 96 16 = nI c → ∃ M', f_X11_homes_61 fu t X x2 x3 (nI k) M = f_X11_homes_103 fu X x2 x3 M' ∧ (∀ j, k ≤ j → j < c → gI M' 111 j = if bt X j = true then 0 else gI M 111 j) ∧ fr (fun a j => a = 111 ∧ k ≤ j ∧ j < c) M M' := by
  intro t
  induction t with
  | zero => intro k M h1 h2; exact absurd h2 (Nat.not_lt_zero _)
  | succ t ih =>
    intro k M hk ht h16
    rw [f_X11_homes_61_s]
    unfold s_X11_homes_61 f_X11_homes_96
    rw [h16]
    by_cases q : nI c ≤ nI k
    · rw [if_pos q]
      rw [nI_leI (by omega) (by omega)] at q
      exact ⟨M, rfl, fun j h1 h2 => by omega, fr.rf⟩
    · rw [if_neg q]
      rw [nI_leI (by omega) (by omega)] at q
      have h8 : hIn (nI k) 8 := hIn_lt (by omega) (by omega)
      have fin : ∀ y : Int32, y = (if bt X k = true then 0 else gI M 111 k) → ∃ M', f_X11_homes_61 fu t X x2 x3 (nI (k + 1)) (sI M 111 k y) = f_X11_homes_103 fu X x2 x3 M' ∧ (∀ j, k ≤ j → j < c → gI M' 111 j = if bt X j = true then 0 else gI M 111 j) ∧ fr (fun a j => a = 111 ∧ k ≤ j ∧ j < c) M M' := by
        intro y hy
        obtain ⟨M', r1, r2, r3⟩ := ih (k + 1) (sI M 111 k y) (by omega) (by omega) (by rw [gI_sn (by omega)]; exact h16)
        refine ⟨M', r1, fun j h1 h2 => ?_, (fr.rf.si ⟨rfl, Nat.le_refl k, by omega⟩).tr (r3.mono (fun a j z => ⟨z.1, by omega, z.2.2⟩))⟩
        by_cases e : j = k
        · rw [e, r3.1 _ _ (by omega), gI_ss, hy]
        · rw [r2 j (by omega) h2, gI_sn (by omega)]
      rw [bd_has fu _ (show k < 32 by omega)]
      simp only [hLet_n, nI_1]
      by_cases b : bt X k = true
      · rw [if_pos b, if_neg (by decide), if_pos h8, nI_clamp (show k < 2 ^ 31 by omega)]
        exact fin 0 (by rw [if_pos b])
      · rw [if_neg b, if_pos rfl, if_pos h8, if_pos h8, nI_clamp (show k < 2 ^ 31 by omega)]
        exact fin _ (by rw [if_neg b])
theorem rx_homes109 {fu : Nat} (hfu : 3000 ≤ fu) {v : hM} {X : Int32} {n c x W : Nat} (hv : vRel v n) (hp : pRng v n c) (h1 : 1 ≤ n) (hx : x < 2400) (hX : ∀ i, c ≤ i → i < 32 → bt X i = false) (hQ : ∀ u, qsN X n u 8 = 0 ↔ u < W) {S : Nat → Int32} (x3 : Int32) :
    ∀ (t w : Nat) (M : hM), w < W → W - w < t → eqV (hmV v X n w) M → rS S M → (∀ b e, hmB v X n c x S w = some (b, e) → ∀ p, p < c → gI M 127 p = gI (hmV v X n b) 111 p) → ∃ M', f_X11_homes_109 fu t X (nI x) x3 (wB (hmB v X n c x S w) (-1)) 1 M = f_X11_homes_184 fu X x3 (wB (hmB v X n c x S W) (-1)) M' ∧ fr (Phm X) M M' ∧ (∀ b e, hmB v X n c x S W = some (b, e) → ∀ p, p < c → gI M' 127 p = gI (hmV v X n b) 111 p) := by
  have hn := hv.1
  have hc := hp.1
  intro t
  induction t with
  | zero => intro w M h1 h2; exact absurd h2 (Nat.not_lt_zero _)
  | succ t ih =>
    intro w M hw ht g hS h127
    rw [f_X11_homes_109_s]
    unfold s_X11_homes_109 f_X11_homes_138
    obtain ⟨M1, a1, a2⟩ := rx_endsFrom hfu (hm_v (X := X) (w := w) hv) (hm_p (X := X) (w := w) h1 hn hp) hm_k hx g hS
    rw [if_neg (by decide), a1, hBd_some]
    have g1 : eqV (hmV v X n w) M1 := fun a j z => (a2.1 a j (PS_env (Or.inl z))).trans (g a j z)
    have s1 : rS S M1 := fun j hj => (a2.1 114 j (PS_env (Or.inr ⟨rfl, hj⟩))).trans (hS j hj)
    have k1 : ∀ p, gI M1 127 p = gI M 127 p := fun p => a2.1 _ _ (by unfold PS; omega)
    have c16 : gI M1 96 16 = nI c := by rw [g1 _ _ (by unfold envC; omega), hm_n (by omega) (by omega)]; exact hp.2.1
    -- on to the next way
    have go : ∀ M2 : hM, fr (fun a _ => a = 127) M1 M2 → (∀ b e, hmB v X n c x S (w + 1) = some (b, e) → ∀ p, p < c → gI M2 127 p = gI (hmV v X n b) 111 p) → ∃ M', f_X11_homes_174 fu (f_X11_homes_109 fu t) X (nI x) x3 (wB (hmB v X n c x S (w + 1)) (-1)) M2 = f_X11_homes_184 fu X x3 (wB (hmB v X n c x S W) (-1)) M' ∧ fr (Phm X) M M' ∧ (∀ b e, hmB v X n c x S W = some (b, e) → ∀ p, p < c → gI M' 127 p = gI (hmV v X n b) 111 p) := by
      intro M2 f2 h2
      have g2 : eqV (hmV v X n w) M2 := fun a j z => (f2.1 a j (by unfold envC at z; omega)).trans (g1 a j z)
      obtain ⟨r, M3, b1, b2, b3, b4⟩ := rx_moves (show 100 ≤ fu by omega) (qsN_ok X n) h1 hn hc hX ((hQ w).mpr hw) (M := M2) (by rw [g2 _ _ (by unfold envC; omega), hm_n (by omega) (by omega)]; exact hv.2.1) (by rw [f2.1 _ _ (by omega)]; exact c16) (fun p hpc hb => by rw [g2 _ _ (by unfold envC; omega), hm_I, if_pos ⟨rfl, by omega, hb⟩])
      unfold f_X11_homes_174
      rw [b1, hBd_some]
      have fM3 : fr (Phm X) M M3 := ((a2.mono (fun a j z => Or.inl z)).tr (f2.mono (fun a j z => Or.inr (Or.inr z)))).tr (b2.mono (fun a j z => Or.inr (Or.inl z)))
      have h3 : ∀ b e, hmB v X n c x S (w + 1) = some (b, e) → ∀ p, p < c → gI M3 127 p = gI (hmV v X n b) 111 p := fun b e z p hpc => by rw [b2.1 _ _ (by omega)]; exact h2 b e z p hpc
      by_cases z : w + 1 < W
      · obtain ⟨rfl, b5⟩ := b3 ((hQ (w + 1)).mpr z)
        have g3 : eqV (hmV v X n (w + 1)) M3 := fun a j y => by
          by_cases q : a = 111 ∧ j < 8 ∧ bt X j = true
          · have jc : j < c := by
              by_cases q2 : j < c
              · exact q2
              · rw [hX j (by omega) (by omega)] at q; cases q.2.2
            rw [hm_I, if_pos q, q.1]; exact b5 j jc q.2.2
          · rw [b2.1 a j q, g2 a j y, hm_I, hm_I, if_neg q, if_neg q]
        have s3 : rS S M3 := fun j hj => by rw [b2.1 _ _ (by omega), f2.1 _ _ (by omega)]; exact s1 j hj
        obtain ⟨M', d1, d2, d3⟩ := ih (w + 1) M3 z (by omega) g3 s3 h3
        exact ⟨M', d1, fM3.tr d2, d3⟩
      · have e : w + 1 = W := by omega
        rw [b4 (fun y => z ((hQ (w + 1)).mp y))]
        obtain ⟨t, rfl⟩ : ∃ t', t = t' + 1 := ⟨t - 1, by omega⟩
        rw [f_X11_homes_109_s]
        unfold s_X11_homes_109
        rw [if_pos rfl, e]
        rw [e] at h3
        exact ⟨M3, rfl, fM3, h3⟩
    have G := cEnd_g (v := hmV v X n w) (n := n) (c := c) (S := begR (hmV v X n w) (nI x) c S) hx
    have take : ∀ k, gK (hmV v X n w) n c (2399 - x) (begR (hmV v X n w) (nI x) c S) = some k → hmB v X n c x S (w + 1) = some (w, x + k) → ∃ M', f_X11_homes_145 fu (f_X11_homes_109 fu t) fu X (nI x) x3 (nI (x + k)) 0 M1 = f_X11_homes_184 fu X x3 (wB (hmB v X n c x S W) (-1)) M' ∧ fr (Phm X) M M' ∧ (∀ b e, hmB v X n c x S W = some (b, e) → ∀ p, p < c → gI M' 127 p = gI (hmV v X n b) 111 p) := by
      intro k hg hB
      obtain ⟨M2, c1, c2, c3⟩ := rx_homes145 (fu := fu) (f_X11_homes_109 fu t) hc X (nI x) x3 (nI (x + k)) fu 0 M1 (by omega) (by omega) c16
      have := go M2 (c3.mono (fun a j z => z.1)) (fun b e z p hpc => by
        rw [hB] at z; cases z
        rw [c2 p (by omega) hpc, g1 _ _ (by unfold envC; omega)])
      rw [hB] at this
      rw [show (0 : Int32) = nI 0 from rfl, c1]
      exact this
    cases hg : gK (hmV v X n w) n c (2399 - x) (begR (hmV v X n w) (nI x) c S) with
    | none =>
      have hB : hmB v X n c x S (w + 1) = hmB v X n c x S w := by rw [hmB, hg]
      rw [(G.2 hg).2, if_pos (by decide), ← hB]
      exact go M1 fr.rf (fun b e z p hpc => by rw [hB] at z; rw [k1]; exact h127 b e z p hpc)
    | some k =>
      have hk := gK_le _ _ _ hg
      rw [(G.1 k hg).2, if_neg (nI_pos (by omega))]
      cases hw0 : hmB v X n c x S w with
      | none =>
        have hB : hmB v X n c x S (w + 1) = some (w, x + k) := by rw [hmB, hg, hw0]
        rw [show wB (none : Option (Nat × Nat)) (-1) = -1 from rfl, if_pos (by decide)]
        exact take k hg hB
      | some be =>
        obtain ⟨b, e⟩ := be
        have le := hmB_le hx w b e hw0
        rw [show wB (some (b, e)) (-1) = nI e from rfl, if_neg (nI_pos (by omega))]
        by_cases z : e ≤ x + k
        · have hB : hmB v X n c x S (w + 1) = some (b, e) := by rw [hmB, hg, hw0]; simp only []; rw [if_pos z]
          rw [if_pos (nI_le z (by omega))]
          have := go M1 fr.rf (fun b' e' z' p hpc => by rw [hB] at z'; cases z'; rw [k1]; exact h127 b e hw0 p hpc)
          rw [hB] at this
          exact this
        · have hB : hmB v X n c x S (w + 1) = some (w, x + k) := by rw [hmB, hg, hw0]; simp only []; rw [if_neg z]
          rw [if_neg (nI_ge (by omega) (by omega))]
          exact take k hg hB
