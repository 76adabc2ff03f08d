/-! ===== a piece that no office can work ===== -/
def hop (v : hM) (n : Nat) (S : Nat → Int32) (p : Nat) : Prop := ¬ (0 ≤ (S (35 + p)).toInt) ∧ ((∀ o, o < n → bt (gI v 103 o) (gI v 108 p).toNatClampNeg = false) ∨ (gI v 117 0 = 0 ∧ bt (gI v 103 (S (3 + p)).toNatClampNeg) (gI v 108 p).toNatClampNeg = false))
theorem wk1_35 {v : hM} {R : Int32} {h p q : Nat} {T : wT} (hq : q < 8) (hp : p < 8) (hb : bt (gI v 103 (T.1 (3 + p)).toNatClampNeg) (gI v 108 p).toNatClampNeg = false) : (wk1 v R h q T).1 (35 + p) = T.1 (35 + p) := by
  by_cases e : q = p
  · subst e
    unfold wk1
    split
    · split
      · split
        · exact up_n (by omega)
        · rfl
      · rw [if_neg (fun z => by rw [hb] at z; exact absurd z.2.1 (by decide))]
    · rfl
  · exact wk1_k (by omega) (by omega) (by omega) (by omega) (by omega) (by omega)
theorem wkA_35 {v : hM} {R : Int32} {h p : Nat} {T : wT} (hp : p < 8) (hb : bt (gI v 103 (T.1 (3 + p)).toNatClampNeg) (gI v 108 p).toNatClampNeg = false) : ∀ k, k ≤ 8 → (wkA v R h T k).1 (35 + p) = T.1 (35 + p)
  | 0, _ => rfl
  | k + 1, hk => by
    rw [wkA, wk1_35 (by omega) hp (by rw [wkA_k (by omega) (by omega) k (by omega)]; exact hb)]
    exact wkA_35 hp hb k (by omega)
theorem hop_at {v : hM} {n c p : Nat} {S : Nat → Int32} (hn : n ≤ 6) (hI : sInv v S n c) (hpc : p < c) (h : hop v n S p) : bt (gI v 103 (S (3 + p)).toNatClampNeg) (gI v 108 p).toNatClampNeg = false := by
  rcases h.2 with q | q
  · obtain ⟨o, ho, hoe⟩ := hIn_of (hI.1 p hpc).1 (by omega)
    rw [hoe, nI_clamp (show o < 2 ^ 31 by omega)]
    exact q o ho
  · exact q.2
theorem hop_pas {v : hM} {n c p : Nat} {S : Nat → Int32} (hn : n ≤ 6) (hp : pRng v n c) (hI : sInv v S n c) (hpc : p < c) (h : hop v n S p) : hop v n (pas v n c S) p := by
  have hc := hp.1
  have hb := hop_at hn hI hpc h
  have w35 : (wAll v c S).1 (35 + p) = S (35 + p) := wkA_35 (T := (S, fun _ => 0, 0, 0)) (by omega) hb c hc
  have w3 : (wAll v c S).1 (3 + p) = S (3 + p) := wkA_k (T := (S, fun _ => 0, 0, 0)) (by omega) (by omega) c hc
  have x35 : ∀ R h, clX v R h n c (wAll v c S).1 (35 + p) = S (35 + p) := fun R h => by
    unfold clX
    split
    · exact w35
    · rw [clA_k hc hn (wAll_inv hp hI) (by omega) c (Nat.le_refl c)]; exact w35
  refine ⟨?_, ?_⟩
  · unfold pas
    rw [up_n (by omega), x35]; exact h.1
  · rcases h.2 with q | q
    · exact Or.inl q
    · refine Or.inr ⟨q.1, ?_⟩
      unfold pas clX
      rw [up_n (by omega), if_pos q.1, w3]
      exact q.2
theorem hop_gK {v : hM} {n c p : Nat} (hn : n ≤ 6) (hp : pRng v n c) (hpc : p < c) : ∀ (r h : Nat) (S : Nat → Int32), h + r ≤ 2399 → sInv v S n c → S 0 = nI h → hop v n S p → gK v n c r S = none
  | 0, h, S, _, hI, h0, q => by
    rw [gK, if_neg]
    intro z
    exact q.1 ((adn_iff S c).mp z p hpc)
  | r + 1, h, S, hr, hI, h0, q => by
    rw [gK, if_neg (fun z => q.1 ((adn_iff S c).mp z p hpc))]
    obtain ⟨i1, i2⟩ := pas_inv hn hp hI h0 (by omega)
    rw [hop_gK hn hp hpc r (h + 1) _ (by omega) i1 i2 (hop_pas hn hp hI hpc q)]
    rfl
theorem cx_hope25 {fu : Nat} (hfu : 100 ≤ fu) {v m : hM} {n c s : Nat} (he : cEnv v m n c) {S : Nat → Int32} (hI : sInv v S n c) (hR : sRel S m s c) {x2 : Int32} (hx : (x2 = 0 ∧ gI v 117 0 = 0) ∨ x2 = 1) : ∀ (t k : Nat), k ≤ c → c - k < t →
    ∃ b : Int32, f_X8_isHopeless_25 fu t s x2 (nI k) m = some (b, m) ∧ (b = 0 ∨ (b = 1 ∧ ∃ p, p < c ∧ hop v n S p)) := by
  have hn := he.1.1
  have hp := he.2.2.1
  have hc := hp.1
  intro t
  induction t with
  | zero => intro k h1 h2; omega
  | succ t ih =>
    intro k hk ht
    rw [f_X8_isHopeless_25_s]
    unfold s_X8_isHopeless_25
    rw [he.2.2.2.1.1]
    by_cases q : nI c ≤ nI k
    · rw [if_pos q]; exact ⟨0, rfl, Or.inl rfl⟩
    · rw [if_neg q]
      rw [nI_leI (by omega) (by omega)] at q
      have hkc : k < c := by omega
      have h8 : hIn (nI k) 8 := hIn_lt (show k < 8 by omega) (by omega)
      obtain ⟨ct, hct, hcte⟩ := hIn_of (hp.2.2 k hkc).1 (by omega)
      obtain ⟨o, ho, hoe⟩ := hIn_of (hI.1 k hkc).1 (by omega)
      obtain ⟨z, z1, z2⟩ := cx_officesWith hfu hn he.2.1 hct
      have pc0 := hR.2.2.2.2.1 k hkc
      rw [if_pos h8, nI_clamp (show k < 2 ^ 31 by omega), (he.2.2.2.1.2 k hkc).1, hcte, z1, hBd_some, if_pos h8, pc0.1, hoe]
      have nxt1 : f_X8_isHopeless_94 fu (f_X8_isHopeless_25 fu t) s x2 (nI k) m = f_X8_isHopeless_25 fu t s x2 (nI (k + 1)) m := by
        unfold f_X8_isHopeless_94; rw [nI_1, hLet_n]
      have fin : ∀ s0 : Int32, (s0 = 0 → ¬ (0 ≤ (S (35 + k)).toInt) → hop v n S k) → ∃ b : Int32, f_X8_isHopeless_74 fu (f_X8_isHopeless_25 fu t) s x2 (nI k) s0 m = some (b, m) ∧ (b = 0 ∨ (b = 1 ∧ ∃ p, p < c ∧ hop v n S p)) := by
        intro s0 hs0
        unfold f_X8_isHopeless_74
        rw [nxt1, b_rd (show k < 32 by omega), pc0.2.2.2.2.2.2.2.2]
        by_cases hd : 0 ≤ (S (35 + k)).toInt
        · rw [decide_eq_true hd, if_pos (by decide)]; exact ih (k + 1) (by omega) (by omega)
        · rw [decide_eq_false hd, if_neg (by decide)]
          by_cases hz : s0 = 0
          · rw [if_neg (fun y => y hz)]; exact ⟨1, rfl, Or.inr ⟨rfl, k, hkc, hs0 hz hd⟩⟩
          · rw [if_pos hz]; exact ih (k + 1) (by omega) (by omega)
      rcases hx with ⟨hx, h117⟩ | hx
      · rw [if_pos hx]
        refine fin _ (fun y hd => ⟨hd, Or.inr ⟨h117, ?_⟩⟩)
        rw [hoe, hcte, nI_clamp (show o < 2 ^ 31 by omega), nI_clamp (show ct < 2 ^ 31 by omega)]
        have := congrArg (fun w => bt w o) y
        simp only [b_and, b_0] at this
        rw [z2 o (by omega), b_one (show o < 32 by omega) (show o < 32 by omega)] at this
        simpa [ho] using this
      · rw [if_neg (by rw [hx]; decide)]
        refine fin _ (fun y hd => ⟨hd, Or.inl (fun o' ho' => ?_)⟩)
        rw [hcte, nI_clamp (show ct < 2 ^ 31 by omega)]
        have := z2 o' (by omega)
        rw [y, b_0] at this
        simpa [ho'] using this.symm
theorem cx_isHopeless {fu : Nat} (hfu : 100 ≤ fu) {v m : hM} {n c s : Nat} (hs : s ∈ stL) (he : cEnv v m n c) {S : Nat → Int32} (hI : sInv v S n c) (hR : sRel S m s c) :
    ∃ b : Int32, f_X8_isHopeless fu s m = some (b, m) ∧ (b = 0 ∨ (b = 1 ∧ ∃ p, p < c ∧ hop v n S p)) := by
  have hc := he.2.2.1.1
  unfold f_X8_isHopeless f_X8_isHopeless_21 f_X8_isHopeless_22
  rw [if_pos hs]
  rcases he.2.2.2.2.1 with ⟨y1, y2⟩ | ⟨y1, ⟨L, hL, y2⟩, y3⟩
  · have := cx_hope25 hfu he hI hR (x2 := 0) (Or.inl ⟨rfl, y1⟩) fu 0 (by omega) (by omega)
    by_cases z : gI m 32 3 = 0
    · rw [if_pos z]; exact this
    · rw [if_neg z, y2.resolve_left z, if_pos (by decide)]; exact this
  · have h40 := y2.1
    rw [if_neg (by rw [y1]; decide), y2.2.2.1, if_neg (nI_nle hL (by omega))]
    exact cx_hope25 hfu he hI hR (x2 := 1) (Or.inr rfl) fu 0 (by omega) (by omega)
def qOf (x2 : Int32) (h : Nat) : Nat := ((if x2.toInt ≤ 2399 then x2.toInt else 2399) - (h : Int)).toNat
theorem cx_runToEnd {fu : Nat} (hfu : 3000 ≤ fu) {v m : hM} {n c s h : Nat} (hs : s ∈ stL) (he : cEnv v m n c) {S : Nat → Int32} (hI : sInv v S n c) (h0 : S 0 = nI h) (hh : h < 2400) (hR : sRel S m s c) (x2 : Int32) :
    ∃ m', f_X8_runToEnd fu s x2 m = some ((match gK v n c (qOf x2 h) S with | some k => nI (h + k) | none => -2), m') ∧ (∀ k, gK v n c (qOf x2 h) S = some k → sRel (runS v n c k S) m' s c) ∧ (∃ S', sRel S' m' s c) ∧ fr (PC s) m m' := by
  have hn := he.1.1
  have hp := he.2.2.1
  have hc := hp.1
  unfold f_X8_runToEnd f_X4_all
  obtain ⟨b, b1, b2⟩ := cx_isHopeless (show 100 ≤ fu by omega) hs he hI hR
  have hq : qOf x2 h ≤ 2399 - h := by unfold qOf; split <;> omega
  rw [if_pos hs, hBd_some, he.2.2.2.1.1, (all_n c (by omega)).1, b1, hBd_some]
  rcases b2 with b2 | ⟨b2, p, hpc, hop1⟩
  · rw [if_pos b2, hLet_n, hR.2.1, h0]
    refine cx_run25 (by omega) hs hp fu (qOf x2 h) h S m ?_ ?_ hh (by omega) hI h0 he hR
    · rw [show (2399 : Int32) = nI 2399 from rfl, nI_leI (by omega) (by omega), i_le, nI_toInt (by omega)]
      unfold qOf; split <;> omega
    · unfold qOf; intro z; split <;> rename_i y <;> simp only [y, if_true, if_false] at z ⊢ <;> omega
  · rw [if_neg (by rw [b2]; decide)]
    have : gK v n c (qOf x2 h) S = none := hop_gK hn hp hpc (qOf x2 h) h S (by omega) hI h0 hop1
    rw [this]
    exact ⟨m, rfl, fun k hk => (by cases hk), ⟨S, hR⟩, fr.rf⟩
