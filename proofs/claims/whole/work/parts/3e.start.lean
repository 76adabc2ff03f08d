/-! ===== a state is begun, copied, put by ===== -/
def jk (m : hM) (s c : Nat) : Prop := c ≤ 8 ∧ (∀ i, c ≤ i → i < 32 → bt (gI m s 1) i = false ∧ bt (gI m s 2) i = false) ∧ (∀ p, c ≤ p → p < 8 → gI m (s + 6) p = 0 ∧ gI m (s + 7) p = 0)
theorem sRel.jk {S : Nat → Int32} {m : hM} {s c : Nat} (h : sRel S m s c) : jk m s c := ⟨h.1, h.2.2.2.2.2.2.1, h.2.2.2.2.2.2.2⟩
def begP (S : Nat → Int32) (h : Int32) (B L : Nat → Int32) (c : Nat) : Prop := S 0 = h ∧ S 1 = 0 ∧ S 2 = 0 ∧ ∀ p, p < c → S (3 + p) = B p ∧ S (11 + p) = L p ∧ S (19 + p) = 0 ∧ S (27 + p) = 0 ∧ S (35 + p) = -1 ∧ S (43 + p) = 0 ∧ S (51 + p) = 0 ∧ S (59 + p) = 0
def stK (m m1 : hM) (s : Nat) (h : Int32) (k : Nat) : Prop := gI m1 s 0 = h ∧ (∀ p, p < k → gI m1 (s + 1) p = gI m 23 p ∧ gI m1 (s + 2) p = gI m 21 p ∧ gI m1 (s + 3) p = 0 ∧ gI m1 (s + 4) p = -1 ∧ gI m1 (s + 5) p = 0 ∧ gI m1 (s + 6) p = 0 ∧ gI m1 (s + 7) p = 0) ∧ (∀ i, i < 32 → bt (gI m1 s 1) i = (decide (k ≤ i) && bt (gI m s 1) i) ∧ bt (gI m1 s 2) i = (decide (k ≤ i) && bt (gI m s 2) i)) ∧ (∀ p, k ≤ p → p < 8 → gI m1 (s + 6) p = gI m (s + 6) p ∧ gI m1 (s + 7) p = gI m (s + 7) p) ∧ fr (fun a _ => s ≤ a ∧ a ≤ s + 8) m m1
theorem cx_start1 (fu : Nat) {m m1 : hM} {s k : Nat} {h : Int32} (hs : s ∈ stL) (hk : k < 8) (r : stK m m1 s h k) : ∃ m2, f_X7_startPiece fu s (nI k) m1 = some ((), m2) ∧ stK m m2 s h (k + 1) := by
  have hsr := st_rng hs
  obtain ⟨r0, r1, r2, r3, r4⟩ := r
  have h8 : hIn (nI k) 8 := hIn_lt hk (by omega)
  have ck : (nI k).toNatClampNeg = k := nI_clamp (by omega)
  have e23 : gI m1 23 k = gI m 23 k := r4.1 _ _ (by omega)
  have e21 : gI m1 21 k = gI m 21 k := r4.1 _ _ (by omega)
  unfold f_X7_startPiece
  rw [if_pos hs, hLet_n, hLet_n, ck, if_pos h8, if_pos h8, hLet_n, if_pos h8, if_pos h8, hLet_n, if_pos h8, hLet_n, if_pos h8, hLet_n, if_pos h8, hLet_n, if_pos h8, hLet_n, if_pos h8, hLet_n]
  refine ⟨_, rfl, ?_, fun p hp => ?_, fun i hi => ⟨?_, ?_⟩, fun p hp hp8 => ⟨?_, ?_⟩, ?_⟩
  · simp (disch := omega) only [gI_sn]; exact r0
  · by_cases e : p = k
    · subst e
      refine ⟨?_, ?_, ?_, ?_, ?_, ?_, ?_⟩ <;> simp (disch := omega) only [gI_ss, gI_sn] <;> first | exact e23 | exact e21
    · have := r1 p (by omega)
      refine ⟨?_, ?_, ?_, ?_, ?_, ?_, ?_⟩ <;> simp (disch := omega) only [gI_sn]
      · exact this.1
      · exact this.2.1
      · exact this.2.2.1
      · exact this.2.2.2.1
      · exact this.2.2.2.2.1
      · exact this.2.2.2.2.2.1
      · exact this.2.2.2.2.2.2
  · simp (disch := omega) only [gI_sn, gI_ss]
    rw [b_clr (by omega) hi, (r2 i hi).1]
    by_cases e : i = k
    · subst e; simp [show ¬ i + 1 ≤ i by omega]
    · simp [e, show k + 1 ≤ i ↔ k ≤ i by omega]
  · simp (disch := omega) only [gI_sn, gI_ss]
    rw [b_clr (by omega) hi, (r2 i hi).2]
    by_cases e : i = k
    · subst e; simp [show ¬ i + 1 ≤ i by omega]
    · simp [e, show k + 1 ≤ i ↔ k ≤ i by omega]
  · simp (disch := omega) only [gI_sn]; exact (r3 p (by omega) hp8).1
  · simp (disch := omega) only [gI_sn]; exact (r3 p (by omega) hp8).2
  · refine (((((((((r4.si ?_).si ?_).si ?_).si ?_).si ?_).si ?_).si ?_).si ?_).si ?_) <;> constructor <;> omega
theorem stK_rel {m m1 : hM} {s c : Nat} {h : Int32} {S : Nat → Int32} (j : jk m s c) (r : stK m m1 s h c) (hb : begP S h (fun p => gI m 23 p) (fun p => gI m 21 p) c) (h10 : gI m1 s 10 = 0) (h12 : gI m1 s 12 = 0) : sRel S m1 s c := by
  obtain ⟨r0, r1, r2, r3, r4⟩ := r
  obtain ⟨b0, b1, b2, b3⟩ := hb
  have hc := j.1
  refine ⟨j.1, by rw [r0, b0], by rw [h10, b1], by rw [h12, b2], fun p hp => ?_, fun i hi => ?_, fun i q1 q2 => ?_, fun p q1 q2 => ?_⟩
  · obtain ⟨a1, a2, a3, a4, a5, a6, a7⟩ := r1 p hp
    obtain ⟨d1, d2, d3, d4, d5, d6, d7, d8⟩ := b3 p hp
    refine ⟨by rw [a1, d1], by rw [a2, d2], by rw [a3, d3], by rw [a4, d5], by rw [a5, d6], by rw [a6, d7], by rw [a7, d8], ?_, ?_⟩
    · rw [(r2 p (by omega)).2, d4]; simp [show ¬ c ≤ p by omega]
    · rw [(r2 p (by omega)).1, d5]; simp [show ¬ c ≤ p by omega]
  · rw [b2] at hi; exact absurd hi (by simp)
  · rw [(r2 i q2).1, (r2 i q2).2, (j.2.1 i q1 q2).1, (j.2.1 i q1 q2).2]; simp
  · rw [(r3 p q1 q2).1, (r3 p q1 q2).2]; exact j.2.2 p q1 q2
theorem cx_startAll {fu : Nat} (hfu : 100 ≤ fu) {m : hM} {s c : Nat} (hs : s ∈ stL) (j : jk m s c) (h18 : gI m 18 6 = nI c) (h : Int32) :
    ∃ m', f_X7_startAll fu s h m = some ((), m') ∧ fr (fun a _ => s ≤ a ∧ a ≤ s + 8) m m' ∧ ∀ S, begP S h (fun p => gI m 23 p) (fun p => gI m 21 p) c → sRel S m' s c := by
  have hsr := st_rng hs
  have hc := j.1
  have key : ∀ (t k : Nat) (m1 : hM), k ≤ c → c - k < t → stK m m1 s h k → ∃ m', f_X7_startAll_7 fu t s (nI k) m1 = some ((), m') ∧ fr (fun a _ => s ≤ a ∧ a ≤ s + 8) m m' ∧ ∀ S, begP S h (fun p => gI m 23 p) (fun p => gI m 21 p) c → sRel S m' s c := by
    intro t
    induction t with
    | zero => intro k m1 h1 h2; omega
    | succ t ih =>
      intro k m1 hk ht r
      rw [f_X7_startAll_7_s]
      unfold s_X7_startAll_7
      rw [r.2.2.2.2.1 18 6 (by omega), h18]
      by_cases q : nI c ≤ nI k
      · rw [if_pos q]
        rw [nI_leI (by omega) (by omega)] at q
        have : k = c := by omega
        subst this
        unfold f_X7_startAll_27
        rw [hLet_n, hLet_n]
        have r' : stK m (sI (sI m1 s 10 0) s 12 0) s h k := by
          obtain ⟨r0, r1, r2, r3, r4⟩ := r
          have g : ∀ a j, ¬ (a = s ∧ j = 10) → ¬ (a = s ∧ j = 12) → gI (sI (sI m1 s 10 0) s 12 0) a j = gI m1 a j := fun a j z1 z2 => by rw [gI_sn z2, gI_sn z1]
          refine ⟨by rw [g _ _ (by omega) (by omega)]; exact r0, fun p hp => ?_, fun i hi => ?_, fun p p1 p2 => ?_, (r4.si ⟨by omega, by omega⟩).si ⟨by omega, by omega⟩⟩
          · rw [g _ _ (by omega) (by omega), g _ _ (by omega) (by omega), g _ _ (by omega) (by omega), g _ _ (by omega) (by omega), g _ _ (by omega) (by omega), g _ _ (by omega) (by omega), g _ _ (by omega) (by omega)]; exact r1 p hp
          · rw [g _ _ (by omega) (by omega), g _ _ (by omega) (by omega)]; exact r2 i hi
          · rw [g _ _ (by omega) (by omega), g _ _ (by omega) (by omega)]; exact r3 p p1 p2
        exact ⟨_, rfl, r'.2.2.2.2, fun S hb => stK_rel j r' hb (by rw [gI_sn (by omega), gI_ss]) (gI_ss _ _ _ _)⟩
      · rw [if_neg q]
        rw [nI_leI (by omega) (by omega)] at q
        obtain ⟨m2, t1, t2⟩ := cx_start1 fu hs (show k < 8 by omega) r
        rw [t1, hBd_some, nI_1, hLet_n]
        exact ih (k + 1) m2 (by omega) (by omega) t2
  unfold f_X7_startAll
  rw [if_pos hs, hLet_n]
  refine key fu 0 (sI m s 0 h) (by omega) (by omega) ⟨gI_ss _ _ _ _, fun p hp => by omega, fun i hi => ?_, fun p p1 p2 => ?_, fr.rf.si ⟨by omega, by omega⟩⟩
  · rw [gI_sn (by omega), gI_sn (by omega)]; simp
  · rw [gI_sn (by omega), gI_sn (by omega)]; exact ⟨rfl, rfl⟩
/-! copies -/
theorem cp_in {m : hM} {a b n y : Nat} (h : y < n) : gI (cpI m a 0 b 0 n) b y = gI m a y := by
  show (if b = b then va_cpy (m.1 a) (m.1 b) 0 0 n y else m.1 b y) = m.1 a y
  rw [if_pos rfl, pk_cpy_in (by omega) (by omega)]
  simp
theorem cp_out {m : hM} {a b n x y : Nat} (h : ¬ (x = b ∧ y < n)) : gI (cpI m a 0 b 0 n) x y = gI m x y := by
  show (if x = b then va_cpy (m.1 a) (m.1 b) 0 0 n y else m.1 x y) = m.1 x y
  by_cases e : x = b
  · subst e
    rw [if_pos rfl, pk_cpy_out (by omega)]
  · rw [if_neg e]
theorem fr_cp {P : Nat → Nat → Prop} {m m1 : hM} {a b n : Nat} (h : fr P m m1) (hp : ∀ y, y < n → P b y) : fr P m (cpI m1 a 0 b 0 n) := ⟨fun x y z => by rw [cp_out (fun w => z (by rw [w.1]; exact hp y w.2))]; exact h.1 x y z, h.2.1, h.2.2⟩
theorem cx_copyFrom (fu : Nat) {m : hM} {s r : Nat} (hs : s ∈ stL) (hr : r ∈ stL) (hd : s + 9 ≤ r ∨ r + 9 ≤ s) :
    ∃ m', f_X7_copyFrom fu s r m = some ((), m') ∧ fr (fun a _ => s ≤ a ∧ a ≤ s + 8) m m' ∧ ∀ S c, sRel S m r c → (S 2).toNatClampNeg ≤ 60 → sRel S m' s c := by
  have hsr := st_rng hs
  have hrr := st_rng hr
  have c8 : ∀ k, (r + k ≠ s + k ∧ ¬ (0 : Int32) < 0 ∧ ¬ (0 : Int32) < 0 ∧ ¬ (8 : Int32) < 0 ∧ (Int32.toNatClampNeg 0) + (Int32.toNatClampNeg 8) ≤ 8 ∧ (Int32.toNatClampNeg 0) + (Int32.toNatClampNeg 8) ≤ 8) := fun k => ⟨by omega, by decide, by decide, by decide, by decide, by decide⟩
  have c60 : (r + 8 ≠ s + 8 ∧ ¬ (0 : Int32) < 0 ∧ ¬ (0 : Int32) < 0 ∧ ¬ (60 : Int32) < 0 ∧ (Int32.toNatClampNeg 0) + (Int32.toNatClampNeg 60) ≤ 60 ∧ (Int32.toNatClampNeg 0) + (Int32.toNatClampNeg 60) ≤ 60) := ⟨by omega, by decide, by decide, by decide, by decide, by decide⟩
  have z0 : Int32.toNatClampNeg 0 = 0 := by decide
  have z8 : Int32.toNatClampNeg 8 = 8 := by decide
  have z60 : Int32.toNatClampNeg 60 = 60 := by decide
  unfold f_X7_copyFrom
  rw [if_pos hs, if_pos hr, hLet_n, hLet_n, hLet_n, if_pos (c8 1), hLet_n, if_pos (c8 2), hLet_n, if_pos (c8 3), hLet_n, if_pos (c8 4), hLet_n, if_pos (c8 5), hLet_n, if_pos (c8 6), hLet_n, if_pos (c8 7), hLet_n, hLet_n, if_pos c60, hLet_n, hLet_n, z0, z8, z60]
  refine ⟨_, rfl, ?_, fun S c hR h2 => ?_⟩
  · refine ((fr_cp (fr.si (fr_cp (fr_cp (fr_cp (fr_cp (fr_cp (fr_cp (fr_cp (((fr.rf.si ?_).si ?_).si ?_) ?_) ?_) ?_) ?_) ?_) ?_) ?_) ?_) ?_).si ?_) <;> first | (constructor <;> omega) | (intro y hy; constructor <;> omega)
  · obtain ⟨h0, h1, hh2, h3, h4, h5, h6, h7⟩ := hR
    refine ⟨h0, ?_, ?_, ?_, fun p hp => ?_, fun i hi => ?_, fun i q1 q2 => ?_, fun p q1 q2 => ?_⟩
    · simp (disch := omega) only [gI_ss, gI_sn, cp_in, cp_out]; exact h1
    · simp (disch := omega) only [gI_ss, gI_sn, cp_in, cp_out]; exact hh2
    · simp (disch := omega) only [gI_ss, gI_sn, cp_in, cp_out]; exact h3
    · have hp8 : p < 8 := by omega
      unfold pcS
      simp (disch := omega) only [gI_ss, gI_sn, cp_in, cp_out]
      exact h4 p hp
    · simp (disch := omega) only [gI_ss, gI_sn, cp_in, cp_out]; exact h5 i hi
    · simp (disch := omega) only [gI_ss, gI_sn, cp_in, cp_out]; exact h6 i q1 q2
    · simp (disch := omega) only [gI_ss, gI_sn, cp_in, cp_out]; exact h7 p q1 q2
