/-! ===== site: an office more for a while ===== -/
def sK (V : hM) (n : Nat) (w : Int32) : Nat → hM
  | 0 => V
  | o + 1 => kn (sK V n w o) 107 o n w
def vSi (v : hM) (n z : Nat) (l pe cr w : Int32) : hM := sK (vOpen v n (nI z) 9 l 1 pe cr) n w n
theorem sK_o {V : hM} {n : Nat} {w : Int32} {a j : Nat} (h : a ≠ 107) : ∀ k, gI (sK V n w k) a j = gI V a j
  | 0 => rfl
  | k + 1 => by rw [sK, kn_g, if_neg (fun z => h z.1), if_neg (fun z => h z.1)]; exact sK_o h k
theorem sK_7 {V : hM} {n : Nat} {w : Int32} {j : Nat} : ∀ k, gI (sK V n w k) 107 j = if (∃ o, o < k ∧ (j = 6 * o + n ∨ j = 6 * n + o)) then w else gI V 107 j
  | 0 => by rw [if_neg (fun z => by obtain ⟨o, ho, _⟩ := z; omega)]; rfl
  | k + 1 => by
    rw [sK, kn_g, sK_7 k]
    by_cases e1 : j = 6 * n + k
    · rw [if_pos ⟨rfl, e1⟩, if_pos ⟨k, by omega, Or.inr e1⟩]
    · rw [if_neg (fun z => e1 z.2)]
      by_cases e2 : j = 6 * k + n
      · rw [if_pos ⟨rfl, e2⟩, if_pos ⟨k, by omega, Or.inl e2⟩]
      · rw [if_neg (fun z => e2 z.2)]
        by_cases e3 : ∃ o, o < k ∧ (j = 6 * o + n ∨ j = 6 * n + o)
        · obtain ⟨o, ho, hq⟩ := e3
          rw [if_pos ⟨o, ho, hq⟩, if_pos ⟨o, by omega, hq⟩]
        · rw [if_neg e3, if_neg]
          rintro ⟨o, ho, hq⟩
          by_cases e : o = k
          · subst e; exact hq.elim e2 e1
          · exact e3 ⟨o, by omega, hq⟩
theorem sK_v {V : hM} {n : Nat} {w : Int32} (hV : vRel V (n + 1)) (hw : 0 ≤ w.toInt ∧ w.toInt ≤ 9) : ∀ k, k ≤ n → vRel (sK V n w k) (n + 1)
  | 0, _ => hV
  | k + 1, hk => by rw [sK]; exact vRel_kn (sK_v hV hw k (by omega)) (by omega) (by omega) (by omega) hw
theorem sK_L {V : hM} {n : Nat} {w : Int32} : ∀ k, (∀ p q, gL (sK V n w k) p q = gL V p q) ∧ ∀ p q, gR (sK V n w k) p q = gR V p q
  | 0 => ⟨fun _ _ => rfl, fun _ _ => rfl⟩
  | k + 1 => by rw [sK]; exact sK_L k
theorem vSi_7 {v : hM} {n z a b : Nat} {l pe cr w : Int32} (hn : n < 6) (ha : a < n + 1) (hb : b < n + 1) : gI (vSi v n z l pe cr w) 107 (6 * a + b) = if a = n ∧ b = n then 9 else if a = n ∨ b = n then w else gI v 107 (6 * a + b) := by
  unfold vSi
  rw [sK_7]
  have d1 : (6 * a + b) / 6 = a := by omega
  have d2 : (6 * a + b) % 6 = b := by omega
  by_cases e : a = n ∧ b = n
  · rw [if_pos e, if_neg (by rintro ⟨o, ho, hq⟩; omega), vOpen_g]
    simp [e.1, e.2]
  · rw [if_neg e]
    by_cases e2 : a = n ∨ b = n
    · rw [if_pos e2]
      rw [if_pos]
      rcases e2 with e2 | e2
      · exact ⟨b, by omega, Or.inr (by omega)⟩
      · exact ⟨a, by omega, Or.inl (by omega)⟩
    · rw [if_neg e2, if_neg (by rintro ⟨o, ho, hq⟩; omega), vOpen_g]
      simp only [show ¬ (107 = 98 ∧ 6 * a + b = n) by omega, show ¬ (107 = 99 ∧ 6 * a + b = n) by omega, show ¬ (107 = 100 ∧ 6 * a + b = n) by omega, show ¬ (107 = 101 ∧ 6 * a + b = n) by omega, show ¬ (107 = 102 ∧ 6 * a + b = n) by omega, show ¬ (107 = 103 ∧ 6 * a + b = n) by omega, show ¬ (107 = 104 ∧ 6 * a + b = n) by omega, show ¬ (107 = 105 ∧ 6 * a + b = n) by omega, show ¬ (107 = 106 ∧ 100 * n ≤ 6 * a + b ∧ 6 * a + b < 100 * n + 100) by omega, show ¬ (107 = 96 ∧ 6 * a + b = 3) by omega, if_false, d1, d2]
      rw [if_neg (by omega), if_neg (fun y => e2 y.2.2)]
theorem vSi_o {v : hM} {n z o : Nat} {l pe cr w : Int32} (ho : o < n) : (∀ j, j < 8 → gI (vSi v n z l pe cr w) (98 + j) o = gI v (98 + j) o) ∧ ∀ d, d < 100 → gI (vSi v n z l pe cr w) 106 (100 * o + d) = gI v 106 (100 * o + d) := by
  unfold vSi
  refine ⟨fun j hj => ?_, fun d hd => ?_⟩
  · rw [sK_o (by omega), vOpen_g]; simp only [show o ≠ n from by omega, show 98 + j ≠ 106 from by omega, show 98 + j ≠ 107 from by omega, show 98 + j ≠ 96 from by omega, and_false, false_and, if_false]
  · rw [sK_o (by omega), vOpen_g]; simp [show ¬ (100 * n ≤ 100 * o + d) from by omega]
theorem vSi_k {v : hM} {n z a j : Nat} {l pe cr w : Int32} (h : ¬ (98 ≤ a ∧ a ≤ 107)) (h2 : ¬ (a = 96 ∧ j = 3)) : gI (vSi v n z l pe cr w) a j = gI v a j := by
  unfold vSi; rw [sK_o (by omega), vOpen_n h h2]
/-- the class's earth with the new office counted, its acquaintance w -/
def sE (v M : hM) (n : Nat) (w : Int32) : Prop := gI M 1 4 = nI (n + 1) ∧ gI M 1 5 = gI v 96 14 ∧ gI M 1 6 = gI v 96 15 ∧ (∀ o, o < n → oRel v M o ∧ wRel v M o ∧ aRel v M o) ∧ (∀ o, n ≤ o → o < 6 → gI M (6 + 2 * o) 6 = 0 ∧ gI M (6 + 2 * o) 7 = 0 ∧ ∀ d, d < 100 → gI M (6 + 2 * o + 1) d = 0) ∧ (∀ a b, a < n → b < n → gI M 3 (6 * a + b) = gI v 107 (6 * a + b)) ∧ (∀ a b, a < 6 → b < 6 → (n ≤ a ∨ n ≤ b) → gI M 3 (6 * a + b) = if a = b then 9 else if (a = n ∧ b < n) ∨ (b = n ∧ a < n) then w else 0)
theorem sE_fr {v M M' : hM} {n : Nat} {w : Int32} (hn : n < 6) (h : sE v M n w) (g : ∀ a j, 1 ≤ a → a ≤ 17 → gI M' a j = gI M a j) : sE v M' n w := by
  refine ⟨by rw [g _ _ (by omega) (by omega)]; exact h.1, by rw [g _ _ (by omega) (by omega)]; exact h.2.1, by rw [g _ _ (by omega) (by omega)]; exact h.2.2.1, fun o ho => ?_, fun o h1 h2 => ?_, fun a b ha hb => ?_, fun a b ha hb q => ?_⟩
  · exact off_keep (h.2.2.2.1 o ho) (fun _ _ => rfl) (fun _ _ => rfl) (fun j => g _ _ (by omega) (by omega)) (fun j => g _ _ (by omega) (by omega)) (fun j => by rw [g _ _ (by omega) (by omega)]) (fun j _ _ => g _ _ (by omega) (by omega))
  · rw [g _ _ (by omega) (by omega), g _ _ (by omega) (by omega)]
    exact ⟨(h.2.2.2.2.1 o h1 h2).1, (h.2.2.2.2.1 o h1 h2).2.1, fun d hd => by rw [g _ _ (by omega) (by omega)]; exact (h.2.2.2.2.1 o h1 h2).2.2 d hd⟩
  · rw [g _ _ (by omega) (by omega)]; exact h.2.2.2.2.2.1 a b ha hb
  · rw [g _ _ (by omega) (by omega)]; exact h.2.2.2.2.2.2 a b ha hb q
theorem cx_toAll {fu : Nat} (hfu : 100 ≤ fu) {n : Nat} (hn : n < 6) (w : Int32) (M : hM) (h1 : gI M 1 4 = nI (n + 1)) : ∃ M', f_X0_putKnownToAll fu (nI n) w M = some ((), M') ∧ (∀ a b, a < 6 → b < 6 → gI M' 3 (6 * a + b) = if (a = n ∧ b < n) ∨ (b = n ∧ a < n) then w else gI M 3 (6 * a + b)) ∧ fr (fun a _ => a = 3) M M' := by
  have key : ∀ (t k : Nat) (M1 : hM), k ≤ n + 1 → n + 1 - k < t → (∀ a b, a < 6 → b < 6 → gI M1 3 (6 * a + b) = if (a = n ∧ b < n ∧ b < k) ∨ (b = n ∧ a < n ∧ a < k) then w else gI M 3 (6 * a + b)) → fr (fun a _ => a = 3) M M1 →
      ∃ M', f_X0_putKnownToAll_2 fu t (nI n) w (nI k) M1 = some ((), M') ∧ (∀ a b, a < 6 → b < 6 → gI M' 3 (6 * a + b) = if (a = n ∧ b < n) ∨ (b = n ∧ a < n) then w else gI M 3 (6 * a + b)) ∧ fr (fun a _ => a = 3) M M' := by
    intro t
    induction t with
    | zero => intro k M1 a1 a2; omega
    | succ t ih =>
      intro k M1 hk ht hM1 f1
      rw [f_X0_putKnownToAll_2_s]
      unfold s_X0_putKnownToAll_2 f_X0_putKnownToAll_22
      rw [f1.1 1 4 (by omega), h1]
      simp only [hLet_n, nI_1]
      by_cases q : nI (n + 1) ≤ nI k
      · rw [if_pos q]
        rw [nI_leI (by omega) (by omega)] at q
        refine ⟨M1, rfl, fun a b ha hb => ?_, f1⟩
        rw [hM1 a b ha hb]
        by_cases y : (a = n ∧ b < n) ∨ (b = n ∧ a < n)
        · rw [if_pos y, if_pos (by omega)]
        · rw [if_neg y, if_neg (by omega)]
      · rw [if_neg q]
        rw [nI_leI (by omega) (by omega)] at q
        by_cases e : k = n
        · subst e
          rw [if_pos rfl]
          refine ih (k + 1) M1 (by omega) (by omega) (fun a b ha hb => ?_) f1
          rw [hM1 a b ha hb]
          by_cases y : (a = k ∧ b < k ∧ b < k) ∨ (b = k ∧ a < k ∧ a < k)
          · rw [if_pos y, if_pos (by omega)]
          · rw [if_neg y, if_neg (by omega)]
        · rw [if_neg (fun y => e ((nI_eq (by omega) (by omega)).mp y)), cx_putKnown fu hn (show k < 6 by omega), hBd_some]
          refine ih (k + 1) _ (by omega) (by omega) (fun a b ha hb => ?_) ((f1.si (P := fun a _ => a = 3) rfl).si (P := fun a _ => a = 3) rfl)
          rw [kn_g, hM1 a b ha hb]
          by_cases e1 : a = k ∧ b = n
          · rw [if_pos ⟨rfl, by omega⟩, if_pos (by omega)]
          · rw [if_neg (by omega)]
            by_cases e2 : a = n ∧ b = k
            · rw [if_pos ⟨rfl, by omega⟩, if_pos (by omega)]
            · rw [if_neg (by omega)]
              by_cases y : (a = n ∧ b < n ∧ b < k) ∨ (b = n ∧ a < n ∧ a < k)
              · rw [if_pos y, if_pos (by omega)]
              · rw [if_neg y, if_neg (by omega)]
  unfold f_X0_putKnownToAll
  exact key fu 0 M (by omega) (by omega) (fun a b ha hb => by rw [if_neg (by omega)]) fr.rf
theorem sE_of {v m M' : hM} {n : Nat} {w : Int32} (hn : n < 6) (he : eRel v m n) (h3 : ∀ a b, a < 6 → b < 6 → gI M' 3 (6 * a + b) = if (a = n ∧ b < n) ∨ (b = n ∧ a < n) then w else gI m 3 (6 * a + b)) (g : ∀ a j, a ≠ 3 → ¬ (a = 1 ∧ j = 4) → gI M' a j = gI m a j) (h1 : gI M' 1 4 = nI (n + 1)) : sE v M' n w := by
  refine ⟨h1, by rw [g _ _ (by omega) (by omega)]; exact he.2.1, by rw [g _ _ (by omega) (by omega)]; exact he.2.2.1, fun o ho => ?_, fun o a1 a2 => ?_, fun a b ha hb => ?_, fun a b ha hb q => ?_⟩
  · exact off_keep (he.2.2.2.1 o ho) (fun _ _ => rfl) (fun _ _ => rfl) (fun j => g _ _ (by omega) (by omega)) (fun j => g _ _ (by omega) (by omega)) (fun j => by rw [g _ _ (by omega) (by omega)]) (fun j _ _ => g _ _ (by omega) (by omega))
  · rw [g _ _ (by omega) (by omega), g _ _ (by omega) (by omega)]
    exact ⟨(he.2.2.2.2.1 o a1 a2).1, (he.2.2.2.2.1 o a1 a2).2.1, fun d hd => by rw [g _ _ (by omega) (by omega)]; exact (he.2.2.2.2.1 o a1 a2).2.2 d hd⟩
  · rw [h3 a b (by omega) (by omega), if_neg (by omega)]; exact he.2.2.2.2.2.1 a b ha hb
  · rw [h3 a b ha hb, he.2.2.2.2.2.2 a b ha hb q]
    by_cases y : (a = n ∧ b < n) ∨ (b = n ∧ a < n)
    · rw [if_pos y, if_neg (by omega), if_pos y]
    · rw [if_neg y]
      by_cases y2 : a = b
      · rw [if_pos y2, if_pos y2]
      · rw [if_neg y2, if_neg y2, if_neg y]
theorem sE_back {v M M' : hM} {n : Nat} {w : Int32} (hn : n < 6) (h : sE v M n w) (h3 : ∀ a b, a < 6 → b < 6 → gI M' 3 (6 * a + b) = if (a = n ∧ b < n) ∨ (b = n ∧ a < n) then 0 else gI M 3 (6 * a + b)) (g : ∀ a j, a ≠ 3 → ¬ (a = 1 ∧ j = 4) → gI M' a j = gI M a j) (h1 : gI M' 1 4 = nI n) : eRel v M' n := by
  refine ⟨h1, by rw [g _ _ (by omega) (by omega)]; exact h.2.1, by rw [g _ _ (by omega) (by omega)]; exact h.2.2.1, fun o ho => ?_, fun o a1 a2 => ?_, fun a b ha hb => ?_, fun a b ha hb q => ?_⟩
  · exact off_keep (h.2.2.2.1 o ho) (fun _ _ => rfl) (fun _ _ => rfl) (fun j => g _ _ (by omega) (by omega)) (fun j => g _ _ (by omega) (by omega)) (fun j => by rw [g _ _ (by omega) (by omega)]) (fun j _ _ => g _ _ (by omega) (by omega))
  · rw [g _ _ (by omega) (by omega), g _ _ (by omega) (by omega)]
    exact ⟨(h.2.2.2.2.1 o a1 a2).1, (h.2.2.2.2.1 o a1 a2).2.1, fun d hd => by rw [g _ _ (by omega) (by omega)]; exact (h.2.2.2.2.1 o a1 a2).2.2 d hd⟩
  · rw [h3 a b (by omega) (by omega), if_neg (by omega)]; exact h.2.2.2.2.2.1 a b ha hb
  · rw [h3 a b ha hb]
    by_cases y : (a = n ∧ b < n) ∨ (b = n ∧ a < n)
    · rw [if_pos y, if_neg (by omega)]
    · rw [if_neg y, h.2.2.2.2.2.2 a b ha hb q]
      by_cases y2 : a = b
      · rw [if_pos y2, if_pos y2]
      · rw [if_neg y2, if_neg y2, if_neg y]
theorem sE_open {fu : Nat} (hfu : 3000 ≤ fu) {v M : hM} {n z : Nat} {l pc w : Int32} (hn : n < 6) (hz : z < 24) (hpc : 64 ≤ pc.toInt ∧ pc.toInt < 640) (h : sE v M n w) :
    ∃ M1 M2, f_X2_settle fu (6 + 2 * n) ((nI z * 24) + 9) l 1 pc M = some ((), M1) ∧ f_X0_refresh fu (nI n) 0 2560 M1 = some ((), M2) ∧ eRel (vSi v n z l (nI (pc.toNatClampNeg / 64)) (nI (pc.toNatClampNeg % 64)) w) M2 (n + 1) ∧ sE v M2 n w ∧ keepE M M2 := by
  have ez : (nI z * 24) + 9 = nI (24 * z + 9) := by rw [show (24 : Int32) = nI 24 from rfl, show (9 : Int32) = nI 9 from rfl, pk_mul, nI_add, Nat.mul_comm]
  have cz : (nI (24 * z + 9)).toNatClampNeg = 24 * z + 9 := nI_clamp (by omega)
  rw [ez, cx_settle fu hn (by rw [nI_toInt (by omega)]; omega) (by omega), cz, show (24 * z + 9) / 24 = z by omega, show (24 * z + 9) % 24 = 9 by omega, show nI 9 = 9 from rfl]
  obtain ⟨k5, k6, k7⟩ := h.2.2.2.2.1 n (by omega) hn
  generalize hP : nI (pc.toNatClampNeg / 64) = pe
  generalize hC : nI (pc.toNatClampNeg % 64) = cr
  generalize hm2 : sI (sI (sI (sI (sI (sI M (6 + 2 * n) 0 (nI z)) (6 + 2 * n) 1 9) (6 + 2 * n) 2 l) (6 + 2 * n) 3 1) (6 + 2 * n) 4 pe) (6 + 2 * n) 5 cr = m2
  have g2 : ∀ a j, a ≠ 6 + 2 * n → gI m2 a j = gI M a j := fun a j h1 => by
    rw [← hm2]; simp only [gI_sI, h1, false_and, if_false]
  have hr : oRel (vSi v n z l pe cr w) m2 n := by
    refine ⟨fun j hj => ?_, fun d hd => ?_⟩
    · unfold vSi
      rw [sK_o (by omega), vOpen_g, ← hm2]
      have : j = 0 ∨ j = 1 ∨ j = 2 ∨ j = 3 ∨ j = 4 ∨ j = 5 ∨ j = 6 ∨ j = 7 := by omega
      rcases this with rfl | rfl | rfl | rfl | rfl | rfl | rfl | rfl <;> simp [gI_sI, k5, k6]
    · unfold vSi
      rw [g2 _ _ (by omega), k7 d hd, sK_o (by omega), vOpen_g]
      simp [show 100 * n + d < 100 * n + 100 from by omega]
  obtain ⟨m3, f1, f2, f3, f4, f5, f6, f7, f8⟩ := cx_all hfu hn hr
  have gm : ∀ a j, a ≠ 4 → a ≠ 5 → a ≠ 6 + 2 * n → gI m3 a j = gI M a j := fun a j z1 z2 z3 => by rw [f2 a j z1 z2, g2 a j z3]
  have of1 : ∀ o, o < n → ∀ v', (∀ j, j < 8 → gI v' (98 + j) o = gI v (98 + j) o) → (∀ d, d < 100 → gI v' 106 (100 * o + d) = gI v 106 (100 * o + d)) → oRel v' m3 o ∧ wRel v' m3 o ∧ aRel v' m3 o := fun o ho v' w1 w2 => by
    refine off_keep (h.2.2.2.1 o ho) w1 w2 (fun j => gm _ _ (by omega) (by omega) (by omega)) (fun j => gm _ _ (by omega) (by omega) (by omega)) (fun j => ?_) (fun j h1 h2 => ?_)
    · rw [f7 o j (by omega) (by omega), g2 4 j (by omega)]
    · rw [f8 j (by omega), g2 5 j (by omega)]
  refine ⟨m2, m3, rfl, f1, ⟨?_, ?_, ?_, fun o ho => ?_, fun o ho ho6 => ?_, fun a b ha hb => ?_, fun a b ha hb hq => ?_⟩, ⟨?_, ?_, ?_, fun o ho => of1 o ho v (fun _ _ => rfl) (fun _ _ => rfl), fun o a1 a2 => ?_, fun a b ha hb => ?_, fun a b ha hb q => ?_⟩, ?_⟩
  · rw [gm _ _ (by omega) (by omega) (by omega)]; exact h.1
  · rw [gm _ _ (by omega) (by omega) (by omega), vSi_k (by omega) (by omega)]; exact h.2.1
  · rw [gm _ _ (by omega) (by omega) (by omega), vSi_k (by omega) (by omega)]; exact h.2.2.1
  · by_cases hon : o = n
    · subst hon
      exact ⟨hr.keep (fun j => f2 _ j (by omega) (by omega)) (fun j => f2 _ j (by omega) (by omega)), f5, f6⟩
    · exact of1 o (by omega) _ (vSi_o (by omega)).1 (vSi_o (by omega)).2
  · obtain ⟨p1, p2, p3⟩ := h.2.2.2.2.1 o (by omega) ho6
    exact ⟨by rw [gm _ _ (by omega) (by omega) (by omega)]; exact p1, by rw [gm _ _ (by omega) (by omega) (by omega)]; exact p2, fun d hd => by rw [gm _ _ (by omega) (by omega) (by omega)]; exact p3 d hd⟩
  · rw [gm _ _ (by omega) (by omega) (by omega), vSi_7 hn ha hb]
    by_cases q : a < n ∧ b < n
    · rw [h.2.2.2.2.2.1 a b q.1 q.2, if_neg (by omega), if_neg (by omega)]
    · rw [h.2.2.2.2.2.2 a b (by omega) (by omega) (by omega)]
      by_cases hab : a = b
      · rw [if_pos hab, if_pos (by omega)]
      · rw [if_neg hab, if_pos (by omega), if_neg (by omega), if_pos (by omega)]
  · rw [gm _ _ (by omega) (by omega) (by omega), h.2.2.2.2.2.2 a b ha hb (by omega)]
    by_cases hab : a = b
    · rw [if_pos hab, if_pos hab]
    · rw [if_neg hab, if_neg hab, if_neg (by omega)]
  · rw [gm _ _ (by omega) (by omega) (by omega)]; exact h.1
  · rw [gm _ _ (by omega) (by omega) (by omega)]; exact h.2.1
  · rw [gm _ _ (by omega) (by omega) (by omega)]; exact h.2.2.1
  · by_cases e : o = n
    · subst e
      refine ⟨?_, ?_, fun d hd => ?_⟩
      · rw [f2 _ _ (by omega) (by omega), ← hm2]; simp [gI_sI, k5]
      · rw [f2 _ _ (by omega) (by omega), ← hm2]; simp [gI_sI, k6]
      · rw [gm _ _ (by omega) (by omega) (by omega)]; exact k7 d hd
    · obtain ⟨p1, p2, p3⟩ := h.2.2.2.2.1 o a1 a2
      exact ⟨by rw [gm _ _ (by omega) (by omega) (by omega)]; exact p1, by rw [gm _ _ (by omega) (by omega) (by omega)]; exact p2, fun d hd => by rw [gm _ _ (by omega) (by omega) (by omega)]; exact p3 d hd⟩
  · rw [gm _ _ (by omega) (by omega) (by omega)]; exact h.2.2.2.2.2.1 a b ha hb
  · rw [gm _ _ (by omega) (by omega) (by omega)]; exact h.2.2.2.2.2.2 a b ha hb q
  · refine ⟨fun a j ha => gm a j (by omega) (by omega) (by omega), fun a j => (f3 a j).trans (by rw [← hm2]; rfl), fun a j => (f4 a j).trans (by rw [← hm2]; rfl)⟩
