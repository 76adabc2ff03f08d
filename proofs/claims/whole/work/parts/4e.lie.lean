/-! ===== lie: a piece alone at an office ===== -/
def laS (v : hM) (p o : Nat) : Nat → Nat → Int32 → Int32 → Bool → Int32 → Option (Nat × Int32)
  | 0, _, _, _, _, _ => none
  | r + 1, h, L, s, true, t => laS v p o r (h + 1) L s (decide (¬ (opn v o (nI h) = 1 ∧ opn v (gI v 112 p).toNatClampNeg (nI h) = 1))) (t + 1)
  | r + 1, h, L, s, false, t => if opn v o (nI h) = 1 then (if L + (-1) = 0 then some (h + 1, t) else if gI v 112 p < 0 then laS v p o r (h + 1) (L + (-1)) (s + 1) false t else if s + 1 = gI v 113 p then laS v p o r (h + 1) (L + (-1)) 0 true t else laS v p o r (h + 1) (L + (-1)) (s + 1) false t) else laS v p o r (h + 1) L s false t
theorem laS_le {v : hM} {p o : Nat} : ∀ r h L s w t e u, laS v p o r h L s w t = some (e, u) → h < e ∧ e ≤ h + r
  | 0, h, L, s, w, t, e, u, q => by cases q
  | r + 1, h, L, s, true, t, e, u, q => by
    rw [laS] at q
    have := laS_le r _ _ _ _ _ _ _ q; omega
  | r + 1, h, L, s, false, t, e, u, q => by
    rw [laS] at q
    split at q
    · split at q
      · cases q; omega
      · split at q
        · have := laS_le r _ _ _ _ _ _ _ q; omega
        · split at q
          · have := laS_le r _ _ _ _ _ _ _ q; omega
          · have := laS_le r _ _ _ _ _ _ _ q; omega
    · have := laS_le r _ _ _ _ _ _ _ q; omega
theorem laS_less {v : hM} {p o : Nat} : ∀ r r' h L s w t, r' ≤ r → laS v p o r' h L s w t = (laS v p o r h L s w t).filter (fun x => decide (x.1 ≤ h + r'))
  | 0, r', h, L, s, w, t, hr => by
    have : r' = 0 := by omega
    subst this; rfl
  | r + 1, 0, h, L, s, w, t, hr => by
    cases hq : laS v p o (r + 1) h L s w t with
    | none => rfl
    | some x =>
      obtain ⟨e, u⟩ := x
      have := laS_le _ _ _ _ _ _ _ _ hq
      rw [Option.filter_some, if_neg (by simp; omega)]
      cases w <;> rfl
  | r + 1, r' + 1, h, L, s, true, t, hr => by
    rw [laS, laS, laS_less r r' _ _ _ _ _ (by omega), show h + 1 + r' = h + (r' + 1) by omega]
  | r + 1, r' + 1, h, L, s, false, t, hr => by
    rw [laS, laS]
    have e : h + 1 + r' = h + (r' + 1) := by omega
    split
    · split
      · rw [Option.filter_some, if_pos (by simp)]
      · split
        · rw [laS_less r r' _ _ _ _ _ (by omega), e]
        · split
          · rw [laS_less r r' _ _ _ _ _ (by omega), e]
          · rw [laS_less r r' _ _ _ _ _ (by omega), e]
    · rw [laS_less r r' _ _ _ _ _ (by omega), e]
def lR (o : Option (Nat × Int32)) (z : Int32) : Int32 := match o with | none => z | some (e, _) => nI e
theorem rx_lies22 (fu : Nat) {v : hM} {n c p o : Nat} (hv : vRel v n) (hp : pRng v n c) (hpc : p < c) (ho : o < n) (hk : bt (gI v 103 o) (gI v 108 p).toNatClampNeg = true) : ∀ (t r h : Nat) (L s : Int32) (w : Bool) (u : Int32) (m : hM), h + r = 2399 → r < t → eqV v m → gI m 96 47 = u → (w = true → hIn (gI v 112 p) n) →
    ∃ m', f_X11_lies_22 fu t (nI p) (nI o) L s (if w then 1 else 0) (nI h) m = some (lR (laS v p o r h L s w u) (-1), m') ∧ (∀ e x, laS v p o r h L s w u = some (e, x) → gI m' 96 47 = x) ∧ fr (fun a j => a = 96 ∧ j = 47) m m' := by
  have hn := hv.1
  have hc := hp.1
  have h8 : hIn (nI p) 8 := hIn_lt (show p < 8 by omega) (by omega)
  have h6 : hIn (nI o) 6 := hIn_lt (show o < 6 by omega) (by omega)
  have cp : (nI p).toNatClampNeg = p := nI_clamp (by omega)
  have co : (nI o).toNatClampNeg = o := nI_clamp (by omega)
  obtain ⟨ct, hct, hcte⟩ := hIn_of (hp.2.2 p hpc).1 (by omega)
  intro t
  induction t with
  | zero => intro r h L s w u m h1 h2; omega
  | succ t ih =>
    intro r h L s w u m hr ht g hu hw
    rw [f_X11_lies_22_s]
    unfold s_X11_lies_22
    cases r with
    | zero =>
      rw [if_pos (show (2399 : Int32) ≤ nI h from nI_le (a := 2399) (by omega) (by omega))]
      have : laS v p o 0 h L s w u = none := by rw [laS]
      rw [this]
      exact ⟨m, rfl, fun e x q => (by cases q), fr.rf⟩
    | succ r =>
      rw [if_neg (show ¬ (2399 : Int32) ≤ nI h from nI_ge (b := 2399) (by omega) (by omega))]
      have go : ∀ (L' s' : Int32) (w' : Bool), (w' = true → hIn (gI v 112 p) n) → laS v p o (r + 1) h L s w u = laS v p o r (h + 1) L' s' w' u → ∃ m', f_X11_lies_150 fu (f_X11_lies_22 fu t) (nI p) (nI o) L' s' (if w' then 1 else 0) (nI h) m = some (lR (laS v p o (r + 1) h L s w u) (-1), m') ∧ (∀ e x, laS v p o (r + 1) h L s w u = some (e, x) → gI m' 96 47 = x) ∧ fr (fun a j => a = 96 ∧ j = 47) m m' := by
        intro L' s' w' hw' e
        unfold f_X11_lies_150
        rw [hLet_n, nI_1, e]
        exact ih r (h + 1) L' s' w' u m (by omega) (by omega) g hu hw'
      cases w with
      | false =>
        rw [if_pos (show (if false = true then (1 : Int32) else 0) = 0 by decide), bd_isOpen fu (show o < 6 by omega) _ g]
        rcases opn_01 v o (nI h) with q | q
        · rw [if_pos q]
          exact go L s false (fun z => by cases z) (by rw [laS, if_neg (by rw [q]; decide)])
        · have lq : ∀ X Y : Option (Nat × Int32), (if opn v o (nI h) = 1 then X else Y) = X := fun X Y => if_pos q
          rw [if_neg (by rw [q]; decide), if_pos h6, if_pos h8, co, cp, g.a o (show 98 ≤ 103 by omega) (by omega), g.a p (show 98 ≤ 108 by omega) (by omega), hcte, bd_has fu _ (show ct < 32 by omega)]
          rw [hcte, nI_clamp (show ct < 2 ^ 31 by omega)] at hk
          rw [if_pos hk, if_neg (by decide), hLet_n, hLet_n]
          by_cases z0 : L + (-1) = 0
          · rw [if_neg (fun y => y z0), nI_1]
            have e : laS v p o (r + 1) h L s false u = some (h + 1, u) := by rw [laS, lq, if_pos z0]
            rw [e]
            exact ⟨m, rfl, fun e x y => by cases y; exact hu, fr.rf⟩
          · rw [if_pos z0, if_pos h8, g.a p (show 98 ≤ 112 by omega) (by omega)]
            by_cases z1 : gI v 112 p < 0
            · rw [if_pos z1]
              exact go _ _ false (fun z => by cases z) (by rw [laS, lq, if_neg z0, if_pos z1])
            · rw [if_neg z1, if_pos h8, g.a p (show 98 ≤ 113 by omega) (by omega)]
              by_cases z2 : s + 1 = gI v 113 p
              · rw [if_neg (fun y => y z2)]
                have hin : hIn (gI v 112 p) n := by
                  rcases (hp.2.2 p hpc).2.2.2.2.2 with y | y
                  · exact absurd (by rw [y]; decide) z1
                  · exact y
                exact go _ _ true (fun _ => hin) (by rw [laS, lq, if_neg z0, if_neg z1, if_pos z2])
              · rw [if_pos z2]
                exact go _ _ false (fun z => by cases z) (by rw [laS, lq, if_neg z0, if_neg z1, if_neg z2])
      | true =>
        have hin := hw rfl
        obtain ⟨a, ha, hae⟩ := hIn_of hin (by omega)
        rw [if_neg (show ¬ (if true = true then (1 : Int32) else 0) = 0 by decide), hLet_n, hu]
        have g1 : eqV v (sI m 96 47 (u + 1)) := fun a j z => by rw [gI_sn (by unfold envC at z; omega)]; exact g a j z
        have go2 : ∀ (w' : Bool), laS v p o (r + 1) h L s true u = laS v p o r (h + 1) L s w' (u + 1) → ∃ m', f_X11_lies_75 fu (f_X11_lies_22 fu t) (nI p) (nI o) L s (nI h) (if w' then 1 else 0) (sI m 96 47 (u + 1)) = some (lR (laS v p o (r + 1) h L s true u) (-1), m') ∧ (∀ e x, laS v p o (r + 1) h L s true u = some (e, x) → gI m' 96 47 = x) ∧ fr (fun a j => a = 96 ∧ j = 47) m m' := by
          intro w' e
          unfold f_X11_lies_75 f_X11_lies_150
          rw [hLet_n, nI_1, e]
          obtain ⟨m', r1, r2, r3⟩ := ih r (h + 1) L s w' (u + 1) (sI m 96 47 (u + 1)) (by omega) (by omega) g1 (gI_ss _ _ _ _) (fun _ => hin)
          exact ⟨m', r1, r2, (fr.rf.si ⟨rfl, rfl⟩).tr r3⟩
        have e0 : laS v p o (r + 1) h L s true u = laS v p o r (h + 1) L s (decide (¬ (opn v o (nI h) = 1 ∧ opn v a (nI h) = 1))) (u + 1) := by rw [laS, hae, nI_clamp (show a < 2 ^ 31 by omega)]
        unfold f_X11_lies_70
        rw [bd_isOpen fu (show o < 6 by omega) _ g1]
        rcases opn_01 v o (nI h) with q | q
        · rw [if_pos q]
          exact go2 true (by rw [e0, decide_eq_true (by rw [q]; exact fun y => absurd y.1 (by decide))])
        · rw [if_neg (by rw [q]; decide), if_pos h8, cp, gI_sn (by omega), g.a p (show 98 ≤ 112 by omega) (by omega), hae, bd_isOpen fu (show a < 6 by omega) _ g1]
          rcases opn_01 v a (nI h) with q2 | q2
          · rw [if_neg (fun y => y q2)]
            exact go2 true (by rw [e0, decide_eq_true (by rw [q2]; exact fun y => absurd y.2 (by decide))])
          · rw [if_pos (by rw [q2]; decide)]
            exact go2 false (by rw [e0, decide_eq_false (fun y => y ⟨q, q2⟩)])
/-- no craft: never -/
theorem rx_lies22n (fu : Nat) {v : hM} {n c p o : Nat} (hv : vRel v n) (hp : pRng v n c) (hpc : p < c) (ho : o < n) (hk : ¬ bt (gI v 103 o) (gI v 108 p).toNatClampNeg = true) : ∀ (t r h : Nat) (L s : Int32) (m : hM), h + r = 2399 → r < t → eqV v m → f_X11_lies_22 fu t (nI p) (nI o) L s 0 (nI h) m = some (-1, m) := by
  have hn := hv.1
  have hc := hp.1
  have h8 : hIn (nI p) 8 := hIn_lt (show p < 8 by omega) (by omega)
  have h6 : hIn (nI o) 6 := hIn_lt (show o < 6 by omega) (by omega)
  have cp : (nI p).toNatClampNeg = p := nI_clamp (by omega)
  have co : (nI o).toNatClampNeg = o := nI_clamp (by omega)
  obtain ⟨ct, hct, hcte⟩ := hIn_of (hp.2.2 p hpc).1 (by omega)
  rw [hcte, nI_clamp (show ct < 2 ^ 31 by omega)] at hk
  intro t
  induction t with
  | zero => intro r h L s m h1 h2; omega
  | succ t ih =>
    intro r h L s m hr ht g
    rw [f_X11_lies_22_s]
    unfold s_X11_lies_22
    cases r with
    | zero => rw [if_pos (show (2399 : Int32) ≤ nI h from nI_le (a := 2399) (by omega) (by omega))]
    | succ r =>
      rw [if_neg (show ¬ (2399 : Int32) ≤ nI h from nI_ge (b := 2399) (by omega) (by omega)), if_pos rfl, bd_isOpen fu (show o < 6 by omega) _ g, if_pos h6, if_pos h8, co, cp, g.a o (show 98 ≤ 103 by omega) (by omega), g.a p (show 98 ≤ 108 by omega) (by omega), hcte, bd_has fu _ (show ct < 32 by omega), if_neg hk, if_pos rfl]
      unfold f_X11_lies_150
      rw [hLet_n, nI_1, ih r (h + 1) L s m (by omega) (by omega) g]
      split <;> rfl
/-! the class's -/
theorem cx_alone48 (fu : Nat) {v : hM} {n c p o M : Nat} (hMx : M ≤ 2399) (hn : n ≤ 6) (hp : pRng v n c) (hpc : p < c) (ho : o < n) : ∀ (t r h : Nat) (L s : Int32) (w : Bool) (u : Int32) (m : hM), (h + r = M ∨ (r = 0 ∧ M ≤ h)) → r < t → h < 2400 → eRel v m n → pRel v m c → gI m 32 7 = u → (w = true → hIn (gI v 112 p) n) →
    ∃ m', f_X8_doneAlone_48 fu t (nI p) (nI o) (nI M) (gI v 112 p) L s (if w then 1 else 0) (nI h) m = some (lR (laS v p o r h L s w u) (-2), m') ∧ (∀ e x, laS v p o r h L s w u = some (e, x) → gI m' 32 7 = x) ∧ fr (fun a j => a = 32 ∧ j = 7) m m' := by
  have hc := hp.1
  have h8 : hIn (nI p) 8 := hIn_lt (show p < 8 by omega) (by omega)
  have cp : (nI p).toNatClampNeg = p := nI_clamp (by omega)
  intro t
  induction t with
  | zero => intro r h L s w u m h1 h2; omega
  | succ t ih =>
    intro r h L s w u m hr ht hh he hpr hu hw
    rw [f_X8_doneAlone_48_s]
    unfold s_X8_doneAlone_48
    cases r with
    | zero =>
      rw [if_pos (show nI M ≤ nI h from nI_le (by omega) (by omega))]
      have : laS v p o 0 h L s w u = none := by rw [laS]
      rw [this]
      exact ⟨m, rfl, fun e x q => (by cases q), fr.rf⟩
    | succ r =>
      have hb : ∀ a, a < n → bt (gI m 4 h) a = decide (opn v a (nI h) = 1) := fun a ha => (he.2.2.2.1 a ha).2.1 h (by omega)
      have h25 : hIn (nI h) 2560 := hIn_lt (by omega) (by omega)
      have ch : (nI h).toNatClampNeg = h := nI_clamp (by omega)
      rw [if_neg (show ¬ nI M ≤ nI h from nI_ge (by omega) (by omega)), if_pos h25, ch, b_rd (show o < 32 by omega), hb o ho]
      have main : ∃ m', f_X8_doneAlone_78 fu (f_X8_doneAlone_48 fu t) (nI p) (nI o) (nI M) (gI v 112 p) L s (if w then 1 else 0) (nI h) (if opn v o (nI h) = 1 then 1 else 0) m = some (lR (laS v p o (r + 1) h L s w u) (-2), m') ∧ (∀ e x, laS v p o (r + 1) h L s w u = some (e, x) → gI m' 32 7 = x) ∧ fr (fun a j => a = 32 ∧ j = 7) m m' := by
        unfold f_X8_doneAlone_78
        have go : ∀ (L' s' : Int32) (w' : Bool), (w' = true → hIn (gI v 112 p) n) → laS v p o (r + 1) h L s w u = laS v p o r (h + 1) L' s' w' u → ∃ m', f_X8_doneAlone_195 fu (f_X8_doneAlone_48 fu t) (nI p) (nI o) (nI M) (gI v 112 p) L' s' (if w' then 1 else 0) (nI h) m = some (lR (laS v p o (r + 1) h L s w u) (-2), m') ∧ (∀ e x, laS v p o (r + 1) h L s w u = some (e, x) → gI m' 32 7 = x) ∧ fr (fun a j => a = 32 ∧ j = 7) m m' := by
          intro L' s' w' hw' e
          unfold f_X8_doneAlone_195
          rw [hLet_n, nI_1, e]
          exact ih r (h + 1) L' s' w' u m (by omega) (by omega) (by omega) he hpr hu hw'
        cases w with
        | false =>
          rw [if_pos (show (if false = true then (1 : Int32) else 0) = 0 by decide)]
          rcases opn_01 v o (nI h) with q | q
          · rw [if_neg (show ¬ opn v o (nI h) = 1 by rw [q]; decide), if_pos rfl]
            exact go L s false (fun z => by cases z) (by rw [laS, if_neg (by rw [q]; decide)])
          · have lq : ∀ X Y : Option (Nat × Int32), (if opn v o (nI h) = 1 then X else Y) = X := fun X Y => if_pos q
            rw [if_pos q, if_neg (by decide), hLet_n, hLet_n]
            by_cases z0 : L + (-1) = 0
            · rw [if_neg (fun y => y z0), nI_1]
              have e : laS v p o (r + 1) h L s false u = some (h + 1, u) := by rw [laS, lq, if_pos z0]
              rw [e]
              exact ⟨m, rfl, fun e x y => by cases y; exact hu, fr.rf⟩
            · rw [if_pos z0]
              unfold f_X8_doneAlone_179 f_X8_doneAlone_180 f_X8_doneAlone_193
              rw [if_pos rfl, if_neg (show ¬ (1 : Int32) = 0 by decide)]
              by_cases z1 : gI v 112 p = -1
              · rw [if_pos z1]
                exact go _ _ false (fun z => by cases z) (by rw [laS, lq, if_neg z0, if_pos (show gI v 112 p < 0 by rw [z1]; decide)])
              · have hin : hIn (gI v 112 p) n := ((hp.2.2 p hpc).2.2.2.2.2).resolve_left z1
                have z1' : ¬ gI v 112 p < 0 := by rw [i_lt]; show ¬ _ < (0 : Int); have := hin.1; omega
                rw [if_neg z1, if_pos h8, cp, (hpr.2 p hpc).2.1]
                by_cases z2 : s + 1 = gI v 113 p
                · rw [if_neg (fun y => y z2)]
                  exact go _ _ true (fun _ => hin) (by rw [laS, lq, if_neg z0, if_neg z1', if_pos z2])
                · rw [if_pos z2]
                  exact go _ _ false (fun z => by cases z) (by rw [laS, lq, if_neg z0, if_neg z1', if_neg z2])
        | true =>
          have hin := hw rfl
          obtain ⟨a, ha, hae⟩ := hIn_of hin (by omega)
          rw [if_neg (show ¬ (if true = true then (1 : Int32) else 0) = 0 by decide), hLet_n, hu]
          have he1 : eRel v (sI m 32 7 (u + 1)) n := eRel_fr he hn (fun a j z1 z2 => gI_sn (by omega))
          have hp1 : pRel v (sI m 32 7 (u + 1)) c := ⟨by rw [gI_sn (by omega)]; exact hpr.1, fun p' hp' => by simp (disch := omega) only [gI_sn]; exact hpr.2 p' hp'⟩
          have e0 : laS v p o (r + 1) h L s true u = laS v p o r (h + 1) L s (decide (¬ (opn v o (nI h) = 1 ∧ opn v a (nI h) = 1))) (u + 1) := by rw [laS, hae, nI_clamp (show a < 2 ^ 31 by omega)]
          have go2 : ∀ (w' : Bool), laS v p o (r + 1) h L s true u = laS v p o r (h + 1) L s w' (u + 1) → ∃ m', f_X8_doneAlone_129 fu (f_X8_doneAlone_48 fu t) (nI p) (nI o) (nI M) (gI v 112 p) L s (nI h) (if w' then 1 else 0) (sI m 32 7 (u + 1)) = some (lR (laS v p o (r + 1) h L s true u) (-2), m') ∧ (∀ e x, laS v p o (r + 1) h L s true u = some (e, x) → gI m' 32 7 = x) ∧ fr (fun a j => a = 32 ∧ j = 7) m m' := by
            intro w' e
            unfold f_X8_doneAlone_129 f_X8_doneAlone_195
            rw [hLet_n, nI_1, e]
            obtain ⟨m', r1, r2, r3⟩ := ih r (h + 1) L s w' (u + 1) (sI m 32 7 (u + 1)) (by omega) (by omega) (by omega) he1 hp1 (gI_ss _ _ _ _) (fun _ => hin)
            exact ⟨m', r1, r2, (fr.rf.si ⟨rfl, rfl⟩).tr r3⟩
          unfold f_X8_doneAlone_124
          rcases opn_01 v o (nI h) with q | q
          · rw [if_neg (show ¬ opn v o (nI h) = 1 by rw [q]; decide), if_pos rfl]
            exact go2 true (by rw [e0, decide_eq_true (by rw [q]; exact fun y => absurd y.1 (by decide))])
          · rw [if_pos q, if_neg (by decide), if_neg (show ¬ gI v 112 p = -1 by rw [hae, i_eq, nI_toInt (by omega)]; show ¬ (a : Int) = -1; omega), if_pos h25, ch, gI_sn (by omega), hae, b_rd (show a < 32 by omega), hb a ha, ← hae]
            rcases opn_01 v a (nI h) with q2 | q2
            · rw [decide_eq_false (show ¬ opn v a (nI h) = 1 by rw [q2]; decide), if_neg (by decide)]
              exact go2 true (by rw [e0, decide_eq_true (by rw [q2]; exact fun y => absurd y.2 (by decide))])
            · rw [decide_eq_true q2, if_pos (by decide)]
              exact go2 false (by rw [e0, decide_eq_false (fun y => y ⟨q, q2⟩)])
      rcases opn_01 v o (nI h) with q | q
      · rw [decide_eq_false (show ¬ opn v o (nI h) = 1 by rw [q]; decide), if_pos (by decide)]
        rw [if_neg (show ¬ opn v o (nI h) = 1 by rw [q]; decide)] at main
        exact main
      · rw [decide_eq_true q, if_neg (fun y => y (by decide))]
        rw [if_pos q] at main
        exact main
