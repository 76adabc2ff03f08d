/-! ===== what is lost between all offices: losesAll ===== -/
theorem lst_fr123 {v m : hM} (g : eqV v m) (a b h : Nat) : lst m a b h = lst v a b h := lst_eqV g a b h
theorem rx_losesAll {fu : Nat} (hfu : 100 ≤ fu) {v m : hM} {n h : Nat} (hv : vRel v n) (g : eqV v m) (hh : h ≤ 2400) :
    ∃ m', f_X11_losesAll fu (nI h) m = some ((), m') ∧ (∀ a b, a < n → b < n → gI m' 123 (6 * a + b) = lst v a b h) ∧ fr (fun a _ => a = 123) m m' := by
  have hn := hv.1
  have ge : ∀ m1 : hM, fr (fun a _ => a = 123) m m1 → eqV v m1 := fun m1 f a j z => (f.1 a j (by unfold envC at z; omega)).trans (g a j z)
  have c3 : ∀ m1 : hM, fr (fun a _ => a = 123) m m1 → gI m1 96 3 = nI n := fun m1 f => by rw [ge m1 f 96 3 (by unfold envC; omega)]; exact hv.2.1
  have inner : ∀ (K : Int32 → Int32 → hM → Option (Unit × hM)) (a : Nat), a < n → ∀ (t k : Nat) (m1 : hM), k ≤ n → n - k < t → fr (fun a _ => a = 123) m m1 → (∀ a' b, a' < a → b < n → gI m1 123 (6 * a' + b) = lst v a' b h) → (∀ b, b < k → gI m1 123 (6 * a + b) = lst v a b h) →
      ∃ m2, f_X11_losesAll_12 fu K t (nI h) (nI a) (nI k) m1 = K (nI h) (nI (a + 1)) m2 ∧ fr (fun a _ => a = 123) m m2 ∧ (∀ a' b, a' < a + 1 → b < n → gI m2 123 (6 * a' + b) = lst v a' b h) := by
    intro K a ha t
    induction t with
    | zero => intro k m1 h1 h2; exact absurd h2 (Nat.not_lt_zero _)
    | succ t ih =>
      intro k m1 hk ht f r1 r2
      rw [f_X11_losesAll_12_s]
      unfold s_X11_losesAll_12 f_X11_losesAll_44
      rw [c3 m1 f]
      by_cases q : nI n ≤ nI k
      · rw [if_pos q, hLet_n, nI_1]
        rw [nI_leI (by omega) (by omega)] at q
        refine ⟨m1, rfl, f, fun a' b z1 z2 => ?_⟩
        by_cases e : a' = a
        · subst e; exact r2 b (by omega)
        · exact r1 a' b (by omega) z2
      · rw [if_neg q]
        rw [nI_leI (by omega) (by omega)] at q
        obtain ⟨-, k2, k3, k4⟩ := kn_ix (show a < 6 by omega) (show k < 6 by omega)
        rw [rx_lostOf (show 30 ≤ fu by omega) (show a < 6 by omega) (show k < 6 by omega) (show h ≤ 100000 by omega), hBd_some, k2, if_pos k3, hLet_n, hLet_n, nI_1, k4, lst_eqV (ge m1 f)]
        refine ih (k + 1) _ (by omega) (by omega) (f.si rfl) (fun a' b z1 z2 => ?_) (fun b z => ?_)
        · rw [gI_sn (by omega)]; exact r1 a' b z1 z2
        · by_cases e : b = k
          · rw [e, gI_ss]
          · rw [gI_sn (by omega)]; exact r2 b (by omega)
  have outer : ∀ (t a : Nat) (m1 : hM), a ≤ n → n - a < t → fr (fun a _ => a = 123) m m1 → (∀ a' b, a' < a → b < n → gI m1 123 (6 * a' + b) = lst v a' b h) → ∃ m', f_X11_losesAll_2 fu t (nI h) (nI a) m1 = some ((), m') ∧ (∀ a b, a < n → b < n → gI m' 123 (6 * a + b) = lst v a b h) ∧ fr (fun a _ => a = 123) m m' := by
    intro t
    induction t with
    | zero => intro a m1 h1 h2; exact absurd h2 (Nat.not_lt_zero _)
    | succ t ih =>
      intro a m1 ha ht f r
      rw [f_X11_losesAll_2_s]
      unfold s_X11_losesAll_2
      rw [c3 m1 f]
      by_cases q : nI n ≤ nI a
      · rw [if_pos q]
        rw [nI_leI (by omega) (by omega)] at q
        exact ⟨m1, rfl, fun a' b z1 z2 => r a' b (by omega) z2, f⟩
      · rw [if_neg q]
        rw [nI_leI (by omega) (by omega)] at q
        obtain ⟨m2, s1, s2, s3⟩ := inner (f_X11_losesAll_2 fu t) a (by omega) fu 0 m1 (by omega) (by omega) f r (fun b z => absurd z (Nat.not_lt_zero _))
        rw [show (0 : Int32) = nI 0 from rfl, s1]
        exact ih (a + 1) m2 (by omega) (by omega) s2 s3
  unfold f_X11_losesAll
  exact outer fu 0 m (by omega) (by omega) fr.rf (fun a' b z => absurd z (Nat.not_lt_zero _))
