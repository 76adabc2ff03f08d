/-! ===== wrong, in the class: the walk ===== -/
theorem dX10_wrong_0 : decode cX10_wrong 0 = .ok (.iload_n 1, 1) := by decide +kernel
theorem dX10_wrong_1 : decode cX10_wrong 1 = .ok (.ifCond .lt 9, 3) := by decide +kernel
theorem dX10_wrong_4 : decode cX10_wrong 4 = .ok (.iload_n 1, 1) := by decide +kernel
theorem dX10_wrong_5 : decode cX10_wrong 5 = .ok (.bipush 8, 2) := by decide +kernel
theorem dX10_wrong_7 : decode cX10_wrong 7 = .ok (.if_icmp .le 5, 3) := by decide +kernel
theorem dX10_wrong_10 : decode cX10_wrong 10 = .ok (.iconst (-1), 1) := by decide +kernel
theorem dX10_wrong_11 : decode cX10_wrong 11 = .ok (.ireturn, 1) := by decide +kernel
theorem dX10_wrong_12 : decode cX10_wrong 12 = .ok (.aload_n 0, 1) := by decide +kernel
theorem dX10_wrong_13 : decode cX10_wrong 13 = .ok (.getfield 65, 3) := by decide +kernel
theorem dX10_wrong_16 : decode cX10_wrong 16 = .ok (.getfield 360, 3) := by decide +kernel
theorem dX10_wrong_19 : decode cX10_wrong 19 = .ok (.bipush 8, 2) := by decide +kernel
theorem dX10_wrong_21 : decode cX10_wrong 21 = .ok (.invokestatic 363, 3) := by decide +kernel
theorem dX10_wrong_24 : decode cX10_wrong 24 = .ok (.istore_n 2, 1) := by decide +kernel
theorem dX10_wrong_25 : decode cX10_wrong 25 = .ok (.bipush 9, 2) := by decide +kernel
theorem dX10_wrong_27 : decode cX10_wrong 27 = .ok (.newarray .long, 2) := by decide +kernel
theorem dX10_wrong_29 : decode cX10_wrong 29 = .ok (.astore_n 3, 1) := by decide +kernel
theorem dX10_wrong_30 : decode cX10_wrong 30 = .ok (.aload_n 3, 1) := by decide +kernel
theorem dX10_wrong_31 : decode cX10_wrong 31 = .ok (.iconst 0, 1) := by decide +kernel
theorem dX10_wrong_32 : decode cX10_wrong 32 = .ok (.lconst 1, 1) := by decide +kernel
theorem dX10_wrong_33 : decode cX10_wrong 33 = .ok (.lastore, 1) := by decide +kernel
theorem dX10_wrong_34 : decode cX10_wrong 34 = .ok (.lconst 1, 1) := by decide +kernel
theorem dX10_wrong_35 : decode cX10_wrong 35 = .ok (.lstore 4, 2) := by decide +kernel
theorem dX10_wrong_37 : decode cX10_wrong 37 = .ok (.iconst 0, 1) := by decide +kernel
theorem dX10_wrong_38 : decode cX10_wrong 38 = .ok (.istore 6, 2) := by decide +kernel
theorem dX10_wrong_40 : decode cX10_wrong 40 = .ok (.iload 6, 2) := by decide +kernel
theorem dX10_wrong_42 : decode cX10_wrong 42 = .ok (.iload_n 2, 1) := by decide +kernel
theorem dX10_wrong_43 : decode cX10_wrong 43 = .ok (.if_icmp .ge 79, 3) := by decide +kernel
theorem dX10_wrong_46 : decode cX10_wrong 46 = .ok (.aload_n 0, 1) := by decide +kernel
theorem dX10_wrong_47 : decode cX10_wrong 47 = .ok (.getfield 65, 3) := by decide +kernel
theorem dX10_wrong_50 : decode cX10_wrong 50 = .ok (.getfield 368, 3) := by decide +kernel
theorem dX10_wrong_53 : decode cX10_wrong 53 = .ok (.iload 6, 2) := by decide +kernel
theorem dX10_wrong_55 : decode cX10_wrong 55 = .ok (.iaload, 1) := by decide +kernel
theorem dX10_wrong_56 : decode cX10_wrong 56 = .ok (.istore 7, 2) := by decide +kernel
theorem dX10_wrong_58 : decode cX10_wrong 58 = .ok (.bipush 8, 2) := by decide +kernel
theorem dX10_wrong_60 : decode cX10_wrong 60 = .ok (.istore 8, 2) := by decide +kernel
theorem dX10_wrong_62 : decode cX10_wrong 62 = .ok (.iload 8, 2) := by decide +kernel
theorem dX10_wrong_64 : decode cX10_wrong 64 = .ok (.ifCond .lt 44, 3) := by decide +kernel
theorem dX10_wrong_67 : decode cX10_wrong 67 = .ok (.aload_n 3, 1) := by decide +kernel
theorem dX10_wrong_68 : decode cX10_wrong 68 = .ok (.iload 8, 2) := by decide +kernel
theorem dX10_wrong_70 : decode cX10_wrong 70 = .ok (.aload_n 3, 1) := by decide +kernel
theorem dX10_wrong_71 : decode cX10_wrong 71 = .ok (.iload 8, 2) := by decide +kernel
theorem dX10_wrong_73 : decode cX10_wrong 73 = .ok (.laload, 1) := by decide +kernel
theorem dX10_wrong_74 : decode cX10_wrong 74 = .ok (.bipush 100, 2) := by decide +kernel
theorem dX10_wrong_76 : decode cX10_wrong 76 = .ok (.iload 7, 2) := by decide +kernel
theorem dX10_wrong_78 : decode cX10_wrong 78 = .ok (.isub, 1) := by decide +kernel
theorem dX10_wrong_79 : decode cX10_wrong 79 = .ok (.i2l, 1) := by decide +kernel
theorem dX10_wrong_80 : decode cX10_wrong 80 = .ok (.lmul, 1) := by decide +kernel
theorem dX10_wrong_81 : decode cX10_wrong 81 = .ok (.iload 8, 2) := by decide +kernel
theorem dX10_wrong_83 : decode cX10_wrong 83 = .ok (.ifCond .le 16, 3) := by decide +kernel
theorem dX10_wrong_86 : decode cX10_wrong 86 = .ok (.aload_n 3, 1) := by decide +kernel
theorem dX10_wrong_87 : decode cX10_wrong 87 = .ok (.iload 8, 2) := by decide +kernel
theorem dX10_wrong_89 : decode cX10_wrong 89 = .ok (.iconst 1, 1) := by decide +kernel
theorem dX10_wrong_90 : decode cX10_wrong 90 = .ok (.isub, 1) := by decide +kernel
theorem dX10_wrong_91 : decode cX10_wrong 91 = .ok (.laload, 1) := by decide +kernel
theorem dX10_wrong_92 : decode cX10_wrong 92 = .ok (.iload 7, 2) := by decide +kernel
theorem dX10_wrong_94 : decode cX10_wrong 94 = .ok (.i2l, 1) := by decide +kernel
theorem dX10_wrong_95 : decode cX10_wrong 95 = .ok (.lmul, 1) := by decide +kernel
theorem dX10_wrong_96 : decode cX10_wrong 96 = .ok (.goto 4, 3) := by decide +kernel
theorem dX10_wrong_99 : decode cX10_wrong 99 = .ok (.lconst 0, 1) := by decide +kernel
theorem dX10_wrong_100 : decode cX10_wrong 100 = .ok (.ladd, 1) := by decide +kernel
theorem dX10_wrong_101 : decode cX10_wrong 101 = .ok (.lastore, 1) := by decide +kernel
theorem dX10_wrong_102 : decode cX10_wrong 102 = .ok (.iinc 8 (-1), 3) := by decide +kernel
theorem dX10_wrong_105 : decode cX10_wrong 105 = .ok (.goto (-43), 3) := by decide +kernel
theorem dX10_wrong_108 : decode cX10_wrong 108 = .ok (.lload 4, 2) := by decide +kernel
theorem dX10_wrong_110 : decode cX10_wrong 110 = .ok (.ldc2_w 371, 3) := by decide +kernel
theorem dX10_wrong_113 : decode cX10_wrong 113 = .ok (.lmul, 1) := by decide +kernel
theorem dX10_wrong_114 : decode cX10_wrong 114 = .ok (.lstore 4, 2) := by decide +kernel
theorem dX10_wrong_116 : decode cX10_wrong 116 = .ok (.iinc 6 1, 3) := by decide +kernel
theorem dX10_wrong_119 : decode cX10_wrong 119 = .ok (.goto (-79), 3) := by decide +kernel
theorem dX10_wrong_122 : decode cX10_wrong 122 = .ok (.lconst 0, 1) := by decide +kernel
theorem dX10_wrong_123 : decode cX10_wrong 123 = .ok (.lstore 6, 2) := by decide +kernel
theorem dX10_wrong_125 : decode cX10_wrong 125 = .ok (.iload_n 1, 1) := by decide +kernel
theorem dX10_wrong_126 : decode cX10_wrong 126 = .ok (.istore 8, 2) := by decide +kernel
theorem dX10_wrong_128 : decode cX10_wrong 128 = .ok (.iload 8, 2) := by decide +kernel
theorem dX10_wrong_130 : decode cX10_wrong 130 = .ok (.bipush 8, 2) := by decide +kernel
theorem dX10_wrong_132 : decode cX10_wrong 132 = .ok (.if_icmp .gt 18, 3) := by decide +kernel
theorem dX10_wrong_135 : decode cX10_wrong 135 = .ok (.lload 6, 2) := by decide +kernel
theorem dX10_wrong_137 : decode cX10_wrong 137 = .ok (.aload_n 3, 1) := by decide +kernel
theorem dX10_wrong_138 : decode cX10_wrong 138 = .ok (.iload 8, 2) := by decide +kernel
theorem dX10_wrong_140 : decode cX10_wrong 140 = .ok (.laload, 1) := by decide +kernel
theorem dX10_wrong_141 : decode cX10_wrong 141 = .ok (.ladd, 1) := by decide +kernel
theorem dX10_wrong_142 : decode cX10_wrong 142 = .ok (.lstore 6, 2) := by decide +kernel
theorem dX10_wrong_144 : decode cX10_wrong 144 = .ok (.iinc 8 1, 3) := by decide +kernel
theorem dX10_wrong_147 : decode cX10_wrong 147 = .ok (.goto (-19), 3) := by decide +kernel
theorem dX10_wrong_150 : decode cX10_wrong 150 = .ok (.aload_n 0, 1) := by decide +kernel
theorem dX10_wrong_151 : decode cX10_wrong 151 = .ok (.getfield 83, 3) := by decide +kernel
theorem dX10_wrong_154 : decode cX10_wrong 154 = .ok (.invokevirtual 170, 3) := by decide +kernel
theorem dX10_wrong_157 : decode cX10_wrong 157 = .ok (.aload_n 0, 1) := by decide +kernel
theorem dX10_wrong_158 : decode cX10_wrong 158 = .ok (.getfield 83, 3) := by decide +kernel
theorem dX10_wrong_161 : decode cX10_wrong 161 = .ok (.lload 6, 2) := by decide +kernel
theorem dX10_wrong_163 : decode cX10_wrong 163 = .ok (.lload 4, 2) := by decide +kernel
theorem dX10_wrong_165 : decode cX10_wrong 165 = .ok (.invokevirtual 373, 3) := by decide +kernel
theorem dX10_wrong_168 : decode cX10_wrong 168 = .ok (.iconst 0, 1) := by decide +kernel
theorem dX10_wrong_169 : decode cX10_wrong 169 = .ok (.ireturn, 1) := by decide +kernel
section RG2
variable {G : hG} {X : hX} {qa d : Nat} {cc : ByteArray} {nL : Nat} {own : String} {ret : Option FieldType} {pc n : Nat} {lv : List (Nat × Value)} {st : List Value} {g : Nat → Int64} {m : hM} {E : Option (Int32 × hM)}
theorem rg_ltT (C : Cx G X d cc nL own ret) {x : Int32} {off : Int} (h : x < 0) (hd : decode cc pc = .ok (.ifCond .lt off, 3)) (ht : (pc : Int) + off = (n : Int)) (k : Rg G X qa n lv st g m E) : Rg G X qa pc lv (.int x :: st) g m E := by
  have z := rg_if_lt (X := X) (qa := qa) (x := x) (lv := lv) (st := st) (g := g) (m := m) (E1 := E) (E2 := none) (hdec := inferInstance) C hd ht rfl (fun _ => k) (fun q => absurd h q)
  rw [if_pos h] at z
  exact z
theorem rg_ltF (C : Cx G X d cc nL own ret) {x : Int32} {off : Int} {tgt : Nat} (h : ¬ (x < 0)) (hd : decode cc pc = .ok (.ifCond .lt off, 3)) (ht : (pc : Int) + off = (tgt : Int)) (hn : pc + 3 = n) (k : Rg G X qa n lv st g m E) : Rg G X qa pc lv (.int x :: st) g m E := by
  have z := rg_if_lt (X := X) (qa := qa) (x := x) (lv := lv) (st := st) (g := g) (m := m) (E1 := none) (E2 := E) (hdec := inferInstance) C hd ht hn (fun q => absurd q h) (fun _ => k)
  rw [if_neg h] at z
  exact z
theorem rg_leT (C : Cx G X d cc nL own ret) {x : Int32} {off : Int} (h : x ≤ 0) (hd : decode cc pc = .ok (.ifCond .le off, 3)) (ht : (pc : Int) + off = (n : Int)) (k : Rg G X qa n lv st g m E) : Rg G X qa pc lv (.int x :: st) g m E := by
  have z := rg_if_le (X := X) (qa := qa) (x := x) (lv := lv) (st := st) (g := g) (m := m) (E1 := E) (E2 := none) (hdec := inferInstance) C hd ht rfl (fun _ => k) (fun q => absurd h q)
  rw [if_pos h] at z
  exact z
theorem rg_leF (C : Cx G X d cc nL own ret) {x : Int32} {off : Int} {tgt : Nat} (h : ¬ (x ≤ 0)) (hd : decode cc pc = .ok (.ifCond .le off, 3)) (ht : (pc : Int) + off = (tgt : Int)) (hn : pc + 3 = n) (k : Rg G X qa n lv st g m E) : Rg G X qa pc lv (.int x :: st) g m E := by
  have z := rg_if_le (X := X) (qa := qa) (x := x) (lv := lv) (st := st) (g := g) (m := m) (E1 := none) (E2 := E) (hdec := inferInstance) C hd ht hn (fun q => absurd q h) (fun _ => k)
  rw [if_neg h] at z
  exact z
theorem rg_geT (C : Cx G X d cc nL own ret) {x y : Int32} {off : Int} (h : y ≤ x) (hd : decode cc pc = .ok (.if_icmp .ge off, 3)) (ht : (pc : Int) + off = (n : Int)) (k : Rg G X qa n lv st g m E) : Rg G X qa pc lv (.int y :: .int x :: st) g m E := by
  have z := rg_icmp_ge (X := X) (qa := qa) (x := x) (y := y) (lv := lv) (st := st) (g := g) (m := m) (E1 := E) (E2 := none) (hdec := inferInstance) C hd ht rfl (fun _ => k) (fun q => absurd h q)
  rw [if_pos h] at z
  exact z
theorem rg_geF (C : Cx G X d cc nL own ret) {x y : Int32} {off : Int} {tgt : Nat} (h : ¬ (y ≤ x)) (hd : decode cc pc = .ok (.if_icmp .ge off, 3)) (ht : (pc : Int) + off = (tgt : Int)) (hn : pc + 3 = n) (k : Rg G X qa n lv st g m E) : Rg G X qa pc lv (.int y :: .int x :: st) g m E := by
  have z := rg_icmp_ge (X := X) (qa := qa) (x := x) (y := y) (lv := lv) (st := st) (g := g) (m := m) (E1 := none) (E2 := E) (hdec := inferInstance) C hd ht hn (fun q => absurd q h) (fun _ => k)
  rw [if_neg h] at z
  exact z
theorem rg_gtT (C : Cx G X d cc nL own ret) {x y : Int32} {off : Int} (h : y < x) (hd : decode cc pc = .ok (.if_icmp .gt off, 3)) (ht : (pc : Int) + off = (n : Int)) (k : Rg G X qa n lv st g m E) : Rg G X qa pc lv (.int y :: .int x :: st) g m E := by
  have z := rg_icmp_gt (X := X) (qa := qa) (x := x) (y := y) (lv := lv) (st := st) (g := g) (m := m) (E1 := E) (E2 := none) (hdec := inferInstance) C hd ht rfl (fun _ => k) (fun q => absurd h q)
  rw [if_pos h] at z
  exact z
theorem rg_gtF (C : Cx G X d cc nL own ret) {x y : Int32} {off : Int} {tgt : Nat} (h : ¬ (y < x)) (hd : decode cc pc = .ok (.if_icmp .gt off, 3)) (ht : (pc : Int) + off = (tgt : Int)) (hn : pc + 3 = n) (k : Rg G X qa n lv st g m E) : Rg G X qa pc lv (.int y :: .int x :: st) g m E := by
  have z := rg_icmp_gt (X := X) (qa := qa) (x := x) (y := y) (lv := lv) (st := st) (g := g) (m := m) (E1 := none) (E2 := E) (hdec := inferInstance) C hd ht hn (fun q => absurd q h) (fun _ => k)
  rw [if_neg h] at z
  exact z
end RG2
def wvA (G : hG) (qa : Nat) (n x1 i : Int32) (low : Int64) : List (Nat × Value) := [(6, .int i), (4, .long low), (3, .ref qa), (2, .int n), (0, hA G 0), (1, .int x1)]
def wvB (G : hG) (qa : Nat) (n x1 i : Int32) (low : Int64) (w j : Int32) : List (Nat × Value) := [(8, .int j), (7, .int w), (6, .int i), (4, .long low), (3, .ref qa), (2, .int n), (0, hA G 0), (1, .int x1)]
def wvC (G : hG) (qa : Nat) (n x1 : Int32) (low up : Int64) (j : Int32) : List (Nat × Value) := [(8, .int j), (6, .long up), (4, .long low), (3, .ref qa), (2, .int n), (0, hA G 0), (1, .int x1)]
section WR
variable {G : hG} {X : hX} {qa d : Nat} {m : hM} {E : Option (Int32 × hM)}
/-- one row of chances made over, from the last to the first -/
theorem wr_inner (C : Cx G X d cX10_wrong 9 RX10 (some .int)) {n x1 i w : Int32} {low : Int64} {H : Nat → Int64} (kk : ∀ g, (∀ j, j < 9 → g j = hitS H w j) → Rg G X qa 108 (wvB G qa n x1 i low w (-1)) [] g m E) : ∀ (k : Nat) (g : Nat → Int64), k ≤ 9 → (∀ j, j < k → g j = H j) → (∀ j, k ≤ j → j < 9 → g j = hitS H w j) → Rg G X qa 62 (wvB G qa n x1 i low w (nI k - 1)) [] g m E := by
  intro k
  induction k with
  | zero =>
    intro g hk h1 h2
    refine rg_iload C (n := 64) (q := 0) (x := nI 0 - 1) dX10_wrong_62 rfl rfl ?_
    refine rg_ltT C (n := 108) (by decide) dX10_wrong_64 (by decide) ?_
    exact kk g (fun j hj => h2 j (by omega) hj)
  | succ k ih =>
    intro g hk h1 h2
    have e1 : nI (k + 1) - 1 = nI k := by rw [show (1 : Int32) = nI 1 from rfl, pk_sub (by omega)]; rfl
    rw [e1]
    have h9 : hIn (nI k) 9 := hIn_lt (by omega) (by omega)
    have ck : (nI k).toNatClampNeg = k := nI_clamp (by omega)
    refine rg_iload C (n := 64) (q := 0) (x := nI k) dX10_wrong_62 rfl rfl ?_
    refine rg_ltF C (n := 67) (tgt := 108) (nI_pos (by omega)) dX10_wrong_64 (by decide) rfl ?_
    refine rg_alq C (n := 68) (q := 4) dX10_wrong_67 rfl rfl rfl ?_
    refine rg_iload C (n := 70) (q := 0) (x := nI k) dX10_wrong_68 rfl rfl ?_
    refine rg_alq C (n := 71) (q := 4) dX10_wrong_70 rfl rfl rfl ?_
    refine rg_iload C (n := 73) (q := 0) (x := nI k) dX10_wrong_71 rfl rfl ?_
    refine rg_lald C (n := 74) h9 ck dX10_wrong_73 rfl ?_
    refine rg_bipush C (n := 76) (v := 100) dX10_wrong_74 rfl (by decide) ?_
    refine rg_iload C (n := 78) (q := 1) (x := w) dX10_wrong_76 rfl rfl ?_
    refine rg_isub C (n := 79) dX10_wrong_78 rfl ?_
    refine rg_i2l C (n := 80) dX10_wrong_79 rfl ?_
    refine rg_lmul C (n := 81) dX10_wrong_80 rfl ?_
    refine rg_iload C (n := 83) (q := 0) (x := nI k) dX10_wrong_81 rfl rfl ?_
    have fin : ∀ y : Int64, g k * (100 - w).toInt64 + y = hitS H w k → Rg G X qa 100 (wvB G qa n x1 i low w (nI k)) [.long y, .long (g k * (100 - w).toInt64), .int (nI k), .ref qa] g m E := by
      intro y hy
      refine rg_ladd C (n := 101) dX10_wrong_100 rfl ?_
      refine rg_last C (n := 102) h9 ck dX10_wrong_101 rfl ?_
      refine rg_iinc C (n := 105) (q := 0) (v := nI k - 1) (wvB G qa n x1 i low w (nI k - 1)) dX10_wrong_102 rfl rfl (by rw [Int32.sub_eq_add_neg]; rfl) (by decide) rfl ?_
      refine rg_goto C (n := 62) dX10_wrong_105 (by decide) ?_
      refine ih _ (by omega) (fun j hj => ?_) (fun j hj1 hj2 => ?_)
      · unfold vp_updL
        rw [if_neg (by omega)]; exact h1 j (by omega)
      · unfold vp_updL
        by_cases e : j = k
        · rw [if_pos e, e]; exact hy
        · rw [if_neg e]; exact h2 j (by omega) hj2
    by_cases k0 : k = 0
    · subst k0
      refine rg_leT C (n := 99) (by decide) dX10_wrong_83 (by decide) ?_
      refine rg_lconst C (n := 100) (v := 0) dX10_wrong_99 rfl (by decide) ?_
      refine fin 0 ?_
      rw [h1 0 (by omega)]; rfl
    · refine rg_leF C (n := 86) (tgt := 99) (nI_nle (by omega) (by omega)) dX10_wrong_83 (by decide) rfl ?_
      have e2 : nI k - 1 = nI (k - 1) := by rw [show (1 : Int32) = nI 1 from rfl, pk_sub (by omega)]
      refine rg_alq C (n := 87) (q := 4) dX10_wrong_86 rfl rfl rfl ?_
      refine rg_iload C (n := 89) (q := 0) (x := nI k) dX10_wrong_87 rfl rfl ?_
      refine rg_iconst C (n := 90) (v := 1) dX10_wrong_89 rfl (by decide) ?_
      refine rg_isub C (n := 91) dX10_wrong_90 rfl ?_
      rw [e2]
      refine rg_lald C (n := 92) (j := k - 1) (hIn_lt (by omega) (by omega)) (nI_clamp (by omega)) dX10_wrong_91 rfl ?_
      refine rg_iload C (n := 94) (q := 1) (x := w) dX10_wrong_92 rfl rfl ?_
      refine rg_i2l C (n := 95) dX10_wrong_94 rfl ?_
      refine rg_lmul C (n := 96) dX10_wrong_95 rfl ?_
      refine rg_goto C (n := 100) dX10_wrong_96 (by decide) ?_
      refine fin _ ?_
      rw [h1 k (by omega), h1 (k - 1) (by omega)]
      unfold hitS
      rw [if_neg k0]
/-- all rows of chances -/
theorem wr_outer (C : Cx G X d cX10_wrong 9 RX10 (some .int)) {x1 : Int32} {S : Nat → Int32} {N : Nat} (hN : N ≤ 8) (hS : ∀ i, i < N → gI m 54 i = S (67 + i)) (kk : ∀ g, (∀ j, j < 9 → g j = hitA S N j) → Rg G X qa 122 (wvA G qa (nI N) x1 (nI N) (lowA N)) [] g m E) : ∀ (k i : Nat) (g : Nat → Int64), i + k = N → (∀ j, j < 9 → g j = hitA S i j) → Rg G X qa 40 (wvA G qa (nI N) x1 (nI i) (lowA i)) [] g m E := by
  intro k
  induction k with
  | zero =>
    intro i g hi h1
    have e : i = N := by omega
    subst e
    refine rg_iload C (n := 42) (q := 0) (x := nI i) dX10_wrong_40 rfl rfl ?_
    refine rg_iload_n C (n := 43) (q := 3) (x := nI i) dX10_wrong_42 rfl rfl rfl ?_
    refine rg_geT C (n := 122) (nI_le (Nat.le_refl _) (by omega)) dX10_wrong_43 (by decide) ?_
    exact kk g h1
  | succ k ih =>
    intro i g hi h1
    refine rg_iload C (n := 42) (q := 0) (x := nI i) dX10_wrong_40 rfl rfl ?_
    refine rg_iload_n C (n := 43) (q := 3) (x := nI N) dX10_wrong_42 rfl rfl rfl ?_
    refine rg_geF C (n := 46) (tgt := 122) (nI_ge (by omega) (by omega)) dX10_wrong_43 (by decide) rfl ?_
    refine rg_aload_n C (n := 47) (q := 4) (x := 0) dX10_wrong_46 rfl rfl rfl ?_
    refine rg_getS C (n := 50) fl_RX10_65 ly_0 rfl dX10_wrong_47 rfl ?_
    refine rg_getS C (n := 53) fl_RX10_368 ly_46 rfl dX10_wrong_50 rfl ?_
    refine rg_iload C (n := 55) (q := 0) (x := nI i) dX10_wrong_53 rfl rfl ?_
    refine rg_iald C (n := 56) (j := i) ly_54 (hIn_lt (show i < 60 by omega) (by omega)) (nI_clamp (by omega)) dX10_wrong_55 rfl ?_
    rw [hS i (by omega)]
    refine rg_istore C (n := 58) ((7, .int (S (67 + i))) :: wvA G qa (nI N) x1 (nI i) (lowA i)) dX10_wrong_56 rfl (by decide) rfl ?_
    refine rg_bipush C (n := 60) (v := 8) dX10_wrong_58 rfl (by decide) ?_
    refine rg_istore C (n := 62) (wvB G qa (nI N) x1 (nI i) (lowA i) (S (67 + i)) (nI 9 - 1)) dX10_wrong_60 rfl (by decide) rfl ?_
    refine wr_inner C (H := hitA S i) (fun g2 h2 => ?_) 9 g (Nat.le_refl _) h1 (fun j h3 h4 => by omega)
    refine rg_lload C (n := 110) (q := 3) (x := lowA i) dX10_wrong_108 rfl rfl ?_
    refine rg_ldc2 C (n := 113) (v := 100) dX10_wrong_110 rfl kl_RX10_371 ?_
    refine rg_lmul C (n := 114) dX10_wrong_113 rfl ?_
    refine rg_lstore C (n := 116) [(4, .long (lowA i * 100)), (8, .int (-1)), (7, .int (S (67 + i))), (6, .int (nI i)), (3, .ref qa), (2, .int (nI N)), (0, hA G 0), (1, .int x1)] dX10_wrong_114 rfl (by decide) rfl ?_
    refine rg_iinc C (n := 119) (q := 3) (v := nI (i + 1)) [(6, .int (nI (i + 1))), (4, .long (lowA i * 100)), (8, .int (-1)), (7, .int (S (67 + i))), (3, .ref qa), (2, .int (nI N)), (0, hA G 0), (1, .int x1)] dX10_wrong_116 rfl rfl (by show nI i + nI 1 = _; rw [nI_add]) (by decide) rfl ?_
    refine rg_goto C (n := 40) dX10_wrong_119 (by decide) ?_
    exact rg_lv (wvA G qa (nI N) x1 (nI (i + 1)) (lowA (i + 1))) [0, 1, 4, 5, 6, 7] rfl (ih (i + 1) g2 (by omega) h2)
/-- the sum of the last chances -/
theorem wr_sum (C : Cx G X d cX10_wrong 9 RX10 (some .int)) {n x1 : Int32} {low : Int64} {H : Nat → Int64} {g : Nat → Int64} (hg : ∀ j, j < 9 → g j = H j) {k : Nat} (hk : k ≤ 8) (kk : Rg G X qa 150 (wvC G qa n x1 low (upA H k (9 - k)) (nI 9)) [] g m E) : ∀ (r e : Nat), k + e + r = 9 → Rg G X qa 128 (wvC G qa n x1 low (upA H k e) (nI (k + e))) [] g m E := by
  intro r
  induction r with
  | zero =>
    intro e he
    refine rg_iload C (n := 130) (q := 0) (x := nI (k + e)) dX10_wrong_128 rfl rfl ?_
    refine rg_bipush C (n := 132) (v := 8) dX10_wrong_130 rfl (by decide) ?_
    refine rg_gtT C (n := 150) (nI_lt (a := 8) (by omega) (by omega)) dX10_wrong_132 (by decide) ?_
    rw [show k + e = 9 by omega, show e = 9 - k by omega]
    exact kk
  | succ r ih =>
    intro e he
    refine rg_iload C (n := 130) (q := 0) (x := nI (k + e)) dX10_wrong_128 rfl rfl ?_
    refine rg_bipush C (n := 132) (v := 8) dX10_wrong_130 rfl (by decide) ?_
    refine rg_gtF C (n := 135) (tgt := 150) (nI_nlt (a := 8) (by omega) (by omega)) dX10_wrong_132 (by decide) rfl ?_
    refine rg_lload C (n := 137) (q := 1) (x := upA H k e) dX10_wrong_135 rfl rfl ?_
    refine rg_alq C (n := 138) (q := 3) dX10_wrong_137 rfl rfl rfl ?_
    refine rg_iload C (n := 140) (q := 0) (x := nI (k + e)) dX10_wrong_138 rfl rfl ?_
    refine rg_lald C (n := 141) (j := k + e) (hIn_lt (by omega) (by omega)) (nI_clamp (by omega)) dX10_wrong_140 rfl ?_
    refine rg_ladd C (n := 142) dX10_wrong_141 rfl ?_
    rw [hg (k + e) (by omega)]
    refine rg_lstore C (n := 144) [(6, .long (upA H k (e + 1))), (8, .int (nI (k + e))), (4, .long low), (3, .ref qa), (2, .int n), (0, hA G 0), (1, .int x1)] dX10_wrong_142 rfl (by decide) rfl ?_
    refine rg_iinc C (n := 147) (q := 1) (v := nI (k + (e + 1))) (wvC G qa n x1 low (upA H k (e + 1)) (nI (k + (e + 1)))) dX10_wrong_144 rfl rfl (by show nI (k + e) + nI 1 = _; rw [nI_add]; rfl) (by decide) rfl ?_
    refine rg_goto C (n := 128) dX10_wrong_147 (by decide) ?_
    exact ih (e + 1) (by omega)
end WR
