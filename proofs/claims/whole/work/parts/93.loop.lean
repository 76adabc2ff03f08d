/-! ===== the law: its loop ===== -/
theorem dL_law_23 : decode cL_law 23 = .ok (.iload 4, 2) := by decide +kernel
theorem dL_law_25 : decode cL_law 25 = .ok (.aload_n 0, 1) := by decide +kernel
theorem dL_law_26 : decode cL_law 26 = .ok (.arraylength, 1) := by decide +kernel
theorem dL_law_27 : decode cL_law 27 = .ok (.bipush 6, 2) := by decide +kernel
theorem dL_law_29 : decode cL_law 29 = .ok (.isub, 1) := by decide +kernel
theorem dL_law_30 : decode cL_law 30 = .ok (.if_icmp .gt 1845, 3) := by decide +kernel
theorem dL_law_33 : decode cL_law 33 = .ok (.aload_n 0, 1) := by decide +kernel
theorem dL_law_34 : decode cL_law 34 = .ok (.iload 4, 2) := by decide +kernel
theorem dL_law_36 : decode cL_law 36 = .ok (.iaload, 1) := by decide +kernel
theorem dL_law_37 : decode cL_law 37 = .ok (.bipush 63, 2) := by decide +kernel
theorem dL_law_39 : decode cL_law 39 = .ok (.iand, 1) := by decide +kernel
theorem dL_law_40 : decode cL_law 40 = .ok (.tableswitch 1829 0 40 #[180, 241, 290, 355, 404, 477, 514, 551, 600, 649, 686, 759, 784, 809, 822, 890, 915, 940, 1008, 1045, 1058, 1071, 1120, 1181, 1230, 1267, 1304, 1353, 1390, 1415, 1440, 1465, 1478, 1539, 1576, 1613, 1662, 1699, 1724, 1749, 1774], 180) := by decide +kernel
theorem dL_law_1869 : decode cL_law 1869 = .ok (.iinc 4 6, 3) := by decide +kernel
theorem dL_law_1872 : decode cL_law 1872 = .ok (.goto (-1849), 3) := by decide +kernel
theorem dL_law_1875 : decode cL_law 1875 = .ok (.iconst 1, 1) := by decide +kernel
theorem dL_law_1876 : decode cL_law 1876 = .ok (.ireturn, 1) := by decide +kernel
/-- a call that makes cells: from its place in the switch to the end of the turn, with more cells made -/
def lwSp (G : hG) (XF : Nat → Nat → hX) (b L : Nat) (xs : Nat → Int32) (pc : Nat) : Prop := ∀ (cs sl : Nat) (i : Int32) (m : hM) (E : Option (Unit × hM)), (∀ v : Int32, 0 ≤ v.toInt → v.toInt ≤ 5 → hIn (i + v) L) → IV m → cs + 1000 ≤ 601024 → sl + 1000 ≤ 7293034 → (∀ cs' sl' m2, IV m2 → cs' ≤ cs + 1000 → sl' ≤ sl + 1000 → Rf vU G (XF cs' sl') 1869 (lwL G b i) [] m2 E) → Rf vU G (XF cs sl) pc (lwL G b i) [] m E
theorem nI_l6 : ∀ L, L < 6 → nI L - 6 < 0 := by decide
theorem lw_hi {L j : Nat} (hL : L ≤ 3072) (h : 6 * j + 6 ≤ L) : ∀ v : Int32, 0 ≤ v.toInt → v.toInt ≤ 5 → hIn (nI (6 * j) + v) L := by
  intro v h1 h2
  obtain ⟨q, hq, rfl⟩ := hIn_of (show hIn v 6 from ⟨h1, by omega⟩) (by omega)
  rw [nI_add]
  exact hIn_lt (by omega) (by omega)
set_option maxHeartbeats 4000000 in
theorem lw_switch {G : hG} {XF : Nat → Nat → hX} {b L : Nat} {xs : Nat → Int32} {ret : Option FieldType} (hC : ∀ cs sl, cs ≤ 601024 → sl ≤ 7293034 → Cx G (XF cs sl) 1400 cL_law 8 RL ret ∧ Cz G (XF cs sl) ∧ Cs G (XF cs sl) b L xs) (s1 : lwSp G XF b L xs 862) (s2 : lwSp G XF b L xs 980) (s3 : lwSp G XF b L xs 1455) (s4 : lwSp G XF b L xs 1814) {cs sl : Nat} {i x : Int32} {m : hM} {E : Option (Unit × hM)} (hi : ∀ v : Int32, 0 ≤ v.toInt → v.toInt ≤ 5 → hIn (i + v) L) (h : IV m) (c1 : cs + 1000 ≤ 601024) (c2 : sl + 1000 ≤ 7293034) (kk : ∀ cs' sl' m2, IV m2 → cs' ≤ cs + 1000 → sl' ≤ sl + 1000 → Rf vU G (XF cs' sl') 1869 (lwL G b i) [] m2 E) : Rf vU G (XF cs sl) 40 (lwL G b i) [.int x] m E := by
  obtain ⟨C, Z, S⟩ := hC cs sl (by omega) (by omega)
  have k0 : ∀ m2, IV m2 → Rf vU G (XF cs sl) 1869 (lwL G b i) [] m2 E := fun m2 h2 => kk cs sl m2 h2 (by omega) (by omega)
  by_cases h0 : x = 0
  · refine rf_tabIn C (n := 220) (off := 180) dL_law_40 h0 (by decide) (by decide) (by decide) (by decide) ?_
    exact lk_office (by omega) C Z S hi h k0
  by_cases h1 : x = 1
  · refine rf_tabIn C (n := 281) (off := 241) dL_law_40 h1 (by decide) (by decide) (by decide) (by decide) ?_
    exact lk_clock (by omega) C Z S hi h k0
  by_cases h2 : x = 2
  · refine rf_tabIn C (n := 330) (off := 290) dL_law_40 h2 (by decide) (by decide) (by decide) (by decide) ?_
    exact lk_feast (by omega) C Z S hi h k0
  by_cases h3 : x = 3
  · refine rf_tabIn C (n := 395) (off := 355) dL_law_40 h3 (by decide) (by decide) (by decide) (by decide) ?_
    exact lk_know (by omega) C Z S hi h k0
  by_cases h4 : x = 4
  · refine rf_tabIn C (n := 444) (off := 404) dL_law_40 h4 (by decide) (by decide) (by decide) (by decide) ?_
    exact lk_sheet (by omega) C Z S hi h k0
  by_cases h5 : x = 5
  · refine rf_tabIn C (n := 517) (off := 477) dL_law_40 h5 (by decide) (by decide) (by decide) (by decide) ?_
    exact lk_set (by omega) C Z S hi h k0
  by_cases h6 : x = 6
  · refine rf_tabIn C (n := 554) (off := 514) dL_law_40 h6 (by decide) (by decide) (by decide) (by decide) ?_
    exact lk_open (by omega) C Z S hi h k0
  by_cases h7 : x = 7
  · refine rf_tabIn C (n := 591) (off := 551) dL_law_40 h7 (by decide) (by decide) (by decide) (by decide) ?_
    exact lk_overlap (by omega) C Z S hi h k0
  by_cases h8 : x = 8
  · refine rf_tabIn C (n := 640) (off := 600) dL_law_40 h8 (by decide) (by decide) (by decide) (by decide) ?_
    exact lk_loses (by omega) C Z S hi h k0
  by_cases h9 : x = 9
  · refine rf_tabIn C (n := 689) (off := 649) dL_law_40 h9 (by decide) (by decide) (by decide) (by decide) ?_
    exact lk_dark (by omega) C Z S hi h k0
  by_cases h10 : x = 10
  · refine rf_tabIn C (n := 726) (off := 686) dL_law_40 h10 (by decide) (by decide) (by decide) (by decide) ?_
    exact lk_piece (by omega) C Z S hi h k0
  by_cases h11 : x = 11
  · refine rf_tabIn C (n := 799) (off := 759) dL_law_40 h11 (by decide) (by decide) (by decide) (by decide) ?_
    exact lk_sign (by omega) C Z S hi h k0
  by_cases h12 : x = 12
  · refine rf_tabIn C (n := 824) (off := 784) dL_law_40 h12 (by decide) (by decide) (by decide) (by decide) ?_
    exact lk_end (by omega) C Z S hi h k0
  by_cases h13 : x = 13
  · refine rf_tabIn C (n := 849) (off := 809) dL_law_40 h13 (by decide) (by decide) (by decide) (by decide) ?_
    exact lk_rule (by omega) C Z S hi h k0
  by_cases h14 : x = 14
  · refine rf_tabIn C (n := 862) (off := 822) dL_law_40 h14 (by decide) (by decide) (by decide) (by decide) ?_
    exact s1 cs sl i m E hi h c1 c2 kk
  by_cases h15 : x = 15
  · refine rf_tabIn C (n := 930) (off := 890) dL_law_40 h15 (by decide) (by decide) (by decide) (by decide) ?_
    exact lk_begin (by omega) C Z S hi h k0
  by_cases h16 : x = 16
  · refine rf_tabIn C (n := 955) (off := 915) dL_law_40 h16 (by decide) (by decide) (by decide) (by decide) ?_
    exact lk_go (by omega) C Z S hi h k0
  by_cases h17 : x = 17
  · refine rf_tabIn C (n := 980) (off := 940) dL_law_40 h17 (by decide) (by decide) (by decide) (by decide) ?_
    exact s2 cs sl i m E hi h c1 c2 kk
  by_cases h18 : x = 18
  · refine rf_tabIn C (n := 1048) (off := 1008) dL_law_40 h18 (by decide) (by decide) (by decide) (by decide) ?_
    exact lk_hand (by omega) C Z S hi h k0
  by_cases h19 : x = 19
  · refine rf_tabIn C (n := 1085) (off := 1045) dL_law_40 h19 (by decide) (by decide) (by decide) (by decide) ?_
    exact lk_ends (by omega) C Z S hi h k0
  by_cases h20 : x = 20
  · refine rf_tabIn C (n := 1098) (off := 1058) dL_law_40 h20 (by decide) (by decide) (by decide) (by decide) ?_
    exact lk_judge (by omega) C Z S hi h k0
  by_cases h21 : x = 21
  · refine rf_tabIn C (n := 1111) (off := 1071) dL_law_40 h21 (by decide) (by decide) (by decide) (by decide) ?_
    exact lk_one (by omega) C Z S hi h k0
  by_cases h22 : x = 22
  · refine rf_tabIn C (n := 1160) (off := 1120) dL_law_40 h22 (by decide) (by decide) (by decide) (by decide) ?_
    exact lk_cheap (by omega) C Z S hi h k0
  by_cases h23 : x = 23
  · refine rf_tabIn C (n := 1221) (off := 1181) dL_law_40 h23 (by decide) (by decide) (by decide) (by decide) ?_
    exact lk_edge (by omega) C Z S hi h k0
  by_cases h24 : x = 24
  · refine rf_tabIn C (n := 1270) (off := 1230) dL_law_40 h24 (by decide) (by decide) (by decide) (by decide) ?_
    exact lk_lie (by omega) C Z S hi h k0
  by_cases h25 : x = 25
  · refine rf_tabIn C (n := 1307) (off := 1267) dL_law_40 h25 (by decide) (by decide) (by decide) (by decide) ?_
    exact lk_homes (by omega) C Z S hi h k0
  by_cases h26 : x = 26
  · refine rf_tabIn C (n := 1344) (off := 1304) dL_law_40 h26 (by decide) (by decide) (by decide) (by decide) ?_
    exact lk_pair (by omega) C Z S hi h k0
  by_cases h27 : x = 27
  · refine rf_tabIn C (n := 1393) (off := 1353) dL_law_40 h27 (by decide) (by decide) (by decide) (by decide) ?_
    exact lk_whom (by omega) C Z S hi h k0
  by_cases h28 : x = 28
  · refine rf_tabIn C (n := 1430) (off := 1390) dL_law_40 h28 (by decide) (by decide) (by decide) (by decide) ?_
    exact lk_worth (by omega) C Z S hi h k0
  by_cases h29 : x = 29
  · refine rf_tabIn C (n := 1455) (off := 1415) dL_law_40 h29 (by decide) (by decide) (by decide) (by decide) ?_
    exact s3 cs sl i m E hi h c1 c2 kk
  by_cases h30 : x = 30
  · refine rf_tabIn C (n := 1480) (off := 1440) dL_law_40 h30 (by decide) (by decide) (by decide) (by decide) ?_
    exact lk_mean (by omega) C Z S hi h k0
  by_cases h31 : x = 31
  · refine rf_tabIn C (n := 1505) (off := 1465) dL_law_40 h31 (by decide) (by decide) (by decide) (by decide) ?_
    exact lk_riskiest (by omega) C Z S hi h k0
  by_cases h32 : x = 32
  · refine rf_tabIn C (n := 1518) (off := 1478) dL_law_40 h32 (by decide) (by decide) (by decide) (by decide) ?_
    exact lk_site (by omega) C Z S hi h k0
  by_cases h33 : x = 33
  · refine rf_tabIn C (n := 1579) (off := 1539) dL_law_40 h33 (by decide) (by decide) (by decide) (by decide) ?_
    exact lk_together (by omega) C Z S hi h k0
  by_cases h34 : x = 34
  · refine rf_tabIn C (n := 1616) (off := 1576) dL_law_40 h34 (by decide) (by decide) (by decide) (by decide) ?_
    exact lk_sleeps (by omega) C Z S hi h k0
  by_cases h35 : x = 35
  · refine rf_tabIn C (n := 1653) (off := 1613) dL_law_40 h35 (by decide) (by decide) (by decide) (by decide) ?_
    exact lk_worst (by omega) C Z S hi h k0
  by_cases h36 : x = 36
  · refine rf_tabIn C (n := 1702) (off := 1662) dL_law_40 h36 (by decide) (by decide) (by decide) (by decide) ?_
    exact lk_march (by omega) C Z S hi h k0
  by_cases h37 : x = 37
  · refine rf_tabIn C (n := 1739) (off := 1699) dL_law_40 h37 (by decide) (by decide) (by decide) (by decide) ?_
    exact lk_keep (by omega) C Z S hi h k0
  by_cases h38 : x = 38
  · refine rf_tabIn C (n := 1764) (off := 1724) dL_law_40 h38 (by decide) (by decide) (by decide) (by decide) ?_
    exact lk_again (by omega) C Z S hi h k0
  by_cases h39 : x = 39
  · refine rf_tabIn C (n := 1789) (off := 1749) dL_law_40 h39 (by decide) (by decide) (by decide) (by decide) ?_
    exact lk_count (by omega) C Z S hi h k0
  by_cases h40 : x = 40
  · refine rf_tabIn C (n := 1814) (off := 1774) dL_law_40 h40 (by decide) (by decide) (by decide) (by decide) ?_
    exact s4 cs sl i m E hi h c1 c2 kk
  refine rf_tabD C (n := 1869) dL_law_40 [0, 1, 2, 3, 4, 5, 6, 7, 8, 9, 10, 11, 12, 13, 14, 15, 16, 17, 18, 19, 20, 21, 22, 23, 24, 25, 26, 27, 28, 29, 30, 31, 32, 33, 34, 35, 36, 37, 38, 39, 40] (fun c hc => ?_) (by decide) (by decide) (by decide) (k0 m h)
  simp only [List.mem_cons, List.not_mem_nil, or_false] at hc
  rcases hc with rfl | rfl | rfl | rfl | rfl | rfl | rfl | rfl | rfl | rfl | rfl | rfl | rfl | rfl | rfl | rfl | rfl | rfl | rfl | rfl | rfl | rfl | rfl | rfl | rfl | rfl | rfl | rfl | rfl | rfl | rfl | rfl | rfl | rfl | rfl | rfl | rfl | rfl | rfl | rfl | rfl <;> assumption
theorem lw_loop {G : hG} {XF : Nat → Nat → hX} {b L : Nat} {xs : Nat → Int32} {ret : Option FieldType} (hL : L ≤ 3072) (hC : ∀ cs sl, cs ≤ 601024 → sl ≤ 7293034 → Cx G (XF cs sl) 1400 cL_law 8 RL ret ∧ Cz G (XF cs sl) ∧ Cs G (XF cs sl) b L xs) (s1 : lwSp G XF b L xs 862) (s2 : lwSp G XF b L xs 980) (s3 : lwSp G XF b L xs 1455) (s4 : lwSp G XF b L xs 1814) {E : Option (Unit × hM)} (hend : ∀ cs sl m i, cs ≤ 601024 → sl ≤ 7293034 → Rf vU G (XF cs sl) 1876 (lwL G b i) [.int 1] m E) : ∀ (k j cs sl : Nat) (m : hM), j + k = L / 6 → IV m → cs + 1000 * k ≤ 601024 → sl + 1000 * k ≤ 7293034 → Rf vU G (XF cs sl) 23 (lwL G b (nI (6 * j))) [] m E := by
  intro k
  induction k with
  | zero =>
    intro j cs sl m hj h c1 c2
    obtain ⟨C, Z, S⟩ := hC cs sl (by omega) (by omega)
    refine rf_iload C (n := 25) (q := 0) (x := nI (6 * j)) dL_law_23 rfl rfl ?_
    refine rl_scr C (n := 26) (b := b) (q := 4) dL_law_25 rfl rfl rfl ?_
    refine rl_slen C S (n := 27) dL_law_26 rfl ?_
    refine rf_bipush C (n := 29) (v := 6) dL_law_27 rfl (by decide) ?_
    refine rf_isub C (n := 30) dL_law_29 rfl ?_
    have hlt : Int32.ofNat L - 6 < nI (6 * j) := by
      show nI L - 6 < nI (6 * j)
      by_cases c : 6 ≤ L
      · rw [show (6 : Int32) = nI 6 from rfl, pk_sub c]
        exact nI_lt (by omega) (by omega)
      · have h0 := nI_l6 L (by omega)
        rw [show 6 * j = 0 by omega]
        exact h0
    have hh := rf_icmp_gt (vl := vU) (X := XF cs sl) (x := nI (6 * j)) (y := Int32.ofNat L - 6) (lv := lwL G b (nI (6 * j))) (st := []) (m := m) (E1 := E) (E2 := none) (hdec := inferInstance) C dL_law_30 (tgt := 1875) (n := 33) (by decide) rfl (fun _ => by
      refine rf_iconst C (n := 1876) (v := 1) dL_law_1875 rfl (by decide) ?_
      exact hend cs sl m (nI (6 * j)) (by omega) (by omega)) (fun q => absurd hlt q)
    exact rf_eq (by rw [if_pos hlt]) hh
  | succ k ih =>
    intro j cs sl m hj h c1 c2
    obtain ⟨C, Z, S⟩ := hC cs sl (by omega) (by omega)
    have h6 : 6 * j + 6 ≤ L := by omega
    have g1 : cs + 1000 ≤ 601024 := Nat.le_trans (Nat.add_le_add_left (Nat.le_add_left 1000 (1000 * k)) cs) c1
    have g2 : sl + 1000 ≤ 7293034 := Nat.le_trans (Nat.add_le_add_left (Nat.le_add_left 1000 (1000 * k)) sl) c2
    have hi := lw_hi hL h6
    refine rf_iload C (n := 25) (q := 0) (x := nI (6 * j)) dL_law_23 rfl rfl ?_
    refine rl_scr C (n := 26) (b := b) (q := 4) dL_law_25 rfl rfl rfl ?_
    refine rl_slen C S (n := 27) dL_law_26 rfl ?_
    refine rf_bipush C (n := 29) (v := 6) dL_law_27 rfl (by decide) ?_
    refine rf_isub C (n := 30) dL_law_29 rfl ?_
    have hlt : ¬ Int32.ofNat L - 6 < nI (6 * j) := by
      show ¬ nI L - 6 < nI (6 * j)
      rw [show (6 : Int32) = nI 6 from rfl, pk_sub (show 6 ≤ L by omega)]
      exact nI_nlt (by omega) (by omega)
    have hh := rf_icmp_gt (vl := vU) (X := XF cs sl) (x := nI (6 * j)) (y := Int32.ofNat L - 6) (lv := lwL G b (nI (6 * j))) (st := []) (m := m) (E1 := none) (E2 := E) (hdec := inferInstance) C dL_law_30 (tgt := 1875) (n := 33) (by decide) rfl (fun q => absurd q hlt) (fun _ => by
      refine rl_scr C (n := 34) (b := b) (q := 4) dL_law_33 rfl rfl rfl ?_
      refine rf_iload C (n := 36) (q := 0) (x := nI (6 * j)) dL_law_34 rfl rfl ?_
      refine rl_sld C S (n := 37) (hIn_lt (show 6 * j < L by omega) (by omega)) dL_law_36 rfl ?_
      refine rf_bipush C (n := 39) (v := 63) dL_law_37 rfl (by decide) ?_
      refine rf_iand C (n := 40) dL_law_39 rfl ?_
      refine lw_switch (cs := cs) (sl := sl) hC s1 s2 s3 s4 hi h g1 g2 (fun cs' sl' m2 h2 d1 d2 => ?_)
      obtain ⟨C', -, -⟩ := hC cs' sl' (by omega) (by omega)
      refine rf_iinc C' (n := 1872) (q := 0) (v := nI (6 * (j + 1))) (lwL G b (nI (6 * (j + 1)))) dL_law_1869 rfl rfl (by show nI (6 * j) + nI 6 = nI (6 * (j + 1)); rw [nI_add]; rfl) (by decide) rfl ?_
      refine rf_goto C' (n := 23) dL_law_1872 (by decide) ?_
      exact ih (j + 1) cs' sl' m2 (by omega) h2 (by omega) (by omega))
    exact rf_eq (by rw [if_neg hlt]) hh
