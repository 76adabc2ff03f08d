/-! ===== the law: the calls of value, of, row ===== -/
theorem dL_law_862 : decode cL_law 862 = .ok (.aload_n 1, 1) := by decide +kernel
theorem dL_law_863 : decode cL_law 863 = .ok (.aload_n 0, 1) := by decide +kernel
theorem dL_law_864 : decode cL_law 864 = .ok (.iload 4, 2) := by decide +kernel
theorem dL_law_866 : decode cL_law 866 = .ok (.iconst 1, 1) := by decide +kernel
theorem dL_law_867 : decode cL_law 867 = .ok (.iadd, 1) := by decide +kernel
theorem dL_law_868 : decode cL_law 868 = .ok (.iaload, 1) := by decide +kernel
theorem dL_law_869 : decode cL_law 869 = .ok (.aload_n 0, 1) := by decide +kernel
theorem dL_law_870 : decode cL_law 870 = .ok (.iload 4, 2) := by decide +kernel
theorem dL_law_872 : decode cL_law 872 = .ok (.iconst 2, 1) := by decide +kernel
theorem dL_law_873 : decode cL_law 873 = .ok (.iadd, 1) := by decide +kernel
theorem dL_law_874 : decode cL_law 874 = .ok (.iaload, 1) := by decide +kernel
theorem dL_law_875 : decode cL_law 875 = .ok (.aload_n 3, 1) := by decide +kernel
theorem dL_law_876 : decode cL_law 876 = .ok (.invokestatic 90, 3) := by decide +kernel
theorem dL_law_879 : decode cL_law 879 = .ok (.istore 5, 2) := by decide +kernel
theorem dL_law_881 : decode cL_law 881 = .ok (.aload_n 2, 1) := by decide +kernel
theorem dL_law_882 : decode cL_law 882 = .ok (.aload_n 0, 1) := by decide +kernel
theorem dL_law_883 : decode cL_law 883 = .ok (.iload 4, 2) := by decide +kernel
theorem dL_law_885 : decode cL_law 885 = .ok (.iconst 1, 1) := by decide +kernel
theorem dL_law_886 : decode cL_law 886 = .ok (.iadd, 1) := by decide +kernel
theorem dL_law_887 : decode cL_law 887 = .ok (.iaload, 1) := by decide +kernel
theorem dL_law_888 : decode cL_law 888 = .ok (.aload_n 0, 1) := by decide +kernel
theorem dL_law_889 : decode cL_law 889 = .ok (.iload 4, 2) := by decide +kernel
theorem dL_law_891 : decode cL_law 891 = .ok (.iconst 2, 1) := by decide +kernel
theorem dL_law_892 : decode cL_law 892 = .ok (.iadd, 1) := by decide +kernel
theorem dL_law_893 : decode cL_law 893 = .ok (.iaload, 1) := by decide +kernel
theorem dL_law_894 : decode cL_law 894 = .ok (.invokevirtual 95, 3) := by decide +kernel
theorem dL_law_897 : decode cL_law 897 = .ok (.istore 6, 2) := by decide +kernel
theorem dL_law_899 : decode cL_law 899 = .ok (.aload_n 2, 1) := by decide +kernel
theorem dL_law_900 : decode cL_law 900 = .ok (.invokevirtual 96, 3) := by decide +kernel
theorem dL_law_903 : decode cL_law 903 = .ok (.iload 5, 2) := by decide +kernel
theorem dL_law_905 : decode cL_law 905 = .ok (.if_icmp .eq 5, 3) := by decide +kernel
theorem dL_law_908 : decode cL_law 908 = .ok (.iconst 0, 1) := by decide +kernel
theorem dL_law_909 : decode cL_law 909 = .ok (.ireturn, 1) := by decide +kernel
theorem dL_law_910 : decode cL_law 910 = .ok (.iload 5, 2) := by decide +kernel
theorem dL_law_912 : decode cL_law 912 = .ok (.ifCond .ne 15, 3) := by decide +kernel
theorem dL_law_915 : decode cL_law 915 = .ok (.aload_n 3, 1) := by decide +kernel
theorem dL_law_916 : decode cL_law 916 = .ok (.iconst 0, 1) := by decide +kernel
theorem dL_law_917 : decode cL_law 917 = .ok (.laload, 1) := by decide +kernel
theorem dL_law_918 : decode cL_law 918 = .ok (.iload 6, 2) := by decide +kernel
theorem dL_law_920 : decode cL_law 920 = .ok (.i2l, 1) := by decide +kernel
theorem dL_law_921 : decode cL_law 921 = .ok (.lcmp, 1) := by decide +kernel
theorem dL_law_922 : decode cL_law 922 = .ok (.ifCond .eq 5, 3) := by decide +kernel
theorem dL_law_925 : decode cL_law 925 = .ok (.iconst 0, 1) := by decide +kernel
theorem dL_law_926 : decode cL_law 926 = .ok (.ireturn, 1) := by decide +kernel
theorem dL_law_927 : decode cL_law 927 = .ok (.goto 942, 3) := by decide +kernel
theorem dL_law_980 : decode cL_law 980 = .ok (.aload_n 1, 1) := by decide +kernel
theorem dL_law_981 : decode cL_law 981 = .ok (.aload_n 0, 1) := by decide +kernel
theorem dL_law_982 : decode cL_law 982 = .ok (.iload 4, 2) := by decide +kernel
theorem dL_law_984 : decode cL_law 984 = .ok (.iconst 1, 1) := by decide +kernel
theorem dL_law_985 : decode cL_law 985 = .ok (.iadd, 1) := by decide +kernel
theorem dL_law_986 : decode cL_law 986 = .ok (.iaload, 1) := by decide +kernel
theorem dL_law_987 : decode cL_law 987 = .ok (.aload_n 0, 1) := by decide +kernel
theorem dL_law_988 : decode cL_law 988 = .ok (.iload 4, 2) := by decide +kernel
theorem dL_law_990 : decode cL_law 990 = .ok (.iconst 2, 1) := by decide +kernel
theorem dL_law_991 : decode cL_law 991 = .ok (.iadd, 1) := by decide +kernel
theorem dL_law_992 : decode cL_law 992 = .ok (.iaload, 1) := by decide +kernel
theorem dL_law_993 : decode cL_law 993 = .ok (.aload_n 3, 1) := by decide +kernel
theorem dL_law_994 : decode cL_law 994 = .ok (.invokestatic 107, 3) := by decide +kernel
theorem dL_law_997 : decode cL_law 997 = .ok (.istore 5, 2) := by decide +kernel
theorem dL_law_999 : decode cL_law 999 = .ok (.aload_n 2, 1) := by decide +kernel
theorem dL_law_1000 : decode cL_law 1000 = .ok (.aload_n 0, 1) := by decide +kernel
theorem dL_law_1001 : decode cL_law 1001 = .ok (.iload 4, 2) := by decide +kernel
theorem dL_law_1003 : decode cL_law 1003 = .ok (.iconst 1, 1) := by decide +kernel
theorem dL_law_1004 : decode cL_law 1004 = .ok (.iadd, 1) := by decide +kernel
theorem dL_law_1005 : decode cL_law 1005 = .ok (.iaload, 1) := by decide +kernel
theorem dL_law_1006 : decode cL_law 1006 = .ok (.aload_n 0, 1) := by decide +kernel
theorem dL_law_1007 : decode cL_law 1007 = .ok (.iload 4, 2) := by decide +kernel
theorem dL_law_1009 : decode cL_law 1009 = .ok (.iconst 2, 1) := by decide +kernel
theorem dL_law_1010 : decode cL_law 1010 = .ok (.iadd, 1) := by decide +kernel
theorem dL_law_1011 : decode cL_law 1011 = .ok (.iaload, 1) := by decide +kernel
theorem dL_law_1012 : decode cL_law 1012 = .ok (.invokevirtual 109, 3) := by decide +kernel
theorem dL_law_1015 : decode cL_law 1015 = .ok (.istore 6, 2) := by decide +kernel
theorem dL_law_1017 : decode cL_law 1017 = .ok (.aload_n 2, 1) := by decide +kernel
theorem dL_law_1018 : decode cL_law 1018 = .ok (.invokevirtual 96, 3) := by decide +kernel
theorem dL_law_1021 : decode cL_law 1021 = .ok (.iload 5, 2) := by decide +kernel
theorem dL_law_1023 : decode cL_law 1023 = .ok (.if_icmp .eq 5, 3) := by decide +kernel
theorem dL_law_1026 : decode cL_law 1026 = .ok (.iconst 0, 1) := by decide +kernel
theorem dL_law_1027 : decode cL_law 1027 = .ok (.ireturn, 1) := by decide +kernel
theorem dL_law_1028 : decode cL_law 1028 = .ok (.iload 5, 2) := by decide +kernel
theorem dL_law_1030 : decode cL_law 1030 = .ok (.ifCond .ne 15, 3) := by decide +kernel
theorem dL_law_1033 : decode cL_law 1033 = .ok (.aload_n 3, 1) := by decide +kernel
theorem dL_law_1034 : decode cL_law 1034 = .ok (.iconst 0, 1) := by decide +kernel
theorem dL_law_1035 : decode cL_law 1035 = .ok (.laload, 1) := by decide +kernel
theorem dL_law_1036 : decode cL_law 1036 = .ok (.iload 6, 2) := by decide +kernel
theorem dL_law_1038 : decode cL_law 1038 = .ok (.i2l, 1) := by decide +kernel
theorem dL_law_1039 : decode cL_law 1039 = .ok (.lcmp, 1) := by decide +kernel
theorem dL_law_1040 : decode cL_law 1040 = .ok (.ifCond .eq 5, 3) := by decide +kernel
theorem dL_law_1043 : decode cL_law 1043 = .ok (.iconst 0, 1) := by decide +kernel
theorem dL_law_1044 : decode cL_law 1044 = .ok (.ireturn, 1) := by decide +kernel
theorem dL_law_1045 : decode cL_law 1045 = .ok (.goto 824, 3) := by decide +kernel
theorem dL_law_1814 : decode cL_law 1814 = .ok (.aload_n 1, 1) := by decide +kernel
theorem dL_law_1815 : decode cL_law 1815 = .ok (.aload_n 0, 1) := by decide +kernel
theorem dL_law_1816 : decode cL_law 1816 = .ok (.iload 4, 2) := by decide +kernel
theorem dL_law_1818 : decode cL_law 1818 = .ok (.iconst 1, 1) := by decide +kernel
theorem dL_law_1819 : decode cL_law 1819 = .ok (.iadd, 1) := by decide +kernel
theorem dL_law_1820 : decode cL_law 1820 = .ok (.iaload, 1) := by decide +kernel
theorem dL_law_1821 : decode cL_law 1821 = .ok (.aload_n 3, 1) := by decide +kernel
theorem dL_law_1822 : decode cL_law 1822 = .ok (.invokestatic 198, 3) := by decide +kernel
theorem dL_law_1825 : decode cL_law 1825 = .ok (.istore 5, 2) := by decide +kernel
theorem dL_law_1827 : decode cL_law 1827 = .ok (.aload_n 2, 1) := by decide +kernel
theorem dL_law_1828 : decode cL_law 1828 = .ok (.aload_n 0, 1) := by decide +kernel
theorem dL_law_1829 : decode cL_law 1829 = .ok (.iload 4, 2) := by decide +kernel
theorem dL_law_1831 : decode cL_law 1831 = .ok (.iconst 1, 1) := by decide +kernel
theorem dL_law_1832 : decode cL_law 1832 = .ok (.iadd, 1) := by decide +kernel
theorem dL_law_1833 : decode cL_law 1833 = .ok (.iaload, 1) := by decide +kernel
theorem dL_law_1834 : decode cL_law 1834 = .ok (.invokevirtual 201, 3) := by decide +kernel
theorem dL_law_1837 : decode cL_law 1837 = .ok (.lstore 6, 2) := by decide +kernel
theorem dL_law_1839 : decode cL_law 1839 = .ok (.aload_n 2, 1) := by decide +kernel
theorem dL_law_1840 : decode cL_law 1840 = .ok (.invokevirtual 96, 3) := by decide +kernel
theorem dL_law_1843 : decode cL_law 1843 = .ok (.iload 5, 2) := by decide +kernel
theorem dL_law_1845 : decode cL_law 1845 = .ok (.if_icmp .eq 5, 3) := by decide +kernel
theorem dL_law_1848 : decode cL_law 1848 = .ok (.iconst 0, 1) := by decide +kernel
theorem dL_law_1849 : decode cL_law 1849 = .ok (.ireturn, 1) := by decide +kernel
theorem dL_law_1850 : decode cL_law 1850 = .ok (.iload 5, 2) := by decide +kernel
theorem dL_law_1852 : decode cL_law 1852 = .ok (.ifCond .ne 14, 3) := by decide +kernel
theorem dL_law_1855 : decode cL_law 1855 = .ok (.aload_n 3, 1) := by decide +kernel
theorem dL_law_1856 : decode cL_law 1856 = .ok (.iconst 0, 1) := by decide +kernel
theorem dL_law_1857 : decode cL_law 1857 = .ok (.laload, 1) := by decide +kernel
theorem dL_law_1858 : decode cL_law 1858 = .ok (.lload 6, 2) := by decide +kernel
theorem dL_law_1860 : decode cL_law 1860 = .ok (.lcmp, 1) := by decide +kernel
theorem dL_law_1861 : decode cL_law 1861 = .ok (.ifCond .eq 5, 3) := by decide +kernel
theorem dL_law_1864 : decode cL_law 1864 = .ok (.iconst 0, 1) := by decide +kernel
theorem dL_law_1865 : decode cL_law 1865 = .ok (.ireturn, 1) := by decide +kernel
theorem dL_law_1866 : decode cL_law 1866 = .ok (.goto 3, 3) := by decide +kernel
theorem lwc_95 : hCV RL 95 RX11 yX11_value cX11_value 3 (some .int) 2 := ⟨(tb_in (by decide +kernel) (by decide +kernel)), (tb_in (by decide +kernel) (by decide +kernel)), (tb_in (by decide +kernel) (by decide +kernel)), (tb_in (by decide +kernel) (by decide +kernel)), cw_X11_value, by decide +kernel⟩
theorem lwc_96 : hCV RL 96 RX11 yX11_thrown cX11_thrown 1 (some .int) 0 := ⟨(tb_in (by decide +kernel) (by decide +kernel)), (tb_in (by decide +kernel) (by decide +kernel)), (tb_in (by decide +kernel) (by decide +kernel)), (tb_in (by decide +kernel) (by decide +kernel)), cw_X11_thrown, by decide +kernel⟩
theorem lwc_109 : hCV RL 109 RX11 yX11_of cX11_of 3 (some .int) 2 := ⟨(tb_in (by decide +kernel) (by decide +kernel)), (tb_in (by decide +kernel) (by decide +kernel)), (tb_in (by decide +kernel) (by decide +kernel)), (tb_in (by decide +kernel) (by decide +kernel)), cw_X11_of, by decide +kernel⟩
theorem lwc_201 : hCV RL 201 RX11 yX11_row cX11_row 2 (some .long) 1 := ⟨(tb_in (by decide +kernel) (by decide +kernel)), (tb_in (by decide +kernel) (by decide +kernel)), (tb_in (by decide +kernel) (by decide +kernel)), (tb_in (by decide +kernel) (by decide +kernel)), cw_X11_row, by decide +kernel⟩
theorem lwh_90 : hCH RL 90 yL_value cL_value 5 (some .int) [(0, 10, 13, 13)] 4 := ⟨(tb_in (by decide +kernel) (by decide +kernel)), (tb_in (by decide +kernel) (by decide +kernel)), (tb_in (by decide +kernel) (by decide +kernel)), (tb_in (by decide +kernel) (by decide +kernel)), by decide +kernel⟩
theorem lwh_107 : hCH RL 107 yL_of cL_of 5 (some .int) [(0, 10, 13, 13)] 4 := ⟨(tb_in (by decide +kernel) (by decide +kernel)), (tb_in (by decide +kernel) (by decide +kernel)), (tb_in (by decide +kernel) (by decide +kernel)), (tb_in (by decide +kernel) (by decide +kernel)), by decide +kernel⟩
theorem lwh_198 : hCH RL 198 yL_row cL_row 4 (some .int) [(0, 8, 11, 13)] 3 := ⟨(tb_in (by decide +kernel) (by decide +kernel)), (tb_in (by decide +kernel) (by decide +kernel)), (tb_in (by decide +kernel) (by decide +kernel)), (tb_in (by decide +kernel) (by decide +kernel)), by decide +kernel⟩
theorem lg_cmp_rf (x : Int64) : lg_cmp x x = 0 := by
  unfold lg_cmp
  rw [if_neg (by rw [gt_iff_lt, Int64.lt_iff_toInt_lt]; omega), if_pos rfl]
/-- a long of the law's own cell is set: nothing else -/
theorem IW.lo {m : hM} {n c k t : Nat} (h : IW m m n c k t) {x : Int64} : IW (sL m 135 0 x) (sL m 135 0 x) n c k t :=
  h.cg ⟨fun _ _ _ => rfl, fun j => gL_sn (by omega), fun z => rfOk_cg z (fun _ => rfl)⟩ ⟨fun _ _ _ => rfl, fun j => gL_sn (by omega)⟩ (jk_cg h.2.2.2.2.2.1 (fun _ _ _ _ => rfl))
theorem rdA_L {m : hM} {a b : Nat} {x : Int64} {S : Nat → Int32} {p : Nat} : ∀ k, rdA (sL m a b x) S p k = rdA m S p k
  | 0 => rfl
  | k + 1 => by rw [rdA, rdA, rdA_L k]; rfl
theorem ofV_L {m : hM} {a b : Nat} {x : Int64} {p j : Nat} : ofV (sL m a b x) (sFn (sL m a b x)) p j = ofV m (sFn m) p j := by
  have e : sFn (sL m a b x) = sFn m := rfl
  unfold ofV rdy
  rw [e, rdA_L]
theorem rx_value2 {fu : Nat} (hfu : 300 ≤ fu) {v M mc : hM} {n c x : Nat} {S : Nat → Int32} (hv : vRel v n) (hp : pRng v n c) (hr : gI v 117 0 = 0 ∨ ∃ L, 0 < L ∧ rRel v mc L) (g : eqV v M) (hS : rS S M) (hI : sInv v S n c) (hx : x < 2400) (h0 : S 0 = nI x) {p o : Nat} (hpc : p < c) (ho : o < n) (c3 : gI v 117 0 ≠ 0) : ∃ M', f_X11_value fu (nI p) (nI o) M = some (evR v S p o (x + 1), M') ∧ fr PS (sI M 96 0 0) M' := by
  have hn := hv.1
  have hc := hp.1
  have g1 : eqV v (sI M 96 0 0) := eqV_th g
  have s1 : rS S (sI M 96 0 0) := fun j hj => by rw [gI_sn (by omega)]; exact hS j hj
  unfold f_X11_value f_X11_value_30 f_X11_refuse
  simp only [hLet_n, hBd_some]
  rw [rx_isPiece fu _ _ (show c < 2 ^ 31 by omega) (by rw [g1 _ _ (by unfold envC; omega)]; exact hp.2.1), hBd_some]
  rw [if_pos (hIn_lt hpc (by omega)), if_neg (by decide), rx_isOffice fu _ _ (show n < 2 ^ 31 by omega) (by rw [g1 _ _ (by unfold envC; omega)]; exact hv.2.1), hBd_some]
  rw [if_pos (hIn_lt ho (by omega)), if_neg (by decide), g1 117 0 (by unfold envC; omega), if_pos c3]
  obtain ⟨L, hL, hrr⟩ := hr.resolve_left c3
  rw [s1 0 (by omega), h0, nI_1]
  obtain ⟨M', a1, a2⟩ := rx_worked hfu hv hp hL hrr hpc ho (show x + 1 ≤ 2400 by omega) (hI.1 p hpc).1 g1 s1
  exact ⟨M', by rw [a1, hBd_some], a2.mono (fun a j z => by unfold PS; omega)⟩
/-- value: the class's answer through the law's own method, and the reference's -/
theorem ok_value {m : hM} (h : IV m) (G : hG) (x1 x2 : Int32) : ∃ (k b : Int32) (m1 m2 : hM), MtH G 7 yL_value cL_value 5 (some .int) [(0, 10, 13, 13)] [hA G 0, .int x1, .int x2, hA G 135] m k m1 ∧ f_X11_value 4000 x1 x2 m1 = some (b, m2) ∧ gI m2 96 0 = k ∧ (k = 0 → gL m2 135 0 = b.toInt64) ∧ IV m2 := by
  obtain ⟨n, c, k, t, h⟩ := h
  have hn := h.1.1.1
  have hc := h.2.1.1.1
  obtain ⟨x, hx, hx0⟩ := h.now
  have hst := h.2.2.2.2.1
  have e1 : gI m 1 4 = nI n := h.1.2.1
  have e2 : gI m 18 6 = nI c := h.2.1.2.1.1
  have er : gI m 25 1 = gI m 117 0 := by
    rcases h.2.2.2.1 with q | ⟨L, hL, q⟩
    · rw [q.1, q.2]
    · rw [q.2.1, q.2.2.1]
  have hr : gI m 117 0 = 0 ∨ ∃ L, 0 < L ∧ rRel m m L := h.2.2.2.1.imp (fun q => q.1) id
  by_cases q : hIn x1 c ∧ hIn x2 n ∧ gI m 25 1 ≠ 0
  · obtain ⟨q1, q2, q3⟩ := q
    obtain ⟨p, hp, rfl⟩ := hIn_of q1 (by omega)
    obtain ⟨o, ho, rfl⟩ := hIn_of q2 (by omega)
    have c3 : gI m 117 0 ≠ 0 := by rw [← er]; exact q3
    obtain ⟨L, hL, hrr⟩ := hr.resolve_left c3
    have e46 : gI m 46 0 + 1 = nI (x + 1) := by rw [hst.2.2.1, hx0, nI_1]
    have pc := hst.2.2.2.2.2.1 p hp
    obtain ⟨m', a1, a2⟩ := cx_valueFor (fu := 4000) (s := 46) (v := m) (m := m) (S := sFn m) (h := x + 1) (by omega) (by decide) h.1.1 h.2.1.1 hL hp ho (by omega) (hst.1.1 p hp).1 h.1.2 h.2.1.2.1 hrr (h.2.1.2.2 p hp) pc.1 pc.2.1
    have hMt := c_valueY G m hn hc e1 e2 (nI p) (nI o) q1 q2 q3
    have hE : (hBd (f_X8_valueFor 4000 46 (nI p) (nI o) (gI m 46 0 + 1) m) fun r m2 => some (r, m2)) = some (evR m (sFn m) p o (x + 1), m') := by rw [e46, a1, hBd_some]
    have fM : ∀ a j, 96 ≤ a → gI (sL m' 135 0 (evR m (sFn m) p o (x + 1)).toInt64) a j = gI m a j := fun a j z => a2.1 a j (by unfold PV; omega)
    obtain ⟨M', b1, b2⟩ := rx_value2 (fu := 4000) (M := sL m' 135 0 (evR m (sFn m) p o (x + 1)).toInt64) (by omega) h.1.1 h.2.1.1 hr (eqV_hi fM) (fun j hj => fM 114 j (by omega)) hst.1 hx hx0 hp ho c3
    refine ⟨0, _, _, M', c_LvalueY G m m' (nI p) (nI o) _ (by omega) hMt hE, b1, ?_, fun _ => ?_, ?_⟩
    · rw [b2.1 96 0 (by unfold PS; omega), gI_ss]
    · rw [b2.2.1 135 0]; exact gL_ss m' 135 0 _
    · have h6 : IW m m' n c k t := h.cg eqR.rf ⟨fun a j z => a2.1 a j (by unfold cI at z; unfold PV; omega), fun j => a2.2.1 67 j⟩ (jk_cg h.2.2.2.2.2.1 (fun a j z1 z2 => a2.1 a j (by unfold PV; omega)))
      refine IW.q1T h6 (fun a j z => a2.1 a j (by unfold PV; omega)) a2.2.1 (P := P0S) (fun a j z => ?_) (fun a j z => P0S_ok z) (fun j => ?_) (fun j => ?_) (rfOk_cg (rfOk_cg h6.2.2.2.2.2.2.2.2.2.2 (fun j => a2.2.2 96 j)) (fun j => b2.2.2 96 j))
      · rw [b2.1 a j (fun y => z (Or.inl y)), gI_sn (fun y => z (Or.inr (Or.inl y)))]; rfl
      · rw [b2.2.1 97 j]; exact gL_sn (by omega)
      · rw [b2.2.1 67 j]; exact gL_sn (by omega)
  · have q' : ¬ (hIn x1 c ∧ hIn x2 n ∧ gI m 117 0 ≠ 0) := by rw [← er]; exact q
    refine ⟨1, 0, m, _, c_LvalueN G m x1 x2 (c_valueN G m hn hc e1 e2 x1 x2 q), (rx_value (fu := 4000) (by omega) h.1.1 h.2.1.1 hr eqV.rf h.rs hst.1 hx hx0 x1 x2).1 q', gI_ss _ _ _ _, fun z => absurd z (by decide), h.thr⟩
theorem ok_of {m : hM} (h : IV m) (G : hG) (x1 x2 : Int32) : ∃ (k b : Int32) (m1 m2 : hM), MtH G 7 yL_of cL_of 5 (some .int) [(0, 10, 13, 13)] [hA G 0, .int x1, .int x2, hA G 135] m k m1 ∧ f_X11_of 4000 x1 x2 m1 = some (b, m2) ∧ gI m2 96 0 = k ∧ (k = 0 → gL m2 135 0 = b.toInt64) ∧ IV m2 := by
  obtain ⟨n, c, k, t, h⟩ := h
  have hc := h.2.1.1.1
  have hst := h.2.2.2.2.1
  have e2 : gI m 18 6 = nI c := h.2.1.2.1.1
  by_cases q : hIn x1 c ∧ hIn x2 9
  · obtain ⟨q1, q2⟩ := q
    obtain ⟨p, hp, rfl⟩ := hIn_of q1 (by omega)
    obtain ⟨j, hj, rfl⟩ := hIn_of q2 (by omega)
    have pc := hst.2.2.2.2.2.1 p hp
    have si := (hst.1.1 p hp).2
    have cl : (nI p).toNatClampNeg = p := nI_clamp (by omega)
    have key : ∃ E1, Mt vI G 2 yX10_of cX10_of 3 (some .int) [hA G 0, .int (nI p), .int (nI j)] m E1 ∧ E1 = some (ofV m (sFn m) p j, m) := by
      obtain ⟨p1, p2, p3, p4, p5, p6, p7, p8, p9⟩ := pc
      unfold ofV
      have sp : ∀ a, a < 9 → (j = a → nI j = nI a) := fun a _ z => by rw [z]
      by_cases j0 : j = 0
      · exact ⟨_, c_ofY0 G m hc e2 (nI p) (nI j) q1 (sp 0 (by omega) j0), by rw [if_pos (by omega), cl, j0]; exact congrArg (fun z => some (z, m)) p1⟩
      by_cases j1 : j = 1
      · exact ⟨_, c_ofY1 G m hc e2 (nI p) (nI j) q1 (sp 1 (by omega) j1), by rw [if_pos (by omega), cl, j1]; exact congrArg (fun z => some (z, m)) p2⟩
      by_cases j2 : j = 2
      · exact ⟨_, c_ofY2 G m hc e2 (nI p) (nI j) q1 (sp 2 (by omega) j2), by rw [if_pos (by omega), cl, j2]; exact congrArg (fun z => some (z, m)) p3⟩
      by_cases j3 : j = 3
      · refine ⟨_, c_ofY3 G m hc e2 (nI p) (nI j) q1 (sp 3 (by omega) j3), ?_⟩
        rw [if_pos (by omega), j3, b_rd (by omega), p8]
        refine congrArg (fun z => some (z, m)) ?_
        show _ = sFn m (27 + p)
        rcases si with z | z
        · rw [z]; rfl
        · rw [z.1]; rfl
      by_cases j4 : j = 4
      · exact ⟨_, c_ofY4 G m hc e2 (nI p) (nI j) q1 (sp 4 (by omega) j4), by rw [if_pos (by omega), cl, j4]; exact congrArg (fun z => some (z, m)) p4⟩
      by_cases j5 : j = 5
      · exact ⟨_, c_ofY5 G m hc e2 (nI p) (nI j) q1 (sp 5 (by omega) j5), by rw [if_pos (by omega), cl, j5]; exact congrArg (fun z => some (z, m)) p5⟩
      by_cases j6 : j = 6
      · exact ⟨_, c_ofY6 G m hc e2 (nI p) (nI j) q1 (sp 6 (by omega) j6), by rw [if_pos (by omega), cl, j6]; exact congrArg (fun z => some (z, m)) p6⟩
      by_cases j7 : j = 7
      · exact ⟨_, c_ofY7 G m hc e2 (nI p) (nI j) q1 (sp 7 (by omega) j7), by rw [if_pos (by omega), cl, j7]; exact congrArg (fun z => some (z, m)) p7⟩
      · have j8 : j = 8 := by omega
        refine ⟨_, c_ofY8 G m hc e2 (nI p) (nI j) q1 (sp 8 (by omega) j8), ?_⟩
        rw [cx_readyPieces (by omega) (by decide) h.2.1.1 h.2.1.2.1 hst.2, hBd_some, b_rd (by omega), rdyB_bt m (sFn m) c p hc (by omega), if_neg (show ¬ j < 8 by omega), decide_eq_true hp, Bool.true_and]
    obtain ⟨E1, hMt, hE⟩ := key
    refine ⟨0, _, _, _, c_LofY G m m (nI p) (nI j) _ (by omega) hMt hE, (rx_of (fu := 4000) (by omega) h.lo (nI p) (nI j)).2 q1 q2, gI_ss _ _ _ _, fun _ => ?_, h.lo.th rfl rfl⟩
    rw [cl, nI_clamp (show j < 2 ^ 31 by omega), ofV_L]
    exact gL_ss m 135 0 _
  · exact ⟨1, 0, m, _, c_LofN G m x1 x2 (c_ofN G m hc e2 x1 x2 q), (rx_of (fu := 4000) (by omega) h x1 x2).1 q, gI_ss _ _ _ _, fun z => absurd z (by decide), h.thr⟩
theorem ok_row {m : hM} (h : IV m) (G : hG) (x1 : Int32) : ∃ (k : Int32) (b : Int64) (m1 m2 : hM), MtH G 7 yL_row cL_row 4 (some .int) [(0, 8, 11, 13)] [hA G 0, .int x1, hA G 135] m k m1 ∧ f_X11_row 4000 x1 m1 = some (b, m2) ∧ gI m2 96 0 = k ∧ (k = 0 → gL m2 135 0 = b) ∧ IV m2 := by
  obtain ⟨n, c, k, t, h⟩ := h
  obtain ⟨ys, l1, l2, l3, l4⟩ := h.2.2.2.2.2.2.1
  by_cases q : hIn x1 ys.length
  · obtain ⟨p, hp, rfl⟩ := hIn_of q (by omega)
    have cl : (nI p).toNatClampNeg = p := nI_clamp (by omega)
    refine ⟨0, _, _, _, c_LrowY G m m (nI p) _ (by omega) (c_rowY G m l1 l2 (nI p) q) rfl, (rx_row (fu := 4000) (m := sL m 135 0 (gL m 67 (nI p).toNatClampNeg)) (L := ys.length) (by omega) l3 (nI p)).2 q, gI_ss _ _ _ _, fun _ => ?_, h.lo.th rfl rfl⟩
    rw [cl, gL_sn (show ¬ (97 = 135 ∧ p = 0) by omega), (l4 p hp).2, ← (l4 p hp).1]
    exact gL_ss m 135 0 _
  · exact ⟨1, 0, m, _, c_LrowN G m x1 (c_rowN G m l1 l2 x1 q), (rx_row (fu := 4000) (L := ys.length) (by omega) l3 x1).1 q, gI_ss _ _ _ _, fun z => absurd z (by decide), h.thr⟩

theorem lw_value {G : hG} {p : Program} {e : Env} {R : Room} {s : State} {mt : MethodId} {args : Array Value} {below : List Frame} {meth : Method} {c : Code} {Qp : Option Value → hM → State → Prop} {b L : Nat} {xs : Nat → Int32} {ret : Option FieldType} (hRc : 601024 ≤ R.cells) (hRs : 7293034 ≤ R.slots) (z2 : hK2 G s s.heap) (z3 : hK3 s) (hC : ∀ cs sl, cs ≤ 601024 → sl ≤ 7293034 → Cx G (p, e, R, s, mt, args, below, meth, c, cs, sl, Qp) 1400 cL_law 8 RL ret ∧ Cs G (p, e, R, s, mt, args, below, meth, c, cs, sl, Qp) b L xs) : lwSp G (fun cs sl => (p, e, R, s, mt, args, below, meth, c, cs, sl, Qp)) b L xs 862 := by
  intro cs sl i m E hi h c1 c2 kk
  obtain ⟨k, r, m1, m2, hMt, e1, e2, e3, h2⟩ := ok_value h G (xs (i + 1).toNatClampNeg) (xs (i + 2).toNatClampNeg)
  obtain ⟨C, S⟩ := hC cs sl (Nat.le_trans (Nat.le_add_right _ _) c1) (Nat.le_trans (Nat.le_add_right _ _) c2)
  have d1 : cs + 1 ≤ 601024 := Nat.le_trans (Nat.add_le_add_left (by decide) cs) c1
  have d2 : sl + 6 ≤ 7293034 := Nat.le_trans (Nat.add_le_add_left (by decide) sl) c2
  obtain ⟨C1, S1⟩ := hC (cs + 1) (sl + 6) d1 d2
  refine rf_aload_n C (n := 863) (q := 3) (x := 0) dL_law_862 rfl rfl rfl ?_
  refine rl_arg C S (n := 869) (v := 1) dL_law_863 dL_law_864 dL_law_866 dL_law_867 dL_law_868 rfl rfl rfl rfl rfl (by decide) (hi 1 (by decide) (by decide)) ?_
  refine rl_arg C S (n := 875) (v := 2) dL_law_869 dL_law_870 dL_law_872 dL_law_873 dL_law_874 rfl rfl rfl rfl rfl (by decide) (hi 2 (by decide) (by decide)) ?_
  refine rf_aload_n C (n := 876) (q := 1) (x := 135) dL_law_875 rfl rfl rfl ?_
  refine rl_callH C z2 z3 (n := 879) hMt lwh_90 ⟨by decide, by decide⟩ rfl (Nat.le_of_ble_eq_true rfl) rfl (Nat.le_trans d1 hRc) (Nat.le_trans d2 hRs) dL_law_876 rfl ?_
  refine rf_istore C1 (n := 881) ((5, .int k) :: lwL G b i) dL_law_879 rfl (by decide) rfl ?_
  refine rf_aload_n C1 (n := 882) (q := 3) (x := 96) dL_law_881 rfl rfl rfl ?_
  refine rl_argV C1 S1 (n := 888) (v := 1) (q4 := 1) (q0 := 5) rfl rfl dL_law_882 dL_law_883 dL_law_885 dL_law_886 dL_law_887 rfl rfl rfl rfl rfl (by decide) (hi 1 (by decide) (by decide)) ?_
  refine rl_argV C1 S1 (n := 894) (v := 2) (q4 := 1) (q0 := 5) rfl rfl dL_law_888 dL_law_889 dL_law_891 dL_law_892 dL_law_893 rfl rfl rfl rfl rfl (by decide) (hi 2 (by decide) (by decide)) ?_
  refine rl_callVi C1 (n := 897) (c_X11_value G 4000 _ _ _) e1 lwc_95 ly_96 rfl ⟨by decide, by decide⟩ rfl (Nat.le_of_ble_eq_true rfl) rfl dL_law_894 rfl ?_
  refine rf_istore C1 (n := 899) ((6, .int r) :: (5, .int k) :: lwL G b i) dL_law_897 rfl (by decide) rfl ?_
  refine rf_aload_n C1 (n := 900) (q := 4) (x := 96) dL_law_899 rfl rfl rfl ?_
  refine rl_callVi C1 (n := 903) (c_X11_thrown G 4000 m2) (show f_X11_thrown 4000 m2 = some (k, m2) by rw [← e2]; rfl) lwc_96 ly_96 rfl ⟨by decide, by decide⟩ rfl (Nat.le_of_ble_eq_true rfl) rfl dL_law_900 rfl ?_
  refine rf_iload C1 (n := 905) (q := 1) (x := k) dL_law_903 rfl rfl ?_
  refine rl_eqT C1 (n := 910) dL_law_905 (by decide) ?_
  refine rf_iload C1 (n := 912) (q := 1) (x := k) dL_law_910 rfl rfl ?_
  have fin : Rf vU G (p, e, R, s, mt, args, below, meth, c, cs + 1, sl + 6, Qp) 927 ((6, .int r) :: (5, .int k) :: lwL G b i) [] m2 E := by
    refine rf_goto C1 (n := 1869) dL_law_927 (by decide) ?_
    refine rf_lv (lwL G b i) [2, 3, 4, 5, 6] rfl ?_
    exact kk (cs + 1) (sl + 6) m2 h2 (Nat.add_le_add_left (by decide) cs) (Nat.add_le_add_left (by decide) sl)
  by_cases z : k = 0
  · refine rb_neF C1 (n := 915) (tgt := 927) z dL_law_912 (by decide) rfl ?_
    refine rf_aload_n C1 (n := 916) (q := 3) (x := 135) dL_law_915 rfl rfl rfl ?_
    refine rf_iconst C1 (n := 917) (v := 0) dL_law_916 rfl (by decide) ?_
    refine rf_lald C1 (n := 918) (k := 135) (N := 1) (j := 0) ly_135 (by decide) (by decide) dL_law_917 rfl ?_
    refine rf_iload C1 (n := 920) (q := 0) (x := r) dL_law_918 rfl rfl ?_
    refine rf_i2l C1 (n := 921) dL_law_920 rfl ?_
    refine rf_lcmp C1 (n := 922) dL_law_921 rfl ?_
    rw [e3 z]
    exact rb_eqT C1 (n := 927) (lg_cmp_rf _) dL_law_922 (by decide) fin
  · exact rb_neT C1 (n := 927) z dL_law_912 (by decide) fin
theorem lw_of {G : hG} {p : Program} {e : Env} {R : Room} {s : State} {mt : MethodId} {args : Array Value} {below : List Frame} {meth : Method} {c : Code} {Qp : Option Value → hM → State → Prop} {b L : Nat} {xs : Nat → Int32} {ret : Option FieldType} (hRc : 601024 ≤ R.cells) (hRs : 7293034 ≤ R.slots) (z2 : hK2 G s s.heap) (z3 : hK3 s) (hC : ∀ cs sl, cs ≤ 601024 → sl ≤ 7293034 → Cx G (p, e, R, s, mt, args, below, meth, c, cs, sl, Qp) 1400 cL_law 8 RL ret ∧ Cs G (p, e, R, s, mt, args, below, meth, c, cs, sl, Qp) b L xs) : lwSp G (fun cs sl => (p, e, R, s, mt, args, below, meth, c, cs, sl, Qp)) b L xs 980 := by
  intro cs sl i m E hi h c1 c2 kk
  obtain ⟨k, r, m1, m2, hMt, e1, e2, e3, h2⟩ := ok_of h G (xs (i + 1).toNatClampNeg) (xs (i + 2).toNatClampNeg)
  obtain ⟨C, S⟩ := hC cs sl (Nat.le_trans (Nat.le_add_right _ _) c1) (Nat.le_trans (Nat.le_add_right _ _) c2)
  have d1 : cs + 1 ≤ 601024 := Nat.le_trans (Nat.add_le_add_left (by decide) cs) c1
  have d2 : sl + 6 ≤ 7293034 := Nat.le_trans (Nat.add_le_add_left (by decide) sl) c2
  obtain ⟨C1, S1⟩ := hC (cs + 1) (sl + 6) d1 d2
  refine rf_aload_n C (n := 981) (q := 3) (x := 0) dL_law_980 rfl rfl rfl ?_
  refine rl_arg C S (n := 987) (v := 1) dL_law_981 dL_law_982 dL_law_984 dL_law_985 dL_law_986 rfl rfl rfl rfl rfl (by decide) (hi 1 (by decide) (by decide)) ?_
  refine rl_arg C S (n := 993) (v := 2) dL_law_987 dL_law_988 dL_law_990 dL_law_991 dL_law_992 rfl rfl rfl rfl rfl (by decide) (hi 2 (by decide) (by decide)) ?_
  refine rf_aload_n C (n := 994) (q := 1) (x := 135) dL_law_993 rfl rfl rfl ?_
  refine rl_callH C z2 z3 (n := 997) hMt lwh_107 ⟨by decide, by decide⟩ rfl (Nat.le_of_ble_eq_true rfl) rfl (Nat.le_trans d1 hRc) (Nat.le_trans d2 hRs) dL_law_994 rfl ?_
  refine rf_istore C1 (n := 999) ((5, .int k) :: lwL G b i) dL_law_997 rfl (by decide) rfl ?_
  refine rf_aload_n C1 (n := 1000) (q := 3) (x := 96) dL_law_999 rfl rfl rfl ?_
  refine rl_argV C1 S1 (n := 1006) (v := 1) (q4 := 1) (q0 := 5) rfl rfl dL_law_1000 dL_law_1001 dL_law_1003 dL_law_1004 dL_law_1005 rfl rfl rfl rfl rfl (by decide) (hi 1 (by decide) (by decide)) ?_
  refine rl_argV C1 S1 (n := 1012) (v := 2) (q4 := 1) (q0 := 5) rfl rfl dL_law_1006 dL_law_1007 dL_law_1009 dL_law_1010 dL_law_1011 rfl rfl rfl rfl rfl (by decide) (hi 2 (by decide) (by decide)) ?_
  refine rl_callVi C1 (n := 1015) (c_X11_of G 4000 _ _ _) e1 lwc_109 ly_96 rfl ⟨by decide, by decide⟩ rfl (Nat.le_of_ble_eq_true rfl) rfl dL_law_1012 rfl ?_
  refine rf_istore C1 (n := 1017) ((6, .int r) :: (5, .int k) :: lwL G b i) dL_law_1015 rfl (by decide) rfl ?_
  refine rf_aload_n C1 (n := 1018) (q := 4) (x := 96) dL_law_1017 rfl rfl rfl ?_
  refine rl_callVi C1 (n := 1021) (c_X11_thrown G 4000 m2) (show f_X11_thrown 4000 m2 = some (k, m2) by rw [← e2]; rfl) lwc_96 ly_96 rfl ⟨by decide, by decide⟩ rfl (Nat.le_of_ble_eq_true rfl) rfl dL_law_1018 rfl ?_
  refine rf_iload C1 (n := 1023) (q := 1) (x := k) dL_law_1021 rfl rfl ?_
  refine rl_eqT C1 (n := 1028) dL_law_1023 (by decide) ?_
  refine rf_iload C1 (n := 1030) (q := 1) (x := k) dL_law_1028 rfl rfl ?_
  have fin : Rf vU G (p, e, R, s, mt, args, below, meth, c, cs + 1, sl + 6, Qp) 1045 ((6, .int r) :: (5, .int k) :: lwL G b i) [] m2 E := by
    refine rf_goto C1 (n := 1869) dL_law_1045 (by decide) ?_
    refine rf_lv (lwL G b i) [2, 3, 4, 5, 6] rfl ?_
    exact kk (cs + 1) (sl + 6) m2 h2 (Nat.add_le_add_left (by decide) cs) (Nat.add_le_add_left (by decide) sl)
  by_cases z : k = 0
  · refine rb_neF C1 (n := 1033) (tgt := 1045) z dL_law_1030 (by decide) rfl ?_
    refine rf_aload_n C1 (n := 1034) (q := 3) (x := 135) dL_law_1033 rfl rfl rfl ?_
    refine rf_iconst C1 (n := 1035) (v := 0) dL_law_1034 rfl (by decide) ?_
    refine rf_lald C1 (n := 1036) (k := 135) (N := 1) (j := 0) ly_135 (by decide) (by decide) dL_law_1035 rfl ?_
    refine rf_iload C1 (n := 1038) (q := 0) (x := r) dL_law_1036 rfl rfl ?_
    refine rf_i2l C1 (n := 1039) dL_law_1038 rfl ?_
    refine rf_lcmp C1 (n := 1040) dL_law_1039 rfl ?_
    rw [e3 z]
    exact rb_eqT C1 (n := 1045) (lg_cmp_rf _) dL_law_1040 (by decide) fin
  · exact rb_neT C1 (n := 1045) z dL_law_1030 (by decide) fin
theorem lw_row {G : hG} {p : Program} {e : Env} {R : Room} {s : State} {mt : MethodId} {args : Array Value} {below : List Frame} {meth : Method} {c : Code} {Qp : Option Value → hM → State → Prop} {b L : Nat} {xs : Nat → Int32} {ret : Option FieldType} (hRc : 601024 ≤ R.cells) (hRs : 7293034 ≤ R.slots) (z2 : hK2 G s s.heap) (z3 : hK3 s) (hC : ∀ cs sl, cs ≤ 601024 → sl ≤ 7293034 → Cx G (p, e, R, s, mt, args, below, meth, c, cs, sl, Qp) 1400 cL_law 8 RL ret ∧ Cs G (p, e, R, s, mt, args, below, meth, c, cs, sl, Qp) b L xs) : lwSp G (fun cs sl => (p, e, R, s, mt, args, below, meth, c, cs, sl, Qp)) b L xs 1814 := by
  intro cs sl i m E hi h c1 c2 kk
  obtain ⟨k, r, m1, m2, hMt, e1, e2, e3, h2⟩ := ok_row h G (xs (i + 1).toNatClampNeg)
  obtain ⟨C, S⟩ := hC cs sl (Nat.le_trans (Nat.le_add_right _ _) c1) (Nat.le_trans (Nat.le_add_right _ _) c2)
  have d1 : cs + 1 ≤ 601024 := Nat.le_trans (Nat.add_le_add_left (by decide) cs) c1
  have d2 : sl + 6 ≤ 7293034 := Nat.le_trans (Nat.add_le_add_left (by decide) sl) c2
  obtain ⟨C1, S1⟩ := hC (cs + 1) (sl + 6) d1 d2
  refine rf_aload_n C (n := 1815) (q := 3) (x := 0) dL_law_1814 rfl rfl rfl ?_
  refine rl_arg C S (n := 1821) (v := 1) dL_law_1815 dL_law_1816 dL_law_1818 dL_law_1819 dL_law_1820 rfl rfl rfl rfl rfl (by decide) (hi 1 (by decide) (by decide)) ?_
  refine rf_aload_n C (n := 1822) (q := 1) (x := 135) dL_law_1821 rfl rfl rfl ?_
  refine rl_callH C z2 z3 (n := 1825) hMt lwh_198 ⟨by decide, by decide⟩ rfl (Nat.le_of_ble_eq_true rfl) rfl (Nat.le_trans d1 hRc) (Nat.le_trans d2 hRs) dL_law_1822 rfl ?_
  refine rf_istore C1 (n := 1827) ((5, .int k) :: lwL G b i) dL_law_1825 rfl (by decide) rfl ?_
  refine rf_aload_n C1 (n := 1828) (q := 3) (x := 96) dL_law_1827 rfl rfl rfl ?_
  refine rl_argV C1 S1 (n := 1834) (v := 1) (q4 := 1) (q0 := 5) rfl rfl dL_law_1828 dL_law_1829 dL_law_1831 dL_law_1832 dL_law_1833 rfl rfl rfl rfl rfl (by decide) (hi 1 (by decide) (by decide)) ?_
  refine rl_callVl C1 (n := 1837) (c_X11_row G 4000 _ _) e1 lwc_201 ly_96 rfl ⟨by decide, by decide⟩ rfl (Nat.le_of_ble_eq_true rfl) rfl dL_law_1834 rfl ?_
  refine rf_lstore C1 (n := 1839) ((6, .long r) :: (5, .int k) :: lwL G b i) dL_law_1837 rfl (by decide) rfl ?_
  refine rf_aload_n C1 (n := 1840) (q := 4) (x := 96) dL_law_1839 rfl rfl rfl ?_
  refine rl_callVi C1 (n := 1843) (c_X11_thrown G 4000 m2) (show f_X11_thrown 4000 m2 = some (k, m2) by rw [← e2]; rfl) lwc_96 ly_96 rfl ⟨by decide, by decide⟩ rfl (Nat.le_of_ble_eq_true rfl) rfl dL_law_1840 rfl ?_
  refine rf_iload C1 (n := 1845) (q := 1) (x := k) dL_law_1843 rfl rfl ?_
  refine rl_eqT C1 (n := 1850) dL_law_1845 (by decide) ?_
  refine rf_iload C1 (n := 1852) (q := 1) (x := k) dL_law_1850 rfl rfl ?_
  have fin : Rf vU G (p, e, R, s, mt, args, below, meth, c, cs + 1, sl + 6, Qp) 1866 ((6, .long r) :: (5, .int k) :: lwL G b i) [] m2 E := by
    refine rf_goto C1 (n := 1869) dL_law_1866 (by decide) ?_
    refine rf_lv (lwL G b i) [2, 3, 4, 5, 6] rfl ?_
    exact kk (cs + 1) (sl + 6) m2 h2 (Nat.add_le_add_left (by decide) cs) (Nat.add_le_add_left (by decide) sl)
  by_cases z : k = 0
  · refine rb_neF C1 (n := 1855) (tgt := 1866) z dL_law_1852 (by decide) rfl ?_
    refine rf_aload_n C1 (n := 1856) (q := 3) (x := 135) dL_law_1855 rfl rfl rfl ?_
    refine rf_iconst C1 (n := 1857) (v := 0) dL_law_1856 rfl (by decide) ?_
    refine rf_lald C1 (n := 1858) (k := 135) (N := 1) (j := 0) ly_135 (by decide) (by decide) dL_law_1857 rfl ?_
    refine rf_lload C1 (n := 1860) (q := 0) (x := r) dL_law_1858 rfl rfl ?_
    refine rf_lcmp C1 (n := 1861) dL_law_1860 rfl ?_
    rw [e3 z]
    exact rb_eqT C1 (n := 1866) (lg_cmp_rf _) dL_law_1861 (by decide) fin
  · exact rb_neT C1 (n := 1866) z dL_law_1852 (by decide) fin
