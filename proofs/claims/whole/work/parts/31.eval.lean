/-! ===== the value of a rule, on both sides ===== -/
def lv (v : hM) (S : Nat → Int32) (p o h : Nat) (i : Nat) : Int32 :=
  if i = 0 then gI v 107 (6 * (S (3 + p)).toNatClampNeg + o) else if i = 1 then lst v (S (3 + p)).toNatClampNeg o h else if i = 2 then nI (ovl v (S (3 + p)).toNatClampNeg o h 24)
  else if i = 3 then opn v o (nI h) else if i = 4 then nI (nxt v o h 99) else if i = 5 then (if bt (gI v 103 o) (gI v 108 p).toNatClampNeg then 1 else 0)
  else if i = 6 then (if S (3 + p) = nI o then 1 else 0) else if i = 7 then (if gI v 111 p = nI o then 1 else 0) else if i = 8 then (if gI v 112 p = nI o then 1 else 0)
  else if i = 9 then gI v 101 o else if i = 10 then S (11 + p) else nI o
def act (x a b : Int32) : Int32 :=
  if x = 38 then (if a = 0 then 0 else if b = 0 then 0 else 1) else if x = 42 then a * b else if x = 43 then a + b else if x = 45 then a - b
  else if x = 60 then (if b ≤ a then 0 else 1) else if x = 61 then (if a = b then 1 else 0) else if x = 62 then (if a ≤ b then 0 else 1) else (if a = 0 then (if b = 0 then 0 else 1) else 1)
def evN (v : hM) (S : Nat → Int32) (p o h : Nat) : Nat → Nat → Int32
  | 0 => fun _ => 0
  | k + 1 =>
    if gI v 116 k < 2000 then up (evN v S p o h k) (dpt v k) (if gI v 116 k < 1000 then gI v 116 k else lv v S p o h (gI v 116 k - 1000).toNatClampNeg)
    else if gI v 116 k = 2033 then up (evN v S p o h k) (dpt v k - 1) (if evN v S p o h k (dpt v k - 1) = 0 then 1 else 0)
    else if gI v 116 k = 2126 then up (evN v S p o h k) (dpt v k - 1) (-(evN v S p o h k (dpt v k - 1)))
    else up (evN v S p o h k) (dpt v k - 2) (act (gI v 116 k - 2000) (evN v S p o h k (dpt v k - 2)) (evN v S p o h k (dpt v k - 1)))
def evR (v : hM) (S : Nat → Int32) (p o h : Nat) : Int32 := evN v S p o h (gI v 117 0).toNatClampNeg 0
theorem sub_k (k i : Nat) : nI (k + i) - nI k = nI i := by rw [pk_sub (by omega)]; congr 1; omega
theorem rx_has2 (fu : Nat) (a : Int32) {k : Nat} (hk : k < 32) (m : hM) : f_X11_has fu a (nI k) m = some (if bt a k then 1 else 0, m) := by
  rw [rx_has, b_rd hk]
  cases bt a k <;> rfl
theorem rx_valueOf {fu : Nat} (hfu : 300 ≤ fu) {v m : hM} {S : Nat → Int32} {n c : Nat} (hv : vRel v n) (hp : pRng v n c) (g : eqV v m) (hS : ∀ j, j < 127 → gI m 114 j = S j) {p o h i : Nat} (hpc : p < c) (ho : o < n) (hh : h ≤ 2400) (hat : hIn (S (3 + p)) n) (hi : i < 12) :
    f_X11_valueOf fu (nI i) (nI p) (nI o) (nI h) m = some (lv v S p o h i, m) := by
  have hn := hv.1
  have hc := hp.1
  have x3 : (3 : Int32) + nI p = nI (3 + p) := nI_add 3 p
  have x11 : (11 : Int32) + nI p = nI (11 + p) := nI_add 11 p
  have i3 := ix127 3 p (by omega)
  have i11 := ix127 11 p (by omega)
  have s3 := hS (3 + p) (by omega)
  have s11 := hS (11 + p) (by omega)
  have hp8 : hIn (nI p) 8 := hIn_lt (show p < 8 by omega) (by omega)
  have ho6 : hIn (nI o) 6 := hIn_lt (show o < 6 by omega) (by omega)
  have cp : (nI p).toNatClampNeg = p := nI_clamp (by omega)
  have co : (nI o).toNatClampNeg = o := nI_clamp (by omega)
  obtain ⟨a, ha, hae⟩ := hIn_of hat (by omega)
  obtain ⟨k, hk, hke⟩ := hIn_of (hp.2.2 p hpc).1 (by omega)
  have kx := kn_ix (show a < 6 by omega) (show o < 6 by omega)
  have ca : (nI a).toNatClampNeg = a := nI_clamp (by omega)
  unfold f_X11_valueOf
  simp only [hLet_e, x3, x11, if_pos i3.1, i3.2, s3, hae]
  have el : ∀ i, lv v S p o h i = if i = 0 then gI v 107 (6 * a + o) else if i = 1 then lst v a o h else if i = 2 then nI (ovl v a o h 24)
    else if i = 3 then opn v o (nI h) else if i = 4 then nI (nxt v o h 99) else if i = 5 then (if bt (gI v 103 o) (gI v 108 p).toNatClampNeg then 1 else 0)
    else if i = 6 then (if nI a = nI o then 1 else 0) else if i = 7 then (if gI v 111 p = nI o then 1 else 0) else if i = 8 then (if gI v 112 p = nI o then 1 else 0)
    else if i = 9 then gI v 101 o else if i = 10 then S (11 + p) else nI o := by
    intro i
    unfold lv
    rw [hae, ca]
  rcases (by omega : i = 0 ∨ i = 1 ∨ i = 2 ∨ i = 3 ∨ i = 4 ∨ i = 5 ∨ i = 6 ∨ i = 7 ∨ i = 8 ∨ i = 9 ∨ i = 10 ∨ i = 11) with rfl | rfl | rfl | rfl | rfl | rfl | rfl | rfl | rfl | rfl | rfl | rfl
  · rw [show lv v S p o h 0 = gI v 107 (6 * a + o) from el 0, if_pos (show nI 0 = 0 by decide), kx.2.1, if_pos kx.2.2.1, kx.2.2.2, g.a _ (by omega) (by omega)]
  · rw [show lv v S p o h 1 = lst v a o h from el 1, if_neg (show ¬ nI 1 = 0 by decide), if_pos (show nI 1 = 1 by decide), rx_lostOf (by omega) (by omega) (by omega) (by omega), hBd_some, lst_eqV g]
  · rw [show lv v S p o h 2 = nI (ovl v a o h 24) from el 2, if_neg (show ¬ nI 2 = 0 by decide), if_neg (show ¬ nI 2 = 1 by decide), if_pos (show nI 2 = 2 by decide), rx_overlapOf (by omega) (by omega) (by omega) (by omega), hBd_some, ovl_eqV g]
  · rw [show lv v S p o h 3 = opn v o (nI h) from el 3, if_neg (show ¬ nI 3 = 0 by decide), if_neg (show ¬ nI 3 = 1 by decide), if_neg (show ¬ nI 3 = 2 by decide), if_pos (show nI 3 = 3 by decide), rx_isOpen fu (by omega), hBd_some, rx_flag, hBd_some, opn_eqV g]
    rcases opn_01 v o (nI h) with e | e <;> rw [e] <;> rfl
  · rw [show lv v S p o h 4 = nI (nxt v o h 99) from el 4, if_neg (show ¬ nI 4 = 0 by decide), if_neg (show ¬ nI 4 = 1 by decide), if_neg (show ¬ nI 4 = 2 by decide), if_neg (show ¬ nI 4 = 3 by decide), if_pos (show nI 4 = 4 by decide), rx_opensIn (by omega) (by omega) (by omega), hBd_some, nxt_eqV g]
  · rw [show lv v S p o h 5 = (if bt (gI v 103 o) (gI v 108 p).toNatClampNeg then 1 else 0) from el 5, if_neg (show ¬ nI 5 = 0 by decide), if_neg (show ¬ nI 5 = 1 by decide), if_neg (show ¬ nI 5 = 2 by decide), if_neg (show ¬ nI 5 = 3 by decide), if_neg (show ¬ nI 5 = 4 by decide), if_pos (show nI 5 = 5 by decide), if_pos ho6, if_pos hp8, co, cp, g.a o (by omega) (by omega), g.a p (by omega) (by omega), hke, rx_has2 fu _ (by omega), hBd_some, rx_flag, hBd_some, nI_clamp (by omega)]
    cases bt (gI v 103 o) k <;> rfl
  · rw [show lv v S p o h 6 = (if nI a = nI o then 1 else 0) from el 6, if_neg (show ¬ nI 6 = 0 by decide), if_neg (show ¬ nI 6 = 1 by decide), if_neg (show ¬ nI 6 = 2 by decide), if_neg (show ¬ nI 6 = 3 by decide), if_neg (show ¬ nI 6 = 4 by decide), if_neg (show ¬ nI 6 = 5 by decide), if_pos (show nI 6 = 6 by decide)]
    unfold f_X11_valueOf_150
    rw [rx_flag, rx_flag, hBd_some, hBd_some]
    by_cases q : nI a = nI o
    · rw [if_neg (fun z => z q), if_pos q]; rfl
    · rw [if_pos q, if_neg q]; rfl
  · rw [show lv v S p o h 7 = (if gI v 111 p = nI o then 1 else 0) from el 7, if_neg (show ¬ nI 7 = 0 by decide), if_neg (show ¬ nI 7 = 1 by decide), if_neg (show ¬ nI 7 = 2 by decide), if_neg (show ¬ nI 7 = 3 by decide), if_neg (show ¬ nI 7 = 4 by decide), if_neg (show ¬ nI 7 = 5 by decide), if_neg (show ¬ nI 7 = 6 by decide), if_pos (show nI 7 = 7 by decide), if_pos hp8, cp, g.a p (by omega) (by omega)]
    unfold f_X11_valueOf_169
    rw [rx_flag, rx_flag, hBd_some, hBd_some]
    by_cases q : gI v 111 p = nI o
    · rw [if_neg (fun z => z q), if_pos q]; rfl
    · rw [if_pos q, if_neg q]; rfl
  · rw [show lv v S p o h 8 = (if gI v 112 p = nI o then 1 else 0) from el 8, if_neg (show ¬ nI 8 = 0 by decide), if_neg (show ¬ nI 8 = 1 by decide), if_neg (show ¬ nI 8 = 2 by decide), if_neg (show ¬ nI 8 = 3 by decide), if_neg (show ¬ nI 8 = 4 by decide), if_neg (show ¬ nI 8 = 5 by decide), if_neg (show ¬ nI 8 = 6 by decide), if_neg (show ¬ nI 8 = 7 by decide), if_pos (show nI 8 = 8 by decide), if_pos hp8, cp, g.a p (by omega) (by omega)]
    unfold f_X11_valueOf_188
    rw [rx_flag, rx_flag, hBd_some, hBd_some]
    by_cases q : gI v 112 p = nI o
    · rw [if_neg (fun z => z q), if_pos q]; rfl
    · rw [if_pos q, if_neg q]; rfl
  · rw [show lv v S p o h 9 = gI v 101 o from el 9, if_neg (show ¬ nI 9 = 0 by decide), if_neg (show ¬ nI 9 = 1 by decide), if_neg (show ¬ nI 9 = 2 by decide), if_neg (show ¬ nI 9 = 3 by decide), if_neg (show ¬ nI 9 = 4 by decide), if_neg (show ¬ nI 9 = 5 by decide), if_neg (show ¬ nI 9 = 6 by decide), if_neg (show ¬ nI 9 = 7 by decide), if_neg (show ¬ nI 9 = 8 by decide), if_pos (show nI 9 = 9 by decide), if_pos ho6, co, g.a o (by omega) (by omega)]
  · rw [show lv v S p o h 10 = S (11 + p) from el 10, if_neg (show ¬ nI 10 = 0 by decide), if_neg (show ¬ nI 10 = 1 by decide), if_neg (show ¬ nI 10 = 2 by decide), if_neg (show ¬ nI 10 = 3 by decide), if_neg (show ¬ nI 10 = 4 by decide), if_neg (show ¬ nI 10 = 5 by decide), if_neg (show ¬ nI 10 = 6 by decide), if_neg (show ¬ nI 10 = 7 by decide), if_neg (show ¬ nI 10 = 8 by decide), if_neg (show ¬ nI 10 = 9 by decide), if_pos (show nI 10 = 10 by decide), if_pos i11.1, i11.2, s11]
  · rw [show lv v S p o h 11 = nI o from el 11, if_neg (show ¬ nI 11 = 0 by decide), if_neg (show ¬ nI 11 = 1 by decide), if_neg (show ¬ nI 11 = 2 by decide), if_neg (show ¬ nI 11 = 3 by decide), if_neg (show ¬ nI 11 = 4 by decide), if_neg (show ¬ nI 11 = 5 by decide), if_neg (show ¬ nI 11 = 6 by decide), if_neg (show ¬ nI 11 = 7 by decide), if_neg (show ¬ nI 11 = 8 by decide), if_neg (show ¬ nI 11 = 9 by decide), if_neg (show ¬ nI 11 = 10 by decide)]
theorem rx_acted (fu : Nat) {x : Int32} (hx : isBi x) (a b : Int32) (m : hM) : f_X11_acted fu (x - 2000) a b m = some (act (x - 2000) a b, m) := by
  unfold f_X11_acted f_X11_acted_182 f_X11_acted_183 f_X11_acted_138 f_X11_acted_166 f_X11_acted_152 f_X11_acted_195 f_X11_acted_200 act
  simp only [rx_flag, hBd_some]
  rcases hx with rfl | rfl | rfl | rfl | rfl | rfl | rfl | rfl
  · rw [show (2038 : Int32) - 2000 = 38 by decide, if_pos (show (38 : Int32) = 38 from rfl), if_pos (show (38 : Int32) = 38 from rfl)]
    by_cases q : a = 0
    · rw [if_pos q, if_pos q]; rfl
    · rw [if_neg q, if_neg q]
      by_cases r : b = 0
      · rw [if_pos r, if_pos r]; rfl
      · rw [if_neg r, if_neg r]; rfl
  · rw [show (2042 : Int32) - 2000 = 42 by decide, if_neg (show ¬ (42 : Int32) = 38 by decide), if_pos (show (42 : Int32) = 42 from rfl), if_neg (show ¬ (42 : Int32) = 38 by decide), if_pos (show (42 : Int32) = 42 from rfl)]
  · rw [show (2043 : Int32) - 2000 = 43 by decide, if_neg (show ¬ (43 : Int32) = 38 by decide), if_neg (show ¬ (43 : Int32) = 42 by decide), if_pos (show (43 : Int32) = 43 from rfl), if_neg (show ¬ (43 : Int32) = 38 by decide), if_neg (show ¬ (43 : Int32) = 42 by decide), if_pos (show (43 : Int32) = 43 from rfl)]
  · rw [show (2045 : Int32) - 2000 = 45 by decide, if_neg (show ¬ (45 : Int32) = 38 by decide), if_neg (show ¬ (45 : Int32) = 42 by decide), if_neg (show ¬ (45 : Int32) = 43 by decide), if_pos (show (45 : Int32) = 45 from rfl), if_neg (show ¬ (45 : Int32) = 38 by decide), if_neg (show ¬ (45 : Int32) = 42 by decide), if_neg (show ¬ (45 : Int32) = 43 by decide), if_pos (show (45 : Int32) = 45 from rfl)]
  · rw [show (2060 : Int32) - 2000 = 60 by decide, if_neg (show ¬ (60 : Int32) = 38 by decide), if_neg (show ¬ (60 : Int32) = 42 by decide), if_neg (show ¬ (60 : Int32) = 43 by decide), if_neg (show ¬ (60 : Int32) = 45 by decide), if_pos (show (60 : Int32) = 60 from rfl), if_neg (show ¬ (60 : Int32) = 38 by decide), if_neg (show ¬ (60 : Int32) = 42 by decide), if_neg (show ¬ (60 : Int32) = 43 by decide), if_neg (show ¬ (60 : Int32) = 45 by decide), if_pos (show (60 : Int32) = 60 from rfl)]
    split <;> rfl
  · rw [show (2061 : Int32) - 2000 = 61 by decide, if_neg (show ¬ (61 : Int32) = 38 by decide), if_neg (show ¬ (61 : Int32) = 42 by decide), if_neg (show ¬ (61 : Int32) = 43 by decide), if_neg (show ¬ (61 : Int32) = 45 by decide), if_neg (show ¬ (61 : Int32) = 60 by decide), if_pos (show (61 : Int32) = 61 from rfl), if_neg (show ¬ (61 : Int32) = 38 by decide), if_neg (show ¬ (61 : Int32) = 42 by decide), if_neg (show ¬ (61 : Int32) = 43 by decide), if_neg (show ¬ (61 : Int32) = 45 by decide), if_neg (show ¬ (61 : Int32) = 60 by decide), if_pos (show (61 : Int32) = 61 from rfl)]
    by_cases q : a = b
    · rw [if_neg (fun z => z q), if_pos q]; rfl
    · rw [if_pos q, if_neg q]; rfl
  · rw [show (2062 : Int32) - 2000 = 62 by decide, if_neg (show ¬ (62 : Int32) = 38 by decide), if_neg (show ¬ (62 : Int32) = 42 by decide), if_neg (show ¬ (62 : Int32) = 43 by decide), if_neg (show ¬ (62 : Int32) = 45 by decide), if_neg (show ¬ (62 : Int32) = 60 by decide), if_neg (show ¬ (62 : Int32) = 61 by decide), if_pos (show (62 : Int32) = 62 from rfl), if_neg (show ¬ (62 : Int32) = 38 by decide), if_neg (show ¬ (62 : Int32) = 42 by decide), if_neg (show ¬ (62 : Int32) = 43 by decide), if_neg (show ¬ (62 : Int32) = 45 by decide), if_neg (show ¬ (62 : Int32) = 60 by decide), if_neg (show ¬ (62 : Int32) = 61 by decide), if_pos (show (62 : Int32) = 62 from rfl)]
    split <;> rfl
  · rw [show (2124 : Int32) - 2000 = 124 by decide, if_neg (show ¬ (124 : Int32) = 38 by decide), if_neg (show ¬ (124 : Int32) = 42 by decide), if_neg (show ¬ (124 : Int32) = 43 by decide), if_neg (show ¬ (124 : Int32) = 45 by decide), if_neg (show ¬ (124 : Int32) = 60 by decide), if_neg (show ¬ (124 : Int32) = 61 by decide), if_neg (show ¬ (124 : Int32) = 62 by decide), if_neg (show ¬ (124 : Int32) = 38 by decide), if_neg (show ¬ (124 : Int32) = 42 by decide), if_neg (show ¬ (124 : Int32) = 43 by decide), if_neg (show ¬ (124 : Int32) = 45 by decide), if_neg (show ¬ (124 : Int32) = 60 by decide), if_neg (show ¬ (124 : Int32) = 61 by decide), if_neg (show ¬ (124 : Int32) = 62 by decide)]
    by_cases q : a = 0
    · rw [if_neg (fun z => z q), if_pos q]; split <;> rfl
    · rw [if_pos q, if_neg q]; rfl
theorem cx_joined (fu : Nat) {x : Int32} (hx : isBi x) (a b : Int32) (m : hM) : f_X5_joined fu (x - 2000) a b m = some (act (x - 2000) a b, m) := by
  unfold f_X5_joined act
  rcases hx with rfl | rfl | rfl | rfl | rfl | rfl | rfl | rfl
  · rw [show (2038 : Int32) - 2000 = 38 by decide, if_pos (show (38 : Int32) = 38 from rfl), if_pos (show (38 : Int32) = 38 from rfl)]
    by_cases q : a = 0
    · rw [if_pos q, if_pos q]
    · rw [if_neg q, if_neg q]
      by_cases r : b = 0
      · rw [if_pos r, if_pos r]
      · rw [if_neg r, if_neg r]
  · rw [show (2042 : Int32) - 2000 = 42 by decide, if_neg (show ¬ (42 : Int32) = 38 by decide), if_neg (show ¬ (42 : Int32) = 43 by decide), if_neg (show ¬ (42 : Int32) = 45 by decide), if_neg (show ¬ (42 : Int32) = 60 by decide), if_neg (show ¬ (42 : Int32) = 61 by decide), if_neg (show ¬ (42 : Int32) = 62 by decide), if_neg (show ¬ (42 : Int32) = 124 by decide), if_neg (show ¬ (42 : Int32) = 38 by decide), if_pos (show (42 : Int32) = 42 from rfl)]
  · rw [show (2043 : Int32) - 2000 = 43 by decide, if_neg (show ¬ (43 : Int32) = 38 by decide), if_pos (show (43 : Int32) = 43 from rfl), if_neg (show ¬ (43 : Int32) = 38 by decide), if_neg (show ¬ (43 : Int32) = 42 by decide), if_pos (show (43 : Int32) = 43 from rfl)]
  · rw [show (2045 : Int32) - 2000 = 45 by decide, if_neg (show ¬ (45 : Int32) = 38 by decide), if_neg (show ¬ (45 : Int32) = 43 by decide), if_pos (show (45 : Int32) = 45 from rfl), if_neg (show ¬ (45 : Int32) = 38 by decide), if_neg (show ¬ (45 : Int32) = 42 by decide), if_neg (show ¬ (45 : Int32) = 43 by decide), if_pos (show (45 : Int32) = 45 from rfl)]
  · rw [show (2060 : Int32) - 2000 = 60 by decide, if_neg (show ¬ (60 : Int32) = 38 by decide), if_neg (show ¬ (60 : Int32) = 43 by decide), if_neg (show ¬ (60 : Int32) = 45 by decide), if_pos (show (60 : Int32) = 60 from rfl), if_neg (show ¬ (60 : Int32) = 38 by decide), if_neg (show ¬ (60 : Int32) = 42 by decide), if_neg (show ¬ (60 : Int32) = 43 by decide), if_neg (show ¬ (60 : Int32) = 45 by decide), if_pos (show (60 : Int32) = 60 from rfl)]
    split <;> rfl
  · rw [show (2061 : Int32) - 2000 = 61 by decide, if_neg (show ¬ (61 : Int32) = 38 by decide), if_neg (show ¬ (61 : Int32) = 43 by decide), if_neg (show ¬ (61 : Int32) = 45 by decide), if_neg (show ¬ (61 : Int32) = 60 by decide), if_pos (show (61 : Int32) = 61 from rfl), if_neg (show ¬ (61 : Int32) = 38 by decide), if_neg (show ¬ (61 : Int32) = 42 by decide), if_neg (show ¬ (61 : Int32) = 43 by decide), if_neg (show ¬ (61 : Int32) = 45 by decide), if_neg (show ¬ (61 : Int32) = 60 by decide), if_pos (show (61 : Int32) = 61 from rfl)]
    by_cases q : a = b
    · rw [if_neg (fun z => z q), if_pos q]
    · rw [if_pos q, if_neg q]
  · rw [show (2062 : Int32) - 2000 = 62 by decide, if_neg (show ¬ (62 : Int32) = 38 by decide), if_neg (show ¬ (62 : Int32) = 43 by decide), if_neg (show ¬ (62 : Int32) = 45 by decide), if_neg (show ¬ (62 : Int32) = 60 by decide), if_neg (show ¬ (62 : Int32) = 61 by decide), if_pos (show (62 : Int32) = 62 from rfl), if_neg (show ¬ (62 : Int32) = 38 by decide), if_neg (show ¬ (62 : Int32) = 42 by decide), if_neg (show ¬ (62 : Int32) = 43 by decide), if_neg (show ¬ (62 : Int32) = 45 by decide), if_neg (show ¬ (62 : Int32) = 60 by decide), if_neg (show ¬ (62 : Int32) = 61 by decide), if_pos (show (62 : Int32) = 62 from rfl)]
    split <;> rfl
  · rw [show (2124 : Int32) - 2000 = 124 by decide, if_neg (show ¬ (124 : Int32) = 38 by decide), if_neg (show ¬ (124 : Int32) = 43 by decide), if_neg (show ¬ (124 : Int32) = 45 by decide), if_neg (show ¬ (124 : Int32) = 60 by decide), if_neg (show ¬ (124 : Int32) = 61 by decide), if_neg (show ¬ (124 : Int32) = 62 by decide), if_pos (show (124 : Int32) = 124 from rfl), if_neg (show ¬ (124 : Int32) = 38 by decide), if_neg (show ¬ (124 : Int32) = 42 by decide), if_neg (show ¬ (124 : Int32) = 43 by decide), if_neg (show ¬ (124 : Int32) = 45 by decide), if_neg (show ¬ (124 : Int32) = 60 by decide), if_neg (show ¬ (124 : Int32) = 61 by decide), if_neg (show ¬ (124 : Int32) = 62 by decide)]
    by_cases q : a = 0
    · rw [if_neg (fun z => z q), if_pos q]; split <;> rfl
    · rw [if_pos q, if_neg q]
