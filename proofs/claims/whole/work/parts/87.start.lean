/-! ===== the memory behind both constructors ===== -/
def m0 : hM := (fun k => if k = 1 then (fun j => if j = 5 then 4 else if j = 6 then 10 else 0) else if k = 3 then (upd (upd (upd (upd (upd (upd (fun _ => 0) 0 9) 7 9) 14 9) 21 9) 28 9) 35 9) else if k = 28 then (fun j => if j = 6 then 1 else 0) else if k = 32 then (fun j => if j = 3 then 1 else if j = 4 then 1 else 0) else if k = 65 then (upd (upd (upd (fun _ => 0) 0 (-1)) 1 (-1)) 2 (-1)) else if k = 96 then (fun j => if j = 14 then 4 else if j = 15 then 10 else 0) else if k = 133 then (upd (upd (upd (fun _ => 0) 0 (-1)) 1 (-1)) 2 (-1)) else fun _ => 0, fun _ _ => 0, fun k => if k = 96 then (fun j => if j = 38 then 121 else if j = 39 then 122 else if j = 43 then 124 else if j = 44 then 125 else 0) else fun _ => 0)
def F0k (G : hG) (f : kM) : kM := kU (K_X11i_96 G (K_X10i_0 G f)) 135 (.inl (G.2.2.1 3, 1, .inr (.inl (fun _ => 0))))
theorem allk {P : Nat → Prop} {n : Nat} (h : ∀ k, k < n → P k) (g : P n) : ∀ k, k < n + 1 → P k := fun k hk => by
  by_cases e : k = n
  · subst e; exact g
  · exact h k (by omega)
set_option maxRecDepth 100000 in
theorem f0_0 (G : hG) (f : kM) : ∀ s, LY[0]? = some s → hC G.2.2.1 G.2.2.2.1 m0 0 s = F0k G f 0 := fun s hs => by
  have e := ly_0.symm.trans hs
  cases e
  rfl
set_option maxRecDepth 100000 in
theorem f0_1 (G : hG) (f : kM) : ∀ s, LY[1]? = some s → hC G.2.2.1 G.2.2.2.1 m0 1 s = F0k G f 1 := fun s hs => by
  have e := ly_1.symm.trans hs
  cases e
  rfl
theorem f0_2u (G : hG) : (fun j => ([6, 8, 10, 12, 14, 16][j]?).map (fun z => G.2.2.2.1 + z)) = (va_up (va_up (va_up (va_up (va_up (va_up (fun _ => none) 0 (some (G.2.2.2.1 + 6))) 1 (some (G.2.2.2.1 + 8))) 2 (some (G.2.2.2.1 + 10))) 3 (some (G.2.2.2.1 + 12))) 4 (some (G.2.2.2.1 + 14))) 5 (some (G.2.2.2.1 + 16))) := by
  funext j
  by_cases e : j < 6
  · have h0 : ∀ k, k < 0 → ([6, 8, 10, 12, 14, 16][k]?).map (fun z => G.2.2.2.1 + z) = (va_up (va_up (va_up (va_up (va_up (va_up (fun _ => none) 0 (some (G.2.2.2.1 + 6))) 1 (some (G.2.2.2.1 + 8))) 2 (some (G.2.2.2.1 + 10))) 3 (some (G.2.2.2.1 + 12))) 4 (some (G.2.2.2.1 + 14))) 5 (some (G.2.2.2.1 + 16))) k := fun k hk => absurd hk (Nat.not_lt_zero _)
    have h1 := allk (n := 0) h0 rfl
    have h2 := allk (n := 1) h1 rfl
    have h3 := allk (n := 2) h2 rfl
    have h4 := allk (n := 3) h3 rfl
    have h5 := allk (n := 4) h4 rfl
    have h6 := allk (n := 5) h5 rfl
    exact h6 j e
  · show ([6, 8, 10, 12, 14, 16][j]?).map _ = _
    rw [List.getElem?_eq_none (by show 6 ≤ j; omega)]
    unfold va_up
    rw [if_neg (by omega), if_neg (by omega), if_neg (by omega), if_neg (by omega), if_neg (by omega), if_neg (by omega)]
    rfl
set_option maxRecDepth 100000 in
theorem f0_2 (G : hG) (f : kM) : ∀ s, LY[2]? = some s → hC G.2.2.1 G.2.2.2.1 m0 2 s = F0k G f 2 := fun s hs => by
  have e := ly_2.symm.trans hs
  cases e
  show Sum.inl (_, _, Sum.inr (Sum.inr (Sum.inr (Sum.inr (fun j => ([6, 8, 10, 12, 14, 16][j]?).map (fun z => G.2.2.2.1 + z)))))) = _
  rw [f0_2u]
  rfl
set_option maxRecDepth 100000 in
theorem f0_3 (G : hG) (f : kM) : ∀ s, LY[3]? = some s → hC G.2.2.1 G.2.2.2.1 m0 3 s = F0k G f 3 := fun s hs => by
  have e := ly_3.symm.trans hs
  cases e
  rfl
set_option maxRecDepth 100000 in
theorem f0_4 (G : hG) (f : kM) : ∀ s, LY[4]? = some s → hC G.2.2.1 G.2.2.2.1 m0 4 s = F0k G f 4 := fun s hs => by
  have e := ly_4.symm.trans hs
  cases e
  rfl
theorem f0_5h : gH m0 5 = fun _ => 0 := by
  funext j
  show jn 0 0 = 0
  decide +kernel
set_option maxRecDepth 100000 in
theorem f0_5 (G : hG) (f : kM) : ∀ s, LY[5]? = some s → hC G.2.2.1 G.2.2.2.1 m0 5 s = F0k G f 5 := fun s hs => by
  have e := ly_5.symm.trans hs
  cases e
  show Sum.inl (_, _, Sum.inr (Sum.inl (gH m0 5))) = _
  rw [f0_5h]
  rfl
set_option maxRecDepth 100000 in
theorem f0_6 (G : hG) (f : kM) : ∀ s, LY[6]? = some s → hC G.2.2.1 G.2.2.2.1 m0 6 s = F0k G f 6 := fun s hs => by
  have e := ly_6.symm.trans hs
  cases e
  rfl
set_option maxRecDepth 100000 in
theorem f0_7 (G : hG) (f : kM) : ∀ s, LY[7]? = some s → hC G.2.2.1 G.2.2.2.1 m0 7 s = F0k G f 7 := fun s hs => by
  have e := ly_7.symm.trans hs
  cases e
  rfl
set_option maxRecDepth 100000 in
theorem f0_8 (G : hG) (f : kM) : ∀ s, LY[8]? = some s → hC G.2.2.1 G.2.2.2.1 m0 8 s = F0k G f 8 := fun s hs => by
  have e := ly_8.symm.trans hs
  cases e
  rfl
set_option maxRecDepth 100000 in
theorem f0_9 (G : hG) (f : kM) : ∀ s, LY[9]? = some s → hC G.2.2.1 G.2.2.2.1 m0 9 s = F0k G f 9 := fun s hs => by
  have e := ly_9.symm.trans hs
  cases e
  rfl
set_option maxRecDepth 100000 in
theorem f0_10 (G : hG) (f : kM) : ∀ s, LY[10]? = some s → hC G.2.2.1 G.2.2.2.1 m0 10 s = F0k G f 10 := fun s hs => by
  have e := ly_10.symm.trans hs
  cases e
  rfl
set_option maxRecDepth 100000 in
theorem f0_11 (G : hG) (f : kM) : ∀ s, LY[11]? = some s → hC G.2.2.1 G.2.2.2.1 m0 11 s = F0k G f 11 := fun s hs => by
  have e := ly_11.symm.trans hs
  cases e
  rfl
set_option maxRecDepth 100000 in
theorem f0_12 (G : hG) (f : kM) : ∀ s, LY[12]? = some s → hC G.2.2.1 G.2.2.2.1 m0 12 s = F0k G f 12 := fun s hs => by
  have e := ly_12.symm.trans hs
  cases e
  rfl
set_option maxRecDepth 100000 in
theorem f0_13 (G : hG) (f : kM) : ∀ s, LY[13]? = some s → hC G.2.2.1 G.2.2.2.1 m0 13 s = F0k G f 13 := fun s hs => by
  have e := ly_13.symm.trans hs
  cases e
  rfl
set_option maxRecDepth 100000 in
theorem f0_14 (G : hG) (f : kM) : ∀ s, LY[14]? = some s → hC G.2.2.1 G.2.2.2.1 m0 14 s = F0k G f 14 := fun s hs => by
  have e := ly_14.symm.trans hs
  cases e
  rfl
set_option maxRecDepth 100000 in
theorem f0_15 (G : hG) (f : kM) : ∀ s, LY[15]? = some s → hC G.2.2.1 G.2.2.2.1 m0 15 s = F0k G f 15 := fun s hs => by
  have e := ly_15.symm.trans hs
  cases e
  rfl
set_option maxRecDepth 100000 in
theorem f0_16 (G : hG) (f : kM) : ∀ s, LY[16]? = some s → hC G.2.2.1 G.2.2.2.1 m0 16 s = F0k G f 16 := fun s hs => by
  have e := ly_16.symm.trans hs
  cases e
  rfl
set_option maxRecDepth 100000 in
theorem f0_17 (G : hG) (f : kM) : ∀ s, LY[17]? = some s → hC G.2.2.1 G.2.2.2.1 m0 17 s = F0k G f 17 := fun s hs => by
  have e := ly_17.symm.trans hs
  cases e
  rfl
set_option maxRecDepth 100000 in
theorem f0_18 (G : hG) (f : kM) : ∀ s, LY[18]? = some s → hC G.2.2.1 G.2.2.2.1 m0 18 s = F0k G f 18 := fun s hs => by
  have e := ly_18.symm.trans hs
  cases e
  rfl
set_option maxRecDepth 100000 in
theorem f0_19 (G : hG) (f : kM) : ∀ s, LY[19]? = some s → hC G.2.2.1 G.2.2.2.1 m0 19 s = F0k G f 19 := fun s hs => by
  have e := ly_19.symm.trans hs
  cases e
  rfl
set_option maxRecDepth 100000 in
theorem f0_20 (G : hG) (f : kM) : ∀ s, LY[20]? = some s → hC G.2.2.1 G.2.2.2.1 m0 20 s = F0k G f 20 := fun s hs => by
  have e := ly_20.symm.trans hs
  cases e
  rfl
set_option maxRecDepth 100000 in
theorem f0_21 (G : hG) (f : kM) : ∀ s, LY[21]? = some s → hC G.2.2.1 G.2.2.2.1 m0 21 s = F0k G f 21 := fun s hs => by
  have e := ly_21.symm.trans hs
  cases e
  rfl
set_option maxRecDepth 100000 in
theorem f0_22 (G : hG) (f : kM) : ∀ s, LY[22]? = some s → hC G.2.2.1 G.2.2.2.1 m0 22 s = F0k G f 22 := fun s hs => by
  have e := ly_22.symm.trans hs
  cases e
  rfl
set_option maxRecDepth 100000 in
theorem f0_23 (G : hG) (f : kM) : ∀ s, LY[23]? = some s → hC G.2.2.1 G.2.2.2.1 m0 23 s = F0k G f 23 := fun s hs => by
  have e := ly_23.symm.trans hs
  cases e
  rfl
set_option maxRecDepth 100000 in
theorem f0_24 (G : hG) (f : kM) : ∀ s, LY[24]? = some s → hC G.2.2.1 G.2.2.2.1 m0 24 s = F0k G f 24 := fun s hs => by
  have e := ly_24.symm.trans hs
  cases e
  rfl
set_option maxRecDepth 100000 in
theorem f0_25 (G : hG) (f : kM) : ∀ s, LY[25]? = some s → hC G.2.2.1 G.2.2.2.1 m0 25 s = F0k G f 25 := fun s hs => by
  have e := ly_25.symm.trans hs
  cases e
  rfl
set_option maxRecDepth 100000 in
theorem f0_26 (G : hG) (f : kM) : ∀ s, LY[26]? = some s → hC G.2.2.1 G.2.2.2.1 m0 26 s = F0k G f 26 := fun s hs => by
  have e := ly_26.symm.trans hs
  cases e
  rfl
set_option maxRecDepth 100000 in
theorem f0_27 (G : hG) (f : kM) : ∀ s, LY[27]? = some s → hC G.2.2.1 G.2.2.2.1 m0 27 s = F0k G f 27 := fun s hs => by
  have e := ly_27.symm.trans hs
  cases e
  rfl
set_option maxRecDepth 100000 in
theorem f0_28 (G : hG) (f : kM) : ∀ s, LY[28]? = some s → hC G.2.2.1 G.2.2.2.1 m0 28 s = F0k G f 28 := fun s hs => by
  have e := ly_28.symm.trans hs
  cases e
  rfl
set_option maxRecDepth 100000 in
theorem f0_29 (G : hG) (f : kM) : ∀ s, LY[29]? = some s → hC G.2.2.1 G.2.2.2.1 m0 29 s = F0k G f 29 := fun s hs => by
  have e := ly_29.symm.trans hs
  cases e
  rfl
set_option maxRecDepth 100000 in
theorem f0_30 (G : hG) (f : kM) : ∀ s, LY[30]? = some s → hC G.2.2.1 G.2.2.2.1 m0 30 s = F0k G f 30 := fun s hs => by
  have e := ly_30.symm.trans hs
  cases e
  rfl
set_option maxRecDepth 100000 in
theorem f0_31 (G : hG) (f : kM) : ∀ s, LY[31]? = some s → hC G.2.2.1 G.2.2.2.1 m0 31 s = F0k G f 31 := fun s hs => by
  have e := ly_31.symm.trans hs
  cases e
  rfl
set_option maxRecDepth 100000 in
theorem f0_32 (G : hG) (f : kM) : ∀ s, LY[32]? = some s → hC G.2.2.1 G.2.2.2.1 m0 32 s = F0k G f 32 := fun s hs => by
  have e := ly_32.symm.trans hs
  cases e
  rfl
set_option maxRecDepth 100000 in
theorem f0_33 (G : hG) (f : kM) : ∀ s, LY[33]? = some s → hC G.2.2.1 G.2.2.2.1 m0 33 s = F0k G f 33 := fun s hs => by
  have e := ly_33.symm.trans hs
  cases e
  rfl
set_option maxRecDepth 100000 in
theorem f0_34 (G : hG) (f : kM) : ∀ s, LY[34]? = some s → hC G.2.2.1 G.2.2.2.1 m0 34 s = F0k G f 34 := fun s hs => by
  have e := ly_34.symm.trans hs
  cases e
  rfl
set_option maxRecDepth 100000 in
theorem f0_35 (G : hG) (f : kM) : ∀ s, LY[35]? = some s → hC G.2.2.1 G.2.2.2.1 m0 35 s = F0k G f 35 := fun s hs => by
  have e := ly_35.symm.trans hs
  cases e
  rfl
set_option maxRecDepth 100000 in
theorem f0_36 (G : hG) (f : kM) : ∀ s, LY[36]? = some s → hC G.2.2.1 G.2.2.2.1 m0 36 s = F0k G f 36 := fun s hs => by
  have e := ly_36.symm.trans hs
  cases e
  rfl
set_option maxRecDepth 100000 in
theorem f0_37 (G : hG) (f : kM) : ∀ s, LY[37]? = some s → hC G.2.2.1 G.2.2.2.1 m0 37 s = F0k G f 37 := fun s hs => by
  have e := ly_37.symm.trans hs
  cases e
  rfl
set_option maxRecDepth 100000 in
theorem f0_38 (G : hG) (f : kM) : ∀ s, LY[38]? = some s → hC G.2.2.1 G.2.2.2.1 m0 38 s = F0k G f 38 := fun s hs => by
  have e := ly_38.symm.trans hs
  cases e
  rfl
set_option maxRecDepth 100000 in
theorem f0_39 (G : hG) (f : kM) : ∀ s, LY[39]? = some s → hC G.2.2.1 G.2.2.2.1 m0 39 s = F0k G f 39 := fun s hs => by
  have e := ly_39.symm.trans hs
  cases e
  rfl
set_option maxRecDepth 100000 in
theorem f0_40 (G : hG) (f : kM) : ∀ s, LY[40]? = some s → hC G.2.2.1 G.2.2.2.1 m0 40 s = F0k G f 40 := fun s hs => by
  have e := ly_40.symm.trans hs
  cases e
  rfl
set_option maxRecDepth 100000 in
theorem f0_41 (G : hG) (f : kM) : ∀ s, LY[41]? = some s → hC G.2.2.1 G.2.2.2.1 m0 41 s = F0k G f 41 := fun s hs => by
  have e := ly_41.symm.trans hs
  cases e
  rfl
set_option maxRecDepth 100000 in
theorem f0_42 (G : hG) (f : kM) : ∀ s, LY[42]? = some s → hC G.2.2.1 G.2.2.2.1 m0 42 s = F0k G f 42 := fun s hs => by
  have e := ly_42.symm.trans hs
  cases e
  rfl
set_option maxRecDepth 100000 in
theorem f0_43 (G : hG) (f : kM) : ∀ s, LY[43]? = some s → hC G.2.2.1 G.2.2.2.1 m0 43 s = F0k G f 43 := fun s hs => by
  have e := ly_43.symm.trans hs
  cases e
  rfl
set_option maxRecDepth 100000 in
theorem f0_44 (G : hG) (f : kM) : ∀ s, LY[44]? = some s → hC G.2.2.1 G.2.2.2.1 m0 44 s = F0k G f 44 := fun s hs => by
  have e := ly_44.symm.trans hs
  cases e
  rfl
set_option maxRecDepth 100000 in
theorem f0_45 (G : hG) (f : kM) : ∀ s, LY[45]? = some s → hC G.2.2.1 G.2.2.2.1 m0 45 s = F0k G f 45 := fun s hs => by
  have e := ly_45.symm.trans hs
  cases e
  rfl
set_option maxRecDepth 100000 in
theorem f0_46 (G : hG) (f : kM) : ∀ s, LY[46]? = some s → hC G.2.2.1 G.2.2.2.1 m0 46 s = F0k G f 46 := fun s hs => by
  have e := ly_46.symm.trans hs
  cases e
  rfl
set_option maxRecDepth 100000 in
theorem f0_47 (G : hG) (f : kM) : ∀ s, LY[47]? = some s → hC G.2.2.1 G.2.2.2.1 m0 47 s = F0k G f 47 := fun s hs => by
  have e := ly_47.symm.trans hs
  cases e
  rfl
set_option maxRecDepth 100000 in
theorem f0_48 (G : hG) (f : kM) : ∀ s, LY[48]? = some s → hC G.2.2.1 G.2.2.2.1 m0 48 s = F0k G f 48 := fun s hs => by
  have e := ly_48.symm.trans hs
  cases e
  rfl
set_option maxRecDepth 100000 in
theorem f0_49 (G : hG) (f : kM) : ∀ s, LY[49]? = some s → hC G.2.2.1 G.2.2.2.1 m0 49 s = F0k G f 49 := fun s hs => by
  have e := ly_49.symm.trans hs
  cases e
  rfl
set_option maxRecDepth 100000 in
theorem f0_50 (G : hG) (f : kM) : ∀ s, LY[50]? = some s → hC G.2.2.1 G.2.2.2.1 m0 50 s = F0k G f 50 := fun s hs => by
  have e := ly_50.symm.trans hs
  cases e
  rfl
set_option maxRecDepth 100000 in
theorem f0_51 (G : hG) (f : kM) : ∀ s, LY[51]? = some s → hC G.2.2.1 G.2.2.2.1 m0 51 s = F0k G f 51 := fun s hs => by
  have e := ly_51.symm.trans hs
  cases e
  rfl
set_option maxRecDepth 100000 in
theorem f0_52 (G : hG) (f : kM) : ∀ s, LY[52]? = some s → hC G.2.2.1 G.2.2.2.1 m0 52 s = F0k G f 52 := fun s hs => by
  have e := ly_52.symm.trans hs
  cases e
  rfl
set_option maxRecDepth 100000 in
theorem f0_53 (G : hG) (f : kM) : ∀ s, LY[53]? = some s → hC G.2.2.1 G.2.2.2.1 m0 53 s = F0k G f 53 := fun s hs => by
  have e := ly_53.symm.trans hs
  cases e
  rfl
set_option maxRecDepth 100000 in
theorem f0_54 (G : hG) (f : kM) : ∀ s, LY[54]? = some s → hC G.2.2.1 G.2.2.2.1 m0 54 s = F0k G f 54 := fun s hs => by
  have e := ly_54.symm.trans hs
  cases e
  rfl
set_option maxRecDepth 100000 in
theorem f0_55 (G : hG) (f : kM) : ∀ s, LY[55]? = some s → hC G.2.2.1 G.2.2.2.1 m0 55 s = F0k G f 55 := fun s hs => by
  have e := ly_55.symm.trans hs
  cases e
  rfl
set_option maxRecDepth 100000 in
theorem f0_56 (G : hG) (f : kM) : ∀ s, LY[56]? = some s → hC G.2.2.1 G.2.2.2.1 m0 56 s = F0k G f 56 := fun s hs => by
  have e := ly_56.symm.trans hs
  cases e
  rfl
set_option maxRecDepth 100000 in
theorem f0_57 (G : hG) (f : kM) : ∀ s, LY[57]? = some s → hC G.2.2.1 G.2.2.2.1 m0 57 s = F0k G f 57 := fun s hs => by
  have e := ly_57.symm.trans hs
  cases e
  rfl
set_option maxRecDepth 100000 in
theorem f0_58 (G : hG) (f : kM) : ∀ s, LY[58]? = some s → hC G.2.2.1 G.2.2.2.1 m0 58 s = F0k G f 58 := fun s hs => by
  have e := ly_58.symm.trans hs
  cases e
  rfl
set_option maxRecDepth 100000 in
theorem f0_59 (G : hG) (f : kM) : ∀ s, LY[59]? = some s → hC G.2.2.1 G.2.2.2.1 m0 59 s = F0k G f 59 := fun s hs => by
  have e := ly_59.symm.trans hs
  cases e
  rfl
set_option maxRecDepth 100000 in
theorem f0_60 (G : hG) (f : kM) : ∀ s, LY[60]? = some s → hC G.2.2.1 G.2.2.2.1 m0 60 s = F0k G f 60 := fun s hs => by
  have e := ly_60.symm.trans hs
  cases e
  rfl
set_option maxRecDepth 100000 in
theorem f0_61 (G : hG) (f : kM) : ∀ s, LY[61]? = some s → hC G.2.2.1 G.2.2.2.1 m0 61 s = F0k G f 61 := fun s hs => by
  have e := ly_61.symm.trans hs
  cases e
  rfl
set_option maxRecDepth 100000 in
theorem f0_62 (G : hG) (f : kM) : ∀ s, LY[62]? = some s → hC G.2.2.1 G.2.2.2.1 m0 62 s = F0k G f 62 := fun s hs => by
  have e := ly_62.symm.trans hs
  cases e
  rfl
set_option maxRecDepth 100000 in
theorem f0_63 (G : hG) (f : kM) : ∀ s, LY[63]? = some s → hC G.2.2.1 G.2.2.2.1 m0 63 s = F0k G f 63 := fun s hs => by
  have e := ly_63.symm.trans hs
  cases e
  rfl
theorem f0_64u (G : hG) : (fun j => ([69, 78, 87][j]?).map (fun z => G.2.2.2.1 + z)) = (va_up (va_up (va_up (fun _ => none) 0 (some (G.2.2.2.1 + 69))) 1 (some (G.2.2.2.1 + 78))) 2 (some (G.2.2.2.1 + 87))) := by
  funext j
  by_cases e : j < 3
  · have h0 : ∀ k, k < 0 → ([69, 78, 87][k]?).map (fun z => G.2.2.2.1 + z) = (va_up (va_up (va_up (fun _ => none) 0 (some (G.2.2.2.1 + 69))) 1 (some (G.2.2.2.1 + 78))) 2 (some (G.2.2.2.1 + 87))) k := fun k hk => absurd hk (Nat.not_lt_zero _)
    have h1 := allk (n := 0) h0 rfl
    have h2 := allk (n := 1) h1 rfl
    have h3 := allk (n := 2) h2 rfl
    exact h3 j e
  · show ([69, 78, 87][j]?).map _ = _
    rw [List.getElem?_eq_none (by show 3 ≤ j; omega)]
    unfold va_up
    rw [if_neg (by omega), if_neg (by omega), if_neg (by omega)]
    rfl
set_option maxRecDepth 100000 in
theorem f0_64 (G : hG) (f : kM) : ∀ s, LY[64]? = some s → hC G.2.2.1 G.2.2.2.1 m0 64 s = F0k G f 64 := fun s hs => by
  have e := ly_64.symm.trans hs
  cases e
  show Sum.inl (_, _, Sum.inr (Sum.inr (Sum.inr (Sum.inr (fun j => ([69, 78, 87][j]?).map (fun z => G.2.2.2.1 + z)))))) = _
  rw [f0_64u]
  rfl
set_option maxRecDepth 100000 in
theorem f0_65 (G : hG) (f : kM) : ∀ s, LY[65]? = some s → hC G.2.2.1 G.2.2.2.1 m0 65 s = F0k G f 65 := fun s hs => by
  have e := ly_65.symm.trans hs
  cases e
  rfl
set_option maxRecDepth 100000 in
theorem f0_66 (G : hG) (f : kM) : ∀ s, LY[66]? = some s → hC G.2.2.1 G.2.2.2.1 m0 66 s = F0k G f 66 := fun s hs => by
  have e := ly_66.symm.trans hs
  cases e
  rfl
set_option maxRecDepth 100000 in
theorem f0_67 (G : hG) (f : kM) : ∀ s, LY[67]? = some s → hC G.2.2.1 G.2.2.2.1 m0 67 s = F0k G f 67 := fun s hs => by
  have e := ly_67.symm.trans hs
  cases e
  rfl
set_option maxRecDepth 100000 in
theorem f0_68 (G : hG) (f : kM) : ∀ s, LY[68]? = some s → hC G.2.2.1 G.2.2.2.1 m0 68 s = F0k G f 68 := fun s hs => by
  have e := ly_68.symm.trans hs
  cases e
  rfl
set_option maxRecDepth 100000 in
theorem f0_69 (G : hG) (f : kM) : ∀ s, LY[69]? = some s → hC G.2.2.1 G.2.2.2.1 m0 69 s = F0k G f 69 := fun s hs => by
  have e := ly_69.symm.trans hs
  cases e
  rfl
set_option maxRecDepth 100000 in
theorem f0_70 (G : hG) (f : kM) : ∀ s, LY[70]? = some s → hC G.2.2.1 G.2.2.2.1 m0 70 s = F0k G f 70 := fun s hs => by
  have e := ly_70.symm.trans hs
  cases e
  rfl
set_option maxRecDepth 100000 in
theorem f0_71 (G : hG) (f : kM) : ∀ s, LY[71]? = some s → hC G.2.2.1 G.2.2.2.1 m0 71 s = F0k G f 71 := fun s hs => by
  have e := ly_71.symm.trans hs
  cases e
  rfl
set_option maxRecDepth 100000 in
theorem f0_72 (G : hG) (f : kM) : ∀ s, LY[72]? = some s → hC G.2.2.1 G.2.2.2.1 m0 72 s = F0k G f 72 := fun s hs => by
  have e := ly_72.symm.trans hs
  cases e
  rfl
set_option maxRecDepth 100000 in
theorem f0_73 (G : hG) (f : kM) : ∀ s, LY[73]? = some s → hC G.2.2.1 G.2.2.2.1 m0 73 s = F0k G f 73 := fun s hs => by
  have e := ly_73.symm.trans hs
  cases e
  rfl
set_option maxRecDepth 100000 in
theorem f0_74 (G : hG) (f : kM) : ∀ s, LY[74]? = some s → hC G.2.2.1 G.2.2.2.1 m0 74 s = F0k G f 74 := fun s hs => by
  have e := ly_74.symm.trans hs
  cases e
  rfl
set_option maxRecDepth 100000 in
theorem f0_75 (G : hG) (f : kM) : ∀ s, LY[75]? = some s → hC G.2.2.1 G.2.2.2.1 m0 75 s = F0k G f 75 := fun s hs => by
  have e := ly_75.symm.trans hs
  cases e
  rfl
set_option maxRecDepth 100000 in
theorem f0_76 (G : hG) (f : kM) : ∀ s, LY[76]? = some s → hC G.2.2.1 G.2.2.2.1 m0 76 s = F0k G f 76 := fun s hs => by
  have e := ly_76.symm.trans hs
  cases e
  rfl
set_option maxRecDepth 100000 in
theorem f0_77 (G : hG) (f : kM) : ∀ s, LY[77]? = some s → hC G.2.2.1 G.2.2.2.1 m0 77 s = F0k G f 77 := fun s hs => by
  have e := ly_77.symm.trans hs
  cases e
  rfl
set_option maxRecDepth 100000 in
theorem f0_78 (G : hG) (f : kM) : ∀ s, LY[78]? = some s → hC G.2.2.1 G.2.2.2.1 m0 78 s = F0k G f 78 := fun s hs => by
  have e := ly_78.symm.trans hs
  cases e
  rfl
set_option maxRecDepth 100000 in
theorem f0_79 (G : hG) (f : kM) : ∀ s, LY[79]? = some s → hC G.2.2.1 G.2.2.2.1 m0 79 s = F0k G f 79 := fun s hs => by
  have e := ly_79.symm.trans hs
  cases e
  rfl
set_option maxRecDepth 100000 in
theorem f0_80 (G : hG) (f : kM) : ∀ s, LY[80]? = some s → hC G.2.2.1 G.2.2.2.1 m0 80 s = F0k G f 80 := fun s hs => by
  have e := ly_80.symm.trans hs
  cases e
  rfl
set_option maxRecDepth 100000 in
theorem f0_81 (G : hG) (f : kM) : ∀ s, LY[81]? = some s → hC G.2.2.1 G.2.2.2.1 m0 81 s = F0k G f 81 := fun s hs => by
  have e := ly_81.symm.trans hs
  cases e
  rfl
set_option maxRecDepth 100000 in
theorem f0_82 (G : hG) (f : kM) : ∀ s, LY[82]? = some s → hC G.2.2.1 G.2.2.2.1 m0 82 s = F0k G f 82 := fun s hs => by
  have e := ly_82.symm.trans hs
  cases e
  rfl
set_option maxRecDepth 100000 in
theorem f0_83 (G : hG) (f : kM) : ∀ s, LY[83]? = some s → hC G.2.2.1 G.2.2.2.1 m0 83 s = F0k G f 83 := fun s hs => by
  have e := ly_83.symm.trans hs
  cases e
  rfl
set_option maxRecDepth 100000 in
theorem f0_84 (G : hG) (f : kM) : ∀ s, LY[84]? = some s → hC G.2.2.1 G.2.2.2.1 m0 84 s = F0k G f 84 := fun s hs => by
  have e := ly_84.symm.trans hs
  cases e
  rfl
set_option maxRecDepth 100000 in
theorem f0_85 (G : hG) (f : kM) : ∀ s, LY[85]? = some s → hC G.2.2.1 G.2.2.2.1 m0 85 s = F0k G f 85 := fun s hs => by
  have e := ly_85.symm.trans hs
  cases e
  rfl
set_option maxRecDepth 100000 in
theorem f0_86 (G : hG) (f : kM) : ∀ s, LY[86]? = some s → hC G.2.2.1 G.2.2.2.1 m0 86 s = F0k G f 86 := fun s hs => by
  have e := ly_86.symm.trans hs
  cases e
  rfl
set_option maxRecDepth 100000 in
theorem f0_87 (G : hG) (f : kM) : ∀ s, LY[87]? = some s → hC G.2.2.1 G.2.2.2.1 m0 87 s = F0k G f 87 := fun s hs => by
  have e := ly_87.symm.trans hs
  cases e
  rfl
set_option maxRecDepth 100000 in
theorem f0_88 (G : hG) (f : kM) : ∀ s, LY[88]? = some s → hC G.2.2.1 G.2.2.2.1 m0 88 s = F0k G f 88 := fun s hs => by
  have e := ly_88.symm.trans hs
  cases e
  rfl
set_option maxRecDepth 100000 in
theorem f0_89 (G : hG) (f : kM) : ∀ s, LY[89]? = some s → hC G.2.2.1 G.2.2.2.1 m0 89 s = F0k G f 89 := fun s hs => by
  have e := ly_89.symm.trans hs
  cases e
  rfl
set_option maxRecDepth 100000 in
theorem f0_90 (G : hG) (f : kM) : ∀ s, LY[90]? = some s → hC G.2.2.1 G.2.2.2.1 m0 90 s = F0k G f 90 := fun s hs => by
  have e := ly_90.symm.trans hs
  cases e
  rfl
set_option maxRecDepth 100000 in
theorem f0_91 (G : hG) (f : kM) : ∀ s, LY[91]? = some s → hC G.2.2.1 G.2.2.2.1 m0 91 s = F0k G f 91 := fun s hs => by
  have e := ly_91.symm.trans hs
  cases e
  rfl
set_option maxRecDepth 100000 in
theorem f0_92 (G : hG) (f : kM) : ∀ s, LY[92]? = some s → hC G.2.2.1 G.2.2.2.1 m0 92 s = F0k G f 92 := fun s hs => by
  have e := ly_92.symm.trans hs
  cases e
  rfl
set_option maxRecDepth 100000 in
theorem f0_93 (G : hG) (f : kM) : ∀ s, LY[93]? = some s → hC G.2.2.1 G.2.2.2.1 m0 93 s = F0k G f 93 := fun s hs => by
  have e := ly_93.symm.trans hs
  cases e
  rfl
set_option maxRecDepth 100000 in
theorem f0_94 (G : hG) (f : kM) : ∀ s, LY[94]? = some s → hC G.2.2.1 G.2.2.2.1 m0 94 s = F0k G f 94 := fun s hs => by
  have e := ly_94.symm.trans hs
  cases e
  rfl
set_option maxRecDepth 100000 in
theorem f0_95 (G : hG) (f : kM) : ∀ s, LY[95]? = some s → hC G.2.2.1 G.2.2.2.1 m0 95 s = F0k G f 95 := fun s hs => by
  have e := ly_95.symm.trans hs
  cases e
  rfl
def ks96 : List hKd := [.inr 0, .inr 0, .inl (some 97), .inr 0, .inl (some 98), .inl (some 99), .inl (some 100), .inl (some 101), .inl (some 102), .inl (some 103), .inl (some 104), .inl (some 105), .inl (some 106), .inl (some 107), .inr 0, .inr 0, .inr 0, .inl (some 108), .inl (some 109), .inl (some 110), .inl (some 111), .inl (some 112), .inl (some 113), .inl (some 114), .inl (some 115), .inl (some 116), .inl (some 117), .inl (some 118), .inl (some 119), .inr 0, .inr 0, .inr 0, .inr 0, .inl (some 120), .inr 0, .inr 0, .inr 0, .inr 0, .inr 2, .inr 2, .inl (some 123), .inr 0, .inr 0, .inr 2, .inr 2, .inr 1, .inr 0, .inr 0, .inl (some 126), .inl (some 127), .inr 0, .inl (some 128), .inl (some 129), .inl (some 130), .inl (some 131), .inl (some 132), .inl (some 133), .inl (some 134)]
def ls96 (G : hG) : List Value := [.int 0, .int 0, hA G 97, .int 0, hA G 98, hA G 99, hA G 100, hA G 101, hA G 102, hA G 103, hA G 104, hA G 105, hA G 106, hA G 107, .int 4, .int 10, .int 0, hA G 108, hA G 109, hA G 110, hA G 111, hA G 112, hA G 113, hA G 114, hA G 115, hA G 116, hA G 117, hA G 118, hA G 119, .int 0, .int 0, .int 0, .int 0, hA G 120, .int 0, .int 0, .int 0, .int 0, hA G 121, hA G 122, hA G 123, .int 0, .int 0, hA G 124, hA G 125, .long 0, .int 0, .int 0, hA G 126, hA G 127, .int 0, hA G 128, hA G 129, hA G 130, hA G 131, hA G 132, hA G 133, hA G 134]
theorem mapIdx_of {ks : List hKd} {L : List Value} {g : Nat → hKd → Value} (h : ∀ j, (ks[j]?).map (g j) = L[j]?) : ks.mapIdx g = L := by
  apply List.ext_getElem?
  intro j
  rw [List.getElem?_mapIdx]
  exact h j
theorem f0_96m (G : hG) : ks96.mapIdx (fun j q => hV G.2.2.2.1 m0 96 j q) = ls96 G := by
  refine mapIdx_of (fun j => ?_)
  by_cases e : j < 58
  · have h0 : ∀ k, k < 0 → (ks96[k]?).map (fun q => hV G.2.2.2.1 m0 96 k q) = (ls96 G)[k]? := fun k hk => absurd hk (Nat.not_lt_zero _)
    have h1 := allk (n := 0) h0 rfl
    have h2 := allk (n := 1) h1 rfl
    have h3 := allk (n := 2) h2 rfl
    have h4 := allk (n := 3) h3 rfl
    have h5 := allk (n := 4) h4 rfl
    have h6 := allk (n := 5) h5 rfl
    have h7 := allk (n := 6) h6 rfl
    have h8 := allk (n := 7) h7 rfl
    have h9 := allk (n := 8) h8 rfl
    have h10 := allk (n := 9) h9 rfl
    have h11 := allk (n := 10) h10 rfl
    have h12 := allk (n := 11) h11 rfl
    have h13 := allk (n := 12) h12 rfl
    have h14 := allk (n := 13) h13 rfl
    have h15 := allk (n := 14) h14 rfl
    have h16 := allk (n := 15) h15 rfl
    have h17 := allk (n := 16) h16 rfl
    have h18 := allk (n := 17) h17 rfl
    have h19 := allk (n := 18) h18 rfl
    have h20 := allk (n := 19) h19 rfl
    have h21 := allk (n := 20) h20 rfl
    have h22 := allk (n := 21) h21 rfl
    have h23 := allk (n := 22) h22 rfl
    have h24 := allk (n := 23) h23 rfl
    have h25 := allk (n := 24) h24 rfl
    have h26 := allk (n := 25) h25 rfl
    have h27 := allk (n := 26) h26 rfl
    have h28 := allk (n := 27) h27 rfl
    have h29 := allk (n := 28) h28 rfl
    have h30 := allk (n := 29) h29 rfl
    have h31 := allk (n := 30) h30 rfl
    have h32 := allk (n := 31) h31 rfl
    have h33 := allk (n := 32) h32 rfl
    have h34 := allk (n := 33) h33 rfl
    have h35 := allk (n := 34) h34 rfl
    have h36 := allk (n := 35) h35 rfl
    have h37 := allk (n := 36) h36 rfl
    have h38 := allk (n := 37) h37 rfl
    have h39 := allk (n := 38) h38 rfl
    have h40 := allk (n := 39) h39 rfl
    have h41 := allk (n := 40) h40 rfl
    have h42 := allk (n := 41) h41 rfl
    have h43 := allk (n := 42) h42 rfl
    have h44 := allk (n := 43) h43 rfl
    have h45 := allk (n := 44) h44 rfl
    have h46 := allk (n := 45) h45 rfl
    have h47 := allk (n := 46) h46 rfl
    have h48 := allk (n := 47) h47 rfl
    have h49 := allk (n := 48) h48 rfl
    have h50 := allk (n := 49) h49 rfl
    have h51 := allk (n := 50) h50 rfl
    have h52 := allk (n := 51) h51 rfl
    have h53 := allk (n := 52) h52 rfl
    have h54 := allk (n := 53) h53 rfl
    have h55 := allk (n := 54) h54 rfl
    have h56 := allk (n := 55) h55 rfl
    have h57 := allk (n := 56) h56 rfl
    have h58 := allk (n := 57) h57 rfl
    exact h58 j e
  · rw [List.getElem?_eq_none (by show 58 ≤ j; omega), List.getElem?_eq_none (by show 58 ≤ j; omega)]
    rfl
set_option maxRecDepth 100000 in
theorem f0_96 (G : hG) (f : kM) : ∀ s, LY[96]? = some s → hC G.2.2.1 G.2.2.2.1 m0 96 s = F0k G f 96 := fun s hs => by
  have e : (Sum.inl (11, ks96) : hSh) = s := Option.some.inj (ly_96.symm.trans hs)
  subst e
  show Sum.inr (11, ks96.mapIdx (fun j q => hV G.2.2.2.1 m0 96 j q)) = _
  rw [f0_96m]
  rfl
set_option maxRecDepth 100000 in
theorem f0_97 (G : hG) (f : kM) : ∀ s, LY[97]? = some s → hC G.2.2.1 G.2.2.2.1 m0 97 s = F0k G f 97 := fun s hs => by
  have e := ly_97.symm.trans hs
  cases e
  rfl
set_option maxRecDepth 100000 in
theorem f0_98 (G : hG) (f : kM) : ∀ s, LY[98]? = some s → hC G.2.2.1 G.2.2.2.1 m0 98 s = F0k G f 98 := fun s hs => by
  have e := ly_98.symm.trans hs
  cases e
  rfl
set_option maxRecDepth 100000 in
theorem f0_99 (G : hG) (f : kM) : ∀ s, LY[99]? = some s → hC G.2.2.1 G.2.2.2.1 m0 99 s = F0k G f 99 := fun s hs => by
  have e := ly_99.symm.trans hs
  cases e
  rfl
set_option maxRecDepth 100000 in
theorem f0_100 (G : hG) (f : kM) : ∀ s, LY[100]? = some s → hC G.2.2.1 G.2.2.2.1 m0 100 s = F0k G f 100 := fun s hs => by
  have e := ly_100.symm.trans hs
  cases e
  rfl
set_option maxRecDepth 100000 in
theorem f0_101 (G : hG) (f : kM) : ∀ s, LY[101]? = some s → hC G.2.2.1 G.2.2.2.1 m0 101 s = F0k G f 101 := fun s hs => by
  have e := ly_101.symm.trans hs
  cases e
  rfl
set_option maxRecDepth 100000 in
theorem f0_102 (G : hG) (f : kM) : ∀ s, LY[102]? = some s → hC G.2.2.1 G.2.2.2.1 m0 102 s = F0k G f 102 := fun s hs => by
  have e := ly_102.symm.trans hs
  cases e
  rfl
set_option maxRecDepth 100000 in
theorem f0_103 (G : hG) (f : kM) : ∀ s, LY[103]? = some s → hC G.2.2.1 G.2.2.2.1 m0 103 s = F0k G f 103 := fun s hs => by
  have e := ly_103.symm.trans hs
  cases e
  rfl
set_option maxRecDepth 100000 in
theorem f0_104 (G : hG) (f : kM) : ∀ s, LY[104]? = some s → hC G.2.2.1 G.2.2.2.1 m0 104 s = F0k G f 104 := fun s hs => by
  have e := ly_104.symm.trans hs
  cases e
  rfl
set_option maxRecDepth 100000 in
theorem f0_105 (G : hG) (f : kM) : ∀ s, LY[105]? = some s → hC G.2.2.1 G.2.2.2.1 m0 105 s = F0k G f 105 := fun s hs => by
  have e := ly_105.symm.trans hs
  cases e
  rfl
set_option maxRecDepth 100000 in
theorem f0_106 (G : hG) (f : kM) : ∀ s, LY[106]? = some s → hC G.2.2.1 G.2.2.2.1 m0 106 s = F0k G f 106 := fun s hs => by
  have e := ly_106.symm.trans hs
  cases e
  rfl
set_option maxRecDepth 100000 in
theorem f0_107 (G : hG) (f : kM) : ∀ s, LY[107]? = some s → hC G.2.2.1 G.2.2.2.1 m0 107 s = F0k G f 107 := fun s hs => by
  have e := ly_107.symm.trans hs
  cases e
  rfl
set_option maxRecDepth 100000 in
theorem f0_108 (G : hG) (f : kM) : ∀ s, LY[108]? = some s → hC G.2.2.1 G.2.2.2.1 m0 108 s = F0k G f 108 := fun s hs => by
  have e := ly_108.symm.trans hs
  cases e
  rfl
set_option maxRecDepth 100000 in
theorem f0_109 (G : hG) (f : kM) : ∀ s, LY[109]? = some s → hC G.2.2.1 G.2.2.2.1 m0 109 s = F0k G f 109 := fun s hs => by
  have e := ly_109.symm.trans hs
  cases e
  rfl
set_option maxRecDepth 100000 in
theorem f0_110 (G : hG) (f : kM) : ∀ s, LY[110]? = some s → hC G.2.2.1 G.2.2.2.1 m0 110 s = F0k G f 110 := fun s hs => by
  have e := ly_110.symm.trans hs
  cases e
  rfl
set_option maxRecDepth 100000 in
theorem f0_111 (G : hG) (f : kM) : ∀ s, LY[111]? = some s → hC G.2.2.1 G.2.2.2.1 m0 111 s = F0k G f 111 := fun s hs => by
  have e := ly_111.symm.trans hs
  cases e
  rfl
set_option maxRecDepth 100000 in
theorem f0_112 (G : hG) (f : kM) : ∀ s, LY[112]? = some s → hC G.2.2.1 G.2.2.2.1 m0 112 s = F0k G f 112 := fun s hs => by
  have e := ly_112.symm.trans hs
  cases e
  rfl
set_option maxRecDepth 100000 in
theorem f0_113 (G : hG) (f : kM) : ∀ s, LY[113]? = some s → hC G.2.2.1 G.2.2.2.1 m0 113 s = F0k G f 113 := fun s hs => by
  have e := ly_113.symm.trans hs
  cases e
  rfl
set_option maxRecDepth 100000 in
theorem f0_114 (G : hG) (f : kM) : ∀ s, LY[114]? = some s → hC G.2.2.1 G.2.2.2.1 m0 114 s = F0k G f 114 := fun s hs => by
  have e := ly_114.symm.trans hs
  cases e
  rfl
set_option maxRecDepth 100000 in
theorem f0_115 (G : hG) (f : kM) : ∀ s, LY[115]? = some s → hC G.2.2.1 G.2.2.2.1 m0 115 s = F0k G f 115 := fun s hs => by
  have e := ly_115.symm.trans hs
  cases e
  rfl
set_option maxRecDepth 100000 in
theorem f0_116 (G : hG) (f : kM) : ∀ s, LY[116]? = some s → hC G.2.2.1 G.2.2.2.1 m0 116 s = F0k G f 116 := fun s hs => by
  have e := ly_116.symm.trans hs
  cases e
  rfl
set_option maxRecDepth 100000 in
theorem f0_117 (G : hG) (f : kM) : ∀ s, LY[117]? = some s → hC G.2.2.1 G.2.2.2.1 m0 117 s = F0k G f 117 := fun s hs => by
  have e := ly_117.symm.trans hs
  cases e
  rfl
set_option maxRecDepth 100000 in
theorem f0_118 (G : hG) (f : kM) : ∀ s, LY[118]? = some s → hC G.2.2.1 G.2.2.2.1 m0 118 s = F0k G f 118 := fun s hs => by
  have e := ly_118.symm.trans hs
  cases e
  rfl
set_option maxRecDepth 100000 in
theorem f0_119 (G : hG) (f : kM) : ∀ s, LY[119]? = some s → hC G.2.2.1 G.2.2.2.1 m0 119 s = F0k G f 119 := fun s hs => by
  have e := ly_119.symm.trans hs
  cases e
  rfl
set_option maxRecDepth 100000 in
theorem f0_120 (G : hG) (f : kM) : ∀ s, LY[120]? = some s → hC G.2.2.1 G.2.2.2.1 m0 120 s = F0k G f 120 := fun s hs => by
  have e := ly_120.symm.trans hs
  cases e
  rfl
set_option maxRecDepth 100000 in
theorem f0_121 (G : hG) (f : kM) : ∀ s, LY[121]? = some s → hC G.2.2.1 G.2.2.2.1 m0 121 s = F0k G f 121 := fun s hs => by
  have e := ly_121.symm.trans hs
  cases e
  rfl
set_option maxRecDepth 100000 in
theorem f0_122 (G : hG) (f : kM) : ∀ s, LY[122]? = some s → hC G.2.2.1 G.2.2.2.1 m0 122 s = F0k G f 122 := fun s hs => by
  have e := ly_122.symm.trans hs
  cases e
  rfl
set_option maxRecDepth 100000 in
theorem f0_123 (G : hG) (f : kM) : ∀ s, LY[123]? = some s → hC G.2.2.1 G.2.2.2.1 m0 123 s = F0k G f 123 := fun s hs => by
  have e := ly_123.symm.trans hs
  cases e
  rfl
set_option maxRecDepth 100000 in
theorem f0_124 (G : hG) (f : kM) : ∀ s, LY[124]? = some s → hC G.2.2.1 G.2.2.2.1 m0 124 s = F0k G f 124 := fun s hs => by
  have e := ly_124.symm.trans hs
  cases e
  rfl
set_option maxRecDepth 100000 in
theorem f0_125 (G : hG) (f : kM) : ∀ s, LY[125]? = some s → hC G.2.2.1 G.2.2.2.1 m0 125 s = F0k G f 125 := fun s hs => by
  have e := ly_125.symm.trans hs
  cases e
  rfl
set_option maxRecDepth 100000 in
theorem f0_126 (G : hG) (f : kM) : ∀ s, LY[126]? = some s → hC G.2.2.1 G.2.2.2.1 m0 126 s = F0k G f 126 := fun s hs => by
  have e := ly_126.symm.trans hs
  cases e
  rfl
set_option maxRecDepth 100000 in
theorem f0_127 (G : hG) (f : kM) : ∀ s, LY[127]? = some s → hC G.2.2.1 G.2.2.2.1 m0 127 s = F0k G f 127 := fun s hs => by
  have e := ly_127.symm.trans hs
  cases e
  rfl
set_option maxRecDepth 100000 in
theorem f0_128 (G : hG) (f : kM) : ∀ s, LY[128]? = some s → hC G.2.2.1 G.2.2.2.1 m0 128 s = F0k G f 128 := fun s hs => by
  have e := ly_128.symm.trans hs
  cases e
  rfl
set_option maxRecDepth 100000 in
theorem f0_129 (G : hG) (f : kM) : ∀ s, LY[129]? = some s → hC G.2.2.1 G.2.2.2.1 m0 129 s = F0k G f 129 := fun s hs => by
  have e := ly_129.symm.trans hs
  cases e
  rfl
set_option maxRecDepth 100000 in
theorem f0_130 (G : hG) (f : kM) : ∀ s, LY[130]? = some s → hC G.2.2.1 G.2.2.2.1 m0 130 s = F0k G f 130 := fun s hs => by
  have e := ly_130.symm.trans hs
  cases e
  rfl
set_option maxRecDepth 100000 in
theorem f0_131 (G : hG) (f : kM) : ∀ s, LY[131]? = some s → hC G.2.2.1 G.2.2.2.1 m0 131 s = F0k G f 131 := fun s hs => by
  have e := ly_131.symm.trans hs
  cases e
  rfl
set_option maxRecDepth 100000 in
theorem f0_132 (G : hG) (f : kM) : ∀ s, LY[132]? = some s → hC G.2.2.1 G.2.2.2.1 m0 132 s = F0k G f 132 := fun s hs => by
  have e := ly_132.symm.trans hs
  cases e
  rfl
set_option maxRecDepth 100000 in
theorem f0_133 (G : hG) (f : kM) : ∀ s, LY[133]? = some s → hC G.2.2.1 G.2.2.2.1 m0 133 s = F0k G f 133 := fun s hs => by
  have e := ly_133.symm.trans hs
  cases e
  rfl
set_option maxRecDepth 100000 in
theorem f0_134 (G : hG) (f : kM) : ∀ s, LY[134]? = some s → hC G.2.2.1 G.2.2.2.1 m0 134 s = F0k G f 134 := fun s hs => by
  have e := ly_134.symm.trans hs
  cases e
  rfl
set_option maxRecDepth 100000 in
theorem f0_135 (G : hG) (f : kM) : ∀ s, LY[135]? = some s → hC G.2.2.1 G.2.2.2.1 m0 135 s = F0k G f 135 := fun s hs => by
  have e := ly_135.symm.trans hs
  cases e
  rfl
theorem f0_all (G : hG) (f : kM) : ∀ k, k < 136 → ∀ s, LY[k]? = some s → hC G.2.2.1 G.2.2.2.1 m0 k s = F0k G f k := by
  have h0 : ∀ k, k < 0 → ∀ s, LY[k]? = some s → hC G.2.2.1 G.2.2.2.1 m0 k s = F0k G f k := fun k hk => absurd hk (Nat.not_lt_zero _)
  have h1 := allk (n := 0) h0 (f0_0 G f)
  have h2 := allk (n := 1) h1 (f0_1 G f)
  have h3 := allk (n := 2) h2 (f0_2 G f)
  have h4 := allk (n := 3) h3 (f0_3 G f)
  have h5 := allk (n := 4) h4 (f0_4 G f)
  have h6 := allk (n := 5) h5 (f0_5 G f)
  have h7 := allk (n := 6) h6 (f0_6 G f)
  have h8 := allk (n := 7) h7 (f0_7 G f)
  have h9 := allk (n := 8) h8 (f0_8 G f)
  have h10 := allk (n := 9) h9 (f0_9 G f)
  have h11 := allk (n := 10) h10 (f0_10 G f)
  have h12 := allk (n := 11) h11 (f0_11 G f)
  have h13 := allk (n := 12) h12 (f0_12 G f)
  have h14 := allk (n := 13) h13 (f0_13 G f)
  have h15 := allk (n := 14) h14 (f0_14 G f)
  have h16 := allk (n := 15) h15 (f0_15 G f)
  have h17 := allk (n := 16) h16 (f0_16 G f)
  have h18 := allk (n := 17) h17 (f0_17 G f)
  have h19 := allk (n := 18) h18 (f0_18 G f)
  have h20 := allk (n := 19) h19 (f0_19 G f)
  have h21 := allk (n := 20) h20 (f0_20 G f)
  have h22 := allk (n := 21) h21 (f0_21 G f)
  have h23 := allk (n := 22) h22 (f0_22 G f)
  have h24 := allk (n := 23) h23 (f0_23 G f)
  have h25 := allk (n := 24) h24 (f0_24 G f)
  have h26 := allk (n := 25) h25 (f0_25 G f)
  have h27 := allk (n := 26) h26 (f0_26 G f)
  have h28 := allk (n := 27) h27 (f0_27 G f)
  have h29 := allk (n := 28) h28 (f0_28 G f)
  have h30 := allk (n := 29) h29 (f0_29 G f)
  have h31 := allk (n := 30) h30 (f0_30 G f)
  have h32 := allk (n := 31) h31 (f0_31 G f)
  have h33 := allk (n := 32) h32 (f0_32 G f)
  have h34 := allk (n := 33) h33 (f0_33 G f)
  have h35 := allk (n := 34) h34 (f0_34 G f)
  have h36 := allk (n := 35) h35 (f0_35 G f)
  have h37 := allk (n := 36) h36 (f0_36 G f)
  have h38 := allk (n := 37) h37 (f0_37 G f)
  have h39 := allk (n := 38) h38 (f0_38 G f)
  have h40 := allk (n := 39) h39 (f0_39 G f)
  have h41 := allk (n := 40) h40 (f0_40 G f)
  have h42 := allk (n := 41) h41 (f0_41 G f)
  have h43 := allk (n := 42) h42 (f0_42 G f)
  have h44 := allk (n := 43) h43 (f0_43 G f)
  have h45 := allk (n := 44) h44 (f0_44 G f)
  have h46 := allk (n := 45) h45 (f0_45 G f)
  have h47 := allk (n := 46) h46 (f0_46 G f)
  have h48 := allk (n := 47) h47 (f0_47 G f)
  have h49 := allk (n := 48) h48 (f0_48 G f)
  have h50 := allk (n := 49) h49 (f0_49 G f)
  have h51 := allk (n := 50) h50 (f0_50 G f)
  have h52 := allk (n := 51) h51 (f0_51 G f)
  have h53 := allk (n := 52) h52 (f0_52 G f)
  have h54 := allk (n := 53) h53 (f0_53 G f)
  have h55 := allk (n := 54) h54 (f0_54 G f)
  have h56 := allk (n := 55) h55 (f0_55 G f)
  have h57 := allk (n := 56) h56 (f0_56 G f)
  have h58 := allk (n := 57) h57 (f0_57 G f)
  have h59 := allk (n := 58) h58 (f0_58 G f)
  have h60 := allk (n := 59) h59 (f0_59 G f)
  have h61 := allk (n := 60) h60 (f0_60 G f)
  have h62 := allk (n := 61) h61 (f0_61 G f)
  have h63 := allk (n := 62) h62 (f0_62 G f)
  have h64 := allk (n := 63) h63 (f0_63 G f)
  have h65 := allk (n := 64) h64 (f0_64 G f)
  have h66 := allk (n := 65) h65 (f0_65 G f)
  have h67 := allk (n := 66) h66 (f0_66 G f)
  have h68 := allk (n := 67) h67 (f0_67 G f)
  have h69 := allk (n := 68) h68 (f0_68 G f)
  have h70 := allk (n := 69) h69 (f0_69 G f)
  have h71 := allk (n := 70) h70 (f0_70 G f)
  have h72 := allk (n := 71) h71 (f0_71 G f)
  have h73 := allk (n := 72) h72 (f0_72 G f)
  have h74 := allk (n := 73) h73 (f0_73 G f)
  have h75 := allk (n := 74) h74 (f0_74 G f)
  have h76 := allk (n := 75) h75 (f0_75 G f)
  have h77 := allk (n := 76) h76 (f0_76 G f)
  have h78 := allk (n := 77) h77 (f0_77 G f)
  have h79 := allk (n := 78) h78 (f0_78 G f)
  have h80 := allk (n := 79) h79 (f0_79 G f)
  have h81 := allk (n := 80) h80 (f0_80 G f)
  have h82 := allk (n := 81) h81 (f0_81 G f)
  have h83 := allk (n := 82) h82 (f0_82 G f)
  have h84 := allk (n := 83) h83 (f0_83 G f)
  have h85 := allk (n := 84) h84 (f0_84 G f)
  have h86 := allk (n := 85) h85 (f0_85 G f)
  have h87 := allk (n := 86) h86 (f0_86 G f)
  have h88 := allk (n := 87) h87 (f0_87 G f)
  have h89 := allk (n := 88) h88 (f0_88 G f)
  have h90 := allk (n := 89) h89 (f0_89 G f)
  have h91 := allk (n := 90) h90 (f0_90 G f)
  have h92 := allk (n := 91) h91 (f0_91 G f)
  have h93 := allk (n := 92) h92 (f0_92 G f)
  have h94 := allk (n := 93) h93 (f0_93 G f)
  have h95 := allk (n := 94) h94 (f0_94 G f)
  have h96 := allk (n := 95) h95 (f0_95 G f)
  have h97 := allk (n := 96) h96 (f0_96 G f)
  have h98 := allk (n := 97) h97 (f0_97 G f)
  have h99 := allk (n := 98) h98 (f0_98 G f)
  have h100 := allk (n := 99) h99 (f0_99 G f)
  have h101 := allk (n := 100) h100 (f0_100 G f)
  have h102 := allk (n := 101) h101 (f0_101 G f)
  have h103 := allk (n := 102) h102 (f0_102 G f)
  have h104 := allk (n := 103) h103 (f0_103 G f)
  have h105 := allk (n := 104) h104 (f0_104 G f)
  have h106 := allk (n := 105) h105 (f0_105 G f)
  have h107 := allk (n := 106) h106 (f0_106 G f)
  have h108 := allk (n := 107) h107 (f0_107 G f)
  have h109 := allk (n := 108) h108 (f0_108 G f)
  have h110 := allk (n := 109) h109 (f0_109 G f)
  have h111 := allk (n := 110) h110 (f0_110 G f)
  have h112 := allk (n := 111) h111 (f0_111 G f)
  have h113 := allk (n := 112) h112 (f0_112 G f)
  have h114 := allk (n := 113) h113 (f0_113 G f)
  have h115 := allk (n := 114) h114 (f0_114 G f)
  have h116 := allk (n := 115) h115 (f0_115 G f)
  have h117 := allk (n := 116) h116 (f0_116 G f)
  have h118 := allk (n := 117) h117 (f0_117 G f)
  have h119 := allk (n := 118) h118 (f0_118 G f)
  have h120 := allk (n := 119) h119 (f0_119 G f)
  have h121 := allk (n := 120) h120 (f0_120 G f)
  have h122 := allk (n := 121) h121 (f0_121 G f)
  have h123 := allk (n := 122) h122 (f0_122 G f)
  have h124 := allk (n := 123) h123 (f0_123 G f)
  have h125 := allk (n := 124) h124 (f0_124 G f)
  have h126 := allk (n := 125) h125 (f0_125 G f)
  have h127 := allk (n := 126) h126 (f0_126 G f)
  have h128 := allk (n := 127) h127 (f0_127 G f)
  have h129 := allk (n := 128) h128 (f0_128 G f)
  have h130 := allk (n := 129) h129 (f0_129 G f)
  have h131 := allk (n := 130) h130 (f0_130 G f)
  have h132 := allk (n := 131) h131 (f0_131 G f)
  have h133 := allk (n := 132) h132 (f0_132 G f)
  have h134 := allk (n := 133) h133 (f0_133 G f)
  have h135 := allk (n := 134) h134 (f0_134 G f)
  have h136 := allk (n := 135) h135 (f0_135 G f)
  exact h136
theorem f0_R {G : hG} {f : kM} {H : Heap} (h : kP G 136 (F0k G f) H) : hR G m0 H := by
  intro k q hq
  unfold hW at hq
  rw [List.getElem?_mapIdx] at hq
  cases hs : LY[k]? with
  | none => rw [hs] at hq; cases hq
  | some s =>
    rw [hs] at hq
    cases hq
    have hk : k < 136 := by rw [← LY_len]; exact (List.getElem?_eq_some_iff.mp hs).1
    show va_at _ _ (_, hC _ _ m0 k s) H
    rw [f0_all G f k hk s hs]
    exact h k hk
