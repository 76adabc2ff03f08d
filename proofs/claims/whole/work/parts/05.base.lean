/-! ===== the table of words that all methods share; the memory; the judgement Rf: from here the machine does what a function says ===== -/
/-- ints, longs, references that change: by the cell's number and the place in it -/
abbrev hM : Type := (Nat → Nat → Int32) × (Nat → Nat → Int64) × (Nat → Nat → Nat)
abbrev hKd : Type := Option Nat ⊕ Nat
abbrev hSh : Type := (Nat × List hKd) ⊕ ((Nat × Nat) ⊕ (Nat × List Nat))
abbrev hG : Type := Launch × va_G × (Nat → ClassId) × Nat × (Nat → Nat) × (Nat → Nat)
/-- where a method stands: the machine, its room, its start, its frame's bounds, what it has made, and what is wanted at its end -/
abbrev hX : Type := Program × Env × Room × State × MethodId × Array Value × List Frame × Method × Code × Nat × Nat × (Option Value → hM → State → Prop)

def LY : List hSh := [
  .inl (10, [.inl (some 1), .inl (some 18), .inl (some 25), .inl (some 28), .inl (some 32), .inl (some 34), .inl (some 41), .inl (some 46), .inl (some 55), .inl (some 64), .inl (some 65), .inl (some 66), .inl (some 68), .inr 0]),
  .inl (0, [.inl (some 2), .inl (some 3), .inl (some 4), .inl (some 5), .inr 0, .inr 0, .inr 0]),
  .inr (.inr (4, [6, 8, 10, 12, 14, 16])),
  .inr (.inl (0, 36)),
  .inr (.inl (0, 2560)),
  .inr (.inl (6, 240)),
  .inl (2, [.inr 0, .inr 0, .inr 0, .inr 0, .inr 0, .inr 0, .inr 0, .inr 0, .inl (some 7)]),
  .inr (.inl (1, 100)),
  .inl (2, [.inr 0, .inr 0, .inr 0, .inr 0, .inr 0, .inr 0, .inr 0, .inr 0, .inl (some 9)]),
  .inr (.inl (1, 100)),
  .inl (2, [.inr 0, .inr 0, .inr 0, .inr 0, .inr 0, .inr 0, .inr 0, .inr 0, .inl (some 11)]),
  .inr (.inl (1, 100)),
  .inl (2, [.inr 0, .inr 0, .inr 0, .inr 0, .inr 0, .inr 0, .inr 0, .inr 0, .inl (some 13)]),
  .inr (.inl (1, 100)),
  .inl (2, [.inr 0, .inr 0, .inr 0, .inr 0, .inr 0, .inr 0, .inr 0, .inr 0, .inl (some 15)]),
  .inr (.inl (1, 100)),
  .inl (2, [.inr 0, .inr 0, .inr 0, .inr 0, .inr 0, .inr 0, .inr 0, .inr 0, .inl (some 17)]),
  .inr (.inl (1, 100)),
  .inl (4, [.inl (some 19), .inl (some 20), .inl (some 21), .inl (some 22), .inl (some 23), .inl (some 24), .inr 0]),
  .inr (.inl (0, 8)),
  .inr (.inl (0, 8)),
  .inr (.inl (0, 8)),
  .inr (.inl (0, 8)),
  .inr (.inl (0, 8)),
  .inr (.inl (0, 8)),
  .inl (5, [.inl (some 26), .inr 0, .inl (some 27), .inr 0]),
  .inr (.inl (0, 40)),
  .inr (.inl (0, 40)),
  .inl (6, [.inl (some 29), .inr 0, .inl (some 30), .inr 0, .inr 0, .inl (some 31), .inr 0, .inr 0]),
  .inr (.inl (0, 40)),
  .inr (.inl (0, 40)),
  .inr (.inl (1, 6)),
  .inl (8, [.inl (some 1), .inl (some 18), .inl (some 25), .inr 0, .inr 0, .inr 0, .inl (some 33), .inr 0]),
  .inr (.inl (0, 6)),
  .inl (9, [.inl (some 1), .inl (some 35), .inl (some 36), .inl (some 37), .inr 0, .inr 0, .inl (some 38), .inl (some 39), .inl (some 40)]),
  .inr (.inl (0, 156)),
  .inr (.inl (0, 156)),
  .inr (.inl (0, 156)),
  .inr (.inl (0, 156)),
  .inr (.inl (0, 3255)),
  .inr (.inl (0, 36)),
  .inl (3, [.inl (some 42), .inl (some 43), .inl (some 44), .inl (some 45), .inr 0]),
  .inr (.inl (0, 9)),
  .inr (.inl (0, 9)),
  .inr (.inl (0, 9)),
  .inr (.inl (0, 9)),
  .inl (7, [.inr 0, .inr 0, .inr 0, .inl (some 47), .inl (some 48), .inl (some 49), .inl (some 50), .inl (some 51), .inl (some 52), .inl (some 53), .inr 0, .inl (some 54), .inr 0]),
  .inr (.inl (0, 8)),
  .inr (.inl (0, 8)),
  .inr (.inl (0, 8)),
  .inr (.inl (0, 8)),
  .inr (.inl (0, 8)),
  .inr (.inl (0, 8)),
  .inr (.inl (0, 8)),
  .inr (.inl (0, 60)),
  .inl (7, [.inr 0, .inr 0, .inr 0, .inl (some 56), .inl (some 57), .inl (some 58), .inl (some 59), .inl (some 60), .inl (some 61), .inl (some 62), .inr 0, .inl (some 63), .inr 0]),
  .inr (.inl (0, 8)),
  .inr (.inl (0, 8)),
  .inr (.inl (0, 8)),
  .inr (.inl (0, 8)),
  .inr (.inl (0, 8)),
  .inr (.inl (0, 8)),
  .inr (.inl (0, 8)),
  .inr (.inl (0, 60)),
  .inr (.inr (5, [69, 78, 87])),
  .inr (.inl (0, 3)),
  .inl (1, [.inl (some 67), .inr 0]),
  .inr (.inl (3, 11)),
  .inr (.inl (2, 60)),
  .inl (7, [.inr 0, .inr 0, .inr 0, .inl (some 70), .inl (some 71), .inl (some 72), .inl (some 73), .inl (some 74), .inl (some 75), .inl (some 76), .inr 0, .inl (some 77), .inr 0]),
  .inr (.inl (0, 8)),
  .inr (.inl (0, 8)),
  .inr (.inl (0, 8)),
  .inr (.inl (0, 8)),
  .inr (.inl (0, 8)),
  .inr (.inl (0, 8)),
  .inr (.inl (0, 8)),
  .inr (.inl (0, 60)),
  .inl (7, [.inr 0, .inr 0, .inr 0, .inl (some 79), .inl (some 80), .inl (some 81), .inl (some 82), .inl (some 83), .inl (some 84), .inl (some 85), .inr 0, .inl (some 86), .inr 0]),
  .inr (.inl (0, 8)),
  .inr (.inl (0, 8)),
  .inr (.inl (0, 8)),
  .inr (.inl (0, 8)),
  .inr (.inl (0, 8)),
  .inr (.inl (0, 8)),
  .inr (.inl (0, 8)),
  .inr (.inl (0, 60)),
  .inl (7, [.inr 0, .inr 0, .inr 0, .inl (some 88), .inl (some 89), .inl (some 90), .inl (some 91), .inl (some 92), .inl (some 93), .inl (some 94), .inr 0, .inl (some 95), .inr 0]),
  .inr (.inl (0, 8)),
  .inr (.inl (0, 8)),
  .inr (.inl (0, 8)),
  .inr (.inl (0, 8)),
  .inr (.inl (0, 8)),
  .inr (.inl (0, 8)),
  .inr (.inl (0, 8)),
  .inr (.inl (0, 60)),
  .inl (11, [.inr 0, .inr 0, .inl (some 97), .inr 0, .inl (some 98), .inl (some 99), .inl (some 100), .inl (some 101), .inl (some 102), .inl (some 103), .inl (some 104), .inl (some 105), .inl (some 106), .inl (some 107), .inr 0, .inr 0, .inr 0, .inl (some 108), .inl (some 109), .inl (some 110), .inl (some 111), .inl (some 112), .inl (some 113), .inl (some 114), .inl (some 115), .inl (some 116), .inl (some 117), .inl (some 118), .inl (some 119), .inr 0, .inr 0, .inr 0, .inr 0, .inl (some 120), .inr 0, .inr 0, .inr 0, .inr 0, .inr 2, .inr 2, .inl (some 123), .inr 0, .inr 0, .inr 2, .inr 2, .inr 1, .inr 0, .inr 0, .inl (some 126), .inl (some 127), .inr 0, .inl (some 128), .inl (some 129), .inl (some 130), .inl (some 131), .inl (some 132), .inl (some 133), .inl (some 134)]),
  .inr (.inl (3, 24)),
  .inr (.inl (0, 6)),
  .inr (.inl (0, 6)),
  .inr (.inl (0, 6)),
  .inr (.inl (0, 6)),
  .inr (.inl (0, 6)),
  .inr (.inl (0, 6)),
  .inr (.inl (0, 6)),
  .inr (.inl (0, 6)),
  .inr (.inl (1, 600)),
  .inr (.inl (0, 36)),
  .inr (.inl (0, 8)),
  .inr (.inl (0, 8)),
  .inr (.inl (0, 8)),
  .inr (.inl (0, 8)),
  .inr (.inl (0, 8)),
  .inr (.inl (0, 8)),
  .inr (.inl (0, 127)),
  .inr (.inl (0, 127)),
  .inr (.inl (0, 96)),
  .inr (.inl (0, 2)),
  .inr (.inl (0, 48)),
  .inr (.inl (0, 60)),
  .inr (.inl (0, 6)),
  .inr (.inl (0, 3072)),
  .inr (.inl (0, 3072)),
  .inr (.inl (0, 36)),
  .inr (.inl (3, 3072)),
  .inr (.inl (3, 3072)),
  .inr (.inl (0, 8)),
  .inr (.inl (0, 8)),
  .inr (.inl (0, 9)),
  .inr (.inl (0, 9)),
  .inr (.inl (0, 9)),
  .inr (.inl (0, 36)),
  .inr (.inl (3, 9)),
  .inr (.inl (0, 3)),
  .inr (.inl (0, 381)),
  .inr (.inl (3, 1))]
theorem LY_len : LY.length = 136 := by decide +kernel
theorem ly_0 : LY[0]? = some (.inl (10, [.inl (some 1), .inl (some 18), .inl (some 25), .inl (some 28), .inl (some 32), .inl (some 34), .inl (some 41), .inl (some 46), .inl (some 55), .inl (some 64), .inl (some 65), .inl (some 66), .inl (some 68), .inr 0])) := rfl
theorem ly_1 : LY[1]? = some (.inl (0, [.inl (some 2), .inl (some 3), .inl (some 4), .inl (some 5), .inr 0, .inr 0, .inr 0])) := rfl
theorem ly_2 : LY[2]? = some (.inr (.inr (4, [6, 8, 10, 12, 14, 16]))) := rfl
theorem ly_3 : LY[3]? = some (.inr (.inl (0, 36))) := rfl
theorem ly_4 : LY[4]? = some (.inr (.inl (0, 2560))) := rfl
theorem ly_5 : LY[5]? = some (.inr (.inl (6, 240))) := rfl
theorem ly_6 : LY[6]? = some (.inl (2, [.inr 0, .inr 0, .inr 0, .inr 0, .inr 0, .inr 0, .inr 0, .inr 0, .inl (some 7)])) := rfl
theorem ly_7 : LY[7]? = some (.inr (.inl (1, 100))) := rfl
theorem ly_8 : LY[8]? = some (.inl (2, [.inr 0, .inr 0, .inr 0, .inr 0, .inr 0, .inr 0, .inr 0, .inr 0, .inl (some 9)])) := rfl
theorem ly_9 : LY[9]? = some (.inr (.inl (1, 100))) := rfl
theorem ly_10 : LY[10]? = some (.inl (2, [.inr 0, .inr 0, .inr 0, .inr 0, .inr 0, .inr 0, .inr 0, .inr 0, .inl (some 11)])) := rfl
theorem ly_11 : LY[11]? = some (.inr (.inl (1, 100))) := rfl
theorem ly_12 : LY[12]? = some (.inl (2, [.inr 0, .inr 0, .inr 0, .inr 0, .inr 0, .inr 0, .inr 0, .inr 0, .inl (some 13)])) := rfl
theorem ly_13 : LY[13]? = some (.inr (.inl (1, 100))) := rfl
theorem ly_14 : LY[14]? = some (.inl (2, [.inr 0, .inr 0, .inr 0, .inr 0, .inr 0, .inr 0, .inr 0, .inr 0, .inl (some 15)])) := rfl
theorem ly_15 : LY[15]? = some (.inr (.inl (1, 100))) := rfl
theorem ly_16 : LY[16]? = some (.inl (2, [.inr 0, .inr 0, .inr 0, .inr 0, .inr 0, .inr 0, .inr 0, .inr 0, .inl (some 17)])) := rfl
theorem ly_17 : LY[17]? = some (.inr (.inl (1, 100))) := rfl
theorem ly_18 : LY[18]? = some (.inl (4, [.inl (some 19), .inl (some 20), .inl (some 21), .inl (some 22), .inl (some 23), .inl (some 24), .inr 0])) := rfl
theorem ly_19 : LY[19]? = some (.inr (.inl (0, 8))) := rfl
theorem ly_20 : LY[20]? = some (.inr (.inl (0, 8))) := rfl
theorem ly_21 : LY[21]? = some (.inr (.inl (0, 8))) := rfl
theorem ly_22 : LY[22]? = some (.inr (.inl (0, 8))) := rfl
theorem ly_23 : LY[23]? = some (.inr (.inl (0, 8))) := rfl
theorem ly_24 : LY[24]? = some (.inr (.inl (0, 8))) := rfl
theorem ly_25 : LY[25]? = some (.inl (5, [.inl (some 26), .inr 0, .inl (some 27), .inr 0])) := rfl
theorem ly_26 : LY[26]? = some (.inr (.inl (0, 40))) := rfl
theorem ly_27 : LY[27]? = some (.inr (.inl (0, 40))) := rfl
theorem ly_28 : LY[28]? = some (.inl (6, [.inl (some 29), .inr 0, .inl (some 30), .inr 0, .inr 0, .inl (some 31), .inr 0, .inr 0])) := rfl
theorem ly_29 : LY[29]? = some (.inr (.inl (0, 40))) := rfl
theorem ly_30 : LY[30]? = some (.inr (.inl (0, 40))) := rfl
theorem ly_31 : LY[31]? = some (.inr (.inl (1, 6))) := rfl
theorem ly_32 : LY[32]? = some (.inl (8, [.inl (some 1), .inl (some 18), .inl (some 25), .inr 0, .inr 0, .inr 0, .inl (some 33), .inr 0])) := rfl
theorem ly_33 : LY[33]? = some (.inr (.inl (0, 6))) := rfl
theorem ly_34 : LY[34]? = some (.inl (9, [.inl (some 1), .inl (some 35), .inl (some 36), .inl (some 37), .inr 0, .inr 0, .inl (some 38), .inl (some 39), .inl (some 40)])) := rfl
theorem ly_35 : LY[35]? = some (.inr (.inl (0, 156))) := rfl
theorem ly_36 : LY[36]? = some (.inr (.inl (0, 156))) := rfl
theorem ly_37 : LY[37]? = some (.inr (.inl (0, 156))) := rfl
theorem ly_38 : LY[38]? = some (.inr (.inl (0, 156))) := rfl
theorem ly_39 : LY[39]? = some (.inr (.inl (0, 3255))) := rfl
theorem ly_40 : LY[40]? = some (.inr (.inl (0, 36))) := rfl
theorem ly_41 : LY[41]? = some (.inl (3, [.inl (some 42), .inl (some 43), .inl (some 44), .inl (some 45), .inr 0])) := rfl
theorem ly_42 : LY[42]? = some (.inr (.inl (0, 9))) := rfl
theorem ly_43 : LY[43]? = some (.inr (.inl (0, 9))) := rfl
theorem ly_44 : LY[44]? = some (.inr (.inl (0, 9))) := rfl
theorem ly_45 : LY[45]? = some (.inr (.inl (0, 9))) := rfl
theorem ly_46 : LY[46]? = some (.inl (7, [.inr 0, .inr 0, .inr 0, .inl (some 47), .inl (some 48), .inl (some 49), .inl (some 50), .inl (some 51), .inl (some 52), .inl (some 53), .inr 0, .inl (some 54), .inr 0])) := rfl
theorem ly_47 : LY[47]? = some (.inr (.inl (0, 8))) := rfl
theorem ly_48 : LY[48]? = some (.inr (.inl (0, 8))) := rfl
theorem ly_49 : LY[49]? = some (.inr (.inl (0, 8))) := rfl
theorem ly_50 : LY[50]? = some (.inr (.inl (0, 8))) := rfl
theorem ly_51 : LY[51]? = some (.inr (.inl (0, 8))) := rfl
theorem ly_52 : LY[52]? = some (.inr (.inl (0, 8))) := rfl
theorem ly_53 : LY[53]? = some (.inr (.inl (0, 8))) := rfl
theorem ly_54 : LY[54]? = some (.inr (.inl (0, 60))) := rfl
theorem ly_55 : LY[55]? = some (.inl (7, [.inr 0, .inr 0, .inr 0, .inl (some 56), .inl (some 57), .inl (some 58), .inl (some 59), .inl (some 60), .inl (some 61), .inl (some 62), .inr 0, .inl (some 63), .inr 0])) := rfl
theorem ly_56 : LY[56]? = some (.inr (.inl (0, 8))) := rfl
theorem ly_57 : LY[57]? = some (.inr (.inl (0, 8))) := rfl
theorem ly_58 : LY[58]? = some (.inr (.inl (0, 8))) := rfl
theorem ly_59 : LY[59]? = some (.inr (.inl (0, 8))) := rfl
theorem ly_60 : LY[60]? = some (.inr (.inl (0, 8))) := rfl
theorem ly_61 : LY[61]? = some (.inr (.inl (0, 8))) := rfl
theorem ly_62 : LY[62]? = some (.inr (.inl (0, 8))) := rfl
theorem ly_63 : LY[63]? = some (.inr (.inl (0, 60))) := rfl
theorem ly_64 : LY[64]? = some (.inr (.inr (5, [69, 78, 87]))) := rfl
theorem ly_65 : LY[65]? = some (.inr (.inl (0, 3))) := rfl
theorem ly_66 : LY[66]? = some (.inl (1, [.inl (some 67), .inr 0])) := rfl
theorem ly_67 : LY[67]? = some (.inr (.inl (3, 11))) := rfl
theorem ly_68 : LY[68]? = some (.inr (.inl (2, 60))) := rfl
theorem ly_69 : LY[69]? = some (.inl (7, [.inr 0, .inr 0, .inr 0, .inl (some 70), .inl (some 71), .inl (some 72), .inl (some 73), .inl (some 74), .inl (some 75), .inl (some 76), .inr 0, .inl (some 77), .inr 0])) := rfl
theorem ly_70 : LY[70]? = some (.inr (.inl (0, 8))) := rfl
theorem ly_71 : LY[71]? = some (.inr (.inl (0, 8))) := rfl
theorem ly_72 : LY[72]? = some (.inr (.inl (0, 8))) := rfl
theorem ly_73 : LY[73]? = some (.inr (.inl (0, 8))) := rfl
theorem ly_74 : LY[74]? = some (.inr (.inl (0, 8))) := rfl
theorem ly_75 : LY[75]? = some (.inr (.inl (0, 8))) := rfl
theorem ly_76 : LY[76]? = some (.inr (.inl (0, 8))) := rfl
theorem ly_77 : LY[77]? = some (.inr (.inl (0, 60))) := rfl
theorem ly_78 : LY[78]? = some (.inl (7, [.inr 0, .inr 0, .inr 0, .inl (some 79), .inl (some 80), .inl (some 81), .inl (some 82), .inl (some 83), .inl (some 84), .inl (some 85), .inr 0, .inl (some 86), .inr 0])) := rfl
theorem ly_79 : LY[79]? = some (.inr (.inl (0, 8))) := rfl
theorem ly_80 : LY[80]? = some (.inr (.inl (0, 8))) := rfl
theorem ly_81 : LY[81]? = some (.inr (.inl (0, 8))) := rfl
theorem ly_82 : LY[82]? = some (.inr (.inl (0, 8))) := rfl
theorem ly_83 : LY[83]? = some (.inr (.inl (0, 8))) := rfl
theorem ly_84 : LY[84]? = some (.inr (.inl (0, 8))) := rfl
theorem ly_85 : LY[85]? = some (.inr (.inl (0, 8))) := rfl
theorem ly_86 : LY[86]? = some (.inr (.inl (0, 60))) := rfl
theorem ly_87 : LY[87]? = some (.inl (7, [.inr 0, .inr 0, .inr 0, .inl (some 88), .inl (some 89), .inl (some 90), .inl (some 91), .inl (some 92), .inl (some 93), .inl (some 94), .inr 0, .inl (some 95), .inr 0])) := rfl
theorem ly_88 : LY[88]? = some (.inr (.inl (0, 8))) := rfl
theorem ly_89 : LY[89]? = some (.inr (.inl (0, 8))) := rfl
theorem ly_90 : LY[90]? = some (.inr (.inl (0, 8))) := rfl
theorem ly_91 : LY[91]? = some (.inr (.inl (0, 8))) := rfl
theorem ly_92 : LY[92]? = some (.inr (.inl (0, 8))) := rfl
theorem ly_93 : LY[93]? = some (.inr (.inl (0, 8))) := rfl
theorem ly_94 : LY[94]? = some (.inr (.inl (0, 8))) := rfl
theorem ly_95 : LY[95]? = some (.inr (.inl (0, 60))) := rfl
theorem ly_96 : LY[96]? = some (.inl (11, [.inr 0, .inr 0, .inl (some 97), .inr 0, .inl (some 98), .inl (some 99), .inl (some 100), .inl (some 101), .inl (some 102), .inl (some 103), .inl (some 104), .inl (some 105), .inl (some 106), .inl (some 107), .inr 0, .inr 0, .inr 0, .inl (some 108), .inl (some 109), .inl (some 110), .inl (some 111), .inl (some 112), .inl (some 113), .inl (some 114), .inl (some 115), .inl (some 116), .inl (some 117), .inl (some 118), .inl (some 119), .inr 0, .inr 0, .inr 0, .inr 0, .inl (some 120), .inr 0, .inr 0, .inr 0, .inr 0, .inr 2, .inr 2, .inl (some 123), .inr 0, .inr 0, .inr 2, .inr 2, .inr 1, .inr 0, .inr 0, .inl (some 126), .inl (some 127), .inr 0, .inl (some 128), .inl (some 129), .inl (some 130), .inl (some 131), .inl (some 132), .inl (some 133), .inl (some 134)])) := rfl
theorem ly_97 : LY[97]? = some (.inr (.inl (3, 24))) := rfl
theorem ly_98 : LY[98]? = some (.inr (.inl (0, 6))) := rfl
theorem ly_99 : LY[99]? = some (.inr (.inl (0, 6))) := rfl
theorem ly_100 : LY[100]? = some (.inr (.inl (0, 6))) := rfl
theorem ly_101 : LY[101]? = some (.inr (.inl (0, 6))) := rfl
theorem ly_102 : LY[102]? = some (.inr (.inl (0, 6))) := rfl
theorem ly_103 : LY[103]? = some (.inr (.inl (0, 6))) := rfl
theorem ly_104 : LY[104]? = some (.inr (.inl (0, 6))) := rfl
theorem ly_105 : LY[105]? = some (.inr (.inl (0, 6))) := rfl
theorem ly_106 : LY[106]? = some (.inr (.inl (1, 600))) := rfl
theorem ly_107 : LY[107]? = some (.inr (.inl (0, 36))) := rfl
theorem ly_108 : LY[108]? = some (.inr (.inl (0, 8))) := rfl
theorem ly_109 : LY[109]? = some (.inr (.inl (0, 8))) := rfl
theorem ly_110 : LY[110]? = some (.inr (.inl (0, 8))) := rfl
theorem ly_111 : LY[111]? = some (.inr (.inl (0, 8))) := rfl
theorem ly_112 : LY[112]? = some (.inr (.inl (0, 8))) := rfl
theorem ly_113 : LY[113]? = some (.inr (.inl (0, 8))) := rfl
theorem ly_114 : LY[114]? = some (.inr (.inl (0, 127))) := rfl
theorem ly_115 : LY[115]? = some (.inr (.inl (0, 127))) := rfl
theorem ly_116 : LY[116]? = some (.inr (.inl (0, 96))) := rfl
theorem ly_117 : LY[117]? = some (.inr (.inl (0, 2))) := rfl
theorem ly_118 : LY[118]? = some (.inr (.inl (0, 48))) := rfl
theorem ly_119 : LY[119]? = some (.inr (.inl (0, 60))) := rfl
theorem ly_120 : LY[120]? = some (.inr (.inl (0, 6))) := rfl
theorem ly_121 : LY[121]? = some (.inr (.inl (0, 3072))) := rfl
theorem ly_122 : LY[122]? = some (.inr (.inl (0, 3072))) := rfl
theorem ly_123 : LY[123]? = some (.inr (.inl (0, 36))) := rfl
theorem ly_124 : LY[124]? = some (.inr (.inl (3, 3072))) := rfl
theorem ly_125 : LY[125]? = some (.inr (.inl (3, 3072))) := rfl
theorem ly_126 : LY[126]? = some (.inr (.inl (0, 8))) := rfl
theorem ly_127 : LY[127]? = some (.inr (.inl (0, 8))) := rfl
theorem ly_128 : LY[128]? = some (.inr (.inl (0, 9))) := rfl
theorem ly_129 : LY[129]? = some (.inr (.inl (0, 9))) := rfl
theorem ly_130 : LY[130]? = some (.inr (.inl (0, 9))) := rfl
theorem ly_131 : LY[131]? = some (.inr (.inl (0, 36))) := rfl
theorem ly_132 : LY[132]? = some (.inr (.inl (3, 9))) := rfl
theorem ly_133 : LY[133]? = some (.inr (.inl (0, 3))) := rfl
theorem ly_134 : LY[134]? = some (.inr (.inl (0, 381))) := rfl
theorem ly_135 : LY[135]? = some (.inr (.inl (3, 1))) := rfl
def gI (m : hM) (k j : Nat) : Int32 := m.1 k j
def gL (m : hM) (k j : Nat) : Int64 := m.2.1 k j
def gR (m : hM) (k j : Nat) : Nat := m.2.2 k j
def sI (m : hM) (k j : Nat) (v : Int32) : hM := (fun a b => if a = k ∧ b = j then v else m.1 a b, m.2.1, m.2.2)
def sL (m : hM) (k j : Nat) (v : Int64) : hM := (m.1, fun a b => if a = k ∧ b = j then v else m.2.1 a b, m.2.2)
def sR (m : hM) (k j : Nat) (v : Nat) : hM := (m.1, m.2.1, fun a b => if a = k ∧ b = j then v else m.2.2 a b)
/-- n ints from place sp of cell a to place dp of cell b -/
def cpI (m : hM) (a sp b dp n : Nat) : hM := (fun x y => if x = b then va_cpy (m.1 a) (m.1 b) sp dp n y else m.1 x y, m.2.1, m.2.2)
/-- a long out of two ints, and its two halves: the cell of shape 6 is an array of longs that the memory holds as ints, two a long -/
def jn (lo hi : Int32) : Int64 := Int64.ofBitVec (hi.toBitVec ++ lo.toBitVec)
def jLo (v : Int64) : Int32 := Int32.ofBitVec (v.toBitVec.extractLsb' 0 32)
def jHi (v : Int64) : Int32 := Int32.ofBitVec (v.toBitVec.extractLsb' 32 32)
def gH (m : hM) (k j : Nat) : Int64 := jn (gI m k (2 * j)) (gI m k (2 * j + 1))
def sH (m : hM) (k j : Nat) (v : Int64) : hM := sI (sI m k (2 * j) (jLo v)) k (2 * j + 1) (jHi v)
theorem jn_lohi (v : Int64) : jn (jLo v) (jHi v) = v := by
  apply Int64.toBitVec_inj.mp
  apply BitVec.eq_of_getLsbD_eq
  intro i hi
  show ((v.toBitVec.extractLsb' 32 32) ++ (v.toBitVec.extractLsb' 0 32) : BitVec (32 + 32)).getLsbD i = v.toBitVec.getLsbD i
  rw [BitVec.getLsbD_append]
  by_cases c : i < 32
  · simp [c, BitVec.getLsbD_extractLsb']
  · simp [c, BitVec.getLsbD_extractLsb', show i - 32 < 32 by omega, show 32 + (i - 32) = i by omega]
def hV (base : Nat) (m : hM) (k j : Nat) (q : hKd) : Value := match q with
  | .inl r => va_rf (r.map (fun z => base + z))
  | .inr 0 => .int (gI m k j)
  | .inr 1 => .long (gL m k j)
  | .inr _ => .ref (base + gR m k j)
def hC (cy : Nat → ClassId) (base : Nat) (m : hM) (k : Nat) (s : hSh) : va_E := match s with
  | .inl (ci, ks) => .inr (ci, ks.mapIdx (fun j q => hV base m k j q))
  | .inr (.inl (ty, n)) => .inl (cy (if ty = 6 then 3 else ty), n, if ty = 3 then .inr (.inl (gL m k)) else if ty = 6 then .inr (.inl (gH m k)) else .inl (gI m k))
  | .inr (.inr (ty, rs)) => .inl (cy ty, rs.length, .inr (.inr (.inr (.inr (fun j => (rs[j]?).map (fun z => base + z))))))
def hW (G : hG) (m : hM) : va_W := LY.mapIdx (fun k s => (G.2.2.2.1 + k, hC G.2.2.1 G.2.2.2.1 m k s))
def hR (G : hG) (m : hM) (H : Heap) : Prop := va_P G.2.1 vwCl (hW G m) H
def hA (G : hG) (k : Nat) : Value := .ref (G.2.2.2.1 + k)
def hT (cy : Nat → ClassId) : List (ClassId × FieldType) := [(cy 0, .int), (cy 1, .boolean), (cy 2, .char), (cy 3, .long), (cy 4, .object RX2), (cy 5, .object RX7)]
def rmD (d : Nat) : Room := { frames := d, cells := 0, slots := 0, locals := 60 * d }
def hQ (G : hG) (v : Option Value) (m' : hM) : Array Value → State → Outcome → State → Prop := fun _ st o t => o = .returned v ∧ hR G m' t.heap ∧ va_F (fun q => G.2.2.2.1 ≤ q) st t
/-- what every method knows of the tables and of what lies below the law's own cells -/
def hKK (G : hG) (U : State) (H : Heap) : Prop := va_K G.2.1 vwCl (hT G.2.2.1) U ∧ (∀ w ∈ hNs, va_Nw w U)
theorem hNs_m : ∀ w ∈ hNs, ∃ (a : String) (i : Nat) (x : MethodName) (h : String), w = .methodLinkNest a i x h := by
  intro w hw
  simp only [hNs, List.mem_cons, List.not_mem_nil, or_false] at hw
  rcases hw with rfl | rfl | rfl | rfl | rfl | rfl | rfl | rfl <;> exact ⟨_, _, _, _, rfl⟩
theorem hKK.warm {G : hG} {s U : State} {H : Heap} (hW : s.WarmedH U.vm) (h : hKK G s H) : hKK G U H := by
  refine ⟨va_K.moved hW.alike h.1, fun w hw => ?_⟩
  obtain ⟨a, i, x, b, rfl⟩ := hNs_m w hw
  exact va_Nw.warmM hW (h.2 _ hw)
theorem hKK.same {G : hG} {s U : State} {H : Heap} (hv : s.vm = U.vm) (h : hKK G s H) : hKK G U H := by
  refine ⟨va_K.moved (by rw [hv]; exact Vm.Alike.refl _) h.1, fun w hw => ?_⟩
  obtain ⟨a, i, x, b, rfl⟩ := hNs_m w hw
  exact va_Nw.same rfl hv (h.2 _ hw)
theorem hKK.kept {G : hG} {s : State} {H H1 : Heap} (h : hKK G s H) (hq : ∀ q : Nat, q < H.size → ¬ G.2.2.2.1 ≤ q → H1[q]? = H[q]?) : hKK G s H1 := h
def Rf {α : Type} (vl : α → Option Value) (G : hG) (X : hX) (pc : Nat) (lv : List (Nat × Value)) (st : List Value) (m : hM) (E : Option (α × hM)) : Prop :=
  match X with
  | (p, e, R, s, mt, args, below, meth, c, cs, sl, Qp) => ∀ (ls : Array Slot) (H : Heap) (locs : List Loc) (a : α) (m' : hM), lv_has ls c.maxLocals lv → hR G m H → va_S (fun q => G.2.2.2.1 ≤ q) s.heap H locs → E = some (a, m') →
    W p G.1 e R s mt args below meth c H locs cs sl (Qp (vl a) m') (F0 mt pc ls st)
def Cx (G : hG) (X : hX) (d : Nat) (cc : ByteArray) (nL : Nat) (own : String) (ret : Option FieldType) : Prop :=
  match X with
  | (p, e, R, s, mt, args, below, meth, c, cs, sl, Qp) => p.tables.exec = Jvm.exec ∧ c.code = cc ∧ c.maxLocals = nL ∧ s.vm.findClass own = some mt.cls ∧ (∀ w ∈ lw_tb, w.before args s = true) ∧ hKK G s s.heap ∧ meth.sig.returnType = ret ∧ meth.locks = false ∧ (d ≤ R.frames ∧ 60 * d ≤ R.locals ∧ cs ≤ R.cells ∧ sl ≤ R.slots)
/-- what is wanted at a method's end: as its contract says -/
def Cr (G : hG) (X : hX) : Prop :=
  match X with
  | (p, e, R, s, mt, args, below, meth, c, cs, sl, Qp) => cs = 0 ∧ sl = 0 ∧ Qp = fun v m' => MQ below (hQ G v m') args s 0 0 (fun q => G.2.2.2.1 ≤ q)
/-- a method's contract: if the function answers, the method does, with that memory -/
def Mt {α : Type} (vl : α → Option Value) (G : hG) (d : Nat) (y : MethodName) (bytes : ByteArray) (maxL : Nat) (ret : Option FieldType) (av : List Value) (m : hM) (E : Option (α × hM)) : Prop :=
  ∀ (a : α) (m' : hM), E = some (a, m') → Met G.1 y (Cond.code y bytes maxL ret :: lw_tb) (rmD d) (va_Pc av (fun U => hR G m U.heap ∧ hKK G U U.heap)) (hQ G (vl a) m') 0 0 (fun q => G.2.2.2.1 ≤ q)
/-- a name for a value; a call and what follows -/
def hLet {α β : Type} (x : α) (f : α → β) : β := f x
def hBd {α β : Type} (e : Option (β × hM)) (F : β → hM → Option (α × hM)) : Option (α × hM) := e.bind (fun x => F x.1 x.2)
def shS (s : Nat) : hSh := .inl (7, [.inr 0, .inr 0, .inr 0, .inl (some (s + 1)), .inl (some (s + 2)), .inl (some (s + 3)), .inl (some (s + 4)), .inl (some (s + 5)), .inl (some (s + 6)), .inl (some (s + 7)), .inr 0, .inl (some (s + 8)), .inr 0])
def shO (a : Nat) : hSh := .inl (2, [.inr 0, .inr 0, .inr 0, .inr 0, .inr 0, .inr 0, .inr 0, .inr 0, .inl (some (a + 1))])
def vI (v : Int32) : Option Value := some (.int v)
def vJ (v : Int64) : Option Value := some (.long v)
def vU (_ : Unit) : Option Value := none
def vA (G : hG) (k : Nat) : Option Value := some (hA G k)
/-- an index within n places -/
abbrev hIn (i : Int32) (n : Nat) : Prop := 0 ≤ i.toInt ∧ i.toInt < n
theorem hIn_vp {i : Int32} {n : Nat} (h : hIn i n) : vp_in i n := vp_in_iff.mpr h

theorem hW_get {G : hG} {m : hM} {k : Nat} {s : hSh} (h : LY[k]? = some s) : (hW G m)[k]? = some (G.2.2.2.1 + k, hC G.2.2.1 G.2.2.2.1 m k s) := by
  unfold hW
  rw [List.getElem?_mapIdx, h]
  rfl
theorem hW_D (G : hG) (m : hM) : va_D (fun q => G.2.2.2.1 ≤ q) (hW G m) := by
  have key : ∀ (i : Nat) (p : Nat × va_E), (hW G m)[i]? = some p → p.1 = G.2.2.2.1 + i := by
    intro i p h
    unfold hW at h
    rw [List.getElem?_mapIdx] at h
    cases hs : LY[i]? with
    | none => rw [hs] at h; cases h
    | some s => rw [hs] at h; cases h; rfl
  refine ⟨fun i j p q hi hj h => ?_, fun k q h => ?_⟩
  · have h1 := key i p hi
    have h2 := key j q hj
    omega
  · show G.2.2.2.1 ≤ q.1
    rw [key k q h]
    exact Nat.le_add_right _ _
theorem hC_off {cy : Nat → ClassId} {base : Nat} {m m' : hM} {k : Nat} {s : hSh} (h1 : m'.1 k = m.1 k) (h2 : m'.2.1 k = m.2.1 k) (h3 : m'.2.2 k = m.2.2 k) : hC cy base m' k s = hC cy base m k s := by
  have e1 : gI m' k = gI m k := h1
  have e2 : gL m' k = gL m k := h2
  have e3 : gR m' k = gR m k := h3
  rcases s with ⟨ci, ks⟩ | ⟨ty, n⟩ | ⟨ty, rs⟩
  · show Sum.inr (ci, ks.mapIdx (fun j q => hV base m' k j q)) = Sum.inr (ci, ks.mapIdx (fun j q => hV base m k j q))
    have : (fun (j : Nat) (q : hKd) => hV base m' k j q) = fun j q => hV base m k j q := by
      funext j q
      unfold hV
      rw [e1, e2, e3]
    rw [this]
  · have e4 : gH m' k = gH m k := by funext j; unfold gH; rw [e1]
    show Sum.inl (cy (if ty = 6 then 3 else ty), n, if ty = 3 then Sum.inr (Sum.inl (gL m' k)) else if ty = 6 then Sum.inr (Sum.inl (gH m' k)) else Sum.inl (gI m' k)) = Sum.inl (cy (if ty = 6 then 3 else ty), n, if ty = 3 then Sum.inr (Sum.inl (gL m k)) else if ty = 6 then Sum.inr (Sum.inl (gH m k)) else Sum.inl (gI m k))
    rw [e1, e2, e4]
  · rfl
theorem hW_set {G : hG} {m m' : hM} {k : Nat} {s : hSh} (h : LY[k]? = some s) (ho : ∀ j, j ≠ k → m'.1 j = m.1 j ∧ m'.2.1 j = m.2.1 j ∧ m'.2.2 j = m.2.2 j) : (hW G m).set k (G.2.2.2.1 + k, hC G.2.2.1 G.2.2.2.1 m' k s) = hW G m' := by
  apply List.ext_getElem?
  intro i
  have hl : k < (hW G m).length := by unfold hW; rw [List.length_mapIdx]; exact (List.getElem?_eq_some_iff.mp h).1
  by_cases hi : i = k
  · subst hi
    rw [List.getElem?_set_self hl, hW_get h]
  · rw [List.getElem?_set_ne (Ne.symm hi)]
    unfold hW
    rw [List.getElem?_mapIdx, List.getElem?_mapIdx]
    cases hs : LY[i]? with
    | none => rfl
    | some s' =>
      show some (G.2.2.2.1 + i, hC G.2.2.1 G.2.2.2.1 m i s') = some (G.2.2.2.1 + i, hC G.2.2.1 G.2.2.2.1 m' i s')
      rw [hC_off (ho i hi).1 (ho i hi).2.1 (ho i hi).2.2]
theorem mapIdx_set {ks : List hKd} {j : Nat} {v : Value} {f g : Nat → hKd → Value} (hj : ∀ q, ks[j]? = some q → g j q = v) (ho : ∀ i q, i ≠ j → g i q = f i q) : (ks.mapIdx f).set j v = ks.mapIdx g := by
  apply List.ext_getElem?
  intro i
  rw [List.getElem?_mapIdx]
  by_cases hi : i = j
  · subst hi
    cases hq : ks[i]? with
    | none =>
      have : (ks.mapIdx f)[i]? = none := by rw [List.getElem?_mapIdx, hq]; rfl
      rw [List.getElem?_set_self', this]
      rfl
    | some q =>
      have hl : i < (ks.mapIdx f).length := by rw [List.length_mapIdx]; exact (List.getElem?_eq_some_iff.mp hq).1
      rw [List.getElem?_set_self hl]
      show some v = some (g i q)
      rw [hj q hq]
  · rw [List.getElem?_set_ne (Ne.symm hi), List.getElem?_mapIdx]
    cases hq : ks[i]? with
    | none => rfl
    | some q =>
      show some (f i q) = some (g i q)
      rw [ho i q hi]
theorem gI_sI (m : hM) (k j : Nat) (v : Int32) (a b : Nat) : gI (sI m k j v) a b = if a = k ∧ b = j then v else gI m a b := rfl
theorem gI_sL (m : hM) (k j : Nat) (v : Int64) (a b : Nat) : gI (sL m k j v) a b = gI m a b := rfl
theorem gI_sR (m : hM) (k j : Nat) (v : Nat) (a b : Nat) : gI (sR m k j v) a b = gI m a b := rfl
theorem gI_sH (m : hM) (k j : Nat) (v : Int64) (a b : Nat) : gI (sH m k j v) a b = if a = k ∧ b = 2 * j + 1 then jHi v else if a = k ∧ b = 2 * j then jLo v else gI m a b := rfl
theorem gL_sH (m : hM) (k j : Nat) (v : Int64) (a b : Nat) : gL (sH m k j v) a b = gL m a b := rfl
theorem gR_sH (m : hM) (k j : Nat) (v : Int64) (a b : Nat) : gR (sH m k j v) a b = gR m a b := rfl
theorem gH_sH (m : hM) (k j : Nat) (v : Int64) (b : Nat) : gH (sH m k j v) k b = if b = j then v else gH m k b := by
  unfold gH
  rw [gI_sH, gI_sH]
  by_cases c : b = j
  · subst c
    rw [if_pos rfl, if_neg (by omega), if_pos ⟨rfl, rfl⟩, if_pos ⟨rfl, rfl⟩, jn_lohi]
  · rw [if_neg c, if_neg (by omega), if_neg (by omega), if_neg (by omega), if_neg (by omega)]
theorem gL_sI (m : hM) (k j : Nat) (v : Int32) (a b : Nat) : gL (sI m k j v) a b = gL m a b := rfl
theorem gL_sL (m : hM) (k j : Nat) (v : Int64) (a b : Nat) : gL (sL m k j v) a b = if a = k ∧ b = j then v else gL m a b := rfl
theorem gL_sR (m : hM) (k j : Nat) (v : Nat) (a b : Nat) : gL (sR m k j v) a b = gL m a b := rfl
theorem gR_sI (m : hM) (k j : Nat) (v : Int32) (a b : Nat) : gR (sI m k j v) a b = gR m a b := rfl
theorem gR_sL (m : hM) (k j : Nat) (v : Int64) (a b : Nat) : gR (sL m k j v) a b = gR m a b := rfl
theorem gR_sR (m : hM) (k j : Nat) (v : Nat) (a b : Nat) : gR (sR m k j v) a b = if a = k ∧ b = j then v else gR m a b := rfl

section RFR
variable {α : Type} {vl : α → Option Value} {G : hG} {X : hX} {d : Nat} {cc : ByteArray} {nL : Nat} {own : String} {ret : Option FieldType} {pc n : Nat} {lv : List (Nat × Value)} {st : List Value} {m : hM} {E E1 E2 : Option (α × hM)}
theorem rf_iadd (C : Cx G X d cc nL own ret) {x y : Int32} (hd : decode cc pc = .ok (.iadd, 1)) (hn : pc + 1 = n) (k : Rf vl G X n lv (.int (x + y) :: st) m E) : Rf vl G X pc lv (.int y :: .int x :: st) m E := by
  obtain ⟨p, e, R, s, mt, args, below, meth, c, cs, sl, Qp⟩ := X
  obtain ⟨hx, hb, hml, how, hts, hK, hr, hlk, hR⟩ := C
  subst hn
  intro ls H locs a m' hl hh hS hE
  exact lv_iadd hx hb hd (k ls H locs a m' hl hh hS hE)
theorem rf_isub (C : Cx G X d cc nL own ret) {x y : Int32} (hd : decode cc pc = .ok (.isub, 1)) (hn : pc + 1 = n) (k : Rf vl G X n lv (.int (x - y) :: st) m E) : Rf vl G X pc lv (.int y :: .int x :: st) m E := by
  obtain ⟨p, e, R, s, mt, args, below, meth, c, cs, sl, Qp⟩ := X
  obtain ⟨hx, hb, hml, how, hts, hK, hr, hlk, hR⟩ := C
  subst hn
  intro ls H locs a m' hl hh hS hE
  exact lv_isub hx hb hd (k ls H locs a m' hl hh hS hE)
theorem rf_imul (C : Cx G X d cc nL own ret) {x y : Int32} (hd : decode cc pc = .ok (.imul, 1)) (hn : pc + 1 = n) (k : Rf vl G X n lv (.int (x * y) :: st) m E) : Rf vl G X pc lv (.int y :: .int x :: st) m E := by
  obtain ⟨p, e, R, s, mt, args, below, meth, c, cs, sl, Qp⟩ := X
  obtain ⟨hx, hb, hml, how, hts, hK, hr, hlk, hR⟩ := C
  subst hn
  intro ls H locs a m' hl hh hS hE
  exact lv_imul hx hb hd (k ls H locs a m' hl hh hS hE)
theorem rf_iand (C : Cx G X d cc nL own ret) {x y : Int32} (hd : decode cc pc = .ok (.iand, 1)) (hn : pc + 1 = n) (k : Rf vl G X n lv (.int (x &&& y) :: st) m E) : Rf vl G X pc lv (.int y :: .int x :: st) m E := by
  obtain ⟨p, e, R, s, mt, args, below, meth, c, cs, sl, Qp⟩ := X
  obtain ⟨hx, hb, hml, how, hts, hK, hr, hlk, hR⟩ := C
  subst hn
  intro ls H locs a m' hl hh hS hE
  exact lv_iand hx hb hd (k ls H locs a m' hl hh hS hE)
theorem rf_ior (C : Cx G X d cc nL own ret) {x y : Int32} (hd : decode cc pc = .ok (.ior, 1)) (hn : pc + 1 = n) (k : Rf vl G X n lv (.int (x ||| y) :: st) m E) : Rf vl G X pc lv (.int y :: .int x :: st) m E := by
  obtain ⟨p, e, R, s, mt, args, below, meth, c, cs, sl, Qp⟩ := X
  obtain ⟨hx, hb, hml, how, hts, hK, hr, hlk, hR⟩ := C
  subst hn
  intro ls H locs a m' hl hh hS hE
  exact lv_ior hx hb hd (k ls H locs a m' hl hh hS hE)
theorem rf_ixor (C : Cx G X d cc nL own ret) {x y : Int32} (hd : decode cc pc = .ok (.ixor, 1)) (hn : pc + 1 = n) (k : Rf vl G X n lv (.int (x ^^^ y) :: st) m E) : Rf vl G X pc lv (.int y :: .int x :: st) m E := by
  obtain ⟨p, e, R, s, mt, args, below, meth, c, cs, sl, Qp⟩ := X
  obtain ⟨hx, hb, hml, how, hts, hK, hr, hlk, hR⟩ := C
  subst hn
  intro ls H locs a m' hl hh hS hE
  exact lv_ixor hx hb hd (k ls H locs a m' hl hh hS hE)
theorem rf_ladd (C : Cx G X d cc nL own ret) {x y : Int64} (hd : decode cc pc = .ok (.ladd, 1)) (hn : pc + 1 = n) (k : Rf vl G X n lv (.long (x + y) :: st) m E) : Rf vl G X pc lv (.long y :: .long x :: st) m E := by
  obtain ⟨p, e, R, s, mt, args, below, meth, c, cs, sl, Qp⟩ := X
  obtain ⟨hx, hb, hml, how, hts, hK, hr, hlk, hR⟩ := C
  subst hn
  intro ls H locs a m' hl hh hS hE
  exact lv_ladd hx hb hd (k ls H locs a m' hl hh hS hE)
theorem rf_lsub (C : Cx G X d cc nL own ret) {x y : Int64} (hd : decode cc pc = .ok (.lsub, 1)) (hn : pc + 1 = n) (k : Rf vl G X n lv (.long (x - y) :: st) m E) : Rf vl G X pc lv (.long y :: .long x :: st) m E := by
  obtain ⟨p, e, R, s, mt, args, below, meth, c, cs, sl, Qp⟩ := X
  obtain ⟨hx, hb, hml, how, hts, hK, hr, hlk, hR⟩ := C
  subst hn
  intro ls H locs a m' hl hh hS hE
  exact lv_lsub hx hb hd (k ls H locs a m' hl hh hS hE)
theorem rf_lmul (C : Cx G X d cc nL own ret) {x y : Int64} (hd : decode cc pc = .ok (.lmul, 1)) (hn : pc + 1 = n) (k : Rf vl G X n lv (.long (x * y) :: st) m E) : Rf vl G X pc lv (.long y :: .long x :: st) m E := by
  obtain ⟨p, e, R, s, mt, args, below, meth, c, cs, sl, Qp⟩ := X
  obtain ⟨hx, hb, hml, how, hts, hK, hr, hlk, hR⟩ := C
  subst hn
  intro ls H locs a m' hl hh hS hE
  exact lv_lmul hx hb hd (k ls H locs a m' hl hh hS hE)
theorem rf_land (C : Cx G X d cc nL own ret) {x y : Int64} (hd : decode cc pc = .ok (.land, 1)) (hn : pc + 1 = n) (k : Rf vl G X n lv (.long (x &&& y) :: st) m E) : Rf vl G X pc lv (.long y :: .long x :: st) m E := by
  obtain ⟨p, e, R, s, mt, args, below, meth, c, cs, sl, Qp⟩ := X
  obtain ⟨hx, hb, hml, how, hts, hK, hr, hlk, hR⟩ := C
  subst hn
  intro ls H locs a m' hl hh hS hE
  exact lv_land hx hb hd (k ls H locs a m' hl hh hS hE)
theorem rf_lor (C : Cx G X d cc nL own ret) {x y : Int64} (hd : decode cc pc = .ok (.lor, 1)) (hn : pc + 1 = n) (k : Rf vl G X n lv (.long (x ||| y) :: st) m E) : Rf vl G X pc lv (.long y :: .long x :: st) m E := by
  obtain ⟨p, e, R, s, mt, args, below, meth, c, cs, sl, Qp⟩ := X
  obtain ⟨hx, hb, hml, how, hts, hK, hr, hlk, hR⟩ := C
  subst hn
  intro ls H locs a m' hl hh hS hE
  exact lv_lor hx hb hd (k ls H locs a m' hl hh hS hE)
theorem rf_lxor (C : Cx G X d cc nL own ret) {x y : Int64} (hd : decode cc pc = .ok (.lxor, 1)) (hn : pc + 1 = n) (k : Rf vl G X n lv (.long (x ^^^ y) :: st) m E) : Rf vl G X pc lv (.long y :: .long x :: st) m E := by
  obtain ⟨p, e, R, s, mt, args, below, meth, c, cs, sl, Qp⟩ := X
  obtain ⟨hx, hb, hml, how, hts, hK, hr, hlk, hR⟩ := C
  subst hn
  intro ls H locs a m' hl hh hS hE
  exact lv_lxor hx hb hd (k ls H locs a m' hl hh hS hE)
theorem rf_lshl (C : Cx G X d cc nL own ret) {x : Int64} {y : Int32} (hd : decode cc pc = .ok (.lshl, 1)) (hn : pc + 1 = n) (k : Rf vl G X n lv (.long (x <<< (y.toInt64 &&& 63)) :: st) m E) : Rf vl G X pc lv (.int y :: .long x :: st) m E := by
  obtain ⟨p, e, R, s, mt, args, below, meth, c, cs, sl, Qp⟩ := X
  obtain ⟨hx, hb, hml, how, hts, hK, hr, hlk, hR⟩ := C
  subst hn
  intro ls H locs a m' hl hh hS hE
  exact lv_lshl hx hb hd rfl (k ls H locs a m' hl hh hS hE)
theorem rf_lushr (C : Cx G X d cc nL own ret) {x : Int64} {y : Int32} (hd : decode cc pc = .ok (.lushr, 1)) (hn : pc + 1 = n) (k : Rf vl G X n lv (.long ((x.toUInt64 >>> (y.toInt64.toUInt64 &&& Int64.toUInt64 63)).toInt64) :: st) m E) : Rf vl G X pc lv (.int y :: .long x :: st) m E := by
  obtain ⟨p, e, R, s, mt, args, below, meth, c, cs, sl, Qp⟩ := X
  obtain ⟨hx, hb, hml, how, hts, hK, hr, hlk, hR⟩ := C
  subst hn
  intro ls H locs a m' hl hh hS hE
  exact lv_lushr hx hb hd rfl (k ls H locs a m' hl hh hS hE)
theorem rf_idiv (C : Cx G X d cc nL own ret) {x y : Int32} (hd : decode cc pc = .ok (.idiv, 1)) (hn : pc + 1 = n) (hy : ¬ y = 0) (k : Rf vl G X n lv (.int (x / y) :: st) m E) : Rf vl G X pc lv (.int y :: .int x :: st) m E := by
  obtain ⟨p, e, R, s, mt, args, below, meth, c, cs, sl, Qp⟩ := X
  obtain ⟨hx, hb, hml, how, hts, hK, hr, hlk, hR⟩ := C
  subst hn
  intro ls H locs a m' hl hh hS hE
  exact lv_idiv hx hb hd hy (k ls H locs a m' hl hh hS hE)
theorem rf_irem (C : Cx G X d cc nL own ret) {x y : Int32} (hd : decode cc pc = .ok (.irem, 1)) (hn : pc + 1 = n) (hy : ¬ y = 0) (k : Rf vl G X n lv (.int (x - x / y * y) :: st) m E) : Rf vl G X pc lv (.int y :: .int x :: st) m E := by
  obtain ⟨p, e, R, s, mt, args, below, meth, c, cs, sl, Qp⟩ := X
  obtain ⟨hx, hb, hml, how, hts, hK, hr, hlk, hR⟩ := C
  subst hn
  intro ls H locs a m' hl hh hS hE
  exact lv_irem hx hb hd hy (k ls H locs a m' hl hh hS hE)
theorem rf_ldiv (C : Cx G X d cc nL own ret) {x y : Int64} (hd : decode cc pc = .ok (.ldiv, 1)) (hn : pc + 1 = n) (hy : ¬ y = 0) (k : Rf vl G X n lv (.long (x / y) :: st) m E) : Rf vl G X pc lv (.long y :: .long x :: st) m E := by
  obtain ⟨p, e, R, s, mt, args, below, meth, c, cs, sl, Qp⟩ := X
  obtain ⟨hx, hb, hml, how, hts, hK, hr, hlk, hR⟩ := C
  subst hn
  intro ls H locs a m' hl hh hS hE
  exact lv_ldiv hx hb hd hy (k ls H locs a m' hl hh hS hE)
theorem rf_lrem (C : Cx G X d cc nL own ret) {x y : Int64} (hd : decode cc pc = .ok (.lrem, 1)) (hn : pc + 1 = n) (hy : ¬ y = 0) (k : Rf vl G X n lv (.long (x - x / y * y) :: st) m E) : Rf vl G X pc lv (.long y :: .long x :: st) m E := by
  obtain ⟨p, e, R, s, mt, args, below, meth, c, cs, sl, Qp⟩ := X
  obtain ⟨hx, hb, hml, how, hts, hK, hr, hlk, hR⟩ := C
  subst hn
  intro ls H locs a m' hl hh hS hE
  exact lv_lrem hx hb hd hy (k ls H locs a m' hl hh hS hE)
theorem rf_ineg (C : Cx G X d cc nL own ret) {x : Int32} (hd : decode cc pc = .ok (.ineg, 1)) (hn : pc + 1 = n) (k : Rf vl G X n lv (.int (-x) :: st) m E) : Rf vl G X pc lv (.int x :: st) m E := by
  obtain ⟨p, e, R, s, mt, args, below, meth, c, cs, sl, Qp⟩ := X
  obtain ⟨hx, hb, hml, how, hts, hK, hr, hlk, hR⟩ := C
  subst hn
  intro ls H locs a m' hl hh hS hE
  exact lv_ineg hx hb hd (k ls H locs a m' hl hh hS hE)
theorem rf_ishl (C : Cx G X d cc nL own ret) {x y : Int32} (hd : decode cc pc = .ok (.ishl, 1)) (hn : pc + 1 = n) (k : Rf vl G X n lv (.int (x <<< (y &&& 31)) :: st) m E) : Rf vl G X pc lv (.int y :: .int x :: st) m E := by
  obtain ⟨p, e, R, s, mt, args, below, meth, c, cs, sl, Qp⟩ := X
  obtain ⟨hx, hb, hml, how, hts, hK, hr, hlk, hR⟩ := C
  subst hn
  intro ls H locs a m' hl hh hS hE
  exact lv_ishl hx hb hd (k ls H locs a m' hl hh hS hE)
theorem rf_ishr (C : Cx G X d cc nL own ret) {x y : Int32} (hd : decode cc pc = .ok (.ishr, 1)) (hn : pc + 1 = n) (k : Rf vl G X n lv (.int (x >>> (y &&& 31)) :: st) m E) : Rf vl G X pc lv (.int y :: .int x :: st) m E := by
  obtain ⟨p, e, R, s, mt, args, below, meth, c, cs, sl, Qp⟩ := X
  obtain ⟨hx, hb, hml, how, hts, hK, hr, hlk, hR⟩ := C
  subst hn
  intro ls H locs a m' hl hh hS hE
  exact lv_ishr hx hb hd (k ls H locs a m' hl hh hS hE)
theorem rf_iushr (C : Cx G X d cc nL own ret) {x y : Int32} (hd : decode cc pc = .ok (.iushr, 1)) (hn : pc + 1 = n) (k : Rf vl G X n lv (.int ((x.toUInt32 >>> (y.toUInt32 &&& Int32.toUInt32 31)).toInt32) :: st) m E) : Rf vl G X pc lv (.int y :: .int x :: st) m E := by
  obtain ⟨p, e, R, s, mt, args, below, meth, c, cs, sl, Qp⟩ := X
  obtain ⟨hx, hb, hml, how, hts, hK, hr, hlk, hR⟩ := C
  subst hn
  intro ls H locs a m' hl hh hS hE
  exact lv_iushr hx hb hd rfl (k ls H locs a m' hl hh hS hE)
theorem rf_i2l (C : Cx G X d cc nL own ret) {x : Int32} (hd : decode cc pc = .ok (.i2l, 1)) (hn : pc + 1 = n) (k : Rf vl G X n lv (.long (x.toInt64) :: st) m E) : Rf vl G X pc lv (.int x :: st) m E := by
  obtain ⟨p, e, R, s, mt, args, below, meth, c, cs, sl, Qp⟩ := X
  obtain ⟨hx, hb, hml, how, hts, hK, hr, hlk, hR⟩ := C
  subst hn
  intro ls H locs a m' hl hh hS hE
  exact lv_i2l hx hb hd rfl (k ls H locs a m' hl hh hS hE)
theorem rf_l2i (C : Cx G X d cc nL own ret) {x : Int64} (hd : decode cc pc = .ok (.l2i, 1)) (hn : pc + 1 = n) (k : Rf vl G X n lv (.int (x.toInt32) :: st) m E) : Rf vl G X pc lv (.long x :: st) m E := by
  obtain ⟨p, e, R, s, mt, args, below, meth, c, cs, sl, Qp⟩ := X
  obtain ⟨hx, hb, hml, how, hts, hK, hr, hlk, hR⟩ := C
  subst hn
  intro ls H locs a m' hl hh hS hE
  exact lv_l2i hx hb hd rfl (k ls H locs a m' hl hh hS hE)
theorem rf_i2b (C : Cx G X d cc nL own ret) {x : Int32} (hd : decode cc pc = .ok (.i2b, 1)) (hn : pc + 1 = n) (k : Rf vl G X n lv (.int (x.toInt8.toInt32) :: st) m E) : Rf vl G X pc lv (.int x :: st) m E := by
  obtain ⟨p, e, R, s, mt, args, below, meth, c, cs, sl, Qp⟩ := X
  obtain ⟨hx, hb, hml, how, hts, hK, hr, hlk, hR⟩ := C
  subst hn
  intro ls H locs a m' hl hh hS hE
  exact lv_i2b hx hb hd rfl (k ls H locs a m' hl hh hS hE)
theorem rf_i2s (C : Cx G X d cc nL own ret) {x : Int32} (hd : decode cc pc = .ok (.i2s, 1)) (hn : pc + 1 = n) (k : Rf vl G X n lv (.int (x.toInt16.toInt32) :: st) m E) : Rf vl G X pc lv (.int x :: st) m E := by
  obtain ⟨p, e, R, s, mt, args, below, meth, c, cs, sl, Qp⟩ := X
  obtain ⟨hx, hb, hml, how, hts, hK, hr, hlk, hR⟩ := C
  subst hn
  intro ls H locs a m' hl hh hS hE
  exact lv_i2s hx hb hd rfl (k ls H locs a m' hl hh hS hE)
theorem rf_i2c (C : Cx G X d cc nL own ret) {x : Int32} (hd : decode cc pc = .ok (.i2c, 1)) (hn : pc + 1 = n) (k : Rf vl G X n lv (.int ((x.toUInt32 % 65536).toInt32) :: st) m E) : Rf vl G X pc lv (.int x :: st) m E := by
  obtain ⟨p, e, R, s, mt, args, below, meth, c, cs, sl, Qp⟩ := X
  obtain ⟨hx, hb, hml, how, hts, hK, hr, hlk, hR⟩ := C
  subst hn
  intro ls H locs a m' hl hh hS hE
  exact lv_i2c hx hb hd rfl (k ls H locs a m' hl hh hS hE)
theorem rf_lcmp (C : Cx G X d cc nL own ret) {x y : Int64} (hd : decode cc pc = .ok (.lcmp, 1)) (hn : pc + 1 = n) (k : Rf vl G X n lv (.int (lg_cmp x y) :: st) m E) : Rf vl G X pc lv (.long y :: .long x :: st) m E := by
  obtain ⟨p, e, R, s, mt, args, below, meth, c, cs, sl, Qp⟩ := X
  obtain ⟨hx, hb, hml, how, hts, hK, hr, hlk, hR⟩ := C
  subst hn
  intro ls H locs a m' hl hh hS hE
  exact W.lcmp hx hb hd (k ls H locs a m' hl hh hS hE)
theorem rf_iconst (C : Cx G X d cc nL own ret) {z : Int} {v : Int32} (hd : decode cc pc = .ok (.iconst z, 1)) (hn : pc + 1 = n) (hv : Int32.ofInt z = v) (k : Rf vl G X n lv (.int v :: st) m E) : Rf vl G X pc lv (st) m E := by
  obtain ⟨p, e, R, s, mt, args, below, meth, c, cs, sl, Qp⟩ := X
  obtain ⟨hx, hb, hml, how, hts, hK, hr, hlk, hR⟩ := C
  subst hn
  intro ls H locs a m' hl hh hS hE
  exact lv_iconst hx hb hd hv (k ls H locs a m' hl hh hS hE)
theorem rf_bipush (C : Cx G X d cc nL own ret) {z : Int} {v : Int32} (hd : decode cc pc = .ok (.bipush z, 2)) (hn : pc + 2 = n) (hv : (Int8.ofInt z).toInt32 = v) (k : Rf vl G X n lv (.int v :: st) m E) : Rf vl G X pc lv (st) m E := by
  obtain ⟨p, e, R, s, mt, args, below, meth, c, cs, sl, Qp⟩ := X
  obtain ⟨hx, hb, hml, how, hts, hK, hr, hlk, hR⟩ := C
  subst hn
  intro ls H locs a m' hl hh hS hE
  exact lv_bipush hx hb hd hv (k ls H locs a m' hl hh hS hE)
theorem rf_sipush (C : Cx G X d cc nL own ret) {z : Int} {v : Int32} (hd : decode cc pc = .ok (.sipush z, 3)) (hn : pc + 3 = n) (hv : (Int16.ofInt z).toInt32 = v) (k : Rf vl G X n lv (.int v :: st) m E) : Rf vl G X pc lv (st) m E := by
  obtain ⟨p, e, R, s, mt, args, below, meth, c, cs, sl, Qp⟩ := X
  obtain ⟨hx, hb, hml, how, hts, hK, hr, hlk, hR⟩ := C
  subst hn
  intro ls H locs a m' hl hh hS hE
  exact lv_sipush hx hb hd hv (k ls H locs a m' hl hh hS hE)
theorem rf_lconst (C : Cx G X d cc nL own ret) {z : Fin 2} {v : Int64} (hd : decode cc pc = .ok (.lconst z, 1)) (hn : pc + 1 = n) (hv : Int64.ofNat (z : Nat) = v) (k : Rf vl G X n lv (.long v :: st) m E) : Rf vl G X pc lv (st) m E := by
  obtain ⟨p, e, R, s, mt, args, below, meth, c, cs, sl, Qp⟩ := X
  obtain ⟨hx, hb, hml, how, hts, hK, hr, hlk, hR⟩ := C
  subst hn
  intro ls H locs a m' hl hh hS hE
  exact lv_lconst hx hb hd hv (k ls H locs a m' hl hh hS hE)
theorem rf_ldc (C : Cx G X d cc nL own ret) {ix : Nat} {v : Int32} (hd : decode cc pc = .ok (.ldc ix, 2)) (hn : pc + 2 = n) (hw : Cond.constant own ix v ∈ lw_tb) (k : Rf vl G X n lv (.int v :: st) m E) : Rf vl G X pc lv (st) m E := by
  obtain ⟨p, e, R, s, mt, args, below, meth, c, cs, sl, Qp⟩ := X
  obtain ⟨hx, hb, hml, how, hts, hK, hr, hlk, hR⟩ := C
  subst hn
  intro ls H locs a m' hl hh hS hE
  exact lv_ldc hx hb how (hts _ hw) hd (k ls H locs a m' hl hh hS hE)
theorem rf_ldcw (C : Cx G X d cc nL own ret) {ix : Nat} {v : Int32} (hd : decode cc pc = .ok (.ldc_w ix, 3)) (hn : pc + 3 = n) (hw : Cond.constant own ix v ∈ lw_tb) (k : Rf vl G X n lv (.int v :: st) m E) : Rf vl G X pc lv (st) m E := by
  obtain ⟨p, e, R, s, mt, args, below, meth, c, cs, sl, Qp⟩ := X
  obtain ⟨hx, hb, hml, how, hts, hK, hr, hlk, hR⟩ := C
  subst hn
  intro ls H locs a m' hl hh hS hE
  exact lv_ldcw hx hb how (hts _ hw) hd (k ls H locs a m' hl hh hS hE)
theorem rf_ldc2 (C : Cx G X d cc nL own ret) {ix : Nat} {v : Int64} (hd : decode cc pc = .ok (.ldc2_w ix, 3)) (hn : pc + 3 = n) (hw : Cond.constantLong own ix v ∈ lw_tb) (k : Rf vl G X n lv (.long v :: st) m E) : Rf vl G X pc lv (st) m E := by
  obtain ⟨p, e, R, s, mt, args, below, meth, c, cs, sl, Qp⟩ := X
  obtain ⟨hx, hb, hml, how, hts, hK, hr, hlk, hR⟩ := C
  subst hn
  intro ls H locs a m' hl hh hS hE
  exact lv_ldc2 hx hb how (hts _ hw) hd (k ls H locs a m' hl hh hS hE)
theorem rf_dup (C : Cx G X d cc nL own ret) {v : Value} (hd : decode cc pc = .ok (.dup, 1)) (hn : pc + 1 = n) (hc : v.category = 1) (k : Rf vl G X n lv (v :: v :: st) m E) : Rf vl G X pc lv (v :: st) m E := by
  obtain ⟨p, e, R, s, mt, args, below, meth, c, cs, sl, Qp⟩ := X
  obtain ⟨hx, hb, hml, how, hts, hK, hr, hlk, hR⟩ := C
  subst hn
  intro ls H locs a m' hl hh hS hE
  exact lv_dup hx hb hd hc (k ls H locs a m' hl hh hS hE)
theorem rf_pop (C : Cx G X d cc nL own ret) {v : Value} (hd : decode cc pc = .ok (.pop, 1)) (hn : pc + 1 = n) (hc : v.category = 1) (k : Rf vl G X n lv (st) m E) : Rf vl G X pc lv (v :: st) m E := by
  obtain ⟨p, e, R, s, mt, args, below, meth, c, cs, sl, Qp⟩ := X
  obtain ⟨hx, hb, hml, how, hts, hK, hr, hlk, hR⟩ := C
  subst hn
  intro ls H locs a m' hl hh hS hE
  exact lv_pop hx hb hd hc (k ls H locs a m' hl hh hS hE)
theorem rf_dup2 (C : Cx G X d cc nL own ret) {v u : Value} (hd : decode cc pc = .ok (.dup2, 1)) (hn : pc + 1 = n) (hc : v.category = 1) (hu : u.category = 1) (k : Rf vl G X n lv (v :: u :: v :: u :: st) m E) : Rf vl G X pc lv (v :: u :: st) m E := by
  obtain ⟨p, e, R, s, mt, args, below, meth, c, cs, sl, Qp⟩ := X
  obtain ⟨hx, hb, hml, how, hts, hK, hr, hlk, hR⟩ := C
  subst hn
  intro ls H locs a m' hl hh hS hE
  exact lv_dup2_11 hx hb hd hc hu (k ls H locs a m' hl hh hS hE)
theorem rf_dup_x1 (C : Cx G X d cc nL own ret) {v u : Value} (hd : decode cc pc = .ok (.dup_x1, 1)) (hn : pc + 1 = n) (hc : v.category = 1) (hu : u.category = 1) (k : Rf vl G X n lv (v :: u :: v :: st) m E) : Rf vl G X pc lv (v :: u :: st) m E := by
  obtain ⟨p, e, R, s, mt, args, below, meth, c, cs, sl, Qp⟩ := X
  obtain ⟨hx, hb, hml, how, hts, hK, hr, hlk, hR⟩ := C
  subst hn
  intro ls H locs a m' hl hh hS hE
  exact lv_dup_x1 hx hb hd hc hu (k ls H locs a m' hl hh hS hE)
theorem rf_iload_n (C : Cx G X d cc nL own ret) {z : Fin 4} {i q : Nat} {x : Int32} (hd : decode cc pc = .ok (.iload_n z, 1)) (hn : pc + 1 = n) (hi : (z : Nat) = i) (hq : lv[q]? = some (i, .int x)) (k : Rf vl G X n lv (.int x :: st) m E) : Rf vl G X pc lv (st) m E := by
  obtain ⟨p, e, R, s, mt, args, below, meth, c, cs, sl, Qp⟩ := X
  obtain ⟨hx, hb, hml, how, hts, hK, hr, hlk, hR⟩ := C
  subst hn
  intro ls H locs a m' hl hh hS hE
  exact lv_iload_n hx hb hd hi (lv_at hl q hq) (k ls H locs a m' hl hh hS hE)
theorem rf_iload (C : Cx G X d cc nL own ret) {i q : Nat} {x : Int32} (hd : decode cc pc = .ok (.iload i, 2)) (hn : pc + 2 = n) (hq : lv[q]? = some (i, .int x)) (k : Rf vl G X n lv (.int x :: st) m E) : Rf vl G X pc lv (st) m E := by
  obtain ⟨p, e, R, s, mt, args, below, meth, c, cs, sl, Qp⟩ := X
  obtain ⟨hx, hb, hml, how, hts, hK, hr, hlk, hR⟩ := C
  subst hn
  intro ls H locs a m' hl hh hS hE
  exact lv_iload hx hb hd (lv_at hl q hq) (k ls H locs a m' hl hh hS hE)
theorem rf_lload_n (C : Cx G X d cc nL own ret) {z : Fin 4} {i q : Nat} {x : Int64} (hd : decode cc pc = .ok (.lload_n z, 1)) (hn : pc + 1 = n) (hi : (z : Nat) = i) (hq : lv[q]? = some (i, .long x)) (k : Rf vl G X n lv (.long x :: st) m E) : Rf vl G X pc lv (st) m E := by
  obtain ⟨p, e, R, s, mt, args, below, meth, c, cs, sl, Qp⟩ := X
  obtain ⟨hx, hb, hml, how, hts, hK, hr, hlk, hR⟩ := C
  subst hn
  intro ls H locs a m' hl hh hS hE
  exact lv_lload_n hx hb hd hi (lv_at hl q hq) (k ls H locs a m' hl hh hS hE)
theorem rf_lload (C : Cx G X d cc nL own ret) {i q : Nat} {x : Int64} (hd : decode cc pc = .ok (.lload i, 2)) (hn : pc + 2 = n) (hq : lv[q]? = some (i, .long x)) (k : Rf vl G X n lv (.long x :: st) m E) : Rf vl G X pc lv (st) m E := by
  obtain ⟨p, e, R, s, mt, args, below, meth, c, cs, sl, Qp⟩ := X
  obtain ⟨hx, hb, hml, how, hts, hK, hr, hlk, hR⟩ := C
  subst hn
  intro ls H locs a m' hl hh hS hE
  exact lv_lload hx hb hd (lv_at hl q hq) (k ls H locs a m' hl hh hS hE)
theorem rf_aload_n (C : Cx G X d cc nL own ret) {z : Fin 4} {i q : Nat} {x : Nat} (hd : decode cc pc = .ok (.aload_n z, 1)) (hn : pc + 1 = n) (hi : (z : Nat) = i) (hq : lv[q]? = some (i, hA G x)) (k : Rf vl G X n lv (hA G x :: st) m E) : Rf vl G X pc lv (st) m E := by
  obtain ⟨p, e, R, s, mt, args, below, meth, c, cs, sl, Qp⟩ := X
  obtain ⟨hx, hb, hml, how, hts, hK, hr, hlk, hR⟩ := C
  subst hn
  intro ls H locs a m' hl hh hS hE
  exact lv_aload_n hx hb hd hi (lv_at hl q hq) (k ls H locs a m' hl hh hS hE)
theorem rf_aload (C : Cx G X d cc nL own ret) {i q : Nat} {x : Nat} (hd : decode cc pc = .ok (.aload i, 2)) (hn : pc + 2 = n) (hq : lv[q]? = some (i, hA G x)) (k : Rf vl G X n lv (hA G x :: st) m E) : Rf vl G X pc lv (st) m E := by
  obtain ⟨p, e, R, s, mt, args, below, meth, c, cs, sl, Qp⟩ := X
  obtain ⟨hx, hb, hml, how, hts, hK, hr, hlk, hR⟩ := C
  subst hn
  intro ls H locs a m' hl hh hS hE
  exact lv_aload hx hb hd (lv_at hl q hq) (k ls H locs a m' hl hh hS hE)
theorem rf_istore_n (C : Cx G X d cc nL own ret) {i : Nat} {z : Fin 4} {x : Int32} (lv' : List (Nat × Value)) (hd : decode cc pc = .ok (.istore_n z, 1)) (hn : pc + 1 = n) (hi : (z : Nat) = i) (hi2 : i < nL) (hlv : (i, Value.int x) :: lv.filter (fun q => !(q.1 == i) && !(q.1 + 1 == i && q.2.category == 2)) = lv') (k : Rf vl G X n lv' st m E) : Rf vl G X pc lv (Value.int x :: st) m E := by
  obtain ⟨p, e, R, s, mt, args, below, meth, c, cs, sl, Qp⟩ := X
  obtain ⟨hx, hb, hml, how, hts, hK, hr, hlk, hR⟩ := C
  subst hn
  intro ls H locs a m' hl hh hS hE
  exact lv_istore_n hx hb hd hi hl (by rw [hml]; exact hi2) hlv (fun ls' hl' => k ls' H locs a m' hl' hh hS hE)
theorem rf_istore (C : Cx G X d cc nL own ret) {i : Nat}  {x : Int32} (lv' : List (Nat × Value)) (hd : decode cc pc = .ok (.istore i, 2)) (hn : pc + 2 = n) (hi2 : i < nL) (hlv : (i, Value.int x) :: lv.filter (fun q => !(q.1 == i) && !(q.1 + 1 == i && q.2.category == 2)) = lv') (k : Rf vl G X n lv' st m E) : Rf vl G X pc lv (Value.int x :: st) m E := by
  obtain ⟨p, e, R, s, mt, args, below, meth, c, cs, sl, Qp⟩ := X
  obtain ⟨hx, hb, hml, how, hts, hK, hr, hlk, hR⟩ := C
  subst hn
  intro ls H locs a m' hl hh hS hE
  exact lv_istore hx hb hd  hl (by rw [hml]; exact hi2) hlv (fun ls' hl' => k ls' H locs a m' hl' hh hS hE)
theorem rf_lstore_n (C : Cx G X d cc nL own ret) {i : Nat} {z : Fin 4} {x : Int64} (lv' : List (Nat × Value)) (hd : decode cc pc = .ok (.lstore_n z, 1)) (hn : pc + 1 = n) (hi : (z : Nat) = i) (hi2 : i + 1 < nL) (hlv : (i, Value.long x) :: lv.filter (fun q => !(q.1 == i) && (!(q.1 == i + 1) && !(q.1 + 1 == i && q.2.category == 2))) = lv') (k : Rf vl G X n lv' st m E) : Rf vl G X pc lv (Value.long x :: st) m E := by
  obtain ⟨p, e, R, s, mt, args, below, meth, c, cs, sl, Qp⟩ := X
  obtain ⟨hx, hb, hml, how, hts, hK, hr, hlk, hR⟩ := C
  subst hn
  intro ls H locs a m' hl hh hS hE
  exact lv_lstore_n hx hb hd hi hl (by rw [hml]; exact hi2) hlv (fun ls' hl' => k ls' H locs a m' hl' hh hS hE)
theorem rf_lstore (C : Cx G X d cc nL own ret) {i : Nat}  {x : Int64} (lv' : List (Nat × Value)) (hd : decode cc pc = .ok (.lstore i, 2)) (hn : pc + 2 = n) (hi2 : i + 1 < nL) (hlv : (i, Value.long x) :: lv.filter (fun q => !(q.1 == i) && (!(q.1 == i + 1) && !(q.1 + 1 == i && q.2.category == 2))) = lv') (k : Rf vl G X n lv' st m E) : Rf vl G X pc lv (Value.long x :: st) m E := by
  obtain ⟨p, e, R, s, mt, args, below, meth, c, cs, sl, Qp⟩ := X
  obtain ⟨hx, hb, hml, how, hts, hK, hr, hlk, hR⟩ := C
  subst hn
  intro ls H locs a m' hl hh hS hE
  exact lv_lstore hx hb hd  hl (by rw [hml]; exact hi2) hlv (fun ls' hl' => k ls' H locs a m' hl' hh hS hE)
theorem rf_astore_n (C : Cx G X d cc nL own ret) {i : Nat} {z : Fin 4} {x : Nat} (lv' : List (Nat × Value)) (hd : decode cc pc = .ok (.astore_n z, 1)) (hn : pc + 1 = n) (hi : (z : Nat) = i) (hi2 : i < nL) (hlv : (i, hA G x) :: lv.filter (fun q => !(q.1 == i) && !(q.1 + 1 == i && q.2.category == 2)) = lv') (k : Rf vl G X n lv' st m E) : Rf vl G X pc lv (hA G x :: st) m E := by
  obtain ⟨p, e, R, s, mt, args, below, meth, c, cs, sl, Qp⟩ := X
  obtain ⟨hx, hb, hml, how, hts, hK, hr, hlk, hR⟩ := C
  subst hn
  intro ls H locs a m' hl hh hS hE
  exact lv_astore_n hx hb hd hi hl (by rw [hml]; exact hi2) hlv (fun ls' hl' => k ls' H locs a m' hl' hh hS hE)
theorem rf_astore (C : Cx G X d cc nL own ret) {i : Nat}  {x : Nat} (lv' : List (Nat × Value)) (hd : decode cc pc = .ok (.astore i, 2)) (hn : pc + 2 = n) (hi2 : i < nL) (hlv : (i, hA G x) :: lv.filter (fun q => !(q.1 == i) && !(q.1 + 1 == i && q.2.category == 2)) = lv') (k : Rf vl G X n lv' st m E) : Rf vl G X pc lv (hA G x :: st) m E := by
  obtain ⟨p, e, R, s, mt, args, below, meth, c, cs, sl, Qp⟩ := X
  obtain ⟨hx, hb, hml, how, hts, hK, hr, hlk, hR⟩ := C
  subst hn
  intro ls H locs a m' hl hh hS hE
  exact lv_astore hx hb hd  hl (by rw [hml]; exact hi2) hlv (fun ls' hl' => k ls' H locs a m' hl' hh hS hE)
theorem rf_iinc (C : Cx G X d cc nL own ret) {i q : Nat} {z : Int} {x v : Int32} (lv' : List (Nat × Value)) (hd : decode cc pc = .ok (.iinc i z, 3)) (hn : pc + 3 = n) (hq : lv[q]? = some (i, .int x)) (hv : x + Int32.ofInt z = v) (hi2 : i < nL) (hlv : (i, Value.int v) :: lv.filter (fun q => !(q.1 == i) && !(q.1 + 1 == i && q.2.category == 2)) = lv') (k : Rf vl G X n lv' st m E) : Rf vl G X pc lv st m E := by
  obtain ⟨p, e, R, s, mt, args, below, meth, c, cs, sl, Qp⟩ := X
  obtain ⟨hx, hb, hml, how, hts, hK, hr, hlk, hR⟩ := C
  subst hn
  intro ls H locs a m' hl hh hS hE
  exact lv_iinc hx hb hd hl hq hv (by rw [hml]; exact hi2) hlv (fun ls' hl' => k ls' H locs a m' hl' hh hS hE)
theorem rf_iinc2 (C : Cx G X d cc nL own ret) {i q : Nat} {z : Int} {x u : Int32} {F : Int32 → Option (α × hM)} (lv' : Int32 → List (Nat × Value)) (hd : decode cc pc = .ok (.iinc i z, 3)) (hn : pc + 3 = n) (hq : lv[q]? = some (i, .int x)) (hz : Int32.ofInt z = u) (hi2 : i < nL) (hlv : ∀ v : Int32, (i, Value.int v) :: lv.filter (fun q => !(q.1 == i) && !(q.1 + 1 == i && q.2.category == 2)) = lv' v) (k : ∀ v : Int32, Rf vl G X n (lv' v) st m (F v)) : Rf vl G X pc lv st m (hLet (x + u) F) := rf_iinc C (lv' (x + u)) hd hn hq (by rw [hz]) hi2 (hlv _) (k _)
theorem rf_lv (lv' : List (Nat × Value)) (ks : List Nat) (h : lv_pick lv ks = lv') (k : Rf vl G X pc lv' st m E) : Rf vl G X pc lv st m E := by
  obtain ⟨p, e, R, s, mt, args, below, meth, c, cs, sl, Qp⟩ := X
  intro ls H locs a m' hl hh hS hE
  exact k ls H locs a m' (lv_sub hl ks h) hh hS hE
theorem rf_none : Rf vl G X pc lv st m none := by
  obtain ⟨p, e, R, s, mt, args, below, meth, c, cs, sl, Qp⟩ := X
  intro ls H locs a m' hl hh hS hE
  cases hE
theorem rf_guard {P : Prop} {hdec : Decidable P} (k : P → Rf vl G X pc lv st m E) : Rf vl G X pc lv st m (@ite _ P hdec E none) := by
  by_cases h : P
  · rw [if_pos h]; exact k h
  · rw [if_neg h]; exact rf_none
theorem rf_eq (h : E = E1) (k : Rf vl G X pc lv st m E1) : Rf vl G X pc lv st m E := h ▸ k
theorem rf_goto (C : Cx G X d cc nL own ret) {off : Int} (hd : decode cc pc = .ok (.goto off, 3)) (ht : (pc : Int) + off = (n : Int)) (k : Rf vl G X n lv st m E) : Rf vl G X pc lv st m E := by
  obtain ⟨p, e, R, s, mt, args, below, meth, c, cs, sl, Qp⟩ := X
  obtain ⟨hx, hb, hml, how, hts, hK, hr, hlk, hR⟩ := C
  intro ls H locs a m' hl hh hS hE
  exact lv_goto hx hb hd ht (k ls H locs a m' hl hh hS hE)
theorem rf_if_eq (C : Cx G X d cc nL own ret) {x : Int32} {off : Int} {tgt : Nat} {hdec : Decidable (x = 0)} (hd : decode cc pc = .ok (.ifCond .eq off, 3)) (ht : (pc : Int) + off = (tgt : Int)) (hn : pc + 3 = n) (kt : x = 0 → Rf vl G X tgt lv st m E1) (kf : ¬ (x = 0) → Rf vl G X n lv st m E2) : Rf vl G X pc lv (.int x :: st) m (@ite _ (x = 0) hdec E1 E2) := by
  obtain ⟨p, e, R, s, mt, args, below, meth, c, cs, sl, Qp⟩ := X
  obtain ⟨hx, hb, hml, how, hts, hK, hr, hlk, hR⟩ := C
  subst hn
  intro ls H locs a m' hl hh hS hE
  refine lv_if_eq hx hb hd ht (fun h => ?_) (fun h => ?_)
  · first | (rw [if_pos h] at hE; exact kt h ls H locs a m' hl hh hS hE) | (have h' : x = 0 := (by simpa using h); rw [if_pos h'] at hE; exact kt h' ls H locs a m' hl hh hS hE)
  · first | (rw [if_neg h] at hE; exact kf h ls H locs a m' hl hh hS hE) | (have h' : ¬ (x = 0) := (by simpa using h); rw [if_neg h'] at hE; exact kf h' ls H locs a m' hl hh hS hE)
theorem rf_icmp_eq (C : Cx G X d cc nL own ret) {x y : Int32} {off : Int} {tgt : Nat} {hdec : Decidable (x = y)} (hd : decode cc pc = .ok (.if_icmp .eq off, 3)) (ht : (pc : Int) + off = (tgt : Int)) (hn : pc + 3 = n) (kt : x = y → Rf vl G X tgt lv st m E1) (kf : ¬ (x = y) → Rf vl G X n lv st m E2) : Rf vl G X pc lv (.int y :: .int x :: st) m (@ite _ (x = y) hdec E1 E2) := by
  obtain ⟨p, e, R, s, mt, args, below, meth, c, cs, sl, Qp⟩ := X
  obtain ⟨hx, hb, hml, how, hts, hK, hr, hlk, hR⟩ := C
  subst hn
  intro ls H locs a m' hl hh hS hE
  refine lv_icmp_eq hx hb hd ht (fun h => ?_) (fun h => ?_)
  · first | (rw [if_pos h] at hE; exact kt h ls H locs a m' hl hh hS hE) | (have h' : x = y := (by simpa using h); rw [if_pos h'] at hE; exact kt h' ls H locs a m' hl hh hS hE)
  · first | (rw [if_neg h] at hE; exact kf h ls H locs a m' hl hh hS hE) | (have h' : ¬ (x = y) := (by simpa using h); rw [if_neg h'] at hE; exact kf h' ls H locs a m' hl hh hS hE)
theorem rf_if_ne (C : Cx G X d cc nL own ret) {x : Int32} {off : Int} {tgt : Nat} {hdec : Decidable (¬ x = 0)} (hd : decode cc pc = .ok (.ifCond .ne off, 3)) (ht : (pc : Int) + off = (tgt : Int)) (hn : pc + 3 = n) (kt : ¬ x = 0 → Rf vl G X tgt lv st m E1) (kf : ¬ (¬ x = 0) → Rf vl G X n lv st m E2) : Rf vl G X pc lv (.int x :: st) m (@ite _ (¬ x = 0) hdec E1 E2) := by
  obtain ⟨p, e, R, s, mt, args, below, meth, c, cs, sl, Qp⟩ := X
  obtain ⟨hx, hb, hml, how, hts, hK, hr, hlk, hR⟩ := C
  subst hn
  intro ls H locs a m' hl hh hS hE
  refine lv_if_ne hx hb hd ht (fun h => ?_) (fun h => ?_)
  · first | (rw [if_pos h] at hE; exact kt h ls H locs a m' hl hh hS hE) | (have h' : ¬ x = 0 := (by simpa using h); rw [if_pos h'] at hE; exact kt h' ls H locs a m' hl hh hS hE)
  · first | (rw [if_neg h] at hE; exact kf h ls H locs a m' hl hh hS hE) | (have h' : ¬ (¬ x = 0) := (by simpa using h); rw [if_neg h'] at hE; exact kf h' ls H locs a m' hl hh hS hE)
theorem rf_icmp_ne (C : Cx G X d cc nL own ret) {x y : Int32} {off : Int} {tgt : Nat} {hdec : Decidable (¬ x = y)} (hd : decode cc pc = .ok (.if_icmp .ne off, 3)) (ht : (pc : Int) + off = (tgt : Int)) (hn : pc + 3 = n) (kt : ¬ x = y → Rf vl G X tgt lv st m E1) (kf : ¬ (¬ x = y) → Rf vl G X n lv st m E2) : Rf vl G X pc lv (.int y :: .int x :: st) m (@ite _ (¬ x = y) hdec E1 E2) := by
  obtain ⟨p, e, R, s, mt, args, below, meth, c, cs, sl, Qp⟩ := X
  obtain ⟨hx, hb, hml, how, hts, hK, hr, hlk, hR⟩ := C
  subst hn
  intro ls H locs a m' hl hh hS hE
  refine lv_icmp_ne hx hb hd ht (fun h => ?_) (fun h => ?_)
  · first | (rw [if_pos h] at hE; exact kt h ls H locs a m' hl hh hS hE) | (have h' : ¬ x = y := (by simpa using h); rw [if_pos h'] at hE; exact kt h' ls H locs a m' hl hh hS hE)
  · first | (rw [if_neg h] at hE; exact kf h ls H locs a m' hl hh hS hE) | (have h' : ¬ (¬ x = y) := (by simpa using h); rw [if_neg h'] at hE; exact kf h' ls H locs a m' hl hh hS hE)
theorem rf_if_lt (C : Cx G X d cc nL own ret) {x : Int32} {off : Int} {tgt : Nat} {hdec : Decidable (x < 0)} (hd : decode cc pc = .ok (.ifCond .lt off, 3)) (ht : (pc : Int) + off = (tgt : Int)) (hn : pc + 3 = n) (kt : x < 0 → Rf vl G X tgt lv st m E1) (kf : ¬ (x < 0) → Rf vl G X n lv st m E2) : Rf vl G X pc lv (.int x :: st) m (@ite _ (x < 0) hdec E1 E2) := by
  obtain ⟨p, e, R, s, mt, args, below, meth, c, cs, sl, Qp⟩ := X
  obtain ⟨hx, hb, hml, how, hts, hK, hr, hlk, hR⟩ := C
  subst hn
  intro ls H locs a m' hl hh hS hE
  refine lv_if_lt hx hb hd ht (fun h => ?_) (fun h => ?_)
  · first | (rw [if_pos h] at hE; exact kt h ls H locs a m' hl hh hS hE) | (have h' : x < 0 := (by simpa using h); rw [if_pos h'] at hE; exact kt h' ls H locs a m' hl hh hS hE)
  · first | (rw [if_neg h] at hE; exact kf h ls H locs a m' hl hh hS hE) | (have h' : ¬ (x < 0) := (by simpa using h); rw [if_neg h'] at hE; exact kf h' ls H locs a m' hl hh hS hE)
theorem rf_icmp_lt (C : Cx G X d cc nL own ret) {x y : Int32} {off : Int} {tgt : Nat} {hdec : Decidable (x < y)} (hd : decode cc pc = .ok (.if_icmp .lt off, 3)) (ht : (pc : Int) + off = (tgt : Int)) (hn : pc + 3 = n) (kt : x < y → Rf vl G X tgt lv st m E1) (kf : ¬ (x < y) → Rf vl G X n lv st m E2) : Rf vl G X pc lv (.int y :: .int x :: st) m (@ite _ (x < y) hdec E1 E2) := by
  obtain ⟨p, e, R, s, mt, args, below, meth, c, cs, sl, Qp⟩ := X
  obtain ⟨hx, hb, hml, how, hts, hK, hr, hlk, hR⟩ := C
  subst hn
  intro ls H locs a m' hl hh hS hE
  refine lv_icmp_lt hx hb hd ht (fun h => ?_) (fun h => ?_)
  · first | (rw [if_pos h] at hE; exact kt h ls H locs a m' hl hh hS hE) | (have h' : x < y := (by simpa using h); rw [if_pos h'] at hE; exact kt h' ls H locs a m' hl hh hS hE)
  · first | (rw [if_neg h] at hE; exact kf h ls H locs a m' hl hh hS hE) | (have h' : ¬ (x < y) := (by simpa using h); rw [if_neg h'] at hE; exact kf h' ls H locs a m' hl hh hS hE)
theorem rf_if_ge (C : Cx G X d cc nL own ret) {x : Int32} {off : Int} {tgt : Nat} {hdec : Decidable (0 ≤ x)} (hd : decode cc pc = .ok (.ifCond .ge off, 3)) (ht : (pc : Int) + off = (tgt : Int)) (hn : pc + 3 = n) (kt : 0 ≤ x → Rf vl G X tgt lv st m E1) (kf : ¬ (0 ≤ x) → Rf vl G X n lv st m E2) : Rf vl G X pc lv (.int x :: st) m (@ite _ (0 ≤ x) hdec E1 E2) := by
  obtain ⟨p, e, R, s, mt, args, below, meth, c, cs, sl, Qp⟩ := X
  obtain ⟨hx, hb, hml, how, hts, hK, hr, hlk, hR⟩ := C
  subst hn
  intro ls H locs a m' hl hh hS hE
  refine lv_if_ge hx hb hd ht (fun h => ?_) (fun h => ?_)
  · first | (rw [if_pos h] at hE; exact kt h ls H locs a m' hl hh hS hE) | (have h' : 0 ≤ x := (by simpa using h); rw [if_pos h'] at hE; exact kt h' ls H locs a m' hl hh hS hE)
  · first | (rw [if_neg h] at hE; exact kf h ls H locs a m' hl hh hS hE) | (have h' : ¬ (0 ≤ x) := (by simpa using h); rw [if_neg h'] at hE; exact kf h' ls H locs a m' hl hh hS hE)
theorem rf_icmp_ge (C : Cx G X d cc nL own ret) {x y : Int32} {off : Int} {tgt : Nat} {hdec : Decidable (y ≤ x)} (hd : decode cc pc = .ok (.if_icmp .ge off, 3)) (ht : (pc : Int) + off = (tgt : Int)) (hn : pc + 3 = n) (kt : y ≤ x → Rf vl G X tgt lv st m E1) (kf : ¬ (y ≤ x) → Rf vl G X n lv st m E2) : Rf vl G X pc lv (.int y :: .int x :: st) m (@ite _ (y ≤ x) hdec E1 E2) := by
  obtain ⟨p, e, R, s, mt, args, below, meth, c, cs, sl, Qp⟩ := X
  obtain ⟨hx, hb, hml, how, hts, hK, hr, hlk, hR⟩ := C
  subst hn
  intro ls H locs a m' hl hh hS hE
  refine lv_icmp_ge hx hb hd ht (fun h => ?_) (fun h => ?_)
  · first | (rw [if_pos h] at hE; exact kt h ls H locs a m' hl hh hS hE) | (have h' : y ≤ x := (by simpa using h); rw [if_pos h'] at hE; exact kt h' ls H locs a m' hl hh hS hE)
  · first | (rw [if_neg h] at hE; exact kf h ls H locs a m' hl hh hS hE) | (have h' : ¬ (y ≤ x) := (by simpa using h); rw [if_neg h'] at hE; exact kf h' ls H locs a m' hl hh hS hE)
theorem rf_if_gt (C : Cx G X d cc nL own ret) {x : Int32} {off : Int} {tgt : Nat} {hdec : Decidable (0 < x)} (hd : decode cc pc = .ok (.ifCond .gt off, 3)) (ht : (pc : Int) + off = (tgt : Int)) (hn : pc + 3 = n) (kt : 0 < x → Rf vl G X tgt lv st m E1) (kf : ¬ (0 < x) → Rf vl G X n lv st m E2) : Rf vl G X pc lv (.int x :: st) m (@ite _ (0 < x) hdec E1 E2) := by
  obtain ⟨p, e, R, s, mt, args, below, meth, c, cs, sl, Qp⟩ := X
  obtain ⟨hx, hb, hml, how, hts, hK, hr, hlk, hR⟩ := C
  subst hn
  intro ls H locs a m' hl hh hS hE
  refine lv_if_gt hx hb hd ht (fun h => ?_) (fun h => ?_)
  · first | (rw [if_pos h] at hE; exact kt h ls H locs a m' hl hh hS hE) | (have h' : 0 < x := (by simpa using h); rw [if_pos h'] at hE; exact kt h' ls H locs a m' hl hh hS hE)
  · first | (rw [if_neg h] at hE; exact kf h ls H locs a m' hl hh hS hE) | (have h' : ¬ (0 < x) := (by simpa using h); rw [if_neg h'] at hE; exact kf h' ls H locs a m' hl hh hS hE)
theorem rf_icmp_gt (C : Cx G X d cc nL own ret) {x y : Int32} {off : Int} {tgt : Nat} {hdec : Decidable (y < x)} (hd : decode cc pc = .ok (.if_icmp .gt off, 3)) (ht : (pc : Int) + off = (tgt : Int)) (hn : pc + 3 = n) (kt : y < x → Rf vl G X tgt lv st m E1) (kf : ¬ (y < x) → Rf vl G X n lv st m E2) : Rf vl G X pc lv (.int y :: .int x :: st) m (@ite _ (y < x) hdec E1 E2) := by
  obtain ⟨p, e, R, s, mt, args, below, meth, c, cs, sl, Qp⟩ := X
  obtain ⟨hx, hb, hml, how, hts, hK, hr, hlk, hR⟩ := C
  subst hn
  intro ls H locs a m' hl hh hS hE
  refine lv_icmp_gt hx hb hd ht (fun h => ?_) (fun h => ?_)
  · first | (rw [if_pos h] at hE; exact kt h ls H locs a m' hl hh hS hE) | (have h' : y < x := (by simpa using h); rw [if_pos h'] at hE; exact kt h' ls H locs a m' hl hh hS hE)
  · first | (rw [if_neg h] at hE; exact kf h ls H locs a m' hl hh hS hE) | (have h' : ¬ (y < x) := (by simpa using h); rw [if_neg h'] at hE; exact kf h' ls H locs a m' hl hh hS hE)
theorem rf_if_le (C : Cx G X d cc nL own ret) {x : Int32} {off : Int} {tgt : Nat} {hdec : Decidable (x ≤ 0)} (hd : decode cc pc = .ok (.ifCond .le off, 3)) (ht : (pc : Int) + off = (tgt : Int)) (hn : pc + 3 = n) (kt : x ≤ 0 → Rf vl G X tgt lv st m E1) (kf : ¬ (x ≤ 0) → Rf vl G X n lv st m E2) : Rf vl G X pc lv (.int x :: st) m (@ite _ (x ≤ 0) hdec E1 E2) := by
  obtain ⟨p, e, R, s, mt, args, below, meth, c, cs, sl, Qp⟩ := X
  obtain ⟨hx, hb, hml, how, hts, hK, hr, hlk, hR⟩ := C
  subst hn
  intro ls H locs a m' hl hh hS hE
  refine lv_if_le hx hb hd ht (fun h => ?_) (fun h => ?_)
  · first | (rw [if_pos h] at hE; exact kt h ls H locs a m' hl hh hS hE) | (have h' : x ≤ 0 := (by simpa using h); rw [if_pos h'] at hE; exact kt h' ls H locs a m' hl hh hS hE)
  · first | (rw [if_neg h] at hE; exact kf h ls H locs a m' hl hh hS hE) | (have h' : ¬ (x ≤ 0) := (by simpa using h); rw [if_neg h'] at hE; exact kf h' ls H locs a m' hl hh hS hE)
theorem rf_icmp_le (C : Cx G X d cc nL own ret) {x y : Int32} {off : Int} {tgt : Nat} {hdec : Decidable (x ≤ y)} (hd : decode cc pc = .ok (.if_icmp .le off, 3)) (ht : (pc : Int) + off = (tgt : Int)) (hn : pc + 3 = n) (kt : x ≤ y → Rf vl G X tgt lv st m E1) (kf : ¬ (x ≤ y) → Rf vl G X n lv st m E2) : Rf vl G X pc lv (.int y :: .int x :: st) m (@ite _ (x ≤ y) hdec E1 E2) := by
  obtain ⟨p, e, R, s, mt, args, below, meth, c, cs, sl, Qp⟩ := X
  obtain ⟨hx, hb, hml, how, hts, hK, hr, hlk, hR⟩ := C
  subst hn
  intro ls H locs a m' hl hh hS hE
  refine lv_icmp_le hx hb hd ht (fun h => ?_) (fun h => ?_)
  · first | (rw [if_pos h] at hE; exact kt h ls H locs a m' hl hh hS hE) | (have h' : x ≤ y := (by simpa using h); rw [if_pos h'] at hE; exact kt h' ls H locs a m' hl hh hS hE)
  · first | (rw [if_neg h] at hE; exact kf h ls H locs a m' hl hh hS hE) | (have h' : ¬ (x ≤ y) := (by simpa using h); rw [if_neg h'] at hE; exact kf h' ls H locs a m' hl hh hS hE)
theorem rf_letI {x : Int32} {F : Int32 → Option (α × hM)} (k : ∀ y : Int32, Rf vl G X pc lv (.int y :: st) m (F y)) : Rf vl G X pc lv (.int x :: st) m (hLet x F) := k x
theorem rf_letL {x : Int64} {F : Int64 → Option (α × hM)} (k : ∀ y : Int64, Rf vl G X pc lv (.long y :: st) m (F y)) : Rf vl G X pc lv (.long x :: st) m (hLet x F) := k x
theorem rf_letM {F : hM → Option (α × hM)} (k : ∀ m : hM, Rf vl G X pc lv st m (F m)) : Rf vl G X pc lv st m (hLet m F) := k m
theorem rf_sw {x c : Int32} {hdec : Decidable (x = c)} (h1 : x = c → Rf vl G X pc lv (.int x :: st) m E1) (h2 : ¬ x = c → Rf vl G X pc lv (.int x :: st) m E2) : Rf vl G X pc lv (.int x :: st) m (@ite _ (x = c) hdec E1 E2) := by
  by_cases h : x = c
  · rw [if_pos h]; exact h1 h
  · rw [if_neg h]; exact h2 h
theorem rf_tabIn (C : Cx G X d cc nL own ret) {dflt lo hi : Int} {offs : Array Int} {len : Nat} {x c : Int32} {off : Int} (hd : decode cc pc = .ok (.tableswitch dflt lo hi offs, len)) (hxc : x = c) (h1 : ¬ c.toInt < lo) (h2 : ¬ hi < c.toInt) (ho : offs[(c.toInt - lo).toNat]? = some off) (ht : (pc : Int) + off = (n : Int)) (k : Rf vl G X n lv st m E) : Rf vl G X pc lv (.int x :: st) m E := by
  obtain ⟨p, e, R, s, mt, args, below, meth, c, cs, sl, Qp⟩ := X
  obtain ⟨hx, hb, hml, how, hts, hK, hr, hlk, hR⟩ := C
  intro ls H locs a m' hl hh hS hE
  exact lv_tableIn hx hb hd (by rw [hxc]; exact h1) (by rw [hxc]; exact h2) (by rw [hxc]; exact ho) ht (k ls H locs a m' hl hh hS hE)
theorem rf_tabD (C : Cx G X d cc nL own ret) {dflt lo hi : Int} {offs : Array Int} {len : Nat} {x : Int32} (hd : decode cc pc = .ok (.tableswitch dflt lo hi offs, len)) (cs : List Int32) (hno : ∀ c ∈ cs, ¬ x = c) (hall : ∀ k, k < offs.size → offs[k]? = some dflt ∨ Int32.ofInt (lo + (k : Int)) ∈ cs) (hsz : hi < lo + (offs.size : Int)) (ht : (pc : Int) + dflt = (n : Int)) (k : Rf vl G X n lv st m E) : Rf vl G X pc lv (.int x :: st) m E := by
  obtain ⟨p, e, R, s, mt, args, below, meth, c, cs, sl, Qp⟩ := X
  obtain ⟨hx, hb, hml, how, hts, hK, hr, hlk, hR⟩ := C
  intro ls H locs a m' hl hh hS hE
  by_cases ho : x.toInt < lo ∨ hi < x.toInt
  · exact lv_tableOut hx hb hd ho ht (k ls H locs a m' hl hh hS hE)
  · have h1 : ¬ x.toInt < lo := fun h => ho (Or.inl h)
    have h2 : ¬ hi < x.toInt := fun h => ho (Or.inr h)
    rcases hall (x.toInt - lo).toNat (by omega) with h | h
    · exact lv_tableIn hx hb hd h1 h2 h ht (k ls H locs a m' hl hh hS hE)
    · exfalso
      refine hno _ h ?_
      have e : lo + (((x.toInt - lo).toNat : Nat) : Int) = x.toInt := by omega
      rw [e, Int32.ofInt_toInt]
theorem look_D {d x : Int} : ∀ ps : List (Int × Int), (∀ p ∈ ps, ¬ x = p.1) → Op.lookupswitch.offset ps d x = d
  | [], _ => rfl
  | (a, o) :: r, h => by
    rw [Op.lookupswitch.offset_cons, if_neg]
    · exact look_D r (fun p hp => h p (List.mem_cons_of_mem _ hp))
    · have := h (a, o) List.mem_cons_self
      first | exact this | exact fun q => this q.symm
theorem rf_lookIn (C : Cx G X d cc nL own ret) {dflt : Int} {ps : Array (Int × Int)} {len : Nat} {x c : Int32} {off : Int} (hd : decode cc pc = .ok (.lookupswitch dflt ps, len)) (hxc : x = c) (hp : (ps.toList.zip (ps.toList.drop 1)).all (fun (a, next) => a.1 < next.1) = true) (ho : Op.lookupswitch.offset ps.toList dflt c.toInt = off) (ht : (pc : Int) + off = (n : Int)) (k : Rf vl G X n lv st m E) : Rf vl G X pc lv (.int x :: st) m E := by
  obtain ⟨p, e, R, s, mt, args, below, meth, c, cs, sl, Qp⟩ := X
  obtain ⟨hx, hb, hml, how, hts, hK, hr, hlk, hR⟩ := C
  intro ls H locs a m' hl hh hS hE
  exact lv_lookup hx hb hd hp (by rw [hxc]; exact ho) ht (k ls H locs a m' hl hh hS hE)
theorem rf_lookD (C : Cx G X d cc nL own ret) {dflt : Int} {ps : Array (Int × Int)} {len : Nat} {x : Int32} (hd : decode cc pc = .ok (.lookupswitch dflt ps, len)) (cs : List Int32) (hno : ∀ c ∈ cs, ¬ x = c) (hp : (ps.toList.zip (ps.toList.drop 1)).all (fun (a, next) => a.1 < next.1) = true) (hall : ∀ q ∈ ps.toList, Int32.ofInt q.1 ∈ cs) (ht : (pc : Int) + dflt = (n : Int)) (k : Rf vl G X n lv st m E) : Rf vl G X pc lv (.int x :: st) m E := by
  obtain ⟨p, e, R, s, mt, args, below, meth, c, cs, sl, Qp⟩ := X
  obtain ⟨hx, hb, hml, how, hts, hK, hr, hlk, hR⟩ := C
  intro ls H locs a m' hl hh hS hE
  refine lv_lookup hx hb hd hp (look_D _ (fun q hq hxq => ?_)) ht (k ls H locs a m' hl hh hS hE)
  refine hno _ (hall q hq) ?_
  rw [← hxq, Int32.ofInt_toInt]
end RFR
