/-! ===== printed by wip/whole/gen.py: the worlds, the words, the methods' conditions ===== -/
def dscC : List CD := [.inr (8, [(2, 0), (2, 0), (4, 13), (4, 15), (4, 17), (4, 36), (4, 38), (4, 21), (4, 23), (4, 25), (4, 31), (4, 34), (4, 35), (0, 0)]), .inr (7, [(3, 1), (3, 2), (3, 3), (3, 4), (3, 5), (0, 0), (0, 0), (0, 0)]), .inl (0, 7), .inl (0, 7), .inl (0, 49), .inl (0, 49), .inl (0, 49), .inr (7, [(3, 1), (3, 2), (3, 3), (3, 4), (3, 5), (0, 0), (0, 0), (0, 0)]), .inl (0, 7), .inl (0, 7), .inl (0, 49), .inl (0, 49), .inl (0, 49), .inr (6, [(4, 14), (0, 0)]), .inl (3, 200), .inr (2, [(4, 16), (0, 0)]), .inl (0, 4), .inr (1, [(4, 18), (4, 19), (2, 0), (4, 20), (0, 0), (0, 0)]), .inl (0, 1372), .inl (1, 28), .inl (0, 7), .inr (4, [(4, 22), (0, 0)]), .inl (2, 8), .inr (4, [(4, 24), (0, 0)]), .inl (2, 2), .inr (3, [(4, 26), (4, 27), (4, 28), (4, 29), (4, 60), (4, 62), (0, 0), (0, 0), (4, 30), (0, 0), (0, 0)]), .inl (1, 203), .inl (1, 203), .inl (0, 1568), .inl (0, 7), .inl (0, 28), .inr (0, [(4, 32), (4, 33), (1, 0)]), .inl (1, 7), .inl (1, 7), .inl (0, 6), .inl (0, 6), .inr (5, [(3, 1), (0, 0), (0, 0), (0, 0), (0, 0), (0, 0), (1, 0)]), .inl (0, 7), .inr (5, [(3, 1), (0, 0), (0, 0), (0, 0), (0, 0), (0, 0), (1, 0)]), .inl (0, 7), .inr (5, [(3, 1), (0, 0), (0, 0), (0, 0), (0, 0), (0, 0), (1, 0)]), .inl (0, 7), .inr (5, [(3, 1), (0, 0), (0, 0), (0, 0), (0, 0), (0, 0), (1, 0)]), .inl (0, 7), .inr (5, [(3, 1), (0, 0), (0, 0), (0, 0), (0, 0), (0, 0), (1, 0)]), .inl (0, 7), .inr (5, [(3, 1), (0, 0), (0, 0), (0, 0), (0, 0), (0, 0), (1, 0)]), .inl (0, 7), .inr (5, [(3, 1), (0, 0), (0, 0), (0, 0), (0, 0), (0, 0), (1, 0)]), .inl (0, 7), .inr (5, [(3, 1), (0, 0), (0, 0), (0, 0), (0, 0), (0, 0), (1, 0)]), .inl (0, 7), .inr (5, [(3, 1), (0, 0), (0, 0), (0, 0), (0, 0), (0, 0), (1, 0)]), .inl (0, 7), .inr (5, [(3, 1), (0, 0), (0, 0), (0, 0), (0, 0), (0, 0), (1, 0)]), .inl (0, 7), .inr (5, [(3, 1), (0, 0), (0, 0), (0, 0), (0, 0), (0, 0), (1, 0)]), .inl (0, 7), .inr (5, [(3, 1), (0, 0), (0, 0), (0, 0), (0, 0), (0, 0), (1, 0)]), .inl (0, 7), .inr (5, [(3, 1), (0, 0), (0, 0), (0, 0), (0, 0), (0, 0), (1, 0)]), .inl (0, 7), .inr (5, [(3, 1), (0, 0), (0, 0), (0, 0), (0, 0), (0, 0), (1, 0)]), .inl (0, 7)]
theorem dC_0 : dscC[0]? = some (.inr (8, [(2, 0), (2, 0), (4, 13), (4, 15), (4, 17), (4, 36), (4, 38), (4, 21), (4, 23), (4, 25), (4, 31), (4, 34), (4, 35), (0, 0)])) := rfl
theorem dC_1 : dscC[1]? = some (.inr (7, [(3, 1), (3, 2), (3, 3), (3, 4), (3, 5), (0, 0), (0, 0), (0, 0)])) := rfl
theorem dC_2 : dscC[2]? = some (.inl (0, 7)) := rfl
theorem dC_3 : dscC[3]? = some (.inl (0, 7)) := rfl
theorem dC_4 : dscC[4]? = some (.inl (0, 49)) := rfl
theorem dC_5 : dscC[5]? = some (.inl (0, 49)) := rfl
theorem dC_6 : dscC[6]? = some (.inl (0, 49)) := rfl
theorem dC_7 : dscC[7]? = some (.inr (7, [(3, 1), (3, 2), (3, 3), (3, 4), (3, 5), (0, 0), (0, 0), (0, 0)])) := rfl
theorem dC_8 : dscC[8]? = some (.inl (0, 7)) := rfl
theorem dC_9 : dscC[9]? = some (.inl (0, 7)) := rfl
theorem dC_10 : dscC[10]? = some (.inl (0, 49)) := rfl
theorem dC_11 : dscC[11]? = some (.inl (0, 49)) := rfl
theorem dC_12 : dscC[12]? = some (.inl (0, 49)) := rfl
theorem dC_13 : dscC[13]? = some (.inr (6, [(4, 14), (0, 0)])) := rfl
theorem dC_14 : dscC[14]? = some (.inl (3, 200)) := rfl
theorem dC_15 : dscC[15]? = some (.inr (2, [(4, 16), (0, 0)])) := rfl
theorem dC_16 : dscC[16]? = some (.inl (0, 4)) := rfl
theorem dC_17 : dscC[17]? = some (.inr (1, [(4, 18), (4, 19), (2, 0), (4, 20), (0, 0), (0, 0)])) := rfl
theorem dC_18 : dscC[18]? = some (.inl (0, 1372)) := rfl
theorem dC_19 : dscC[19]? = some (.inl (1, 28)) := rfl
theorem dC_20 : dscC[20]? = some (.inl (0, 7)) := rfl
theorem dC_21 : dscC[21]? = some (.inr (4, [(4, 22), (0, 0)])) := rfl
theorem dC_22 : dscC[22]? = some (.inl (2, 8)) := rfl
theorem dC_23 : dscC[23]? = some (.inr (4, [(4, 24), (0, 0)])) := rfl
theorem dC_24 : dscC[24]? = some (.inl (2, 2)) := rfl
theorem dC_25 : dscC[25]? = some (.inr (3, [(4, 26), (4, 27), (4, 28), (4, 29), (4, 60), (4, 62), (0, 0), (0, 0), (4, 30), (0, 0), (0, 0)])) := rfl
theorem dC_26 : dscC[26]? = some (.inl (1, 203)) := rfl
theorem dC_27 : dscC[27]? = some (.inl (1, 203)) := rfl
theorem dC_28 : dscC[28]? = some (.inl (0, 1568)) := rfl
theorem dC_29 : dscC[29]? = some (.inl (0, 7)) := rfl
theorem dC_30 : dscC[30]? = some (.inl (0, 28)) := rfl
theorem dC_31 : dscC[31]? = some (.inr (0, [(4, 32), (4, 33), (1, 0)])) := rfl
theorem dC_32 : dscC[32]? = some (.inl (1, 7)) := rfl
theorem dC_33 : dscC[33]? = some (.inl (1, 7)) := rfl
theorem dC_34 : dscC[34]? = some (.inl (0, 6)) := rfl
theorem dC_35 : dscC[35]? = some (.inl (0, 6)) := rfl
theorem dC_36 : dscC[36]? = some (.inr (5, [(3, 1), (0, 0), (0, 0), (0, 0), (0, 0), (0, 0), (1, 0)])) := rfl
theorem dC_37 : dscC[37]? = some (.inl (0, 7)) := rfl
theorem dC_38 : dscC[38]? = some (.inr (5, [(3, 1), (0, 0), (0, 0), (0, 0), (0, 0), (0, 0), (1, 0)])) := rfl
theorem dC_39 : dscC[39]? = some (.inl (0, 7)) := rfl
theorem dC_40 : dscC[40]? = some (.inr (5, [(3, 1), (0, 0), (0, 0), (0, 0), (0, 0), (0, 0), (1, 0)])) := rfl
theorem dC_41 : dscC[41]? = some (.inl (0, 7)) := rfl
theorem dC_42 : dscC[42]? = some (.inr (5, [(3, 1), (0, 0), (0, 0), (0, 0), (0, 0), (0, 0), (1, 0)])) := rfl
theorem dC_43 : dscC[43]? = some (.inl (0, 7)) := rfl
theorem dC_44 : dscC[44]? = some (.inr (5, [(3, 1), (0, 0), (0, 0), (0, 0), (0, 0), (0, 0), (1, 0)])) := rfl
theorem dC_45 : dscC[45]? = some (.inl (0, 7)) := rfl
theorem dC_46 : dscC[46]? = some (.inr (5, [(3, 1), (0, 0), (0, 0), (0, 0), (0, 0), (0, 0), (1, 0)])) := rfl
theorem dC_47 : dscC[47]? = some (.inl (0, 7)) := rfl
theorem dC_48 : dscC[48]? = some (.inr (5, [(3, 1), (0, 0), (0, 0), (0, 0), (0, 0), (0, 0), (1, 0)])) := rfl
theorem dC_49 : dscC[49]? = some (.inl (0, 7)) := rfl
theorem dC_50 : dscC[50]? = some (.inr (5, [(3, 1), (0, 0), (0, 0), (0, 0), (0, 0), (0, 0), (1, 0)])) := rfl
theorem dC_51 : dscC[51]? = some (.inl (0, 7)) := rfl
theorem dC_52 : dscC[52]? = some (.inr (5, [(3, 1), (0, 0), (0, 0), (0, 0), (0, 0), (0, 0), (1, 0)])) := rfl
theorem dC_53 : dscC[53]? = some (.inl (0, 7)) := rfl
theorem dC_54 : dscC[54]? = some (.inr (5, [(3, 1), (0, 0), (0, 0), (0, 0), (0, 0), (0, 0), (1, 0)])) := rfl
theorem dC_55 : dscC[55]? = some (.inl (0, 7)) := rfl
theorem dC_56 : dscC[56]? = some (.inr (5, [(3, 1), (0, 0), (0, 0), (0, 0), (0, 0), (0, 0), (1, 0)])) := rfl
theorem dC_57 : dscC[57]? = some (.inl (0, 7)) := rfl
theorem dC_58 : dscC[58]? = some (.inr (5, [(3, 1), (0, 0), (0, 0), (0, 0), (0, 0), (0, 0), (1, 0)])) := rfl
theorem dC_59 : dscC[59]? = some (.inl (0, 7)) := rfl
theorem dC_60 : dscC[60]? = some (.inr (5, [(3, 1), (0, 0), (0, 0), (0, 0), (0, 0), (0, 0), (1, 0)])) := rfl
theorem dC_61 : dscC[61]? = some (.inl (0, 7)) := rfl
theorem dC_62 : dscC[62]? = some (.inr (5, [(3, 1), (0, 0), (0, 0), (0, 0), (0, 0), (0, 0), (1, 0)])) := rfl
theorem dC_63 : dscC[63]? = some (.inl (0, 7)) := rfl
def dscM : List CD := [.inr (9, [(0, 0), (4, 1), (0, 0), (0, 0), (0, 0), (0, 0), (4, 2), (4, 3), (4, 4), (4, 5), (4, 6), (4, 7), (0, 0), (0, 0), (4, 8), (4, 9), (4, 10), (4, 11), (4, 12), (4, 13), (4, 14), (4, 15), (0, 0), (0, 0), (4, 16), (4, 17), (4, 18), (0, 0), (4, 19), (4, 20), (4, 21), (0, 0), (4, 22)]), .inl (0, 200), .inl (0, 7), .inl (0, 7), .inl (0, 49), .inl (0, 49), .inl (0, 49), .inl (0, 4), .inl (0, 7), .inl (0, 7), .inl (0, 49), .inl (0, 49), .inl (0, 49), .inl (0, 13), .inl (0, 13), .inl (0, 7), .inl (0, 104), .inl (0, 1568), .inl (0, 25984), .inl (0, 12), .inl (1, 7), .inl (1, 7), .inl (0, 26)]
theorem dM_0 : dscM[0]? = some (.inr (9, [(0, 0), (4, 1), (0, 0), (0, 0), (0, 0), (0, 0), (4, 2), (4, 3), (4, 4), (4, 5), (4, 6), (4, 7), (0, 0), (0, 0), (4, 8), (4, 9), (4, 10), (4, 11), (4, 12), (4, 13), (4, 14), (4, 15), (0, 0), (0, 0), (4, 16), (4, 17), (4, 18), (0, 0), (4, 19), (4, 20), (4, 21), (0, 0), (4, 22)])) := rfl
theorem dM_1 : dscM[1]? = some (.inl (0, 200)) := rfl
theorem dM_2 : dscM[2]? = some (.inl (0, 7)) := rfl
theorem dM_3 : dscM[3]? = some (.inl (0, 7)) := rfl
theorem dM_4 : dscM[4]? = some (.inl (0, 49)) := rfl
theorem dM_5 : dscM[5]? = some (.inl (0, 49)) := rfl
theorem dM_6 : dscM[6]? = some (.inl (0, 49)) := rfl
theorem dM_7 : dscM[7]? = some (.inl (0, 4)) := rfl
theorem dM_8 : dscM[8]? = some (.inl (0, 7)) := rfl
theorem dM_9 : dscM[9]? = some (.inl (0, 7)) := rfl
theorem dM_10 : dscM[10]? = some (.inl (0, 49)) := rfl
theorem dM_11 : dscM[11]? = some (.inl (0, 49)) := rfl
theorem dM_12 : dscM[12]? = some (.inl (0, 49)) := rfl
theorem dM_13 : dscM[13]? = some (.inl (0, 13)) := rfl
theorem dM_14 : dscM[14]? = some (.inl (0, 13)) := rfl
theorem dM_15 : dscM[15]? = some (.inl (0, 7)) := rfl
theorem dM_16 : dscM[16]? = some (.inl (0, 104)) := rfl
theorem dM_17 : dscM[17]? = some (.inl (0, 1568)) := rfl
theorem dM_18 : dscM[18]? = some (.inl (0, 25984)) := rfl
theorem dM_19 : dscM[19]? = some (.inl (0, 12)) := rfl
theorem dM_20 : dscM[20]? = some (.inl (1, 7)) := rfl
theorem dM_21 : dscM[21]? = some (.inl (1, 7)) := rfl
theorem dM_22 : dscM[22]? = some (.inl (0, 26)) := rfl
theorem dC_o7_1 {v : Nat} (h : dscC[v]? = some dVal) : dscC[v + 1]? = some (.inl (0, 7)) := by
  have hl : v < 64 := (List.getElem?_eq_some_iff.mp h).1
  have key : ∀ i : Fin 64, dscC[i.val]? = some dVal → dscC[i.val + 1]? = some (.inl (0, 7)) := by decide +kernel
  exact key ⟨v, hl⟩ h
theorem dC_o7_2 {v : Nat} (h : dscC[v]? = some dVal) : dscC[v + 2]? = some (.inl (0, 7)) := by
  have hl : v < 64 := (List.getElem?_eq_some_iff.mp h).1
  have key : ∀ i : Fin 64, dscC[i.val]? = some dVal → dscC[i.val + 2]? = some (.inl (0, 7)) := by decide +kernel
  exact key ⟨v, hl⟩ h
theorem dC_o7_3 {v : Nat} (h : dscC[v]? = some dVal) : dscC[v + 3]? = some (.inl (0, 49)) := by
  have hl : v < 64 := (List.getElem?_eq_some_iff.mp h).1
  have key : ∀ i : Fin 64, dscC[i.val]? = some dVal → dscC[i.val + 3]? = some (.inl (0, 49)) := by decide +kernel
  exact key ⟨v, hl⟩ h
theorem dC_o7_4 {v : Nat} (h : dscC[v]? = some dVal) : dscC[v + 4]? = some (.inl (0, 49)) := by
  have hl : v < 64 := (List.getElem?_eq_some_iff.mp h).1
  have key : ∀ i : Fin 64, dscC[i.val]? = some dVal → dscC[i.val + 4]? = some (.inl (0, 49)) := by decide +kernel
  exact key ⟨v, hl⟩ h
theorem dC_o7_5 {v : Nat} (h : dscC[v]? = some dVal) : dscC[v + 5]? = some (.inl (0, 49)) := by
  have hl : v < 64 := (List.getElem?_eq_some_iff.mp h).1
  have key : ∀ i : Fin 64, dscC[i.val]? = some dVal → dscC[i.val + 5]? = some (.inl (0, 49)) := by decide +kernel
  exact key ⟨v, hl⟩ h
theorem dC_o5_1 {v : Nat} (h : dscC[v]? = some dSt) : dscC[v + 1]? = some (.inl (0, 7)) := by
  have hl : v < 64 := (List.getElem?_eq_some_iff.mp h).1
  have key : ∀ i : Fin 64, dscC[i.val]? = some dSt → dscC[i.val + 1]? = some (.inl (0, 7)) := by decide +kernel
  exact key ⟨v, hl⟩ h
theorem cf0 : CF 0 "BellSchool$Measles" TX0 3 tyX0 := ⟨rfl, inX0, tyX0_ok, nmX0⟩
theorem cf1 : CF 1 "BellSchool$Noon" TX1 6 tyX1 := ⟨rfl, inX1, tyX1_ok, nmX1⟩
theorem cf2 : CF 2 "BellSchool$Reader" TX2 2 tyX2 := ⟨rfl, inX2, tyX2_ok, nmX2⟩
theorem cf3 : CF 3 "BellSchool$Search" TX3 11 tyX3 := ⟨rfl, inX3, tyX3_ok, nmX3⟩
theorem cf4 : CF 4 "BellSchool$Shelf" TX4 2 tyX4 := ⟨rfl, inX4, tyX4_ok, nmX4⟩
theorem cf5 : CF 5 "BellSchool$Standing" TX5 7 tyX5 := ⟨rfl, inX5, tyX5_ok, nmX5⟩
theorem cf6 : CF 6 "BellSchool$Text" TX6 2 tyX6 := ⟨rfl, inX6, tyX6_ok, nmX6⟩
theorem cf7 : CF 7 "BellSchool$Valley" TX7 8 tyX7 := ⟨rfl, inX7, tyX7_ok, nmX7⟩
theorem cf8 : CF 8 "BellSchool" TX8 14 tyX8 := ⟨rfl, inX8, tyX8_ok, nmX8⟩
theorem cf9 : CF 9 "BellSchoolModel" TX9 33 tyX9 := ⟨rfl, inX9, tyX9_ok, nmX9⟩
theorem mw0 : Cond.fieldLink "BellSchool$Text" 13 "BellSchool$Text" "length" "I" ∈ TB := tb_in (lw_i1 76 rfl) rfl
theorem mw1 : Cond.fieldLink "BellSchool$Text" 7 "BellSchool$Text" "letters" "[C" ∈ TB := tb_in (lw_i1 74 rfl) rfl
theorem mw2 : Cond.code ⟨"BellSchool$Text", "add", "(C)Z"⟩ prog_8_method_2_code 2 (some .boolean) ∈ TB := tb_in (lw_i2 73 rfl) rfl
theorem mw3 : Cond.initialized "BellSchool$Text" ∈ TB := tb_in (lw_i1 3 rfl) rfl
theorem mw4 : Cond.instanceMethod ⟨"BellSchool$Text", "add", "(C)Z"⟩ ∈ TB := tb_in (lw_i2 71 rfl) rfl
theorem mw5 : Cond.selects "BellSchool$Text" ⟨"BellSchool$Text", "add", "(C)Z"⟩ ⟨"BellSchool$Text", "add", "(C)Z"⟩ ∈ TB := tb_in (lw_i2 72 rfl) rfl
theorem mw6 : Cond.fieldLink "BellSchool" 22 "BellSchool" "text" "LBellSchool$Text;" ∈ TB := tb_in (lw_i2 151 rfl) rfl
theorem mw7 : Cond.methodLink "BellSchool" 101 ⟨"BellSchool$Text", "add", "(C)Z"⟩ ∈ TB := tb_in (lw_i2 70 rfl) rfl
theorem mw8 : Cond.fieldLink "BellSchool" 109 "BellSchool$Text" "length" "I" ∈ TB := tb_in (lw_i1 77 rfl) rfl
theorem mw9 : Cond.code ⟨"BellSchool", "write", "(I)I"⟩ prog_1_method_2_code 2 (some .int) ∈ TB := tb_in (lw_i2 196 rfl) rfl
theorem mw10 : Cond.initialized "BellSchool" ∈ TB := tb_in (lw_i1 1 rfl) rfl
theorem mw11 : Cond.instanceMethod ⟨"BellSchool", "write", "(I)I"⟩ ∈ TB := tb_in (lw_i2 194 rfl) rfl
theorem mw12 : Cond.selects "BellSchool" ⟨"BellSchool", "write", "(I)I"⟩ ⟨"BellSchool", "write", "(I)I"⟩ ∈ TB := tb_in (lw_i2 195 rfl) rfl
theorem mw13 : Cond.code ⟨"BellSchool", "wipe", "()I"⟩ prog_1_method_3_code 2 (some .int) ∈ TB := tb_in (lw_i2 200 rfl) rfl
theorem mw14 : Cond.instanceMethod ⟨"BellSchool", "wipe", "()I"⟩ ∈ TB := tb_in (lw_i2 198 rfl) rfl
theorem mw15 : Cond.selects "BellSchool" ⟨"BellSchool", "wipe", "()I"⟩ ⟨"BellSchool", "wipe", "()I"⟩ ∈ TB := tb_in (lw_i2 199 rfl) rfl
theorem mw16 : Cond.fieldLink "BellSchool$Valley" 27 "BellSchool$Valley" "homes" "I" ∈ TB := tb_in (lw_i1 43 rfl) rfl
theorem mw17 : Cond.fieldLink "BellSchool$Valley" 31 "BellSchool$Valley" "bell" "I" ∈ TB := tb_in (lw_i1 46 rfl) rfl
theorem mw18 : Cond.fieldLink "BellSchool$Valley" 34 "BellSchool$Valley" "farthest" "I" ∈ TB := tb_in (lw_i1 48 rfl) rfl
theorem mw19 : Cond.fieldLink "BellSchool$Valley" 18 "BellSchool$Valley" "minutes" "[I" ∈ TB := tb_in (lw_i1 38 rfl) rfl
theorem mw20 : Cond.fieldLink "BellSchool$Valley" 21 "BellSchool$Valley" "snowFrom" "[I" ∈ TB := tb_in (lw_i1 41 rfl) rfl
theorem mw21 : Cond.fieldLink "BellSchool$Valley" 24 "BellSchool$Valley" "snowTo" "[I" ∈ TB := tb_in (lw_i1 42 rfl) rfl
theorem mw22 : Cond.code ⟨"BellSchool$Valley", "clear", "()V"⟩ prog_9_method_2_code 2 none ∈ TB := tb_in (lw_i2 85 rfl) rfl
theorem mw23 : Cond.initialized "BellSchool$Valley" ∈ TB := tb_in (lw_i1 2 rfl) rfl
theorem mw24 : Cond.instanceMethod ⟨"BellSchool$Valley", "clear", "()V"⟩ ∈ TB := tb_in (lw_i2 83 rfl) rfl
theorem mw25 : Cond.selects "BellSchool$Valley" ⟨"BellSchool$Valley", "clear", "()V"⟩ ⟨"BellSchool$Valley", "clear", "()V"⟩ ∈ TB := tb_in (lw_i2 84 rfl) rfl
theorem mw26 : Cond.code ⟨"BellSchool$Text", "at", "(I)C"⟩ prog_8_method_3_code 2 (some .char) ∈ TB := tb_in (lw_i2 89 rfl) rfl
theorem mw27 : Cond.instanceMethod ⟨"BellSchool$Text", "at", "(I)C"⟩ ∈ TB := tb_in (lw_i2 87 rfl) rfl
theorem mw28 : Cond.selects "BellSchool$Text" ⟨"BellSchool$Text", "at", "(I)C"⟩ ⟨"BellSchool$Text", "at", "(I)C"⟩ ∈ TB := tb_in (lw_i2 88 rfl) rfl
theorem mw29 : Cond.code ⟨"BellSchool$Reader", "numbersOf", "(I)I"⟩ prog_4_method_3_code 1 (some .int) ∈ TB := tb_in (lw_i2 92 rfl) rfl
theorem mw30 : Cond.initialized "BellSchool$Reader" ∈ TB := tb_in (lw_i1 4 rfl) rfl
theorem mw31 : Cond.static ⟨"BellSchool$Reader", "numbersOf", "(I)I"⟩ ∈ TB := tb_in (lw_i2 91 rfl) rfl
theorem mw32 : Cond.code ⟨"BellSchool$Reader", "isFigure", "(C)Z"⟩ prog_4_method_5_code 1 (some .boolean) ∈ TB := tb_in (lw_i2 99 rfl) rfl
theorem mw33 : Cond.static ⟨"BellSchool$Reader", "isFigure", "(C)Z"⟩ ∈ TB := tb_in (lw_i2 98 rfl) rfl
theorem mw34 : Cond.fieldLink "BellSchool$Reader" 9 "BellSchool$Reader" "number" "[I" ∈ TB := tb_in (lw_i1 91 rfl) rfl
theorem mw35 : Cond.fieldLink "BellSchool$Reader" 15 "BellSchool$Reader" "place" "I" ∈ TB := tb_in (lw_i1 92 rfl) rfl
theorem mw36 : Cond.methodLink "BellSchool$Reader" 33 ⟨"BellSchool$Text", "at", "(I)C"⟩ ∈ TB := tb_in (lw_i2 86 rfl) rfl
theorem mw37 : Cond.methodLink "BellSchool$Reader" 49 ⟨"BellSchool$Reader", "isFigure", "(C)Z"⟩ ∈ TB := tb_in (lw_i2 97 rfl) rfl
theorem mw38 : Cond.code ⟨"BellSchool$Reader", "readNumbers", "(LBellSchool$Text;I)Z"⟩ prog_4_method_4_code 4 (some .boolean) ∈ TB := tb_in (lw_i2 96 rfl) rfl
theorem mw39 : Cond.instanceMethod ⟨"BellSchool$Reader", "readNumbers", "(LBellSchool$Text;I)Z"⟩ ∈ TB := tb_in (lw_i2 95 rfl) rfl
theorem mw40 : Cond.selects "BellSchool$Reader" ⟨"BellSchool$Reader", "readNumbers", "(LBellSchool$Text;I)Z"⟩ ⟨"BellSchool$Reader", "readNumbers", "(LBellSchool$Text;I)Z"⟩ ∈ TB := tb_in (lw_s 1 rfl) rfl
theorem mw41 : Cond.fieldLink "BellSchool$Valley" 9 "BellSchool$Valley" "kind" "[I" ∈ TB := tb_in (lw_i1 32 rfl) rfl
theorem mw42 : Cond.fieldLink "BellSchool$Valley" 15 "BellSchool$Valley" "late" "[I" ∈ TB := tb_in (lw_i1 35 rfl) rfl
theorem mw43 : Cond.code ⟨"BellSchool$Valley", "addHome", "(II)Z"⟩ prog_9_method_5_code 3 (some .boolean) ∈ TB := tb_in (lw_i2 107 rfl) rfl
theorem mw44 : Cond.instanceMethod ⟨"BellSchool$Valley", "addHome", "(II)Z"⟩ ∈ TB := tb_in (lw_i2 105 rfl) rfl
theorem mw45 : Cond.selects "BellSchool$Valley" ⟨"BellSchool$Valley", "addHome", "(II)Z"⟩ ⟨"BellSchool$Valley", "addHome", "(II)Z"⟩ ∈ TB := tb_in (lw_i2 106 rfl) rfl
theorem mw46 : Cond.code ⟨"BellSchool$Valley", "has", "(I)Z"⟩ prog_9_method_3_code 2 (some .boolean) ∈ TB := tb_in (lw_i2 119 rfl) rfl
theorem mw47 : Cond.instanceMethod ⟨"BellSchool$Valley", "has", "(I)Z"⟩ ∈ TB := tb_in (lw_i2 117 rfl) rfl
theorem mw48 : Cond.selects "BellSchool$Valley" ⟨"BellSchool$Valley", "has", "(I)Z"⟩ ⟨"BellSchool$Valley", "has", "(I)Z"⟩ ∈ TB := tb_in (lw_i2 118 rfl) rfl
theorem mw49 : Cond.methodLink "BellSchool$Valley" 37 ⟨"BellSchool$Valley", "has", "(I)Z"⟩ ∈ TB := tb_in (lw_i2 116 rfl) rfl
theorem mw50 : Cond.code ⟨"BellSchool$Valley", "hasTwo", "(II)Z"⟩ prog_9_method_4_code 3 (some .boolean) ∈ TB := tb_in (lw_i2 115 rfl) rfl
theorem mw51 : Cond.instanceMethod ⟨"BellSchool$Valley", "hasTwo", "(II)Z"⟩ ∈ TB := tb_in (lw_i2 113 rfl) rfl
theorem mw52 : Cond.selects "BellSchool$Valley" ⟨"BellSchool$Valley", "hasTwo", "(II)Z"⟩ ⟨"BellSchool$Valley", "hasTwo", "(II)Z"⟩ ∈ TB := tb_in (lw_i2 114 rfl) rfl
theorem mw53 : Cond.methodLink "BellSchool" 287 Lib.Math.min.name ∈ TB := tb_in (lw_i2 123 rfl) rfl
theorem mw54 : Cond.static Lib.Math.min.name ∈ TB := tb_in (lw_i2 124 rfl) rfl
theorem mw55 : Cond.initialized "java/lang/Math" ∈ TB := tb_in (lw_i1 8 rfl) rfl
theorem mw56 : Cond.code Lib.Math.min.name Lib.Math.min.code 2 (some .int) ∈ TB := tb_in (lw_i2 125 rfl) rfl
theorem mw57 : Cond.methodLink "BellSchool" 275 Lib.Math.max.name ∈ TB := tb_in (lw_i2 126 rfl) rfl
theorem mw58 : Cond.static Lib.Math.max.name ∈ TB := tb_in (lw_i1 185 rfl) rfl
theorem mw59 : Cond.code Lib.Math.max.name Lib.Math.max.code 2 (some .int) ∈ TB := tb_in (lw_i1 186 rfl) rfl
theorem mw60 : Cond.code ⟨"BellSchool", "pairOf", "(II)I"⟩ prog_1_method_37_code 2 (some .int) ∈ TB := tb_in (lw_i2 122 rfl) rfl
theorem mw61 : Cond.static ⟨"BellSchool", "pairOf", "(II)I"⟩ ∈ TB := tb_in (lw_i2 121 rfl) rfl
theorem mw62 : Cond.methodLink "BellSchool$Valley" 41 ⟨"BellSchool$Valley", "hasTwo", "(II)Z"⟩ ∈ TB := tb_in (lw_i2 112 rfl) rfl
theorem mw63 : Cond.code ⟨"BellSchool$Valley", "addWay", "(III)Z"⟩ prog_9_method_6_code 4 (some .boolean) ∈ TB := tb_in (lw_i2 111 rfl) rfl
theorem mw64 : Cond.instanceMethod ⟨"BellSchool$Valley", "addWay", "(III)Z"⟩ ∈ TB := tb_in (lw_i2 109 rfl) rfl
theorem mw65 : Cond.selects "BellSchool$Valley" ⟨"BellSchool$Valley", "addWay", "(III)Z"⟩ ⟨"BellSchool$Valley", "addWay", "(III)Z"⟩ ∈ TB := tb_in (lw_i2 110 rfl) rfl
theorem mw66 : Cond.code ⟨"BellSchool$Valley", "addSnow", "(IIII)Z"⟩ prog_9_method_7_code 5 (some .boolean) ∈ TB := tb_in (lw_i2 130 rfl) rfl
theorem mw67 : Cond.instanceMethod ⟨"BellSchool$Valley", "addSnow", "(IIII)Z"⟩ ∈ TB := tb_in (lw_i2 128 rfl) rfl
theorem mw68 : Cond.selects "BellSchool$Valley" ⟨"BellSchool$Valley", "addSnow", "(IIII)Z"⟩ ⟨"BellSchool$Valley", "addSnow", "(IIII)Z"⟩ ∈ TB := tb_in (lw_i2 129 rfl) rfl
theorem mw69 : Cond.code ⟨"BellSchool$Valley", "putBell", "(I)Z"⟩ prog_9_method_8_code 2 (some .boolean) ∈ TB := tb_in (lw_i2 134 rfl) rfl
theorem mw70 : Cond.instanceMethod ⟨"BellSchool$Valley", "putBell", "(I)Z"⟩ ∈ TB := tb_in (lw_i2 132 rfl) rfl
theorem mw71 : Cond.selects "BellSchool$Valley" ⟨"BellSchool$Valley", "putBell", "(I)Z"⟩ ⟨"BellSchool$Valley", "putBell", "(I)Z"⟩ ∈ TB := tb_in (lw_i2 133 rfl) rfl
theorem mw72 : Cond.code ⟨"BellSchool$Valley", "limit", "(I)Z"⟩ prog_9_method_9_code 2 (some .boolean) ∈ TB := tb_in (lw_i2 138 rfl) rfl
theorem mw73 : Cond.instanceMethod ⟨"BellSchool$Valley", "limit", "(I)Z"⟩ ∈ TB := tb_in (lw_i2 136 rfl) rfl
theorem mw74 : Cond.selects "BellSchool$Valley" ⟨"BellSchool$Valley", "limit", "(I)Z"⟩ ⟨"BellSchool$Valley", "limit", "(I)Z"⟩ ∈ TB := tb_in (lw_i2 137 rfl) rfl
theorem mw75 : Cond.methodLink "BellSchool$Reader" 65 ⟨"BellSchool$Valley", "putBell", "(I)Z"⟩ ∈ TB := tb_in (lw_i2 131 rfl) rfl
theorem mw76 : Cond.methodLink "BellSchool$Reader" 53 ⟨"BellSchool$Valley", "addHome", "(II)Z"⟩ ∈ TB := tb_in (lw_i2 104 rfl) rfl
theorem mw77 : Cond.methodLink "BellSchool$Reader" 69 ⟨"BellSchool$Valley", "limit", "(I)Z"⟩ ∈ TB := tb_in (lw_i2 135 rfl) rfl
theorem mw78 : Cond.methodLink "BellSchool$Reader" 61 ⟨"BellSchool$Valley", "addSnow", "(IIII)Z"⟩ ∈ TB := tb_in (lw_i2 127 rfl) rfl
theorem mw79 : Cond.methodLink "BellSchool$Reader" 57 ⟨"BellSchool$Valley", "addWay", "(III)Z"⟩ ∈ TB := tb_in (lw_i2 108 rfl) rfl
theorem mw80 : Cond.code ⟨"BellSchool$Reader", "told", "(LBellSchool$Valley;I)Z"⟩ prog_4_method_6_code 3 (some .boolean) ∈ TB := tb_in (lw_i2 103 rfl) rfl
theorem mw81 : Cond.instanceMethod ⟨"BellSchool$Reader", "told", "(LBellSchool$Valley;I)Z"⟩ ∈ TB := tb_in (lw_i2 102 rfl) rfl
theorem mw82 : Cond.selects "BellSchool$Reader" ⟨"BellSchool$Reader", "told", "(LBellSchool$Valley;I)Z"⟩ ⟨"BellSchool$Reader", "told", "(LBellSchool$Valley;I)Z"⟩ ∈ TB := tb_in (lw_s 2 rfl) rfl
theorem mw83 : Cond.methodLink "BellSchool$Reader" 19 ⟨"BellSchool$Valley", "clear", "()V"⟩ ∈ TB := tb_in (lw_i2 82 rfl) rfl
theorem mw84 : Cond.fieldLink "BellSchool$Reader" 24 "BellSchool$Text" "letters" "[C" ∈ TB := tb_in (lw_i1 75 rfl) rfl
theorem mw85 : Cond.fieldLink "BellSchool$Reader" 30 "BellSchool$Text" "length" "I" ∈ TB := tb_in (lw_i1 78 rfl) rfl
theorem mw86 : Cond.methodLink "BellSchool$Reader" 37 ⟨"BellSchool$Reader", "numbersOf", "(I)I"⟩ ∈ TB := tb_in (lw_i2 90 rfl) rfl
theorem mw87 : Cond.methodLink "BellSchool$Reader" 41 ⟨"BellSchool$Reader", "readNumbers", "(LBellSchool$Text;I)Z"⟩ ∈ TB := tb_in (lw_i2 93 rfl) rfl
theorem mw88 : Cond.methodLink "BellSchool$Reader" 45 ⟨"BellSchool$Reader", "told", "(LBellSchool$Valley;I)Z"⟩ ∈ TB := tb_in (lw_i2 100 rfl) rfl
theorem mw89 : Cond.code ⟨"BellSchool$Reader", "readInto", "(LBellSchool$Valley;LBellSchool$Text;)I"⟩ prog_4_method_2_code 6 (some .int) ∈ TB := tb_in (lw_i2 81 rfl) rfl
theorem mw90 : Cond.instanceMethod ⟨"BellSchool$Reader", "readInto", "(LBellSchool$Valley;LBellSchool$Text;)I"⟩ ∈ TB := tb_in (lw_i2 79 rfl) rfl
theorem mw91 : Cond.selects "BellSchool$Reader" ⟨"BellSchool$Reader", "readInto", "(LBellSchool$Valley;LBellSchool$Text;)I"⟩ ⟨"BellSchool$Reader", "readInto", "(LBellSchool$Valley;LBellSchool$Text;)I"⟩ ∈ TB := tb_in (lw_i2 80 rfl) rfl
theorem mw92 : Cond.fieldLink "BellSchool" 29 "BellSchool" "reader" "LBellSchool$Reader;" ∈ TB := tb_in (lw_i2 152 rfl) rfl
theorem mw93 : Cond.fieldLink "BellSchool" 16 "BellSchool" "draft" "LBellSchool$Valley;" ∈ TB := tb_in (lw_i2 150 rfl) rfl
theorem mw94 : Cond.methodLink "BellSchool" 111 ⟨"BellSchool$Reader", "readInto", "(LBellSchool$Valley;LBellSchool$Text;)I"⟩ ∈ TB := tb_in (lw_i2 78 rfl) rfl
theorem mw95 : Cond.code ⟨"BellSchool", "fault", "()I"⟩ prog_1_method_4_code 1 (some .int) ∈ TB := tb_in (lw_i2 204 rfl) rfl
theorem mw96 : Cond.instanceMethod ⟨"BellSchool", "fault", "()I"⟩ ∈ TB := tb_in (lw_i2 202 rfl) rfl
theorem mw97 : Cond.selects "BellSchool" ⟨"BellSchool", "fault", "()I"⟩ ⟨"BellSchool", "fault", "()I"⟩ ∈ TB := tb_in (lw_i2 203 rfl) rfl
theorem mw98 : Cond.fieldLink "BellSchool$Noon" 29 "BellSchool$Noon" "valley" "LBellSchool$Valley;" ∈ TB := tb_in (lw_i1 106 rfl) rfl
theorem mw99 : Cond.fieldLink "BellSchool$Noon" 15 "BellSchool$Noon" "shutThen" "[J" ∈ TB := tb_in (lw_i1 105 rfl) rfl
theorem mw100 : Cond.constantLong "BellSchool$Noon" 33 (-1 : Int64) ∈ TB := tb_in (lw_i2 144 rfl) rfl
theorem mw101 : Cond.code ⟨"BellSchool$Noon", "settle", "(LBellSchool$Valley;)V"⟩ prog_3_method_2_code 3 none ∈ TB := tb_in (lw_i2 143 rfl) rfl
theorem mw102 : Cond.initialized "BellSchool$Noon" ∈ TB := tb_in (lw_i1 5 rfl) rfl
theorem mw103 : Cond.instanceMethod ⟨"BellSchool$Noon", "settle", "(LBellSchool$Valley;)V"⟩ ∈ TB := tb_in (lw_i2 141 rfl) rfl
theorem mw104 : Cond.selects "BellSchool$Noon" ⟨"BellSchool$Noon", "settle", "(LBellSchool$Valley;)V"⟩ ⟨"BellSchool$Noon", "settle", "(LBellSchool$Valley;)V"⟩ ∈ TB := tb_in (lw_i2 142 rfl) rfl
theorem mw105 : Cond.fieldLink "BellSchool$Standing" 15 "BellSchool$Standing" "day" "I" ∈ TB := tb_in (lw_i1 138 rfl) rfl
theorem mw106 : Cond.fieldLink "BellSchool$Standing" 19 "BellSchool$Standing" "bell" "I" ∈ TB := tb_in (lw_i1 143 rfl) rfl
theorem mw107 : Cond.fieldLink "BellSchool$Standing" 22 "BellSchool$Standing" "held" "I" ∈ TB := tb_in (lw_i1 148 rfl) rfl
theorem mw108 : Cond.fieldLink "BellSchool$Standing" 25 "BellSchool$Standing" "sick" "I" ∈ TB := tb_in (lw_i1 153 rfl) rfl
theorem mw109 : Cond.fieldLink "BellSchool$Standing" 28 "BellSchool$Standing" "had" "I" ∈ TB := tb_in (lw_i1 156 rfl) rfl
theorem mw110 : Cond.fieldLink "BellSchool$Standing" 31 "BellSchool$Standing" "shut" "J" ∈ TB := tb_in (lw_i1 160 rfl) rfl
theorem mw111 : Cond.fieldLink "BellSchool$Standing" 9 "BellSchool$Standing" "soups" "[I" ∈ TB := tb_in (lw_i1 135 rfl) rfl
theorem mw112 : Cond.code ⟨"BellSchool$Standing", "begin", "(I)V"⟩ prog_7_method_2_code 3 none ∈ TB := tb_in (lw_i2 148 rfl) rfl
theorem mw113 : Cond.initialized "BellSchool$Standing" ∈ TB := tb_in (lw_i1 6 rfl) rfl
theorem mw114 : Cond.instanceMethod ⟨"BellSchool$Standing", "begin", "(I)V"⟩ ∈ TB := tb_in (lw_i2 146 rfl) rfl
theorem mw115 : Cond.selects "BellSchool$Standing" ⟨"BellSchool$Standing", "begin", "(I)V"⟩ ⟨"BellSchool$Standing", "begin", "(I)V"⟩ ∈ TB := tb_in (lw_i2 147 rfl) rfl
theorem mw116 : Cond.fieldLink "BellSchool" 258 "BellSchool$Valley" "bell" "I" ∈ TB := tb_in (lw_i1 47 rfl) rfl
theorem mw117 : Cond.methodLink "BellSchool" 118 ⟨"BellSchool$Valley", "has", "(I)Z"⟩ ∈ TB := tb_in (lw_i2 139 rfl) rfl
theorem mw118 : Cond.fieldLink "BellSchool" 10 "BellSchool" "valley" "LBellSchool$Valley;" ∈ TB := tb_in (lw_i2 149 rfl) rfl
theorem mw119 : Cond.fieldLink "BellSchool" 38 "BellSchool" "noon" "LBellSchool$Noon;" ∈ TB := tb_in (lw_i2 153 rfl) rfl
theorem mw120 : Cond.methodLink "BellSchool" 259 ⟨"BellSchool$Noon", "settle", "(LBellSchool$Valley;)V"⟩ ∈ TB := tb_in (lw_i2 140 rfl) rfl
theorem mw121 : Cond.fieldLink "BellSchool" 67 "BellSchool" "search" "LBellSchool$Search;" ∈ TB := tb_in (lw_i2 158 rfl) rfl
theorem mw122 : Cond.fieldLink "BellSchool" 262 "BellSchool$Search" "known" "Z" ∈ TB := tb_in (lw_i1 219 rfl) rfl
theorem mw123 : Cond.fieldLink "BellSchool" 45 "BellSchool" "now" "LBellSchool$Standing;" ∈ TB := tb_in (lw_i2 154 rfl) rfl
theorem mw124 : Cond.methodLink "BellSchool" 266 ⟨"BellSchool$Standing", "begin", "(I)V"⟩ ∈ TB := tb_in (lw_i2 145 rfl) rfl
theorem mw125 : Cond.fieldLink "BellSchool" 57 "BellSchool" "undoable" "LBellSchool$Shelf;" ∈ TB := tb_in (lw_i2 156 rfl) rfl
theorem mw126 : Cond.fieldLink "BellSchool" 190 "BellSchool$Shelf" "size" "I" ∈ TB := tb_in (lw_i1 192 rfl) rfl
theorem mw127 : Cond.fieldLink "BellSchool" 61 "BellSchool" "kept" "LBellSchool$Shelf;" ∈ TB := tb_in (lw_i2 157 rfl) rfl
theorem mw128 : Cond.fieldLink "BellSchool" 85 "BellSchool" "seen" "I" ∈ TB := tb_in (lw_i2 162 rfl) rfl
theorem mw129 : Cond.code ⟨"BellSchool", "layText", "()Z"⟩ prog_1_method_30_code 2 (some .boolean) ∈ TB := tb_in (lw_i2 77 rfl) rfl
theorem mw130 : Cond.instanceMethod ⟨"BellSchool", "layText", "()Z"⟩ ∈ TB := tb_in (lw_i2 76 rfl) rfl
theorem mw131 : Cond.selects "BellSchool" ⟨"BellSchool", "layText", "()Z"⟩ ⟨"BellSchool", "layText", "()Z"⟩ ∈ TB := tb_in (lw_s 0 rfl) rfl
theorem mw132 : Cond.methodLink "BellSchool" 105 ⟨"BellSchool", "layText", "()Z"⟩ ∈ TB := tb_in (lw_i2 74 rfl) rfl
theorem mw133 : Cond.fieldLink "BellSchool" 115 "BellSchool$Valley" "homes" "I" ∈ TB := tb_in (lw_i1 45 rfl) rfl
theorem mw134 : Cond.code ⟨"BellSchool", "lay", "()I"⟩ prog_1_method_5_code 1 (some .int) ∈ TB := tb_in (lw_i2 208 rfl) rfl
theorem mw135 : Cond.instanceMethod ⟨"BellSchool", "lay", "()I"⟩ ∈ TB := tb_in (lw_i2 206 rfl) rfl
theorem mw136 : Cond.selects "BellSchool" ⟨"BellSchool", "lay", "()I"⟩ ⟨"BellSchool", "lay", "()I"⟩ ∈ TB := tb_in (lw_i2 207 rfl) rfl
theorem mw137 : Cond.fieldLink "BellSchool" 122 "BellSchool$Valley" "kind" "[I" ∈ TB := tb_in (lw_i1 33 rfl) rfl
theorem mw138 : Cond.fieldLink "BellSchool" 125 "BellSchool$Valley" "late" "[I" ∈ TB := tb_in (lw_i1 36 rfl) rfl
theorem mw139 : Cond.fieldLink "BellSchool" 128 "BellSchool$Standing" "bell" "I" ∈ TB := tb_in (lw_i1 146 rfl) rfl
theorem mw140 : Cond.fieldLink "BellSchool" 131 "BellSchool$Standing" "had" "I" ∈ TB := tb_in (lw_i1 158 rfl) rfl
theorem mw141 : Cond.fieldLink "BellSchool" 134 "BellSchool$Standing" "soups" "[I" ∈ TB := tb_in (lw_i1 136 rfl) rfl
theorem mw142 : Cond.fieldLink "BellSchool" 137 "BellSchool$Standing" "sick" "I" ∈ TB := tb_in (lw_i1 154 rfl) rfl
theorem mw143 : Cond.fieldLink "BellSchool" 140 "BellSchool$Standing" "held" "I" ∈ TB := tb_in (lw_i1 151 rfl) rfl
theorem mw144 : Cond.code ⟨"BellSchool", "home", "(II)I"⟩ prog_1_method_6_code 3 (some .int) ∈ TB := tb_in (lw_i2 212 rfl) rfl
theorem mw145 : Cond.instanceMethod ⟨"BellSchool", "home", "(II)I"⟩ ∈ TB := tb_in (lw_i2 210 rfl) rfl
theorem mw146 : Cond.selects "BellSchool" ⟨"BellSchool", "home", "(II)I"⟩ ⟨"BellSchool", "home", "(II)I"⟩ ∈ TB := tb_in (lw_i2 211 rfl) rfl
theorem mw147 : Cond.code ⟨"BellSchool$Valley", "canBeGone", "(IIJ)Z"⟩ prog_9_method_11_code 6 (some .boolean) ∈ TB := tb_in (lw_i2 222 rfl) rfl
theorem mw148 : Cond.instanceMethod ⟨"BellSchool$Valley", "canBeGone", "(IIJ)Z"⟩ ∈ TB := tb_in (lw_i2 220 rfl) rfl
theorem mw149 : Cond.selects "BellSchool$Valley" ⟨"BellSchool$Valley", "canBeGone", "(IIJ)Z"⟩ ⟨"BellSchool$Valley", "canBeGone", "(IIJ)Z"⟩ ∈ TB := tb_in (lw_i2 221 rfl) rfl
theorem mw150 : Cond.methodLink "BellSchool" 143 ⟨"BellSchool$Valley", "hasTwo", "(II)Z"⟩ ∈ TB := tb_in (lw_i2 217 rfl) rfl
theorem mw151 : Cond.methodLink "BellSchool" 147 ⟨"BellSchool", "pairOf", "(II)I"⟩ ∈ TB := tb_in (lw_i2 218 rfl) rfl
theorem mw152 : Cond.fieldLink "BellSchool" 151 "BellSchool$Valley" "minutes" "[I" ∈ TB := tb_in (lw_i1 40 rfl) rfl
theorem mw153 : Cond.fieldLink "BellSchool" 154 "BellSchool$Standing" "day" "I" ∈ TB := tb_in (lw_i1 141 rfl) rfl
theorem mw154 : Cond.fieldLink "BellSchool" 157 "BellSchool$Standing" "shut" "J" ∈ TB := tb_in (lw_i1 161 rfl) rfl
theorem mw155 : Cond.methodLink "BellSchool" 161 ⟨"BellSchool$Valley", "canBeGone", "(IIJ)Z"⟩ ∈ TB := tb_in (lw_i2 219 rfl) rfl
theorem mw156 : Cond.code ⟨"BellSchool", "way", "(III)I"⟩ prog_1_method_7_code 5 (some .int) ∈ TB := tb_in (lw_i2 216 rfl) rfl
theorem mw157 : Cond.instanceMethod ⟨"BellSchool", "way", "(III)I"⟩ ∈ TB := tb_in (lw_i2 214 rfl) rfl
theorem mw158 : Cond.selects "BellSchool" ⟨"BellSchool", "way", "(III)I"⟩ ⟨"BellSchool", "way", "(III)I"⟩ ∈ TB := tb_in (lw_i2 215 rfl) rfl
theorem mw159 : Cond.fieldLink "BellSchool$Noon" 9 "BellSchool$Noon" "fars" "[I" ∈ TB := tb_in (lw_i1 104 rfl) rfl
theorem mw160 : Cond.fieldLink "BellSchool$Noon" 35 "BellSchool$Valley" "homes" "I" ∈ TB := tb_in (lw_i1 44 rfl) rfl
theorem mw161 : Cond.methodLink "BellSchool$Noon" 60 Lib.Math.min.name ∈ TB := tb_in (lw_i3 2 rfl) rfl
theorem mw162 : Cond.code ⟨"BellSchool$Noon", "shortenBy", "(III)V"⟩ prog_3_method_6_code 8 none ∈ TB := tb_in (lw_i3 1 rfl) rfl
theorem mw163 : Cond.instanceMethod ⟨"BellSchool$Noon", "shortenBy", "(III)V"⟩ ∈ TB := tb_in (lw_i3 0 rfl) rfl
theorem mw164 : Cond.selects "BellSchool$Noon" ⟨"BellSchool$Noon", "shortenBy", "(III)V"⟩ ⟨"BellSchool$Noon", "shortenBy", "(III)V"⟩ ∈ TB := tb_in (lw_s 4 rfl) rfl
theorem mw165 : Cond.methodLink "BellSchool$Noon" 56 ⟨"BellSchool$Noon", "shortenBy", "(III)V"⟩ ∈ TB := tb_in (lw_i2 238 rfl) rfl
theorem mw166 : Cond.methodLink "BellSchool$Noon" 49 ⟨"BellSchool$Valley", "canBeGone", "(IIJ)Z"⟩ ∈ TB := tb_in (lw_i2 236 rfl) rfl
theorem mw167 : Cond.constant "BellSchool$Noon" 44 (1000000 : Int32) ∈ TB := tb_in (lw_i2 237 rfl) rfl
theorem mw168 : Cond.fieldLink "BellSchool$Noon" 53 "BellSchool$Valley" "minutes" "[I" ∈ TB := tb_in (lw_i1 39 rfl) rfl
theorem mw169 : Cond.code ⟨"BellSchool$Noon", "readyFars", "(IJ)I"⟩ prog_3_method_5_code 10 (some .int) ∈ TB := tb_in (lw_i2 234 rfl) rfl
theorem mw170 : Cond.instanceMethod ⟨"BellSchool$Noon", "readyFars", "(IJ)I"⟩ ∈ TB := tb_in (lw_i2 233 rfl) rfl
theorem mw171 : Cond.selects "BellSchool$Noon" ⟨"BellSchool$Noon", "readyFars", "(IJ)I"⟩ ⟨"BellSchool$Noon", "readyFars", "(IJ)I"⟩ ∈ TB := tb_in (lw_s 3 rfl) rfl
theorem mw172 : Cond.methodLink "BellSchool$Noon" 40 ⟨"BellSchool$Noon", "readyFars", "(IJ)I"⟩ ∈ TB := tb_in (lw_i2 231 rfl) rfl
theorem mw173 : Cond.code ⟨"BellSchool$Noon", "farOn", "(IJII)I"⟩ prog_3_method_4_code 7 (some .int) ∈ TB := tb_in (lw_i2 230 rfl) rfl
theorem mw174 : Cond.instanceMethod ⟨"BellSchool$Noon", "farOn", "(IJII)I"⟩ ∈ TB := tb_in (lw_i2 228 rfl) rfl
theorem mw175 : Cond.selects "BellSchool$Noon" ⟨"BellSchool$Noon", "farOn", "(IJII)I"⟩ ⟨"BellSchool$Noon", "farOn", "(IJII)I"⟩ ∈ TB := tb_in (lw_i2 229 rfl) rfl
theorem mw176 : Cond.methodLink "BellSchool" 165 ⟨"BellSchool$Noon", "farOn", "(IJII)I"⟩ ∈ TB := tb_in (lw_i2 227 rfl) rfl
theorem mw177 : Cond.code ⟨"BellSchool", "far", "(II)I"⟩ prog_1_method_8_code 3 (some .int) ∈ TB := tb_in (lw_i2 226 rfl) rfl
theorem mw178 : Cond.instanceMethod ⟨"BellSchool", "far", "(II)I"⟩ ∈ TB := tb_in (lw_i2 224 rfl) rfl
theorem mw179 : Cond.selects "BellSchool" ⟨"BellSchool", "far", "(II)I"⟩ ⟨"BellSchool", "far", "(II)I"⟩ ∈ TB := tb_in (lw_i2 225 rfl) rfl
theorem mw180 : Cond.code ⟨"BellSchool$Noon", "walk", "(II)I"⟩ prog_3_method_8_code 2 (some .int) ∈ TB := tb_in (lw_i3 17 rfl) rfl
theorem mw181 : Cond.static ⟨"BellSchool$Noon", "walk", "(II)I"⟩ ∈ TB := tb_in (lw_i3 16 rfl) rfl
theorem mw182 : Cond.fieldLink "BellSchool$Noon" 65 "BellSchool$Standing" "sick" "I" ∈ TB := tb_in (lw_i1 155 rfl) rfl
theorem mw183 : Cond.fieldLink "BellSchool$Noon" 70 "BellSchool$Standing" "held" "I" ∈ TB := tb_in (lw_i1 152 rfl) rfl
theorem mw184 : Cond.fieldLink "BellSchool$Noon" 73 "BellSchool$Standing" "bell" "I" ∈ TB := tb_in (lw_i1 147 rfl) rfl
theorem mw185 : Cond.fieldLink "BellSchool$Noon" 76 "BellSchool$Valley" "farthest" "I" ∈ TB := tb_in (lw_i1 49 rfl) rfl
theorem mw186 : Cond.fieldLink "BellSchool$Noon" 79 "BellSchool$Valley" "kind" "[I" ∈ TB := tb_in (lw_i1 34 rfl) rfl
theorem mw187 : Cond.methodLink "BellSchool$Noon" 82 ⟨"BellSchool$Noon", "walk", "(II)I"⟩ ∈ TB := tb_in (lw_i3 15 rfl) rfl
theorem mw188 : Cond.fieldLink "BellSchool$Noon" 85 "BellSchool$Valley" "late" "[I" ∈ TB := tb_in (lw_i1 37 rfl) rfl
theorem mw189 : Cond.code ⟨"BellSchool$Noon", "timeOf", "(LBellSchool$Standing;II)I"⟩ prog_3_method_7_code 7 (some .int) ∈ TB := tb_in (lw_i3 14 rfl) rfl
theorem mw190 : Cond.instanceMethod ⟨"BellSchool$Noon", "timeOf", "(LBellSchool$Standing;II)I"⟩ ∈ TB := tb_in (lw_i3 13 rfl) rfl
theorem mw191 : Cond.selects "BellSchool$Noon" ⟨"BellSchool$Noon", "timeOf", "(LBellSchool$Standing;II)I"⟩ ⟨"BellSchool$Noon", "timeOf", "(LBellSchool$Standing;II)I"⟩ ∈ TB := tb_in (lw_s 5 rfl) rfl
theorem mw192 : Cond.fieldLink "BellSchool$Noon" 22 "BellSchool$Noon" "latest" "I" ∈ TB := tb_in (lw_i1 110 rfl) rfl
theorem mw193 : Cond.fieldLink "BellSchool$Noon" 26 "BellSchool$Noon" "comers" "I" ∈ TB := tb_in (lw_i1 113 rfl) rfl
theorem mw194 : Cond.fieldLink "BellSchool$Noon" 88 "BellSchool$Standing" "day" "I" ∈ TB := tb_in (lw_i1 142 rfl) rfl
theorem mw195 : Cond.fieldLink "BellSchool$Noon" 91 "BellSchool$Standing" "shut" "J" ∈ TB := tb_in (lw_i1 162 rfl) rfl
theorem mw196 : Cond.fieldLink "BellSchool$Noon" 19 "BellSchool$Noon" "times" "[I" ∈ TB := tb_in (lw_i1 107 rfl) rfl
theorem mw197 : Cond.methodLink "BellSchool$Noon" 95 ⟨"BellSchool$Noon", "timeOf", "(LBellSchool$Standing;II)I"⟩ ∈ TB := tb_in (lw_i3 11 rfl) rfl
theorem mw198 : Cond.code ⟨"BellSchool$Noon", "gather", "(LBellSchool$Standing;)V"⟩ prog_3_method_9_code 4 none ∈ TB := tb_in (lw_i3 10 rfl) rfl
theorem mw199 : Cond.instanceMethod ⟨"BellSchool$Noon", "gather", "(LBellSchool$Standing;)V"⟩ ∈ TB := tb_in (lw_i3 8 rfl) rfl
theorem mw200 : Cond.selects "BellSchool$Noon" ⟨"BellSchool$Noon", "gather", "(LBellSchool$Standing;)V"⟩ ⟨"BellSchool$Noon", "gather", "(LBellSchool$Standing;)V"⟩ ∈ TB := tb_in (lw_i3 9 rfl) rfl
theorem mw201 : Cond.methodLink "BellSchool" 169 ⟨"BellSchool$Noon", "gather", "(LBellSchool$Standing;)V"⟩ ∈ TB := tb_in (lw_i3 7 rfl) rfl
theorem mw202 : Cond.fieldLink "BellSchool" 173 "BellSchool$Noon" "times" "[I" ∈ TB := tb_in (lw_i1 109 rfl) rfl
theorem mw203 : Cond.code ⟨"BellSchool", "comes", "(I)I"⟩ prog_1_method_9_code 2 (some .int) ∈ TB := tb_in (lw_i3 6 rfl) rfl
theorem mw204 : Cond.instanceMethod ⟨"BellSchool", "comes", "(I)I"⟩ ∈ TB := tb_in (lw_i3 4 rfl) rfl
theorem mw205 : Cond.selects "BellSchool" ⟨"BellSchool", "comes", "(I)I"⟩ ⟨"BellSchool", "comes", "(I)I"⟩ ∈ TB := tb_in (lw_i3 5 rfl) rfl
theorem mw206 : Cond.fieldLink "BellSchool" 176 "BellSchool$Noon" "latest" "I" ∈ TB := tb_in (lw_i1 112 rfl) rfl
theorem mw207 : Cond.code ⟨"BellSchool", "last", "()I"⟩ prog_1_method_10_code 1 (some .int) ∈ TB := tb_in (lw_i3 21 rfl) rfl
theorem mw208 : Cond.instanceMethod ⟨"BellSchool", "last", "()I"⟩ ∈ TB := tb_in (lw_i3 19 rfl) rfl
theorem mw209 : Cond.selects "BellSchool" ⟨"BellSchool", "last", "()I"⟩ ⟨"BellSchool", "last", "()I"⟩ ∈ TB := tb_in (lw_i3 20 rfl) rfl
theorem mw210 : Cond.code ⟨"BellSchool$Standing", "copy", "(LBellSchool$Standing;)V"⟩ prog_7_method_3_code 3 none ∈ TB := tb_in (lw_i3 37 rfl) rfl
theorem mw211 : Cond.instanceMethod ⟨"BellSchool$Standing", "copy", "(LBellSchool$Standing;)V"⟩ ∈ TB := tb_in (lw_i3 35 rfl) rfl
theorem mw212 : Cond.selects "BellSchool$Standing" ⟨"BellSchool$Standing", "copy", "(LBellSchool$Standing;)V"⟩ ⟨"BellSchool$Standing", "copy", "(LBellSchool$Standing;)V"⟩ ∈ TB := tb_in (lw_i3 36 rfl) rfl
theorem mw213 : Cond.fieldLink "BellSchool$Shelf" 7 "BellSchool$Shelf" "size" "I" ∈ TB := tb_in (lw_i1 191 rfl) rfl
theorem mw214 : Cond.fieldLink "BellSchool$Shelf" 21 "BellSchool$Shelf" "rows" "[LBellSchool$Standing;" ∈ TB := tb_in (lw_i1 190 rfl) rfl
theorem mw215 : Cond.methodLink "BellSchool$Shelf" 26 ⟨"BellSchool$Standing", "copy", "(LBellSchool$Standing;)V"⟩ ∈ TB := tb_in (lw_i3 34 rfl) rfl
theorem mw216 : Cond.code ⟨"BellSchool$Shelf", "put", "(LBellSchool$Standing;)Z"⟩ prog_6_method_2_code 2 (some .boolean) ∈ TB := tb_in (lw_i3 33 rfl) rfl
theorem mw217 : Cond.initialized "BellSchool$Shelf" ∈ TB := tb_in (lw_i1 7 rfl) rfl
theorem mw218 : Cond.instanceMethod ⟨"BellSchool$Shelf", "put", "(LBellSchool$Standing;)Z"⟩ ∈ TB := tb_in (lw_i3 31 rfl) rfl
theorem mw219 : Cond.selects "BellSchool$Shelf" ⟨"BellSchool$Shelf", "put", "(LBellSchool$Standing;)Z"⟩ ⟨"BellSchool$Shelf", "put", "(LBellSchool$Standing;)Z"⟩ ∈ TB := tb_in (lw_i3 32 rfl) rfl
theorem mw220 : Cond.methodLink "BellSchool$Shelf" 30 ⟨"BellSchool$Shelf", "put", "(LBellSchool$Standing;)Z"⟩ ∈ TB := tb_in (lw_i3 30 rfl) rfl
theorem mw221 : Cond.code ⟨"BellSchool$Shelf", "putDroppingOldest", "(LBellSchool$Standing;)V"⟩ prog_6_method_3_code 4 none ∈ TB := tb_in (lw_i3 29 rfl) rfl
theorem mw222 : Cond.instanceMethod ⟨"BellSchool$Shelf", "putDroppingOldest", "(LBellSchool$Standing;)V"⟩ ∈ TB := tb_in (lw_i3 27 rfl) rfl
theorem mw223 : Cond.selects "BellSchool$Shelf" ⟨"BellSchool$Shelf", "putDroppingOldest", "(LBellSchool$Standing;)V"⟩ ⟨"BellSchool$Shelf", "putDroppingOldest", "(LBellSchool$Standing;)V"⟩ ∈ TB := tb_in (lw_i3 28 rfl) rfl
theorem mw224 : Cond.methodLink "BellSchool$Noon" 99 ⟨"BellSchool$Noon", "gather", "(LBellSchool$Standing;)V"⟩ ∈ TB := tb_in (lw_i3 46 rfl) rfl
theorem mw225 : Cond.fieldLink "BellSchool$Noon" 103 "BellSchool$Standing" "soups" "[I" ∈ TB := tb_in (lw_i1 137 rfl) rfl
theorem mw226 : Cond.fieldLink "BellSchool$Noon" 106 "BellSchool$Standing" "had" "I" ∈ TB := tb_in (lw_i1 159 rfl) rfl
theorem mw227 : Cond.code ⟨"BellSchool$Noon", "goBy", "(LBellSchool$Standing;)V"⟩ prog_3_method_10_code 2 none ∈ TB := tb_in (lw_i3 45 rfl) rfl
theorem mw228 : Cond.instanceMethod ⟨"BellSchool$Noon", "goBy", "(LBellSchool$Standing;)V"⟩ ∈ TB := tb_in (lw_i3 43 rfl) rfl
theorem mw229 : Cond.selects "BellSchool$Noon" ⟨"BellSchool$Noon", "goBy", "(LBellSchool$Standing;)V"⟩ ⟨"BellSchool$Noon", "goBy", "(LBellSchool$Standing;)V"⟩ ∈ TB := tb_in (lw_i3 44 rfl) rfl
theorem mw230 : Cond.methodLink "BellSchool" 196 ⟨"BellSchool$Noon", "goBy", "(LBellSchool$Standing;)V"⟩ ∈ TB := tb_in (lw_i3 42 rfl) rfl
theorem mw231 : Cond.code ⟨"BellSchool", "goBy", "(LBellSchool$Standing;I)V"⟩ prog_1_method_31_code 4 none ∈ TB := tb_in (lw_i3 41 rfl) rfl
theorem mw232 : Cond.instanceMethod ⟨"BellSchool", "goBy", "(LBellSchool$Standing;I)V"⟩ ∈ TB := tb_in (lw_i3 40 rfl) rfl
theorem mw233 : Cond.selects "BellSchool" ⟨"BellSchool", "goBy", "(LBellSchool$Standing;I)V"⟩ ⟨"BellSchool", "goBy", "(LBellSchool$Standing;I)V"⟩ ∈ TB := tb_in (lw_s 6 rfl) rfl
theorem mw234 : Cond.methodLink "BellSchool" 179 ⟨"BellSchool$Shelf", "putDroppingOldest", "(LBellSchool$Standing;)V"⟩ ∈ TB := tb_in (lw_i3 26 rfl) rfl
theorem mw235 : Cond.methodLink "BellSchool" 182 ⟨"BellSchool", "goBy", "(LBellSchool$Standing;I)V"⟩ ∈ TB := tb_in (lw_i3 38 rfl) rfl
theorem mw236 : Cond.code ⟨"BellSchool", "pass", "(I)I"⟩ prog_1_method_11_code 2 (some .int) ∈ TB := tb_in (lw_i3 25 rfl) rfl
theorem mw237 : Cond.instanceMethod ⟨"BellSchool", "pass", "(I)I"⟩ ∈ TB := tb_in (lw_i3 23 rfl) rfl
theorem mw238 : Cond.selects "BellSchool" ⟨"BellSchool", "pass", "(I)I"⟩ ⟨"BellSchool", "pass", "(I)I"⟩ ∈ TB := tb_in (lw_i3 24 rfl) rfl
theorem mw239 : Cond.code ⟨"BellSchool", "keepBack", "(I)I"⟩ prog_1_method_12_code 2 (some .int) ∈ TB := tb_in (lw_i3 50 rfl) rfl
theorem mw240 : Cond.instanceMethod ⟨"BellSchool", "keepBack", "(I)I"⟩ ∈ TB := tb_in (lw_i3 48 rfl) rfl
theorem mw241 : Cond.selects "BellSchool" ⟨"BellSchool", "keepBack", "(I)I"⟩ ⟨"BellSchool", "keepBack", "(I)I"⟩ ∈ TB := tb_in (lw_i3 49 rfl) rfl
theorem mw242 : Cond.code ⟨"BellSchool", "sick", "(I)I"⟩ prog_1_method_13_code 2 (some .int) ∈ TB := tb_in (lw_i3 54 rfl) rfl
theorem mw243 : Cond.instanceMethod ⟨"BellSchool", "sick", "(I)I"⟩ ∈ TB := tb_in (lw_i3 52 rfl) rfl
theorem mw244 : Cond.selects "BellSchool" ⟨"BellSchool", "sick", "(I)I"⟩ ⟨"BellSchool", "sick", "(I)I"⟩ ∈ TB := tb_in (lw_i3 53 rfl) rfl
theorem mw245 : Cond.code ⟨"BellSchool", "shut", "(II)I"⟩ prog_1_method_14_code 4 (some .int) ∈ TB := tb_in (lw_i3 58 rfl) rfl
theorem mw246 : Cond.instanceMethod ⟨"BellSchool", "shut", "(II)I"⟩ ∈ TB := tb_in (lw_i3 56 rfl) rfl
theorem mw247 : Cond.selects "BellSchool" ⟨"BellSchool", "shut", "(II)I"⟩ ⟨"BellSchool", "shut", "(II)I"⟩ ∈ TB := tb_in (lw_i3 57 rfl) rfl
theorem mw248 : Cond.code ⟨"BellSchool$Shelf", "takeInto", "(LBellSchool$Standing;)Z"⟩ prog_6_method_4_code 2 (some .boolean) ∈ TB := tb_in (lw_i3 66 rfl) rfl
theorem mw249 : Cond.instanceMethod ⟨"BellSchool$Shelf", "takeInto", "(LBellSchool$Standing;)Z"⟩ ∈ TB := tb_in (lw_i3 64 rfl) rfl
theorem mw250 : Cond.selects "BellSchool$Shelf" ⟨"BellSchool$Shelf", "takeInto", "(LBellSchool$Standing;)Z"⟩ ⟨"BellSchool$Shelf", "takeInto", "(LBellSchool$Standing;)Z"⟩ ∈ TB := tb_in (lw_i3 65 rfl) rfl
theorem mw251 : Cond.methodLink "BellSchool" 186 ⟨"BellSchool$Shelf", "takeInto", "(LBellSchool$Standing;)Z"⟩ ∈ TB := tb_in (lw_i3 63 rfl) rfl
theorem mw252 : Cond.code ⟨"BellSchool", "undo", "()I"⟩ prog_1_method_15_code 1 (some .int) ∈ TB := tb_in (lw_i3 62 rfl) rfl
theorem mw253 : Cond.instanceMethod ⟨"BellSchool", "undo", "()I"⟩ ∈ TB := tb_in (lw_i3 60 rfl) rfl
theorem mw254 : Cond.selects "BellSchool" ⟨"BellSchool", "undo", "()I"⟩ ⟨"BellSchool", "undo", "()I"⟩ ∈ TB := tb_in (lw_i3 61 rfl) rfl
theorem mw255 : Cond.fieldLink "BellSchool" 49 "BellSchool" "dream" "LBellSchool$Standing;" ∈ TB := tb_in (lw_i2 155 rfl) rfl
theorem mw256 : Cond.methodLink "BellSchool" 193 ⟨"BellSchool$Standing", "copy", "(LBellSchool$Standing;)V"⟩ ∈ TB := tb_in (lw_i3 71 rfl) rfl
theorem mw257 : Cond.code ⟨"BellSchool", "behind", "(I)I"⟩ prog_1_method_16_code 2 (some .int) ∈ TB := tb_in (lw_i3 70 rfl) rfl
theorem mw258 : Cond.instanceMethod ⟨"BellSchool", "behind", "(I)I"⟩ ∈ TB := tb_in (lw_i3 68 rfl) rfl
theorem mw259 : Cond.selects "BellSchool" ⟨"BellSchool", "behind", "(I)I"⟩ ⟨"BellSchool", "behind", "(I)I"⟩ ∈ TB := tb_in (lw_i3 69 rfl) rfl
theorem mw260 : Cond.code ⟨"BellSchool", "again", "()I"⟩ prog_1_method_17_code 2 (some .int) ∈ TB := tb_in (lw_i3 75 rfl) rfl
theorem mw261 : Cond.instanceMethod ⟨"BellSchool", "again", "()I"⟩ ∈ TB := tb_in (lw_i3 73 rfl) rfl
theorem mw262 : Cond.selects "BellSchool" ⟨"BellSchool", "again", "()I"⟩ ⟨"BellSchool", "again", "()I"⟩ ∈ TB := tb_in (lw_i3 74 rfl) rfl
theorem mw263 : Cond.code ⟨"BellSchool$Standing", "isLike", "(LBellSchool$Standing;)Z"⟩ prog_7_method_4_code 2 (some .boolean) ∈ TB := tb_in (lw_i3 87 rfl) rfl
theorem mw264 : Cond.instanceMethod ⟨"BellSchool$Standing", "isLike", "(LBellSchool$Standing;)Z"⟩ ∈ TB := tb_in (lw_i3 85 rfl) rfl
theorem mw265 : Cond.selects "BellSchool$Standing" ⟨"BellSchool$Standing", "isLike", "(LBellSchool$Standing;)Z"⟩ ⟨"BellSchool$Standing", "isLike", "(LBellSchool$Standing;)Z"⟩ ∈ TB := tb_in (lw_i3 86 rfl) rfl
theorem mw266 : Cond.code ⟨"BellSchool$Noon", "homes", "()I"⟩ prog_3_method_3_code 1 (some .int) ∈ TB := tb_in (lw_i3 91 rfl) rfl
theorem mw267 : Cond.instanceMethod ⟨"BellSchool$Noon", "homes", "()I"⟩ ∈ TB := tb_in (lw_i3 89 rfl) rfl
theorem mw268 : Cond.selects "BellSchool$Noon" ⟨"BellSchool$Noon", "homes", "()I"⟩ ⟨"BellSchool$Noon", "homes", "()I"⟩ ∈ TB := tb_in (lw_i3 90 rfl) rfl
theorem mw269 : Cond.fieldLink "BellSchool$Search" 39 "BellSchool$Search" "whole" "I" ∈ TB := tb_in (lw_i1 213 rfl) rfl
theorem mw270 : Cond.fieldLink "BellSchool$Search" 35 "BellSchool$Search" "homes" "I" ∈ TB := tb_in (lw_i1 212 rfl) rfl
theorem mw271 : Cond.fieldLink "BellSchool$Search" 22 "BellSchool$Search" "numbers" "[I" ∈ TB := tb_in (lw_i1 209 rfl) rfl
theorem mw272 : Cond.fieldLink "BellSchool$Search" 28 "BellSchool$Search" "asked" "LBellSchool$Standing;" ∈ TB := tb_in (lw_i1 210 rfl) rfl
theorem mw273 : Cond.fieldLink "BellSchool$Search" 92 "BellSchool$Standing" "had" "I" ∈ TB := tb_in (lw_i1 157 rfl) rfl
theorem mw274 : Cond.fieldLink "BellSchool$Search" 95 "BellSchool$Search" "HOLDING" "[J" ∈ TB := tb_in (lw_i3 101 rfl) rfl
theorem mw275 : Cond.code ⟨"BellSchool$Search", "numberMissing", "()V"⟩ prog_5_method_4_code 4 none ∈ TB := tb_in (lw_i3 100 rfl) rfl
theorem mw276 : Cond.initialized "BellSchool$Search" ∈ TB := tb_in (lw_i1 9 rfl) rfl
theorem mw277 : Cond.instanceMethod ⟨"BellSchool$Search", "numberMissing", "()V"⟩ ∈ TB := tb_in (lw_i3 99 rfl) rfl
theorem mw278 : Cond.selects "BellSchool$Search" ⟨"BellSchool$Search", "numberMissing", "()V"⟩ ⟨"BellSchool$Search", "numberMissing", "()V"⟩ ∈ TB := tb_in (lw_s 8 rfl) rfl
theorem mw279 : Cond.fieldLink "BellSchool$Search" 48 "BellSchool$Search" "known" "Z" ∈ TB := tb_in (lw_i1 218 rfl) rfl
theorem mw280 : Cond.methodLink "BellSchool$Search" 79 ⟨"BellSchool$Standing", "copy", "(LBellSchool$Standing;)V"⟩ ∈ TB := tb_in (lw_i3 96 rfl) rfl
theorem mw281 : Cond.fieldLink "BellSchool$Search" 32 "BellSchool$Search" "dream" "LBellSchool$Standing;" ∈ TB := tb_in (lw_i1 211 rfl) rfl
theorem mw282 : Cond.fieldLink "BellSchool$Search" 83 "BellSchool$Standing" "held" "I" ∈ TB := tb_in (lw_i1 150 rfl) rfl
theorem mw283 : Cond.methodLink "BellSchool$Search" 86 ⟨"BellSchool$Search", "numberMissing", "()V"⟩ ∈ TB := tb_in (lw_i3 97 rfl) rfl
theorem mw284 : Cond.fieldLink "BellSchool$Search" 9 "BellSchool$Search" "reached" "[J" ∈ TB := tb_in (lw_i1 206 rfl) rfl
theorem mw285 : Cond.fieldLink "BellSchool$Search" 89 "BellSchool$Standing" "bell" "I" ∈ TB := tb_in (lw_i1 145 rfl) rfl
theorem mw286 : Cond.code ⟨"BellSchool$Search", "begin", "(LBellSchool$Standing;I)V"⟩ prog_5_method_3_code 4 none ∈ TB := tb_in (lw_i3 95 rfl) rfl
theorem mw287 : Cond.instanceMethod ⟨"BellSchool$Search", "begin", "(LBellSchool$Standing;I)V"⟩ ∈ TB := tb_in (lw_i3 94 rfl) rfl
theorem mw288 : Cond.selects "BellSchool$Search" ⟨"BellSchool$Search", "begin", "(LBellSchool$Standing;I)V"⟩ ⟨"BellSchool$Search", "begin", "(LBellSchool$Standing;I)V"⟩ ∈ TB := tb_in (lw_s 7 rfl) rfl
theorem mw289 : Cond.code ⟨"BellSchool$Search", "isWholeBy", "(I)Z"⟩ prog_5_method_5_code 3 (some .boolean) ∈ TB := tb_in (lw_i3 106 rfl) rfl
theorem mw290 : Cond.instanceMethod ⟨"BellSchool$Search", "isWholeBy", "(I)Z"⟩ ∈ TB := tb_in (lw_i3 105 rfl) rfl
theorem mw291 : Cond.selects "BellSchool$Search" ⟨"BellSchool$Search", "isWholeBy", "(I)Z"⟩ ⟨"BellSchool$Search", "isWholeBy", "(I)Z"⟩ ∈ TB := tb_in (lw_s 9 rfl) rfl
theorem mw292 : Cond.code ⟨"BellSchool$Noon", "latestHolding", "(I)I"⟩ prog_3_method_11_code 4 (some .int) ∈ TB := tb_in (lw_i3 115 rfl) rfl
theorem mw293 : Cond.instanceMethod ⟨"BellSchool$Noon", "latestHolding", "(I)I"⟩ ∈ TB := tb_in (lw_i3 113 rfl) rfl
theorem mw294 : Cond.selects "BellSchool$Noon" ⟨"BellSchool$Noon", "latestHolding", "(I)I"⟩ ⟨"BellSchool$Noon", "latestHolding", "(I)I"⟩ ∈ TB := tb_in (lw_i3 114 rfl) rfl
theorem mw295 : Cond.code ⟨"BellSchool$Search", "placeOf", "(III)I"⟩ prog_5_method_7_code 3 (some .int) ∈ TB := tb_in (lw_i3 118 rfl) rfl
theorem mw296 : Cond.static ⟨"BellSchool$Search", "placeOf", "(III)I"⟩ ∈ TB := tb_in (lw_i3 117 rfl) rfl
theorem mw297 : Cond.constantLong "BellSchool$Search" 119 (-1 : Int64) ∈ TB := tb_in (lw_i3 122 rfl) rfl
theorem mw298 : Cond.code ⟨"BellSchool$Search", "joined", "(JI)J"⟩ prog_5_method_8_code 5 (some .long) ∈ TB := tb_in (lw_i3 121 rfl) rfl
theorem mw299 : Cond.static ⟨"BellSchool$Search", "joined", "(JI)J"⟩ ∈ TB := tb_in (lw_i3 120 rfl) rfl
theorem mw300 : Cond.fieldLink "BellSchool$Search" 98 "BellSchool$Standing" "day" "I" ∈ TB := tb_in (lw_i1 140 rfl) rfl
theorem mw301 : Cond.methodLink "BellSchool$Search" 101 ⟨"BellSchool$Noon", "gather", "(LBellSchool$Standing;)V"⟩ ∈ TB := tb_in (lw_i3 111 rfl) rfl
theorem mw302 : Cond.methodLink "BellSchool$Search" 107 ⟨"BellSchool$Noon", "latestHolding", "(I)I"⟩ ∈ TB := tb_in (lw_i3 112 rfl) rfl
theorem mw303 : Cond.fieldLink "BellSchool$Search" 18 "BellSchool$Search" "next" "[I" ∈ TB := tb_in (lw_i1 208 rfl) rfl
theorem mw304 : Cond.methodLink "BellSchool$Search" 111 ⟨"BellSchool$Search", "placeOf", "(III)I"⟩ ∈ TB := tb_in (lw_i3 116 rfl) rfl
theorem mw305 : Cond.methodLink "BellSchool$Search" 115 ⟨"BellSchool$Search", "joined", "(JI)J"⟩ ∈ TB := tb_in (lw_i3 119 rfl) rfl
theorem mw306 : Cond.fieldLink "BellSchool$Search" 104 "BellSchool$Noon" "latest" "I" ∈ TB := tb_in (lw_i1 111 rfl) rfl
theorem mw307 : Cond.code ⟨"BellSchool$Search", "spread", "(LBellSchool$Noon;I)V"⟩ prog_5_method_6_code 9 none ∈ TB := tb_in (lw_i3 110 rfl) rfl
theorem mw308 : Cond.instanceMethod ⟨"BellSchool$Search", "spread", "(LBellSchool$Noon;I)V"⟩ ∈ TB := tb_in (lw_i3 109 rfl) rfl
theorem mw309 : Cond.selects "BellSchool$Search" ⟨"BellSchool$Search", "spread", "(LBellSchool$Noon;I)V"⟩ ⟨"BellSchool$Search", "spread", "(LBellSchool$Noon;I)V"⟩ ∈ TB := tb_in (lw_s 10 rfl) rfl
theorem mw310 : Cond.code ⟨"BellSchool$Search", "before", "(JI)J"⟩ prog_5_method_9_code 5 (some .long) ∈ TB := tb_in (lw_i3 133 rfl) rfl
theorem mw311 : Cond.static ⟨"BellSchool$Search", "before", "(JI)J"⟩ ∈ TB := tb_in (lw_i3 132 rfl) rfl
theorem mw312 : Cond.fieldLink "BellSchool$Search" 15 "BellSchool$Search" "hopeful" "[J" ∈ TB := tb_in (lw_i1 207 rfl) rfl
theorem mw313 : Cond.methodLink "BellSchool$Search" 125 ⟨"BellSchool$Search", "before", "(JI)J"⟩ ∈ TB := tb_in (lw_i3 131 rfl) rfl
theorem mw314 : Cond.code ⟨"BellSchool$Search", "hopesFrom", "(II)J"⟩ prog_5_method_11_code 7 (some .long) ∈ TB := tb_in (lw_i3 130 rfl) rfl
theorem mw315 : Cond.instanceMethod ⟨"BellSchool$Search", "hopesFrom", "(II)J"⟩ ∈ TB := tb_in (lw_i3 129 rfl) rfl
theorem mw316 : Cond.selects "BellSchool$Search" ⟨"BellSchool$Search", "hopesFrom", "(II)J"⟩ ⟨"BellSchool$Search", "hopesFrom", "(II)J"⟩ ∈ TB := tb_in (lw_s 12 rfl) rfl
theorem mw317 : Cond.fieldLink "BellSchool$Search" 45 "BellSchool$Search" "days" "I" ∈ TB := tb_in (lw_i1 216 rfl) rfl
theorem mw318 : Cond.methodLink "BellSchool$Search" 121 ⟨"BellSchool$Search", "hopesFrom", "(II)J"⟩ ∈ TB := tb_in (lw_i3 127 rfl) rfl
theorem mw319 : Cond.code ⟨"BellSchool$Search", "findHopeful", "()V"⟩ prog_5_method_10_code 3 none ∈ TB := tb_in (lw_i3 126 rfl) rfl
theorem mw320 : Cond.instanceMethod ⟨"BellSchool$Search", "findHopeful", "()V"⟩ ∈ TB := tb_in (lw_i3 125 rfl) rfl
theorem mw321 : Cond.selects "BellSchool$Search" ⟨"BellSchool$Search", "findHopeful", "()V"⟩ ⟨"BellSchool$Search", "findHopeful", "()V"⟩ ∈ TB := tb_in (lw_s 11 rfl) rfl
theorem mw322 : Cond.code ⟨"BellSchool$Search", "firstHopeful", "(IIJ)I"⟩ prog_5_method_13_code 7 (some .int) ∈ TB := tb_in (lw_i3 141 rfl) rfl
theorem mw323 : Cond.instanceMethod ⟨"BellSchool$Search", "firstHopeful", "(IIJ)I"⟩ ∈ TB := tb_in (lw_i3 140 rfl) rfl
theorem mw324 : Cond.selects "BellSchool$Search" ⟨"BellSchool$Search", "firstHopeful", "(IIJ)I"⟩ ⟨"BellSchool$Search", "firstHopeful", "(IIJ)I"⟩ ∈ TB := tb_in (lw_s 14 rfl) rfl
theorem mw325 : Cond.methodLink "BellSchool$Search" 128 ⟨"BellSchool$Search", "firstHopeful", "(IIJ)I"⟩ ∈ TB := tb_in (lw_i3 138 rfl) rfl
theorem mw326 : Cond.fieldLink "BellSchool$Search" 42 "BellSchool$Search" "row" "[I" ∈ TB := tb_in (lw_i1 214 rfl) rfl
theorem mw327 : Cond.code ⟨"BellSchool$Search", "findRow", "()V"⟩ prog_5_method_12_code 6 none ∈ TB := tb_in (lw_i3 137 rfl) rfl
theorem mw328 : Cond.instanceMethod ⟨"BellSchool$Search", "findRow", "()V"⟩ ∈ TB := tb_in (lw_i3 136 rfl) rfl
theorem mw329 : Cond.selects "BellSchool$Search" ⟨"BellSchool$Search", "findRow", "()V"⟩ ⟨"BellSchool$Search", "findRow", "()V"⟩ ∈ TB := tb_in (lw_s 13 rfl) rfl
theorem mw330 : Cond.methodLink "BellSchool$Search" 56 ⟨"BellSchool$Noon", "homes", "()I"⟩ ∈ TB := tb_in (lw_i3 88 rfl) rfl
theorem mw331 : Cond.methodLink "BellSchool$Search" 61 ⟨"BellSchool$Search", "begin", "(LBellSchool$Standing;I)V"⟩ ∈ TB := tb_in (lw_i3 92 rfl) rfl
theorem mw332 : Cond.methodLink "BellSchool$Search" 65 ⟨"BellSchool$Search", "isWholeBy", "(I)Z"⟩ ∈ TB := tb_in (lw_i3 103 rfl) rfl
theorem mw333 : Cond.methodLink "BellSchool$Search" 73 ⟨"BellSchool$Search", "findHopeful", "()V"⟩ ∈ TB := tb_in (lw_i3 123 rfl) rfl
theorem mw334 : Cond.methodLink "BellSchool$Search" 76 ⟨"BellSchool$Search", "findRow", "()V"⟩ ∈ TB := tb_in (lw_i3 134 rfl) rfl
theorem mw335 : Cond.methodLink "BellSchool$Search" 69 ⟨"BellSchool$Search", "spread", "(LBellSchool$Noon;I)V"⟩ ∈ TB := tb_in (lw_i3 107 rfl) rfl
theorem mw336 : Cond.methodLink "BellSchool$Search" 52 ⟨"BellSchool$Standing", "isLike", "(LBellSchool$Standing;)Z"⟩ ∈ TB := tb_in (lw_i3 84 rfl) rfl
theorem mw337 : Cond.code ⟨"BellSchool$Search", "search", "(LBellSchool$Noon;LBellSchool$Standing;)V"⟩ prog_5_method_2_code 4 none ∈ TB := tb_in (lw_i3 83 rfl) rfl
theorem mw338 : Cond.instanceMethod ⟨"BellSchool$Search", "search", "(LBellSchool$Noon;LBellSchool$Standing;)V"⟩ ∈ TB := tb_in (lw_i3 81 rfl) rfl
theorem mw339 : Cond.selects "BellSchool$Search" ⟨"BellSchool$Search", "search", "(LBellSchool$Noon;LBellSchool$Standing;)V"⟩ ⟨"BellSchool$Search", "search", "(LBellSchool$Noon;LBellSchool$Standing;)V"⟩ ∈ TB := tb_in (lw_i3 82 rfl) rfl
theorem mw340 : Cond.methodLink "BellSchool" 198 ⟨"BellSchool$Search", "search", "(LBellSchool$Noon;LBellSchool$Standing;)V"⟩ ∈ TB := tb_in (lw_i3 80 rfl) rfl
theorem mw341 : Cond.fieldLink "BellSchool" 201 "BellSchool$Search" "days" "I" ∈ TB := tb_in (lw_i1 217 rfl) rfl
theorem mw342 : Cond.fieldLink "BellSchool" 204 "BellSchool$Search" "row" "[I" ∈ TB := tb_in (lw_i1 215 rfl) rfl
theorem mw343 : Cond.code ⟨"BellSchool", "each", "(I)I"⟩ prog_1_method_18_code 2 (some .int) ∈ TB := tb_in (lw_i3 79 rfl) rfl
theorem mw344 : Cond.instanceMethod ⟨"BellSchool", "each", "(I)I"⟩ ∈ TB := tb_in (lw_i3 77 rfl) rfl
theorem mw345 : Cond.selects "BellSchool" ⟨"BellSchool", "each", "(I)I"⟩ ⟨"BellSchool", "each", "(I)I"⟩ ∈ TB := tb_in (lw_i3 78 rfl) rfl
theorem mw346 : Cond.code ⟨"BellSchool", "allBits", "()I"⟩ prog_1_method_32_code 1 (some .int) ∈ TB := tb_in (lw_i3 149 rfl) rfl
theorem mw347 : Cond.instanceMethod ⟨"BellSchool", "allBits", "()I"⟩ ∈ TB := tb_in (lw_i3 148 rfl) rfl
theorem mw348 : Cond.selects "BellSchool" ⟨"BellSchool", "allBits", "()I"⟩ ⟨"BellSchool", "allBits", "()I"⟩ ∈ TB := tb_in (lw_s 15 rfl) rfl
theorem mw349 : Cond.methodLink "BellSchool" 207 ⟨"BellSchool", "allBits", "()I"⟩ ∈ TB := tb_in (lw_i3 146 rfl) rfl
theorem mw350 : Cond.code ⟨"BellSchool", "always", "()I"⟩ prog_1_method_19_code 3 (some .int) ∈ TB := tb_in (lw_i3 145 rfl) rfl
theorem mw351 : Cond.instanceMethod ⟨"BellSchool", "always", "()I"⟩ ∈ TB := tb_in (lw_i3 143 rfl) rfl
theorem mw352 : Cond.selects "BellSchool" ⟨"BellSchool", "always", "()I"⟩ ⟨"BellSchool", "always", "()I"⟩ ∈ TB := tb_in (lw_i3 144 rfl) rfl
theorem mw353 : Cond.code ⟨"BellSchool", "never", "()I"⟩ prog_1_method_20_code 3 (some .int) ∈ TB := tb_in (lw_i3 153 rfl) rfl
theorem mw354 : Cond.instanceMethod ⟨"BellSchool", "never", "()I"⟩ ∈ TB := tb_in (lw_i3 151 rfl) rfl
theorem mw355 : Cond.selects "BellSchool" ⟨"BellSchool", "never", "()I"⟩ ⟨"BellSchool", "never", "()I"⟩ ∈ TB := tb_in (lw_i3 152 rfl) rfl
theorem mw356 : Cond.fieldLink "BellSchool" 78 "BellSchool" "seenHome" "[I" ∈ TB := tb_in (lw_i2 160 rfl) rfl
theorem mw357 : Cond.fieldLink "BellSchool" 82 "BellSchool" "seenDays" "[I" ∈ TB := tb_in (lw_i2 161 rfl) rfl
theorem mw358 : Cond.code ⟨"BellSchool", "see", "(II)I"⟩ prog_1_method_21_code 3 (some .int) ∈ TB := tb_in (lw_i3 157 rfl) rfl
theorem mw359 : Cond.instanceMethod ⟨"BellSchool", "see", "(II)I"⟩ ∈ TB := tb_in (lw_i3 155 rfl) rfl
theorem mw360 : Cond.selects "BellSchool" ⟨"BellSchool", "see", "(II)I"⟩ ⟨"BellSchool", "see", "(II)I"⟩ ∈ TB := tb_in (lw_i3 156 rfl) rfl
theorem mw361 : Cond.code ⟨"BellSchool", "forget", "()I"⟩ prog_1_method_22_code 2 (some .int) ∈ TB := tb_in (lw_i3 161 rfl) rfl
theorem mw362 : Cond.instanceMethod ⟨"BellSchool", "forget", "()I"⟩ ∈ TB := tb_in (lw_i3 159 rfl) rfl
theorem mw363 : Cond.selects "BellSchool" ⟨"BellSchool", "forget", "()I"⟩ ⟨"BellSchool", "forget", "()I"⟩ ∈ TB := tb_in (lw_i3 160 rfl) rfl
theorem mw364 : Cond.code ⟨"BellSchool", "farthestSeen", "()I"⟩ prog_1_method_34_code 3 (some .int) ∈ TB := tb_in (lw_i3 173 rfl) rfl
theorem mw365 : Cond.instanceMethod ⟨"BellSchool", "farthestSeen", "()I"⟩ ∈ TB := tb_in (lw_i3 172 rfl) rfl
theorem mw366 : Cond.selects "BellSchool" ⟨"BellSchool", "farthestSeen", "()I"⟩ ⟨"BellSchool", "farthestSeen", "()I"⟩ ∈ TB := tb_in (lw_s 17 rfl) rfl
theorem mw367 : Cond.code ⟨"BellSchool", "isSeenAt", "(II)Z"⟩ prog_1_method_35_code 4 (some .boolean) ∈ TB := tb_in (lw_i3 177 rfl) rfl
theorem mw368 : Cond.instanceMethod ⟨"BellSchool", "isSeenAt", "(II)Z"⟩ ∈ TB := tb_in (lw_i3 176 rfl) rfl
theorem mw369 : Cond.selects "BellSchool" ⟨"BellSchool", "isSeenAt", "(II)Z"⟩ ⟨"BellSchool", "isSeenAt", "(II)Z"⟩ ∈ TB := tb_in (lw_s 18 rfl) rfl
theorem mw370 : Cond.methodLink "BellSchool" 269 ⟨"BellSchool", "farthestSeen", "()I"⟩ ∈ TB := tb_in (lw_i3 170 rfl) rfl
theorem mw371 : Cond.methodLink "BellSchool" 272 ⟨"BellSchool", "isSeenAt", "(II)Z"⟩ ∈ TB := tb_in (lw_i3 174 rfl) rfl
theorem mw372 : Cond.code ⟨"BellSchool", "fitsSeen", "(II)Z"⟩ prog_1_method_33_code 5 (some .boolean) ∈ TB := tb_in (lw_i3 169 rfl) rfl
theorem mw373 : Cond.instanceMethod ⟨"BellSchool", "fitsSeen", "(II)Z"⟩ ∈ TB := tb_in (lw_i3 168 rfl) rfl
theorem mw374 : Cond.selects "BellSchool" ⟨"BellSchool", "fitsSeen", "(II)Z"⟩ ⟨"BellSchool", "fitsSeen", "(II)Z"⟩ ∈ TB := tb_in (lw_s 16 rfl) rfl
theorem mw375 : Cond.methodLink "BellSchool" 210 ⟨"BellSchool", "fitsSeen", "(II)Z"⟩ ∈ TB := tb_in (lw_i3 166 rfl) rfl
theorem mw376 : Cond.code ⟨"BellSchool", "fog", "()I"⟩ prog_1_method_23_code 3 (some .int) ∈ TB := tb_in (lw_i3 165 rfl) rfl
theorem mw377 : Cond.instanceMethod ⟨"BellSchool", "fog", "()I"⟩ ∈ TB := tb_in (lw_i3 163 rfl) rfl
theorem mw378 : Cond.selects "BellSchool" ⟨"BellSchool", "fog", "()I"⟩ ⟨"BellSchool", "fog", "()I"⟩ ∈ TB := tb_in (lw_i3 164 rfl) rfl
theorem mw379 : Cond.code ⟨"BellSchool", "tripped", "()I"⟩ prog_1_method_24_code 3 (some .int) ∈ TB := tb_in (lw_i3 181 rfl) rfl
theorem mw380 : Cond.instanceMethod ⟨"BellSchool", "tripped", "()I"⟩ ∈ TB := tb_in (lw_i3 179 rfl) rfl
theorem mw381 : Cond.selects "BellSchool" ⟨"BellSchool", "tripped", "()I"⟩ ⟨"BellSchool", "tripped", "()I"⟩ ∈ TB := tb_in (lw_i3 180 rfl) rfl
theorem mw382 : Cond.code ⟨"BellSchool$Measles", "power", "(II)J"⟩ prog_2_method_5_code 5 (some .long) ∈ TB := tb_in (lw_i3 203 rfl) rfl
theorem mw383 : Cond.initialized "BellSchool$Measles" ∈ TB := tb_in (lw_i1 10 rfl) rfl
theorem mw384 : Cond.static ⟨"BellSchool$Measles", "power", "(II)J"⟩ ∈ TB := tb_in (lw_i3 202 rfl) rfl
theorem mw385 : Cond.code ⟨"BellSchool$Noon", "laterThan", "(I)I"⟩ prog_3_method_12_code 4 (some .int) ∈ TB := tb_in (lw_i3 207 rfl) rfl
theorem mw386 : Cond.instanceMethod ⟨"BellSchool$Noon", "laterThan", "(I)I"⟩ ∈ TB := tb_in (lw_i3 205 rfl) rfl
theorem mw387 : Cond.selects "BellSchool$Noon" ⟨"BellSchool$Noon", "laterThan", "(I)I"⟩ ⟨"BellSchool$Noon", "laterThan", "(I)I"⟩ ∈ TB := tb_in (lw_i3 206 rfl) rfl
theorem mw388 : Cond.methodLink "BellSchool$Measles" 38 ⟨"BellSchool$Noon", "homes", "()I"⟩ ∈ TB := tb_in (lw_i3 195 rfl) rfl
theorem mw389 : Cond.fieldLink "BellSchool$Measles" 15 "BellSchool$Measles" "then" "[J" ∈ TB := tb_in (lw_i2 11 rfl) rfl
theorem mw390 : Cond.fieldLink "BellSchool$Measles" 9 "BellSchool$Measles" "chance" "[J" ∈ TB := tb_in (lw_i2 9 rfl) rfl
theorem mw391 : Cond.fieldLink "BellSchool$Measles" 56 "BellSchool$Noon" "comers" "I" ∈ TB := tb_in (lw_i1 114 rfl) rfl
theorem mw392 : Cond.methodLink "BellSchool$Measles" 52 ⟨"BellSchool$Measles", "power", "(II)J"⟩ ∈ TB := tb_in (lw_i3 201 rfl) rfl
theorem mw393 : Cond.fieldLink "BellSchool$Measles" 59 "BellSchool$Noon" "times" "[I" ∈ TB := tb_in (lw_i1 108 rfl) rfl
theorem mw394 : Cond.methodLink "BellSchool$Measles" 63 ⟨"BellSchool$Noon", "laterThan", "(I)I"⟩ ∈ TB := tb_in (lw_i3 204 rfl) rfl
theorem mw395 : Cond.code ⟨"BellSchool$Measles", "spreadFrom", "(ILBellSchool$Noon;I)V"⟩ prog_2_method_4_code 9 none ∈ TB := tb_in (lw_i3 200 rfl) rfl
theorem mw396 : Cond.instanceMethod ⟨"BellSchool$Measles", "spreadFrom", "(ILBellSchool$Noon;I)V"⟩ ∈ TB := tb_in (lw_i3 199 rfl) rfl
theorem mw397 : Cond.selects "BellSchool$Measles" ⟨"BellSchool$Measles", "spreadFrom", "(ILBellSchool$Noon;I)V"⟩ ⟨"BellSchool$Measles", "spreadFrom", "(ILBellSchool$Noon;I)V"⟩ ∈ TB := tb_in (lw_s 20 rfl) rfl
theorem mw398 : Cond.fieldLink "BellSchool$Measles" 18 "BellSchool$Measles" "below" "J" ∈ TB := tb_in (lw_i2 12 rfl) rfl
theorem mw399 : Cond.fieldLink "BellSchool$Measles" 22 "BellSchool$Standing" "bell" "I" ∈ TB := tb_in (lw_i1 144 rfl) rfl
theorem mw400 : Cond.methodLink "BellSchool$Measles" 44 ⟨"BellSchool$Noon", "gather", "(LBellSchool$Standing;)V"⟩ ∈ TB := tb_in (lw_i3 196 rfl) rfl
theorem mw401 : Cond.methodLink "BellSchool$Measles" 48 ⟨"BellSchool$Measles", "spreadFrom", "(ILBellSchool$Noon;I)V"⟩ ∈ TB := tb_in (lw_i3 197 rfl) rfl
theorem mw402 : Cond.code ⟨"BellSchool$Measles", "spread", "(LBellSchool$Noon;LBellSchool$Standing;I)V"⟩ prog_2_method_3_code 5 none ∈ TB := tb_in (lw_i3 194 rfl) rfl
theorem mw403 : Cond.instanceMethod ⟨"BellSchool$Measles", "spread", "(LBellSchool$Noon;LBellSchool$Standing;I)V"⟩ ∈ TB := tb_in (lw_i3 193 rfl) rfl
theorem mw404 : Cond.selects "BellSchool$Measles" ⟨"BellSchool$Measles", "spread", "(LBellSchool$Noon;LBellSchool$Standing;I)V"⟩ ⟨"BellSchool$Measles", "spread", "(LBellSchool$Noon;LBellSchool$Standing;I)V"⟩ ∈ TB := tb_in (lw_s 19 rfl) rfl
theorem mw405 : Cond.methodLink "BellSchool$Measles" 28 ⟨"BellSchool$Measles", "spread", "(LBellSchool$Noon;LBellSchool$Standing;I)V"⟩ ∈ TB := tb_in (lw_i3 191 rfl) rfl
theorem mw406 : Cond.fieldLink "BellSchool$Measles" 32 "BellSchool$Standing" "held" "I" ∈ TB := tb_in (lw_i1 149 rfl) rfl
theorem mw407 : Cond.fieldLink "BellSchool$Measles" 35 "BellSchool$Standing" "day" "I" ∈ TB := tb_in (lw_i1 139 rfl) rfl
theorem mw408 : Cond.code ⟨"BellSchool$Measles", "reckon", "(LBellSchool$Noon;LBellSchool$Standing;II)V"⟩ prog_2_method_2_code 6 none ∈ TB := tb_in (lw_i3 190 rfl) rfl
theorem mw409 : Cond.instanceMethod ⟨"BellSchool$Measles", "reckon", "(LBellSchool$Noon;LBellSchool$Standing;II)V"⟩ ∈ TB := tb_in (lw_i3 188 rfl) rfl
theorem mw410 : Cond.selects "BellSchool$Measles" ⟨"BellSchool$Measles", "reckon", "(LBellSchool$Noon;LBellSchool$Standing;II)V"⟩ ⟨"BellSchool$Measles", "reckon", "(LBellSchool$Noon;LBellSchool$Standing;II)V"⟩ ∈ TB := tb_in (lw_i3 189 rfl) rfl
theorem mw411 : Cond.code ⟨"BellSchool", "commonDivisor", "(JJ)J"⟩ prog_1_method_38_code 11 (some .long) ∈ TB := tb_in (lw_i3 210 rfl) rfl
theorem mw412 : Cond.static ⟨"BellSchool", "commonDivisor", "(JJ)J"⟩ ∈ TB := tb_in (lw_i3 209 rfl) rfl
theorem mw413 : Cond.constantLong "BellSchool" 213 (-1 : Int64) ∈ TB := tb_in (lw_i3 186 rfl) rfl
theorem mw414 : Cond.fieldLink "BellSchool" 74 "BellSchool" "chances" "LBellSchool$Measles;" ∈ TB := tb_in (lw_i2 159 rfl) rfl
theorem mw415 : Cond.methodLink "BellSchool" 215 ⟨"BellSchool$Measles", "reckon", "(LBellSchool$Noon;LBellSchool$Standing;II)V"⟩ ∈ TB := tb_in (lw_i3 187 rfl) rfl
theorem mw416 : Cond.fieldLink "BellSchool" 219 "BellSchool$Measles" "chance" "[J" ∈ TB := tb_in (lw_i2 10 rfl) rfl
theorem mw417 : Cond.fieldLink "BellSchool" 223 "BellSchool$Measles" "below" "J" ∈ TB := tb_in (lw_i2 13 rfl) rfl
theorem mw418 : Cond.methodLink "BellSchool" 226 ⟨"BellSchool", "commonDivisor", "(JJ)J"⟩ ∈ TB := tb_in (lw_i3 208 rfl) rfl
theorem mw419 : Cond.methodLink "BellSchool" 230 Lib.MathLoose.max_long.x ∈ TB := tb_in (lw_i3 211 rfl) rfl
theorem mw420 : Cond.static Lib.MathLoose.max_long.x ∈ TB := tb_in (lw_i3 212 rfl) rfl
theorem mw421 : Cond.code Lib.MathLoose.max_long.x Lib.MathLoose.max_long.code 4 (some .long) ∈ TB := tb_in (lw_i3 213 rfl) rfl
theorem mw422 : Cond.code ⟨"BellSchool", "measles", "(IIII)J"⟩ prog_1_method_25_code 9 (some .long) ∈ TB := tb_in (lw_i3 185 rfl) rfl
theorem mw423 : Cond.instanceMethod ⟨"BellSchool", "measles", "(IIII)J"⟩ ∈ TB := tb_in (lw_i3 183 rfl) rfl
theorem mw424 : Cond.selects "BellSchool" ⟨"BellSchool", "measles", "(IIII)J"⟩ ⟨"BellSchool", "measles", "(IIII)J"⟩ ∈ TB := tb_in (lw_i3 184 rfl) rfl
theorem mw425 : Cond.constantLong "BellSchool" 277 (7919 : Int64) ∈ TB := tb_in (lw_i3 222 rfl) rfl
theorem mw426 : Cond.constantLong "BellSchool" 279 (6151 : Int64) ∈ TB := tb_in (lw_i3 223 rfl) rfl
theorem mw427 : Cond.constantLong "BellSchool" 281 (65521 : Int64) ∈ TB := tb_in (lw_i3 224 rfl) rfl
theorem mw428 : Cond.constantLong "BellSchool" 283 (2 : Int64) ∈ TB := tb_in (lw_i3 225 rfl) rfl
theorem mw429 : Cond.constantLong "BellSchool" 285 (8 : Int64) ∈ TB := tb_in (lw_i3 226 rfl) rfl
theorem mw430 : Cond.code ⟨"BellSchool", "drawnOn", "(II)I"⟩ prog_1_method_36_code 7 (some .int) ∈ TB := tb_in (lw_i3 221 rfl) rfl
theorem mw431 : Cond.instanceMethod ⟨"BellSchool", "drawnOn", "(II)I"⟩ ∈ TB := tb_in (lw_i3 220 rfl) rfl
theorem mw432 : Cond.selects "BellSchool" ⟨"BellSchool", "drawnOn", "(II)I"⟩ ⟨"BellSchool", "drawnOn", "(II)I"⟩ ∈ TB := tb_in (lw_s 21 rfl) rfl
theorem mw433 : Cond.code ⟨"BellSchool$Standing", "soupsInAll", "()I"⟩ prog_7_method_5_code 3 (some .int) ∈ TB := tb_in (lw_i3 230 rfl) rfl
theorem mw434 : Cond.instanceMethod ⟨"BellSchool$Standing", "soupsInAll", "()I"⟩ ∈ TB := tb_in (lw_i3 228 rfl) rfl
theorem mw435 : Cond.selects "BellSchool$Standing" ⟨"BellSchool$Standing", "soupsInAll", "()I"⟩ ⟨"BellSchool$Standing", "soupsInAll", "()I"⟩ ∈ TB := tb_in (lw_i3 229 rfl) rfl
theorem mw436 : Cond.methodLink "BellSchool" 238 ⟨"BellSchool$Standing", "soupsInAll", "()I"⟩ ∈ TB := tb_in (lw_i3 227 rfl) rfl
theorem mw437 : Cond.methodLink "BellSchool" 235 ⟨"BellSchool", "drawnOn", "(II)I"⟩ ∈ TB := tb_in (lw_i3 218 rfl) rfl
theorem mw438 : Cond.code ⟨"BellSchool", "year", "(III)I"⟩ prog_1_method_26_code 5 (some .int) ∈ TB := tb_in (lw_i3 217 rfl) rfl
theorem mw439 : Cond.instanceMethod ⟨"BellSchool", "year", "(III)I"⟩ ∈ TB := tb_in (lw_i3 215 rfl) rfl
theorem mw440 : Cond.selects "BellSchool" ⟨"BellSchool", "year", "(III)I"⟩ ⟨"BellSchool", "year", "(III)I"⟩ ∈ TB := tb_in (lw_i3 216 rfl) rfl
theorem mw441 : Cond.methodLink "BellSchool" 241 ⟨"BellSchool$Shelf", "put", "(LBellSchool$Standing;)Z"⟩ ∈ TB := tb_in (lw_i3 235 rfl) rfl
theorem mw442 : Cond.code ⟨"BellSchool", "keep", "()I"⟩ prog_1_method_27_code 1 (some .int) ∈ TB := tb_in (lw_i3 234 rfl) rfl
theorem mw443 : Cond.instanceMethod ⟨"BellSchool", "keep", "()I"⟩ ∈ TB := tb_in (lw_i3 232 rfl) rfl
theorem mw444 : Cond.selects "BellSchool" ⟨"BellSchool", "keep", "()I"⟩ ⟨"BellSchool", "keep", "()I"⟩ ∈ TB := tb_in (lw_i3 233 rfl) rfl
theorem mw445 : Cond.code ⟨"BellSchool", "back", "()I"⟩ prog_1_method_28_code 1 (some .int) ∈ TB := tb_in (lw_i3 239 rfl) rfl
theorem mw446 : Cond.instanceMethod ⟨"BellSchool", "back", "()I"⟩ ∈ TB := tb_in (lw_i3 237 rfl) rfl
theorem mw447 : Cond.selects "BellSchool" ⟨"BellSchool", "back", "()I"⟩ ⟨"BellSchool", "back", "()I"⟩ ∈ TB := tb_in (lw_i3 238 rfl) rfl
theorem mw448 : Cond.code ⟨"BellSchool$Valley", "ways", "()I"⟩ prog_9_method_10_code 3 (some .int) ∈ TB := tb_in (lw_i4 7 rfl) rfl
theorem mw449 : Cond.instanceMethod ⟨"BellSchool$Valley", "ways", "()I"⟩ ∈ TB := tb_in (lw_i4 5 rfl) rfl
theorem mw450 : Cond.selects "BellSchool$Valley" ⟨"BellSchool$Valley", "ways", "()I"⟩ ⟨"BellSchool$Valley", "ways", "()I"⟩ ∈ TB := tb_in (lw_i4 6 rfl) rfl
theorem mw451 : Cond.constantLong "java/lang/Long" 314 (6148914691236517205 : Int64) ∈ TB := tb_in (lw_i4 11 rfl) rfl
theorem mw452 : Cond.constantLong "java/lang/Long" 316 (3689348814741910323 : Int64) ∈ TB := tb_in (lw_i4 12 rfl) rfl
theorem mw453 : Cond.constantLong "java/lang/Long" 318 (1085102592571150095 : Int64) ∈ TB := tb_in (lw_i4 13 rfl) rfl
theorem mw454 : Cond.code ⟨"java/lang/Long", "bitCount", "(J)I"⟩ prog_13_method_50_code 2 (some .int) ∈ TB := tb_in (lw_i4 10 rfl) rfl
theorem mw455 : Cond.initialized "java/lang/Long" ∈ TB := tb_in (lw_i1 16 rfl) rfl
theorem mw456 : Cond.static ⟨"java/lang/Long", "bitCount", "(J)I"⟩ ∈ TB := tb_in (lw_i4 9 rfl) rfl
theorem mw457 : Cond.constant "java/lang/Integer" 265 (1431655765 : Int32) ∈ TB := tb_in (lw_i4 17 rfl) rfl
theorem mw458 : Cond.constant "java/lang/Integer" 266 (858993459 : Int32) ∈ TB := tb_in (lw_i4 18 rfl) rfl
theorem mw459 : Cond.constant "java/lang/Integer" 267 (252645135 : Int32) ∈ TB := tb_in (lw_i4 19 rfl) rfl
theorem mw460 : Cond.code ⟨"java/lang/Integer", "bitCount", "(I)I"⟩ prog_12_method_49_code 1 (some .int) ∈ TB := tb_in (lw_i4 16 rfl) rfl
theorem mw461 : Cond.initialized "java/lang/Integer" ∈ TB := tb_in (lw_i1 17 rfl) rfl
theorem mw462 : Cond.static ⟨"java/lang/Integer", "bitCount", "(I)I"⟩ ∈ TB := tb_in (lw_i4 15 rfl) rfl
theorem mw463 : Cond.methodLink "BellSchool" 244 ⟨"BellSchool$Valley", "ways", "()I"⟩ ∈ TB := tb_in (lw_i4 4 rfl) rfl
theorem mw464 : Cond.methodLink "BellSchool" 247 ⟨"java/lang/Long", "bitCount", "(J)I"⟩ ∈ TB := tb_in (lw_i4 8 rfl) rfl
theorem mw465 : Cond.methodLink "BellSchool" 253 ⟨"java/lang/Integer", "bitCount", "(I)I"⟩ ∈ TB := tb_in (lw_i4 14 rfl) rfl
theorem mw466 : Cond.code ⟨"BellSchool", "count", "(I)I"⟩ prog_1_method_29_code 2 (some .int) ∈ TB := tb_in (lw_i4 3 rfl) rfl
theorem mw467 : Cond.instanceMethod ⟨"BellSchool", "count", "(I)I"⟩ ∈ TB := tb_in (lw_i4 1 rfl) rfl
theorem mw468 : Cond.selects "BellSchool" ⟨"BellSchool", "count", "(I)I"⟩ ⟨"BellSchool", "count", "(I)I"⟩ ∈ TB := tb_in (lw_i4 2 rfl) rfl
theorem mw469 : Cond.code ⟨"BellSchoolModel", "in", "(III)Z"⟩ prog_11_method_2_code 3 (some .boolean) ∈ TB := tb_in (lw_i4 152 rfl) rfl
theorem mw470 : Cond.initialized "BellSchoolModel" ∈ TB := tb_in (lw_i1 15 rfl) rfl
theorem mw471 : Cond.static ⟨"BellSchoolModel", "in", "(III)Z"⟩ ∈ TB := tb_in (lw_i4 151 rfl) rfl
theorem mw472 : Cond.code ⟨"BellSchoolModel", "has", "(II)Z"⟩ prog_11_method_3_code 2 (some .boolean) ∈ TB := tb_in (lw_i4 226 rfl) rfl
theorem mw473 : Cond.static ⟨"BellSchoolModel", "has", "(II)Z"⟩ ∈ TB := tb_in (lw_i4 225 rfl) rfl
theorem mw474 : Cond.code ⟨"BellSchoolModel", "bits", "(I)I"⟩ prog_11_method_4_code 3 (some .int) ∈ TB := tb_in (lw_i5 144 rfl) rfl
theorem mw475 : Cond.static ⟨"BellSchoolModel", "bits", "(I)I"⟩ ∈ TB := tb_in (lw_i5 143 rfl) rfl
theorem mw476 : Cond.fieldLink "BellSchoolModel" 99 "BellSchoolModel" "readHomes" "I" ∈ TB := tb_in (lw_i4 49 rfl) rfl
theorem mw477 : Cond.fieldLink "BellSchoolModel" 102 "BellSchoolModel" "readBell" "I" ∈ TB := tb_in (lw_i4 50 rfl) rfl
theorem mw478 : Cond.fieldLink "BellSchoolModel" 92 "BellSchoolModel" "readMost" "I" ∈ TB := tb_in (lw_i4 51 rfl) rfl
theorem mw479 : Cond.fieldLink "BellSchoolModel" 19 "BellSchoolModel" "readWays" "[I" ∈ TB := tb_in (lw_i4 54 rfl) rfl
theorem mw480 : Cond.fieldLink "BellSchoolModel" 22 "BellSchoolModel" "readFrom" "[I" ∈ TB := tb_in (lw_i4 55 rfl) rfl
theorem mw481 : Cond.fieldLink "BellSchoolModel" 25 "BellSchoolModel" "readTo" "[I" ∈ TB := tb_in (lw_i4 56 rfl) rfl
theorem mw482 : Cond.code ⟨"BellSchoolModel", "anew", "()V"⟩ prog_11_method_5_code 2 none ∈ TB := tb_in (lw_i4 29 rfl) rfl
theorem mw483 : Cond.instanceMethod ⟨"BellSchoolModel", "anew", "()V"⟩ ∈ TB := tb_in (lw_i4 28 rfl) rfl
theorem mw484 : Cond.selects "BellSchoolModel" ⟨"BellSchoolModel", "anew", "()V"⟩ ⟨"BellSchoolModel", "anew", "()V"⟩ ∈ TB := tb_in (lw_s 22 rfl) rfl
theorem mw485 : Cond.fieldLink "BellSchoolModel" 13 "BellSchoolModel" "readKinds" "[I" ∈ TB := tb_in (lw_i4 52 rfl) rfl
theorem mw486 : Cond.fieldLink "BellSchoolModel" 16 "BellSchoolModel" "readLate" "[I" ∈ TB := tb_in (lw_i4 53 rfl) rfl
theorem mw487 : Cond.code ⟨"BellSchoolModel", "comesHome", "(II)V"⟩ prog_11_method_6_code 3 none ∈ TB := tb_in (lw_i4 33 rfl) rfl
theorem mw488 : Cond.instanceMethod ⟨"BellSchoolModel", "comesHome", "(II)V"⟩ ∈ TB := tb_in (lw_i4 32 rfl) rfl
theorem mw489 : Cond.selects "BellSchoolModel" ⟨"BellSchoolModel", "comesHome", "(II)V"⟩ ⟨"BellSchoolModel", "comesHome", "(II)V"⟩ ∈ TB := tb_in (lw_s 23 rfl) rfl
theorem mw490 : Cond.code ⟨"BellSchoolModel", "joins", "(III)V"⟩ prog_11_method_7_code 4 none ∈ TB := tb_in (lw_i4 37 rfl) rfl
theorem mw491 : Cond.instanceMethod ⟨"BellSchoolModel", "joins", "(III)V"⟩ ∈ TB := tb_in (lw_i4 36 rfl) rfl
theorem mw492 : Cond.selects "BellSchoolModel" ⟨"BellSchoolModel", "joins", "(III)V"⟩ ⟨"BellSchoolModel", "joins", "(III)V"⟩ ∈ TB := tb_in (lw_s 24 rfl) rfl
theorem mw493 : Cond.code ⟨"BellSchoolModel", "snows", "(IIII)V"⟩ prog_11_method_8_code 5 none ∈ TB := tb_in (lw_i4 41 rfl) rfl
theorem mw494 : Cond.instanceMethod ⟨"BellSchoolModel", "snows", "(IIII)V"⟩ ∈ TB := tb_in (lw_i4 40 rfl) rfl
theorem mw495 : Cond.selects "BellSchoolModel" ⟨"BellSchoolModel", "snows", "(IIII)V"⟩ ⟨"BellSchoolModel", "snows", "(IIII)V"⟩ ∈ TB := tb_in (lw_s 25 rfl) rfl
theorem mw496 : Cond.methodLink "BellSchoolModel" 105 ⟨"BellSchoolModel", "in", "(III)Z"⟩ ∈ TB := tb_in (lw_i4 150 rfl) rfl
theorem mw497 : Cond.fieldLink "BellSchoolModel" 109 "BellSchoolModel" "letterMany" "I" ∈ TB := tb_in (lw_i4 46 rfl) rfl
theorem mw498 : Cond.fieldLink "BellSchoolModel" 7 "BellSchoolModel" "text" "[I" ∈ TB := tb_in (lw_i4 47 rfl) rfl
theorem mw499 : Cond.code ⟨"BellSchoolModel", "write", "(I)I"⟩ prog_11_method_9_code 2 (some .int) ∈ TB := tb_in (lw_i4 149 rfl) rfl
theorem mw500 : Cond.instanceMethod ⟨"BellSchoolModel", "write", "(I)I"⟩ ∈ TB := tb_in (lw_i4 147 rfl) rfl
theorem mw501 : Cond.selects "BellSchoolModel" ⟨"BellSchoolModel", "write", "(I)I"⟩ ⟨"BellSchoolModel", "write", "(I)I"⟩ ∈ TB := tb_in (lw_i4 148 rfl) rfl
theorem mw502 : Cond.code ⟨"BellSchoolModel", "wipe", "()I"⟩ prog_11_method_10_code 2 (some .int) ∈ TB := tb_in (lw_i4 156 rfl) rfl
theorem mw503 : Cond.instanceMethod ⟨"BellSchoolModel", "wipe", "()I"⟩ ∈ TB := tb_in (lw_i4 154 rfl) rfl
theorem mw504 : Cond.selects "BellSchoolModel" ⟨"BellSchoolModel", "wipe", "()I"⟩ ⟨"BellSchoolModel", "wipe", "()I"⟩ ∈ TB := tb_in (lw_i4 155 rfl) rfl
theorem mw505 : Cond.fieldLink "BellSchoolModel" 112 "BellSchoolModel" "readAt" "I" ∈ TB := tb_in (lw_i4 48 rfl) rfl
theorem mw506 : Cond.code ⟨"BellSchoolModel", "here", "()I"⟩ prog_11_method_11_code 1 (some .int) ∈ TB := tb_in (lw_i4 172 rfl) rfl
theorem mw507 : Cond.instanceMethod ⟨"BellSchoolModel", "here", "()I"⟩ ∈ TB := tb_in (lw_i4 171 rfl) rfl
theorem mw508 : Cond.selects "BellSchoolModel" ⟨"BellSchoolModel", "here", "()I"⟩ ⟨"BellSchoolModel", "here", "()I"⟩ ∈ TB := tb_in (lw_s 29 rfl) rfl
theorem mw509 : Cond.methodLink "BellSchoolModel" 115 ⟨"BellSchoolModel", "here", "()I"⟩ ∈ TB := tb_in (lw_i4 169 rfl) rfl
theorem mw510 : Cond.fieldLink "BellSchoolModel" 28 "BellSchoolModel" "told" "[I" ∈ TB := tb_in (lw_i4 57 rfl) rfl
theorem mw511 : Cond.code ⟨"BellSchoolModel", "numbers", "(I)Z"⟩ prog_11_method_12_code 3 (some .boolean) ∈ TB := tb_in (lw_i4 180 rfl) rfl
theorem mw512 : Cond.instanceMethod ⟨"BellSchoolModel", "numbers", "(I)Z"⟩ ∈ TB := tb_in (lw_i4 179 rfl) rfl
theorem mw513 : Cond.selects "BellSchoolModel" ⟨"BellSchoolModel", "numbers", "(I)Z"⟩ ⟨"BellSchoolModel", "numbers", "(I)Z"⟩ ∈ TB := tb_in (lw_s 31 rfl) rfl
theorem mw514 : Cond.code ⟨"BellSchoolModel", "isTwo", "()Z"⟩ prog_11_method_13_code 1 (some .boolean) ∈ TB := tb_in (lw_i4 188 rfl) rfl
theorem mw515 : Cond.instanceMethod ⟨"BellSchoolModel", "isTwo", "()Z"⟩ ∈ TB := tb_in (lw_i4 187 rfl) rfl
theorem mw516 : Cond.selects "BellSchoolModel" ⟨"BellSchoolModel", "isTwo", "()Z"⟩ ⟨"BellSchoolModel", "isTwo", "()Z"⟩ ∈ TB := tb_in (lw_s 33 rfl) rfl
theorem mw517 : Cond.methodLink "BellSchoolModel" 119 ⟨"BellSchoolModel", "numbers", "(I)Z"⟩ ∈ TB := tb_in (lw_i4 177 rfl) rfl
theorem mw518 : Cond.methodLink "BellSchoolModel" 80 ⟨"BellSchoolModel", "comesHome", "(II)V"⟩ ∈ TB := tb_in (lw_i4 30 rfl) rfl
theorem mw519 : Cond.code ⟨"BellSchoolModel", "readsHome", "()Z"⟩ prog_11_method_14_code 1 (some .boolean) ∈ TB := tb_in (lw_i4 176 rfl) rfl
theorem mw520 : Cond.instanceMethod ⟨"BellSchoolModel", "readsHome", "()Z"⟩ ∈ TB := tb_in (lw_i4 175 rfl) rfl
theorem mw521 : Cond.selects "BellSchoolModel" ⟨"BellSchoolModel", "readsHome", "()Z"⟩ ⟨"BellSchoolModel", "readsHome", "()Z"⟩ ∈ TB := tb_in (lw_s 30 rfl) rfl
theorem mw522 : Cond.methodLink "BellSchoolModel" 123 ⟨"BellSchoolModel", "isTwo", "()Z"⟩ ∈ TB := tb_in (lw_i4 185 rfl) rfl
theorem mw523 : Cond.methodLink "BellSchoolModel" 84 ⟨"BellSchoolModel", "joins", "(III)V"⟩ ∈ TB := tb_in (lw_i4 34 rfl) rfl
theorem mw524 : Cond.code ⟨"BellSchoolModel", "readsWay", "()Z"⟩ prog_11_method_15_code 1 (some .boolean) ∈ TB := tb_in (lw_i4 184 rfl) rfl
theorem mw525 : Cond.instanceMethod ⟨"BellSchoolModel", "readsWay", "()Z"⟩ ∈ TB := tb_in (lw_i4 183 rfl) rfl
theorem mw526 : Cond.selects "BellSchoolModel" ⟨"BellSchoolModel", "readsWay", "()Z"⟩ ⟨"BellSchoolModel", "readsWay", "()Z"⟩ ∈ TB := tb_in (lw_s 32 rfl) rfl
theorem mw527 : Cond.methodLink "BellSchoolModel" 88 ⟨"BellSchoolModel", "snows", "(IIII)V"⟩ ∈ TB := tb_in (lw_i4 38 rfl) rfl
theorem mw528 : Cond.code ⟨"BellSchoolModel", "readsSnow", "()Z"⟩ prog_11_method_16_code 1 (some .boolean) ∈ TB := tb_in (lw_i4 192 rfl) rfl
theorem mw529 : Cond.instanceMethod ⟨"BellSchoolModel", "readsSnow", "()Z"⟩ ∈ TB := tb_in (lw_i4 191 rfl) rfl
theorem mw530 : Cond.selects "BellSchoolModel" ⟨"BellSchoolModel", "readsSnow", "()Z"⟩ ⟨"BellSchoolModel", "readsSnow", "()Z"⟩ ∈ TB := tb_in (lw_s 34 rfl) rfl
theorem mw531 : Cond.code ⟨"BellSchoolModel", "readsBell", "()Z"⟩ prog_11_method_17_code 1 (some .boolean) ∈ TB := tb_in (lw_i4 196 rfl) rfl
theorem mw532 : Cond.instanceMethod ⟨"BellSchoolModel", "readsBell", "()Z"⟩ ∈ TB := tb_in (lw_i4 195 rfl) rfl
theorem mw533 : Cond.selects "BellSchoolModel" ⟨"BellSchoolModel", "readsBell", "()Z"⟩ ⟨"BellSchoolModel", "readsBell", "()Z"⟩ ∈ TB := tb_in (lw_s 35 rfl) rfl
theorem mw534 : Cond.code ⟨"BellSchoolModel", "readsMost", "()Z"⟩ prog_11_method_18_code 1 (some .boolean) ∈ TB := tb_in (lw_i4 200 rfl) rfl
theorem mw535 : Cond.instanceMethod ⟨"BellSchoolModel", "readsMost", "()Z"⟩ ∈ TB := tb_in (lw_i4 199 rfl) rfl
theorem mw536 : Cond.selects "BellSchoolModel" ⟨"BellSchoolModel", "readsMost", "()Z"⟩ ⟨"BellSchoolModel", "readsMost", "()Z"⟩ ∈ TB := tb_in (lw_s 36 rfl) rfl
theorem mw537 : Cond.methodLink "BellSchoolModel" 136 ⟨"BellSchoolModel", "readsBell", "()Z"⟩ ∈ TB := tb_in (lw_i4 193 rfl) rfl
theorem mw538 : Cond.methodLink "BellSchoolModel" 127 ⟨"BellSchoolModel", "readsHome", "()Z"⟩ ∈ TB := tb_in (lw_i4 173 rfl) rfl
theorem mw539 : Cond.methodLink "BellSchoolModel" 139 ⟨"BellSchoolModel", "readsMost", "()Z"⟩ ∈ TB := tb_in (lw_i4 197 rfl) rfl
theorem mw540 : Cond.methodLink "BellSchoolModel" 133 ⟨"BellSchoolModel", "readsSnow", "()Z"⟩ ∈ TB := tb_in (lw_i4 189 rfl) rfl
theorem mw541 : Cond.methodLink "BellSchoolModel" 130 ⟨"BellSchoolModel", "readsWay", "()Z"⟩ ∈ TB := tb_in (lw_i4 181 rfl) rfl
theorem mw542 : Cond.code ⟨"BellSchoolModel", "readsItem", "()Z"⟩ prog_11_method_19_code 2 (some .boolean) ∈ TB := tb_in (lw_i4 168 rfl) rfl
theorem mw543 : Cond.instanceMethod ⟨"BellSchoolModel", "readsItem", "()Z"⟩ ∈ TB := tb_in (lw_i4 167 rfl) rfl
theorem mw544 : Cond.selects "BellSchoolModel" ⟨"BellSchoolModel", "readsItem", "()Z"⟩ ⟨"BellSchoolModel", "readsItem", "()Z"⟩ ∈ TB := tb_in (lw_s 28 rfl) rfl
theorem mw545 : Cond.methodLink "BellSchoolModel" 77 ⟨"BellSchoolModel", "anew", "()V"⟩ ∈ TB := tb_in (lw_i4 26 rfl) rfl
theorem mw546 : Cond.methodLink "BellSchoolModel" 142 ⟨"BellSchoolModel", "readsItem", "()Z"⟩ ∈ TB := tb_in (lw_i4 165 rfl) rfl
theorem mw547 : Cond.code ⟨"BellSchoolModel", "faultOf", "()I"⟩ prog_11_method_20_code 2 (some .int) ∈ TB := tb_in (lw_i4 164 rfl) rfl
theorem mw548 : Cond.instanceMethod ⟨"BellSchoolModel", "faultOf", "()I"⟩ ∈ TB := tb_in (lw_i4 163 rfl) rfl
theorem mw549 : Cond.selects "BellSchoolModel" ⟨"BellSchoolModel", "faultOf", "()I"⟩ ⟨"BellSchoolModel", "faultOf", "()I"⟩ ∈ TB := tb_in (lw_s 27 rfl) rfl
theorem mw550 : Cond.methodLink "BellSchoolModel" 145 ⟨"BellSchoolModel", "faultOf", "()I"⟩ ∈ TB := tb_in (lw_i4 161 rfl) rfl
theorem mw551 : Cond.code ⟨"BellSchoolModel", "fault", "()I"⟩ prog_11_method_21_code 1 (some .int) ∈ TB := tb_in (lw_i4 160 rfl) rfl
theorem mw552 : Cond.instanceMethod ⟨"BellSchoolModel", "fault", "()I"⟩ ∈ TB := tb_in (lw_i4 158 rfl) rfl
theorem mw553 : Cond.selects "BellSchoolModel" ⟨"BellSchoolModel", "fault", "()I"⟩ ⟨"BellSchoolModel", "fault", "()I"⟩ ∈ TB := tb_in (lw_i4 159 rfl) rfl
theorem mw554 : Cond.fieldLink "BellSchoolModel" 148 "BellSchoolModel" "n" "I" ∈ TB := tb_in (lw_i4 58 rfl) rfl
theorem mw555 : Cond.fieldLink "BellSchoolModel" 151 "BellSchoolModel" "most" "I" ∈ TB := tb_in (lw_i4 59 rfl) rfl
theorem mw556 : Cond.fieldLink "BellSchoolModel" 46 "BellSchoolModel" "now" "[I" ∈ TB := tb_in (lw_i4 65 rfl) rfl
theorem mw557 : Cond.fieldLink "BellSchoolModel" 154 "BellSchoolModel" "undoMany" "I" ∈ TB := tb_in (lw_i4 68 rfl) rfl
theorem mw558 : Cond.fieldLink "BellSchoolModel" 157 "BellSchoolModel" "keptMany" "I" ∈ TB := tb_in (lw_i4 77 rfl) rfl
theorem mw559 : Cond.fieldLink "BellSchoolModel" 160 "BellSchoolModel" "seenMany" "I" ∈ TB := tb_in (lw_i4 73 rfl) rfl
theorem mw560 : Cond.fieldLink "BellSchoolModel" 37 "BellSchoolModel" "ways" "[I" ∈ TB := tb_in (lw_i4 62 rfl) rfl
theorem mw561 : Cond.fieldLink "BellSchoolModel" 40 "BellSchoolModel" "from" "[I" ∈ TB := tb_in (lw_i4 63 rfl) rfl
theorem mw562 : Cond.fieldLink "BellSchoolModel" 43 "BellSchoolModel" "to" "[I" ∈ TB := tb_in (lw_i4 64 rfl) rfl
theorem mw563 : Cond.fieldLink "BellSchoolModel" 31 "BellSchoolModel" "kinds" "[I" ∈ TB := tb_in (lw_i4 60 rfl) rfl
theorem mw564 : Cond.fieldLink "BellSchoolModel" 34 "BellSchoolModel" "late" "[I" ∈ TB := tb_in (lw_i4 61 rfl) rfl
theorem mw565 : Cond.code ⟨"BellSchoolModel", "laid", "()V"⟩ prog_11_method_22_code 2 none ∈ TB := tb_in (lw_i4 45 rfl) rfl
theorem mw566 : Cond.instanceMethod ⟨"BellSchoolModel", "laid", "()V"⟩ ∈ TB := tb_in (lw_i4 44 rfl) rfl
theorem mw567 : Cond.selects "BellSchoolModel" ⟨"BellSchoolModel", "laid", "()V"⟩ ⟨"BellSchoolModel", "laid", "()V"⟩ ∈ TB := tb_in (lw_s 26 rfl) rfl
theorem mw568 : Cond.methodLink "BellSchoolModel" 96 ⟨"BellSchoolModel", "laid", "()V"⟩ ∈ TB := tb_in (lw_i4 42 rfl) rfl
theorem mw569 : Cond.code ⟨"BellSchoolModel", "lay", "()I"⟩ prog_11_method_23_code 1 (some .int) ∈ TB := tb_in (lw_i4 204 rfl) rfl
theorem mw570 : Cond.instanceMethod ⟨"BellSchoolModel", "lay", "()I"⟩ ∈ TB := tb_in (lw_i4 202 rfl) rfl
theorem mw571 : Cond.selects "BellSchoolModel" ⟨"BellSchoolModel", "lay", "()I"⟩ ⟨"BellSchoolModel", "lay", "()I"⟩ ∈ TB := tb_in (lw_i4 203 rfl) rfl
theorem mw572 : Cond.code ⟨"BellSchoolModel", "isHome", "(I)Z"⟩ prog_11_method_24_code 2 (some .boolean) ∈ TB := tb_in (lw_i4 212 rfl) rfl
theorem mw573 : Cond.instanceMethod ⟨"BellSchoolModel", "isHome", "(I)Z"⟩ ∈ TB := tb_in (lw_i4 211 rfl) rfl
theorem mw574 : Cond.selects "BellSchoolModel" ⟨"BellSchoolModel", "isHome", "(I)Z"⟩ ⟨"BellSchoolModel", "isHome", "(I)Z"⟩ ∈ TB := tb_in (lw_s 37 rfl) rfl
theorem mw575 : Cond.code ⟨"BellSchoolModel", "pair", "(II)I"⟩ prog_11_method_25_code 4 (some .int) ∈ TB := tb_in (lw_i4 223 rfl) rfl
theorem mw576 : Cond.static ⟨"BellSchoolModel", "pair", "(II)I"⟩ ∈ TB := tb_in (lw_i4 222 rfl) rfl
theorem mw577 : Cond.methodLink "BellSchoolModel" 163 ⟨"BellSchoolModel", "pair", "(II)I"⟩ ∈ TB := tb_in (lw_i4 221 rfl) rfl
theorem mw578 : Cond.methodLink "BellSchoolModel" 167 ⟨"BellSchoolModel", "has", "(II)Z"⟩ ∈ TB := tb_in (lw_i4 224 rfl) rfl
theorem mw579 : Cond.code ⟨"BellSchoolModel", "isOpen", "([III)Z"⟩ prog_11_method_26_code 5 (some .boolean) ∈ TB := tb_in (lw_i4 220 rfl) rfl
theorem mw580 : Cond.instanceMethod ⟨"BellSchoolModel", "isOpen", "([III)Z"⟩ ∈ TB := tb_in (lw_i4 219 rfl) rfl
theorem mw581 : Cond.selects "BellSchoolModel" ⟨"BellSchoolModel", "isOpen", "([III)Z"⟩ ⟨"BellSchoolModel", "isOpen", "([III)Z"⟩ ∈ TB := tb_in (lw_s 38 rfl) rfl
theorem mw582 : Cond.methodLink "BellSchoolModel" 172 ⟨"BellSchoolModel", "isOpen", "([III)Z"⟩ ∈ TB := tb_in (lw_i4 217 rfl) rfl
theorem mw583 : Cond.fieldLink "BellSchoolModel" 52 "BellSchoolModel" "minutes" "[I" ∈ TB := tb_in (lw_i4 67 rfl) rfl
theorem mw584 : Cond.constant "BellSchoolModel" 171 (1000000 : Int32) ∈ TB := tb_in (lw_i4 235 rfl) rfl
theorem mw585 : Cond.code ⟨"BellSchoolModel", "layMinutes", "([II)V"⟩ prog_11_method_27_code 6 none ∈ TB := tb_in (lw_i4 234 rfl) rfl
theorem mw586 : Cond.instanceMethod ⟨"BellSchoolModel", "layMinutes", "([II)V"⟩ ∈ TB := tb_in (lw_i4 233 rfl) rfl
theorem mw587 : Cond.selects "BellSchoolModel" ⟨"BellSchoolModel", "layMinutes", "([II)V"⟩ ⟨"BellSchoolModel", "layMinutes", "([II)V"⟩ ∈ TB := tb_in (lw_s 39 rfl) rfl
theorem mw588 : Cond.code ⟨"BellSchoolModel", "arrives", "([II)I"⟩ prog_11_method_28_code 6 (some .int) ∈ TB := tb_in (lw_i5 3 rfl) rfl
theorem mw589 : Cond.instanceMethod ⟨"BellSchoolModel", "arrives", "([II)I"⟩ ∈ TB := tb_in (lw_i5 2 rfl) rfl
theorem mw590 : Cond.selects "BellSchoolModel" ⟨"BellSchoolModel", "arrives", "([II)I"⟩ ⟨"BellSchoolModel", "arrives", "([II)I"⟩ ∈ TB := tb_in (lw_s 40 rfl) rfl
theorem mw591 : Cond.methodLink "BellSchoolModel" 176 ⟨"BellSchoolModel", "layMinutes", "([II)V"⟩ ∈ TB := tb_in (lw_i4 231 rfl) rfl
theorem mw592 : Cond.methodLink "BellSchoolModel" 180 ⟨"BellSchoolModel", "arrives", "([II)I"⟩ ∈ TB := tb_in (lw_i5 0 rfl) rfl
theorem mw593 : Cond.code ⟨"BellSchoolModel", "latest", "([II)I"⟩ prog_11_method_29_code 7 (some .int) ∈ TB := tb_in (lw_i5 11 rfl) rfl
theorem mw594 : Cond.instanceMethod ⟨"BellSchoolModel", "latest", "([II)I"⟩ ∈ TB := tb_in (lw_i5 10 rfl) rfl
theorem mw595 : Cond.selects "BellSchoolModel" ⟨"BellSchoolModel", "latest", "([II)I"⟩ ⟨"BellSchoolModel", "latest", "([II)I"⟩ ∈ TB := tb_in (lw_s 41 rfl) rfl
theorem mw596 : Cond.methodLink "BellSchoolModel" 184 ⟨"BellSchoolModel", "latest", "([II)I"⟩ ∈ TB := tb_in (lw_i5 8 rfl) rfl
theorem mw597 : Cond.code ⟨"BellSchoolModel", "goesBy", "([I)V"⟩ prog_11_method_30_code 4 none ∈ TB := tb_in (lw_i5 23 rfl) rfl
theorem mw598 : Cond.instanceMethod ⟨"BellSchoolModel", "goesBy", "([I)V"⟩ ∈ TB := tb_in (lw_i5 22 rfl) rfl
theorem mw599 : Cond.selects "BellSchoolModel" ⟨"BellSchoolModel", "goesBy", "([I)V"⟩ ⟨"BellSchoolModel", "goesBy", "([I)V"⟩ ∈ TB := tb_in (lw_s 43 rfl) rfl
theorem mw600 : Cond.fieldLink "BellSchoolModel" 49 "BellSchoolModel" "tried" "[I" ∈ TB := tb_in (lw_i4 66 rfl) rfl
theorem mw601 : Cond.code ⟨"BellSchoolModel", "copyNow", "()V"⟩ prog_11_method_31_code 2 none ∈ TB := tb_in (lw_i5 47 rfl) rfl
theorem mw602 : Cond.instanceMethod ⟨"BellSchoolModel", "copyNow", "()V"⟩ ∈ TB := tb_in (lw_i5 46 rfl) rfl
theorem mw603 : Cond.selects "BellSchoolModel" ⟨"BellSchoolModel", "copyNow", "()V"⟩ ⟨"BellSchoolModel", "copyNow", "()V"⟩ ∈ TB := tb_in (lw_s 44 rfl) rfl
theorem mw604 : Cond.methodLink "BellSchoolModel" 187 ⟨"BellSchoolModel", "isHome", "(I)Z"⟩ ∈ TB := tb_in (lw_i4 209 rfl) rfl
theorem mw605 : Cond.code ⟨"BellSchoolModel", "home", "(II)I"⟩ prog_11_method_32_code 3 (some .int) ∈ TB := tb_in (lw_i4 208 rfl) rfl
theorem mw606 : Cond.instanceMethod ⟨"BellSchoolModel", "home", "(II)I"⟩ ∈ TB := tb_in (lw_i4 206 rfl) rfl
theorem mw607 : Cond.selects "BellSchoolModel" ⟨"BellSchoolModel", "home", "(II)I"⟩ ⟨"BellSchoolModel", "home", "(II)I"⟩ ∈ TB := tb_in (lw_i4 207 rfl) rfl
theorem mw608 : Cond.code ⟨"BellSchoolModel", "way", "(III)I"⟩ prog_11_method_33_code 5 (some .int) ∈ TB := tb_in (lw_i4 216 rfl) rfl
theorem mw609 : Cond.instanceMethod ⟨"BellSchoolModel", "way", "(III)I"⟩ ∈ TB := tb_in (lw_i4 214 rfl) rfl
theorem mw610 : Cond.selects "BellSchoolModel" ⟨"BellSchoolModel", "way", "(III)I"⟩ ⟨"BellSchoolModel", "way", "(III)I"⟩ ∈ TB := tb_in (lw_i4 215 rfl) rfl
theorem mw611 : Cond.code ⟨"BellSchoolModel", "far", "(II)I"⟩ prog_11_method_34_code 3 (some .int) ∈ TB := tb_in (lw_i4 230 rfl) rfl
theorem mw612 : Cond.instanceMethod ⟨"BellSchoolModel", "far", "(II)I"⟩ ∈ TB := tb_in (lw_i4 228 rfl) rfl
theorem mw613 : Cond.selects "BellSchoolModel" ⟨"BellSchoolModel", "far", "(II)I"⟩ ⟨"BellSchoolModel", "far", "(II)I"⟩ ∈ TB := tb_in (lw_i4 229 rfl) rfl
theorem mw614 : Cond.code ⟨"BellSchoolModel", "comes", "(I)I"⟩ prog_11_method_35_code 3 (some .int) ∈ TB := tb_in (lw_i4 239 rfl) rfl
theorem mw615 : Cond.instanceMethod ⟨"BellSchoolModel", "comes", "(I)I"⟩ ∈ TB := tb_in (lw_i4 237 rfl) rfl
theorem mw616 : Cond.selects "BellSchoolModel" ⟨"BellSchoolModel", "comes", "(I)I"⟩ ⟨"BellSchoolModel", "comes", "(I)I"⟩ ∈ TB := tb_in (lw_i4 238 rfl) rfl
theorem mw617 : Cond.code ⟨"BellSchoolModel", "last", "()I"⟩ prog_11_method_36_code 1 (some .int) ∈ TB := tb_in (lw_i5 7 rfl) rfl
theorem mw618 : Cond.instanceMethod ⟨"BellSchoolModel", "last", "()I"⟩ ∈ TB := tb_in (lw_i5 5 rfl) rfl
theorem mw619 : Cond.selects "BellSchoolModel" ⟨"BellSchoolModel", "last", "()I"⟩ ⟨"BellSchoolModel", "last", "()I"⟩ ∈ TB := tb_in (lw_i5 6 rfl) rfl
theorem mw620 : Cond.fieldLink "BellSchoolModel" 190 "BellSchoolModel" "undoAt" "I" ∈ TB := tb_in (lw_i4 69 rfl) rfl
theorem mw621 : Cond.fieldLink "BellSchoolModel" 55 "BellSchoolModel" "undos" "[I" ∈ TB := tb_in (lw_i4 70 rfl) rfl
theorem mw622 : Cond.code ⟨"BellSchoolModel", "remember", "()V"⟩ prog_11_method_37_code 2 none ∈ TB := tb_in (lw_i5 19 rfl) rfl
theorem mw623 : Cond.instanceMethod ⟨"BellSchoolModel", "remember", "()V"⟩ ∈ TB := tb_in (lw_i5 18 rfl) rfl
theorem mw624 : Cond.selects "BellSchoolModel" ⟨"BellSchoolModel", "remember", "()V"⟩ ⟨"BellSchoolModel", "remember", "()V"⟩ ∈ TB := tb_in (lw_s 42 rfl) rfl
theorem mw625 : Cond.methodLink "BellSchoolModel" 193 ⟨"BellSchoolModel", "remember", "()V"⟩ ∈ TB := tb_in (lw_i5 16 rfl) rfl
theorem mw626 : Cond.methodLink "BellSchoolModel" 196 ⟨"BellSchoolModel", "goesBy", "([I)V"⟩ ∈ TB := tb_in (lw_i5 20 rfl) rfl
theorem mw627 : Cond.code ⟨"BellSchoolModel", "pass", "(I)I"⟩ prog_11_method_38_code 3 (some .int) ∈ TB := tb_in (lw_i5 15 rfl) rfl
theorem mw628 : Cond.instanceMethod ⟨"BellSchoolModel", "pass", "(I)I"⟩ ∈ TB := tb_in (lw_i5 13 rfl) rfl
theorem mw629 : Cond.selects "BellSchoolModel" ⟨"BellSchoolModel", "pass", "(I)I"⟩ ⟨"BellSchoolModel", "pass", "(I)I"⟩ ∈ TB := tb_in (lw_i5 14 rfl) rfl
theorem mw630 : Cond.code ⟨"BellSchoolModel", "keepBack", "(I)I"⟩ prog_11_method_39_code 2 (some .int) ∈ TB := tb_in (lw_i5 27 rfl) rfl
theorem mw631 : Cond.instanceMethod ⟨"BellSchoolModel", "keepBack", "(I)I"⟩ ∈ TB := tb_in (lw_i5 25 rfl) rfl
theorem mw632 : Cond.selects "BellSchoolModel" ⟨"BellSchoolModel", "keepBack", "(I)I"⟩ ⟨"BellSchoolModel", "keepBack", "(I)I"⟩ ∈ TB := tb_in (lw_i5 26 rfl) rfl
theorem mw633 : Cond.code ⟨"BellSchoolModel", "sick", "(I)I"⟩ prog_11_method_40_code 2 (some .int) ∈ TB := tb_in (lw_i5 31 rfl) rfl
theorem mw634 : Cond.instanceMethod ⟨"BellSchoolModel", "sick", "(I)I"⟩ ∈ TB := tb_in (lw_i5 29 rfl) rfl
theorem mw635 : Cond.selects "BellSchoolModel" ⟨"BellSchoolModel", "sick", "(I)I"⟩ ⟨"BellSchoolModel", "sick", "(I)I"⟩ ∈ TB := tb_in (lw_i5 30 rfl) rfl
theorem mw636 : Cond.code ⟨"BellSchoolModel", "shut", "(II)I"⟩ prog_11_method_41_code 3 (some .int) ∈ TB := tb_in (lw_i5 35 rfl) rfl
theorem mw637 : Cond.instanceMethod ⟨"BellSchoolModel", "shut", "(II)I"⟩ ∈ TB := tb_in (lw_i5 33 rfl) rfl
theorem mw638 : Cond.selects "BellSchoolModel" ⟨"BellSchoolModel", "shut", "(II)I"⟩ ⟨"BellSchoolModel", "shut", "(II)I"⟩ ∈ TB := tb_in (lw_i5 34 rfl) rfl
theorem mw639 : Cond.code ⟨"BellSchoolModel", "undo", "()I"⟩ prog_11_method_42_code 2 (some .int) ∈ TB := tb_in (lw_i5 39 rfl) rfl
theorem mw640 : Cond.instanceMethod ⟨"BellSchoolModel", "undo", "()I"⟩ ∈ TB := tb_in (lw_i5 37 rfl) rfl
theorem mw641 : Cond.selects "BellSchoolModel" ⟨"BellSchoolModel", "undo", "()I"⟩ ⟨"BellSchoolModel", "undo", "()I"⟩ ∈ TB := tb_in (lw_i5 38 rfl) rfl
theorem mw642 : Cond.methodLink "BellSchoolModel" 200 ⟨"BellSchoolModel", "copyNow", "()V"⟩ ∈ TB := tb_in (lw_i5 44 rfl) rfl
theorem mw643 : Cond.code ⟨"BellSchoolModel", "behind", "(I)I"⟩ prog_11_method_43_code 3 (some .int) ∈ TB := tb_in (lw_i5 43 rfl) rfl
theorem mw644 : Cond.instanceMethod ⟨"BellSchoolModel", "behind", "(I)I"⟩ ∈ TB := tb_in (lw_i5 41 rfl) rfl
theorem mw645 : Cond.selects "BellSchoolModel" ⟨"BellSchoolModel", "behind", "(I)I"⟩ ⟨"BellSchoolModel", "behind", "(I)I"⟩ ∈ TB := tb_in (lw_i5 42 rfl) rfl
theorem mw646 : Cond.code ⟨"BellSchoolModel", "again", "()I"⟩ prog_11_method_44_code 2 (some .int) ∈ TB := tb_in (lw_i5 51 rfl) rfl
theorem mw647 : Cond.instanceMethod ⟨"BellSchoolModel", "again", "()I"⟩ ∈ TB := tb_in (lw_i5 49 rfl) rfl
theorem mw648 : Cond.selects "BellSchoolModel" ⟨"BellSchoolModel", "again", "()I"⟩ ⟨"BellSchoolModel", "again", "()I"⟩ ∈ TB := tb_in (lw_i5 50 rfl) rfl
theorem mw649 : Cond.code ⟨"BellSchoolModel", "nextAt", "(III)I"⟩ prog_11_method_45_code 3 (some .int) ∈ TB := tb_in (lw_i5 66 rfl) rfl
theorem mw650 : Cond.static ⟨"BellSchoolModel", "nextAt", "(III)I"⟩ ∈ TB := tb_in (lw_i5 65 rfl) rfl
theorem mw651 : Cond.code ⟨"BellSchoolModel", "yetAt", "(III)I"⟩ prog_11_method_46_code 3 (some .int) ∈ TB := tb_in (lw_i5 73 rfl) rfl
theorem mw652 : Cond.static ⟨"BellSchoolModel", "yetAt", "(III)I"⟩ ∈ TB := tb_in (lw_i5 72 rfl) rfl
theorem mw653 : Cond.fieldLink "BellSchoolModel" 58 "BellSchoolModel" "nexts" "[I" ∈ TB := tb_in (lw_i4 71 rfl) rfl
theorem mw654 : Cond.methodLink "BellSchoolModel" 203 ⟨"BellSchoolModel", "nextAt", "(III)I"⟩ ∈ TB := tb_in (lw_i5 64 rfl) rfl
theorem mw655 : Cond.code ⟨"BellSchoolModel", "layNexts", "()V"⟩ prog_11_method_47_code 5 none ∈ TB := tb_in (lw_i5 63 rfl) rfl
theorem mw656 : Cond.instanceMethod ⟨"BellSchoolModel", "layNexts", "()V"⟩ ∈ TB := tb_in (lw_i5 62 rfl) rfl
theorem mw657 : Cond.selects "BellSchoolModel" ⟨"BellSchoolModel", "layNexts", "()V"⟩ ⟨"BellSchoolModel", "layNexts", "()V"⟩ ∈ TB := tb_in (lw_s 46 rfl) rfl
theorem mw658 : Cond.fieldLink "BellSchoolModel" 61 "BellSchoolModel" "yet" "[I" ∈ TB := tb_in (lw_i4 72 rfl) rfl
theorem mw659 : Cond.methodLink "BellSchoolModel" 207 ⟨"BellSchoolModel", "yetAt", "(III)I"⟩ ∈ TB := tb_in (lw_i5 71 rfl) rfl
theorem mw660 : Cond.code ⟨"BellSchoolModel", "byChoice", "(IIII)I"⟩ prog_11_method_48_code 6 (some .int) ∈ TB := tb_in (lw_i5 70 rfl) rfl
theorem mw661 : Cond.instanceMethod ⟨"BellSchoolModel", "byChoice", "(IIII)I"⟩ ∈ TB := tb_in (lw_i5 69 rfl) rfl
theorem mw662 : Cond.selects "BellSchoolModel" ⟨"BellSchoolModel", "byChoice", "(IIII)I"⟩ ⟨"BellSchoolModel", "byChoice", "(IIII)I"⟩ ∈ TB := tb_in (lw_s 47 rfl) rfl
theorem mw663 : Cond.methodLink "BellSchoolModel" 210 ⟨"BellSchoolModel", "layNexts", "()V"⟩ ∈ TB := tb_in (lw_i5 60 rfl) rfl
theorem mw664 : Cond.methodLink "BellSchoolModel" 213 ⟨"BellSchoolModel", "byChoice", "(IIII)I"⟩ ∈ TB := tb_in (lw_i5 67 rfl) rfl
theorem mw665 : Cond.code ⟨"BellSchoolModel", "layYet", "()V"⟩ prog_11_method_49_code 8 none ∈ TB := tb_in (lw_i5 59 rfl) rfl
theorem mw666 : Cond.instanceMethod ⟨"BellSchoolModel", "layYet", "()V"⟩ ∈ TB := tb_in (lw_i5 58 rfl) rfl
theorem mw667 : Cond.selects "BellSchoolModel" ⟨"BellSchoolModel", "layYet", "()V"⟩ ⟨"BellSchoolModel", "layYet", "()V"⟩ ∈ TB := tb_in (lw_s 45 rfl) rfl
theorem mw668 : Cond.methodLink "BellSchoolModel" 217 ⟨"BellSchoolModel", "layYet", "()V"⟩ ∈ TB := tb_in (lw_i5 56 rfl) rfl
theorem mw669 : Cond.code ⟨"BellSchoolModel", "each", "(I)I"⟩ prog_11_method_50_code 7 (some .int) ∈ TB := tb_in (lw_i5 55 rfl) rfl
theorem mw670 : Cond.instanceMethod ⟨"BellSchoolModel", "each", "(I)I"⟩ ∈ TB := tb_in (lw_i5 53 rfl) rfl
theorem mw671 : Cond.selects "BellSchoolModel" ⟨"BellSchoolModel", "each", "(I)I"⟩ ⟨"BellSchoolModel", "each", "(I)I"⟩ ∈ TB := tb_in (lw_i5 54 rfl) rfl
theorem mw672 : Cond.code ⟨"BellSchoolModel", "always", "()I"⟩ prog_11_method_51_code 4 (some .int) ∈ TB := tb_in (lw_i5 77 rfl) rfl
theorem mw673 : Cond.instanceMethod ⟨"BellSchoolModel", "always", "()I"⟩ ∈ TB := tb_in (lw_i5 75 rfl) rfl
theorem mw674 : Cond.selects "BellSchoolModel" ⟨"BellSchoolModel", "always", "()I"⟩ ⟨"BellSchoolModel", "always", "()I"⟩ ∈ TB := tb_in (lw_i5 76 rfl) rfl
theorem mw675 : Cond.code ⟨"BellSchoolModel", "never", "()I"⟩ prog_11_method_52_code 3 (some .int) ∈ TB := tb_in (lw_i5 81 rfl) rfl
theorem mw676 : Cond.instanceMethod ⟨"BellSchoolModel", "never", "()I"⟩ ∈ TB := tb_in (lw_i5 79 rfl) rfl
theorem mw677 : Cond.selects "BellSchoolModel" ⟨"BellSchoolModel", "never", "()I"⟩ ⟨"BellSchoolModel", "never", "()I"⟩ ∈ TB := tb_in (lw_i5 80 rfl) rfl
theorem mw678 : Cond.fieldLink "BellSchoolModel" 64 "BellSchoolModel" "seen" "[I" ∈ TB := tb_in (lw_i4 74 rfl) rfl
theorem mw679 : Cond.code ⟨"BellSchoolModel", "see", "(II)I"⟩ prog_11_method_53_code 3 (some .int) ∈ TB := tb_in (lw_i5 85 rfl) rfl
theorem mw680 : Cond.instanceMethod ⟨"BellSchoolModel", "see", "(II)I"⟩ ∈ TB := tb_in (lw_i5 83 rfl) rfl
theorem mw681 : Cond.selects "BellSchoolModel" ⟨"BellSchoolModel", "see", "(II)I"⟩ ⟨"BellSchoolModel", "see", "(II)I"⟩ ∈ TB := tb_in (lw_i5 84 rfl) rfl
theorem mw682 : Cond.code ⟨"BellSchoolModel", "forget", "()I"⟩ prog_11_method_54_code 2 (some .int) ∈ TB := tb_in (lw_i5 89 rfl) rfl
theorem mw683 : Cond.instanceMethod ⟨"BellSchoolModel", "forget", "()I"⟩ ∈ TB := tb_in (lw_i5 87 rfl) rfl
theorem mw684 : Cond.selects "BellSchoolModel" ⟨"BellSchoolModel", "forget", "()I"⟩ ⟨"BellSchoolModel", "forget", "()I"⟩ ∈ TB := tb_in (lw_i5 88 rfl) rfl
theorem mw685 : Cond.code ⟨"BellSchoolModel", "isSo", "()Z"⟩ prog_11_method_55_code 4 (some .boolean) ∈ TB := tb_in (lw_i5 97 rfl) rfl
theorem mw686 : Cond.instanceMethod ⟨"BellSchoolModel", "isSo", "()Z"⟩ ∈ TB := tb_in (lw_i5 96 rfl) rfl
theorem mw687 : Cond.selects "BellSchoolModel" ⟨"BellSchoolModel", "isSo", "()Z"⟩ ⟨"BellSchoolModel", "isSo", "()Z"⟩ ∈ TB := tb_in (lw_s 48 rfl) rfl
theorem mw688 : Cond.methodLink "BellSchoolModel" 220 ⟨"BellSchoolModel", "isSo", "()Z"⟩ ∈ TB := tb_in (lw_i5 94 rfl) rfl
theorem mw689 : Cond.code ⟨"BellSchoolModel", "fog", "()I"⟩ prog_11_method_56_code 3 (some .int) ∈ TB := tb_in (lw_i5 93 rfl) rfl
theorem mw690 : Cond.instanceMethod ⟨"BellSchoolModel", "fog", "()I"⟩ ∈ TB := tb_in (lw_i5 91 rfl) rfl
theorem mw691 : Cond.selects "BellSchoolModel" ⟨"BellSchoolModel", "fog", "()I"⟩ ⟨"BellSchoolModel", "fog", "()I"⟩ ∈ TB := tb_in (lw_i5 92 rfl) rfl
theorem mw692 : Cond.code ⟨"BellSchoolModel", "tripped", "()I"⟩ prog_11_method_57_code 3 (some .int) ∈ TB := tb_in (lw_i5 101 rfl) rfl
theorem mw693 : Cond.instanceMethod ⟨"BellSchoolModel", "tripped", "()I"⟩ ∈ TB := tb_in (lw_i5 99 rfl) rfl
theorem mw694 : Cond.selects "BellSchoolModel" ⟨"BellSchoolModel", "tripped", "()I"⟩ ⟨"BellSchoolModel", "tripped", "()I"⟩ ∈ TB := tb_in (lw_i5 100 rfl) rfl
theorem mw695 : Cond.code ⟨"BellSchoolModel", "common", "(JJ)J"⟩ prog_11_method_58_code 10 (some .long) ∈ TB := tb_in (lw_i5 114 rfl) rfl
theorem mw696 : Cond.static ⟨"BellSchoolModel", "common", "(JJ)J"⟩ ∈ TB := tb_in (lw_i5 113 rfl) rfl
theorem mw697 : Cond.fieldLink "BellSchoolModel" 67 "BellSchoolModel" "chances" "[J" ∈ TB := tb_in (lw_i4 75 rfl) rfl
theorem mw698 : Cond.fieldLink "BellSchoolModel" 71 "BellSchoolModel" "then" "[J" ∈ TB := tb_in (lw_i4 76 rfl) rfl
theorem mw699 : Cond.code ⟨"BellSchoolModel", "spreads", "(II)V"⟩ prog_11_method_59_code 9 none ∈ TB := tb_in (lw_i5 110 rfl) rfl
theorem mw700 : Cond.instanceMethod ⟨"BellSchoolModel", "spreads", "(II)V"⟩ ∈ TB := tb_in (lw_i5 109 rfl) rfl
theorem mw701 : Cond.selects "BellSchoolModel" ⟨"BellSchoolModel", "spreads", "(II)V"⟩ ⟨"BellSchoolModel", "spreads", "(II)V"⟩ ∈ TB := tb_in (lw_s 49 rfl) rfl
theorem mw702 : Cond.constantLong "BellSchoolModel" 223 (-1 : Int64) ∈ TB := tb_in (lw_i5 106 rfl) rfl
theorem mw703 : Cond.methodLink "BellSchoolModel" 230 ⟨"BellSchoolModel", "common", "(JJ)J"⟩ ∈ TB := tb_in (lw_i5 112 rfl) rfl
theorem mw704 : Cond.methodLink "BellSchoolModel" 225 ⟨"BellSchoolModel", "spreads", "(II)V"⟩ ∈ TB := tb_in (lw_i5 107 rfl) rfl
theorem mw705 : Cond.constantLong "BellSchoolModel" 228 (10 : Int64) ∈ TB := tb_in (lw_i5 111 rfl) rfl
theorem mw706 : Cond.code ⟨"BellSchoolModel", "measles", "(IIII)J"⟩ prog_11_method_60_code 9 (some .long) ∈ TB := tb_in (lw_i5 105 rfl) rfl
theorem mw707 : Cond.instanceMethod ⟨"BellSchoolModel", "measles", "(IIII)J"⟩ ∈ TB := tb_in (lw_i5 103 rfl) rfl
theorem mw708 : Cond.selects "BellSchoolModel" ⟨"BellSchoolModel", "measles", "(IIII)J"⟩ ⟨"BellSchoolModel", "measles", "(IIII)J"⟩ ∈ TB := tb_in (lw_i5 104 rfl) rfl
theorem mw709 : Cond.code ⟨"BellSchoolModel", "soups", "([I)I"⟩ prog_11_method_61_code 3 (some .int) ∈ TB := tb_in (lw_i5 125 rfl) rfl
theorem mw710 : Cond.static ⟨"BellSchoolModel", "soups", "([I)I"⟩ ∈ TB := tb_in (lw_i5 124 rfl) rfl
theorem mw711 : Cond.methodLink "BellSchoolModel" 242 ⟨"BellSchoolModel", "soups", "([I)I"⟩ ∈ TB := tb_in (lw_i5 123 rfl) rfl
theorem mw712 : Cond.constantLong "BellSchoolModel" 234 (7919 : Int64) ∈ TB := tb_in (lw_i5 119 rfl) rfl
theorem mw713 : Cond.constantLong "BellSchoolModel" 236 (6151 : Int64) ∈ TB := tb_in (lw_i5 120 rfl) rfl
theorem mw714 : Cond.constantLong "BellSchoolModel" 238 (65521 : Int64) ∈ TB := tb_in (lw_i5 121 rfl) rfl
theorem mw715 : Cond.constantLong "BellSchoolModel" 240 (2 : Int64) ∈ TB := tb_in (lw_i5 122 rfl) rfl
theorem mw716 : Cond.code ⟨"BellSchoolModel", "year", "(III)I"⟩ prog_11_method_62_code 8 (some .int) ∈ TB := tb_in (lw_i5 118 rfl) rfl
theorem mw717 : Cond.instanceMethod ⟨"BellSchoolModel", "year", "(III)I"⟩ ∈ TB := tb_in (lw_i5 116 rfl) rfl
theorem mw718 : Cond.selects "BellSchoolModel" ⟨"BellSchoolModel", "year", "(III)I"⟩ ⟨"BellSchoolModel", "year", "(III)I"⟩ ∈ TB := tb_in (lw_i5 117 rfl) rfl
theorem mw719 : Cond.fieldLink "BellSchoolModel" 74 "BellSchoolModel" "kept" "[I" ∈ TB := tb_in (lw_i4 78 rfl) rfl
theorem mw720 : Cond.code ⟨"BellSchoolModel", "keep", "()I"⟩ prog_11_method_63_code 2 (some .int) ∈ TB := tb_in (lw_i5 129 rfl) rfl
theorem mw721 : Cond.instanceMethod ⟨"BellSchoolModel", "keep", "()I"⟩ ∈ TB := tb_in (lw_i5 127 rfl) rfl
theorem mw722 : Cond.selects "BellSchoolModel" ⟨"BellSchoolModel", "keep", "()I"⟩ ⟨"BellSchoolModel", "keep", "()I"⟩ ∈ TB := tb_in (lw_i5 128 rfl) rfl
theorem mw723 : Cond.code ⟨"BellSchoolModel", "back", "()I"⟩ prog_11_method_64_code 2 (some .int) ∈ TB := tb_in (lw_i5 133 rfl) rfl
theorem mw724 : Cond.instanceMethod ⟨"BellSchoolModel", "back", "()I"⟩ ∈ TB := tb_in (lw_i5 131 rfl) rfl
theorem mw725 : Cond.selects "BellSchoolModel" ⟨"BellSchoolModel", "back", "()I"⟩ ⟨"BellSchoolModel", "back", "()I"⟩ ∈ TB := tb_in (lw_i5 132 rfl) rfl
theorem mw726 : Cond.code ⟨"BellSchoolModel", "wayMany", "()I"⟩ prog_11_method_65_code 3 (some .int) ∈ TB := tb_in (lw_i5 141 rfl) rfl
theorem mw727 : Cond.instanceMethod ⟨"BellSchoolModel", "wayMany", "()I"⟩ ∈ TB := tb_in (lw_i5 140 rfl) rfl
theorem mw728 : Cond.selects "BellSchoolModel" ⟨"BellSchoolModel", "wayMany", "()I"⟩ ⟨"BellSchoolModel", "wayMany", "()I"⟩ ∈ TB := tb_in (lw_s 50 rfl) rfl
theorem mw729 : Cond.methodLink "BellSchoolModel" 246 ⟨"BellSchoolModel", "wayMany", "()I"⟩ ∈ TB := tb_in (lw_i5 138 rfl) rfl
theorem mw730 : Cond.methodLink "BellSchoolModel" 249 ⟨"BellSchoolModel", "bits", "(I)I"⟩ ∈ TB := tb_in (lw_i5 142 rfl) rfl
theorem mw731 : Cond.code ⟨"BellSchoolModel", "count", "(I)I"⟩ prog_11_method_66_code 2 (some .int) ∈ TB := tb_in (lw_i5 137 rfl) rfl
theorem mw732 : Cond.instanceMethod ⟨"BellSchoolModel", "count", "(I)I"⟩ ∈ TB := tb_in (lw_i5 135 rfl) rfl
theorem mw733 : Cond.selects "BellSchoolModel" ⟨"BellSchoolModel", "count", "(I)I"⟩ ⟨"BellSchoolModel", "count", "(I)I"⟩ ∈ TB := tb_in (lw_i5 136 rfl) rfl
theorem md_Text_add : MDv ⟨"BellSchool$Text", "add", "(C)Z"⟩ prog_8_method_2_code 2 (some .boolean) 1 := ⟨mw2, mw4, mw5, mw3, by decide, by decide, by decide +kernel⟩
theorem md_B_write : MDv ⟨"BellSchool", "write", "(I)I"⟩ prog_1_method_2_code 2 (some .int) 1 := ⟨mw9, mw11, mw12, mw10, by decide, by decide, by decide +kernel⟩
theorem md_B_wipe : MDv ⟨"BellSchool", "wipe", "()I"⟩ prog_1_method_3_code 2 (some .int) 0 := ⟨mw13, mw14, mw15, mw10, by decide, by decide, by decide +kernel⟩
theorem md_Valley_clear : MDv ⟨"BellSchool$Valley", "clear", "()V"⟩ prog_9_method_2_code 2 none 0 := ⟨mw22, mw24, mw25, mw23, by decide, by decide, by decide +kernel⟩
theorem md_Text_at : MDv ⟨"BellSchool$Text", "at", "(I)C"⟩ prog_8_method_3_code 2 (some .char) 1 := ⟨mw26, mw27, mw28, mw3, by decide, by decide, by decide +kernel⟩
theorem md_Reader_numbersOf : MDs ⟨"BellSchool$Reader", "numbersOf", "(I)I"⟩ prog_4_method_3_code 1 (some .int) 1 := ⟨mw29, mw31, mw30, by decide, by decide, by decide +kernel⟩
theorem md_Reader_isFigure : MDs ⟨"BellSchool$Reader", "isFigure", "(C)Z"⟩ prog_4_method_5_code 1 (some .boolean) 1 := ⟨mw32, mw33, mw30, by decide, by decide, by decide +kernel⟩
theorem md_Reader_readNumbers : MDv ⟨"BellSchool$Reader", "readNumbers", "(LBellSchool$Text;I)Z"⟩ prog_4_method_4_code 4 (some .boolean) 2 := ⟨mw38, mw39, mw40, mw30, by decide, by decide, by decide +kernel⟩
theorem md_Valley_addHome : MDv ⟨"BellSchool$Valley", "addHome", "(II)Z"⟩ prog_9_method_5_code 3 (some .boolean) 2 := ⟨mw43, mw44, mw45, mw23, by decide, by decide, by decide +kernel⟩
theorem md_Valley_has : MDv ⟨"BellSchool$Valley", "has", "(I)Z"⟩ prog_9_method_3_code 2 (some .boolean) 1 := ⟨mw46, mw47, mw48, mw23, by decide, by decide, by decide +kernel⟩
theorem md_Valley_hasTwo : MDv ⟨"BellSchool$Valley", "hasTwo", "(II)Z"⟩ prog_9_method_4_code 3 (some .boolean) 2 := ⟨mw50, mw51, mw52, mw23, by decide, by decide, by decide +kernel⟩
theorem md_B_pairOf : MDs ⟨"BellSchool", "pairOf", "(II)I"⟩ prog_1_method_37_code 2 (some .int) 2 := ⟨mw60, mw61, mw10, by decide, by decide, by decide +kernel⟩
theorem md_Valley_addWay : MDv ⟨"BellSchool$Valley", "addWay", "(III)Z"⟩ prog_9_method_6_code 4 (some .boolean) 3 := ⟨mw63, mw64, mw65, mw23, by decide, by decide, by decide +kernel⟩
theorem md_Valley_addSnow : MDv ⟨"BellSchool$Valley", "addSnow", "(IIII)Z"⟩ prog_9_method_7_code 5 (some .boolean) 4 := ⟨mw66, mw67, mw68, mw23, by decide, by decide, by decide +kernel⟩
theorem md_Valley_putBell : MDv ⟨"BellSchool$Valley", "putBell", "(I)Z"⟩ prog_9_method_8_code 2 (some .boolean) 1 := ⟨mw69, mw70, mw71, mw23, by decide, by decide, by decide +kernel⟩
theorem md_Valley_limit : MDv ⟨"BellSchool$Valley", "limit", "(I)Z"⟩ prog_9_method_9_code 2 (some .boolean) 1 := ⟨mw72, mw73, mw74, mw23, by decide, by decide, by decide +kernel⟩
theorem md_Reader_told : MDv ⟨"BellSchool$Reader", "told", "(LBellSchool$Valley;I)Z"⟩ prog_4_method_6_code 3 (some .boolean) 2 := ⟨mw80, mw81, mw82, mw30, by decide, by decide, by decide +kernel⟩
theorem md_Reader_readInto : MDv ⟨"BellSchool$Reader", "readInto", "(LBellSchool$Valley;LBellSchool$Text;)I"⟩ prog_4_method_2_code 6 (some .int) 2 := ⟨mw89, mw90, mw91, mw30, by decide, by decide, by decide +kernel⟩
theorem md_B_fault : MDv ⟨"BellSchool", "fault", "()I"⟩ prog_1_method_4_code 1 (some .int) 0 := ⟨mw95, mw96, mw97, mw10, by decide, by decide, by decide +kernel⟩
theorem md_Noon_settle : MDv ⟨"BellSchool$Noon", "settle", "(LBellSchool$Valley;)V"⟩ prog_3_method_2_code 3 none 1 := ⟨mw101, mw103, mw104, mw102, by decide, by decide, by decide +kernel⟩
theorem md_Standing_begin : MDv ⟨"BellSchool$Standing", "begin", "(I)V"⟩ prog_7_method_2_code 3 none 1 := ⟨mw112, mw114, mw115, mw113, by decide, by decide, by decide +kernel⟩
theorem md_B_layText : MDv ⟨"BellSchool", "layText", "()Z"⟩ prog_1_method_30_code 2 (some .boolean) 0 := ⟨mw129, mw130, mw131, mw10, by decide, by decide, by decide +kernel⟩
theorem md_B_lay : MDv ⟨"BellSchool", "lay", "()I"⟩ prog_1_method_5_code 1 (some .int) 0 := ⟨mw134, mw135, mw136, mw10, by decide, by decide, by decide +kernel⟩
theorem md_B_home : MDv ⟨"BellSchool", "home", "(II)I"⟩ prog_1_method_6_code 3 (some .int) 2 := ⟨mw144, mw145, mw146, mw10, by decide, by decide, by decide +kernel⟩
theorem md_Valley_canBeGone : MDv ⟨"BellSchool$Valley", "canBeGone", "(IIJ)Z"⟩ prog_9_method_11_code 6 (some .boolean) 3 := ⟨mw147, mw148, mw149, mw23, by decide, by decide, by decide +kernel⟩
theorem md_B_way : MDv ⟨"BellSchool", "way", "(III)I"⟩ prog_1_method_7_code 5 (some .int) 3 := ⟨mw156, mw157, mw158, mw10, by decide, by decide, by decide +kernel⟩
theorem md_Noon_shortenBy : MDv ⟨"BellSchool$Noon", "shortenBy", "(III)V"⟩ prog_3_method_6_code 8 none 3 := ⟨mw162, mw163, mw164, mw102, by decide, by decide, by decide +kernel⟩
theorem md_Noon_readyFars : MDv ⟨"BellSchool$Noon", "readyFars", "(IJ)I"⟩ prog_3_method_5_code 10 (some .int) 2 := ⟨mw169, mw170, mw171, mw102, by decide, by decide, by decide +kernel⟩
theorem md_Noon_farOn : MDv ⟨"BellSchool$Noon", "farOn", "(IJII)I"⟩ prog_3_method_4_code 7 (some .int) 4 := ⟨mw173, mw174, mw175, mw102, by decide, by decide, by decide +kernel⟩
theorem md_B_far : MDv ⟨"BellSchool", "far", "(II)I"⟩ prog_1_method_8_code 3 (some .int) 2 := ⟨mw177, mw178, mw179, mw10, by decide, by decide, by decide +kernel⟩
theorem md_Noon_walk : MDs ⟨"BellSchool$Noon", "walk", "(II)I"⟩ prog_3_method_8_code 2 (some .int) 2 := ⟨mw180, mw181, mw102, by decide, by decide, by decide +kernel⟩
theorem md_Noon_timeOf : MDv ⟨"BellSchool$Noon", "timeOf", "(LBellSchool$Standing;II)I"⟩ prog_3_method_7_code 7 (some .int) 3 := ⟨mw189, mw190, mw191, mw102, by decide, by decide, by decide +kernel⟩
theorem md_Noon_gather : MDv ⟨"BellSchool$Noon", "gather", "(LBellSchool$Standing;)V"⟩ prog_3_method_9_code 4 none 1 := ⟨mw198, mw199, mw200, mw102, by decide, by decide, by decide +kernel⟩
theorem md_B_comes : MDv ⟨"BellSchool", "comes", "(I)I"⟩ prog_1_method_9_code 2 (some .int) 1 := ⟨mw203, mw204, mw205, mw10, by decide, by decide, by decide +kernel⟩
theorem md_B_last : MDv ⟨"BellSchool", "last", "()I"⟩ prog_1_method_10_code 1 (some .int) 0 := ⟨mw207, mw208, mw209, mw10, by decide, by decide, by decide +kernel⟩
theorem md_Standing_copy : MDv ⟨"BellSchool$Standing", "copy", "(LBellSchool$Standing;)V"⟩ prog_7_method_3_code 3 none 1 := ⟨mw210, mw211, mw212, mw113, by decide, by decide, by decide +kernel⟩
theorem md_Shelf_put : MDv ⟨"BellSchool$Shelf", "put", "(LBellSchool$Standing;)Z"⟩ prog_6_method_2_code 2 (some .boolean) 1 := ⟨mw216, mw218, mw219, mw217, by decide, by decide, by decide +kernel⟩
theorem md_Shelf_putDroppingOldest : MDv ⟨"BellSchool$Shelf", "putDroppingOldest", "(LBellSchool$Standing;)V"⟩ prog_6_method_3_code 4 none 1 := ⟨mw221, mw222, mw223, mw217, by decide, by decide, by decide +kernel⟩
theorem md_Noon_goBy : MDv ⟨"BellSchool$Noon", "goBy", "(LBellSchool$Standing;)V"⟩ prog_3_method_10_code 2 none 1 := ⟨mw227, mw228, mw229, mw102, by decide, by decide, by decide +kernel⟩
theorem md_B_goBy : MDv ⟨"BellSchool", "goBy", "(LBellSchool$Standing;I)V"⟩ prog_1_method_31_code 4 none 2 := ⟨mw231, mw232, mw233, mw10, by decide, by decide, by decide +kernel⟩
theorem md_B_pass : MDv ⟨"BellSchool", "pass", "(I)I"⟩ prog_1_method_11_code 2 (some .int) 1 := ⟨mw236, mw237, mw238, mw10, by decide, by decide, by decide +kernel⟩
theorem md_B_keepBack : MDv ⟨"BellSchool", "keepBack", "(I)I"⟩ prog_1_method_12_code 2 (some .int) 1 := ⟨mw239, mw240, mw241, mw10, by decide, by decide, by decide +kernel⟩
theorem md_B_sick : MDv ⟨"BellSchool", "sick", "(I)I"⟩ prog_1_method_13_code 2 (some .int) 1 := ⟨mw242, mw243, mw244, mw10, by decide, by decide, by decide +kernel⟩
theorem md_B_shut : MDv ⟨"BellSchool", "shut", "(II)I"⟩ prog_1_method_14_code 4 (some .int) 2 := ⟨mw245, mw246, mw247, mw10, by decide, by decide, by decide +kernel⟩
theorem md_Shelf_takeInto : MDv ⟨"BellSchool$Shelf", "takeInto", "(LBellSchool$Standing;)Z"⟩ prog_6_method_4_code 2 (some .boolean) 1 := ⟨mw248, mw249, mw250, mw217, by decide, by decide, by decide +kernel⟩
theorem md_B_undo : MDv ⟨"BellSchool", "undo", "()I"⟩ prog_1_method_15_code 1 (some .int) 0 := ⟨mw252, mw253, mw254, mw10, by decide, by decide, by decide +kernel⟩
theorem md_B_behind : MDv ⟨"BellSchool", "behind", "(I)I"⟩ prog_1_method_16_code 2 (some .int) 1 := ⟨mw257, mw258, mw259, mw10, by decide, by decide, by decide +kernel⟩
theorem md_B_again : MDv ⟨"BellSchool", "again", "()I"⟩ prog_1_method_17_code 2 (some .int) 0 := ⟨mw260, mw261, mw262, mw10, by decide, by decide, by decide +kernel⟩
theorem md_Standing_isLike : MDv ⟨"BellSchool$Standing", "isLike", "(LBellSchool$Standing;)Z"⟩ prog_7_method_4_code 2 (some .boolean) 1 := ⟨mw263, mw264, mw265, mw113, by decide, by decide, by decide +kernel⟩
theorem md_Noon_homes : MDv ⟨"BellSchool$Noon", "homes", "()I"⟩ prog_3_method_3_code 1 (some .int) 0 := ⟨mw266, mw267, mw268, mw102, by decide, by decide, by decide +kernel⟩
theorem md_Search_numberMissing : MDv ⟨"BellSchool$Search", "numberMissing", "()V"⟩ prog_5_method_4_code 4 none 0 := ⟨mw275, mw277, mw278, mw276, by decide, by decide, by decide +kernel⟩
theorem md_Search_begin : MDv ⟨"BellSchool$Search", "begin", "(LBellSchool$Standing;I)V"⟩ prog_5_method_3_code 4 none 2 := ⟨mw286, mw287, mw288, mw276, by decide, by decide, by decide +kernel⟩
theorem md_Search_isWholeBy : MDv ⟨"BellSchool$Search", "isWholeBy", "(I)Z"⟩ prog_5_method_5_code 3 (some .boolean) 1 := ⟨mw289, mw290, mw291, mw276, by decide, by decide, by decide +kernel⟩
theorem md_Noon_latestHolding : MDv ⟨"BellSchool$Noon", "latestHolding", "(I)I"⟩ prog_3_method_11_code 4 (some .int) 1 := ⟨mw292, mw293, mw294, mw102, by decide, by decide, by decide +kernel⟩
theorem md_Search_placeOf : MDs ⟨"BellSchool$Search", "placeOf", "(III)I"⟩ prog_5_method_7_code 3 (some .int) 3 := ⟨mw295, mw296, mw276, by decide, by decide, by decide +kernel⟩
theorem md_Search_joined : MDs ⟨"BellSchool$Search", "joined", "(JI)J"⟩ prog_5_method_8_code 5 (some .long) 2 := ⟨mw298, mw299, mw276, by decide, by decide, by decide +kernel⟩
theorem md_Search_spread : MDv ⟨"BellSchool$Search", "spread", "(LBellSchool$Noon;I)V"⟩ prog_5_method_6_code 9 none 2 := ⟨mw307, mw308, mw309, mw276, by decide, by decide, by decide +kernel⟩
theorem md_Search_before : MDs ⟨"BellSchool$Search", "before", "(JI)J"⟩ prog_5_method_9_code 5 (some .long) 2 := ⟨mw310, mw311, mw276, by decide, by decide, by decide +kernel⟩
theorem md_Search_hopesFrom : MDv ⟨"BellSchool$Search", "hopesFrom", "(II)J"⟩ prog_5_method_11_code 7 (some .long) 2 := ⟨mw314, mw315, mw316, mw276, by decide, by decide, by decide +kernel⟩
theorem md_Search_findHopeful : MDv ⟨"BellSchool$Search", "findHopeful", "()V"⟩ prog_5_method_10_code 3 none 0 := ⟨mw319, mw320, mw321, mw276, by decide, by decide, by decide +kernel⟩
theorem md_Search_firstHopeful : MDv ⟨"BellSchool$Search", "firstHopeful", "(IIJ)I"⟩ prog_5_method_13_code 7 (some .int) 3 := ⟨mw322, mw323, mw324, mw276, by decide, by decide, by decide +kernel⟩
theorem md_Search_findRow : MDv ⟨"BellSchool$Search", "findRow", "()V"⟩ prog_5_method_12_code 6 none 0 := ⟨mw327, mw328, mw329, mw276, by decide, by decide, by decide +kernel⟩
theorem md_Search_search : MDv ⟨"BellSchool$Search", "search", "(LBellSchool$Noon;LBellSchool$Standing;)V"⟩ prog_5_method_2_code 4 none 2 := ⟨mw337, mw338, mw339, mw276, by decide, by decide, by decide +kernel⟩
theorem md_B_each : MDv ⟨"BellSchool", "each", "(I)I"⟩ prog_1_method_18_code 2 (some .int) 1 := ⟨mw343, mw344, mw345, mw10, by decide, by decide, by decide +kernel⟩
theorem md_B_allBits : MDv ⟨"BellSchool", "allBits", "()I"⟩ prog_1_method_32_code 1 (some .int) 0 := ⟨mw346, mw347, mw348, mw10, by decide, by decide, by decide +kernel⟩
theorem md_B_always : MDv ⟨"BellSchool", "always", "()I"⟩ prog_1_method_19_code 3 (some .int) 0 := ⟨mw350, mw351, mw352, mw10, by decide, by decide, by decide +kernel⟩
theorem md_B_never : MDv ⟨"BellSchool", "never", "()I"⟩ prog_1_method_20_code 3 (some .int) 0 := ⟨mw353, mw354, mw355, mw10, by decide, by decide, by decide +kernel⟩
theorem md_B_see : MDv ⟨"BellSchool", "see", "(II)I"⟩ prog_1_method_21_code 3 (some .int) 2 := ⟨mw358, mw359, mw360, mw10, by decide, by decide, by decide +kernel⟩
theorem md_B_forget : MDv ⟨"BellSchool", "forget", "()I"⟩ prog_1_method_22_code 2 (some .int) 0 := ⟨mw361, mw362, mw363, mw10, by decide, by decide, by decide +kernel⟩
theorem md_B_farthestSeen : MDv ⟨"BellSchool", "farthestSeen", "()I"⟩ prog_1_method_34_code 3 (some .int) 0 := ⟨mw364, mw365, mw366, mw10, by decide, by decide, by decide +kernel⟩
theorem md_B_isSeenAt : MDv ⟨"BellSchool", "isSeenAt", "(II)Z"⟩ prog_1_method_35_code 4 (some .boolean) 2 := ⟨mw367, mw368, mw369, mw10, by decide, by decide, by decide +kernel⟩
theorem md_B_fitsSeen : MDv ⟨"BellSchool", "fitsSeen", "(II)Z"⟩ prog_1_method_33_code 5 (some .boolean) 2 := ⟨mw372, mw373, mw374, mw10, by decide, by decide, by decide +kernel⟩
theorem md_B_fog : MDv ⟨"BellSchool", "fog", "()I"⟩ prog_1_method_23_code 3 (some .int) 0 := ⟨mw376, mw377, mw378, mw10, by decide, by decide, by decide +kernel⟩
theorem md_B_tripped : MDv ⟨"BellSchool", "tripped", "()I"⟩ prog_1_method_24_code 3 (some .int) 0 := ⟨mw379, mw380, mw381, mw10, by decide, by decide, by decide +kernel⟩
theorem md_Measles_power : MDs ⟨"BellSchool$Measles", "power", "(II)J"⟩ prog_2_method_5_code 5 (some .long) 2 := ⟨mw382, mw384, mw383, by decide, by decide, by decide +kernel⟩
theorem md_Noon_laterThan : MDv ⟨"BellSchool$Noon", "laterThan", "(I)I"⟩ prog_3_method_12_code 4 (some .int) 1 := ⟨mw385, mw386, mw387, mw102, by decide, by decide, by decide +kernel⟩
theorem md_Measles_spreadFrom : MDv ⟨"BellSchool$Measles", "spreadFrom", "(ILBellSchool$Noon;I)V"⟩ prog_2_method_4_code 9 none 3 := ⟨mw395, mw396, mw397, mw383, by decide, by decide, by decide +kernel⟩
theorem md_Measles_spread : MDv ⟨"BellSchool$Measles", "spread", "(LBellSchool$Noon;LBellSchool$Standing;I)V"⟩ prog_2_method_3_code 5 none 3 := ⟨mw402, mw403, mw404, mw383, by decide, by decide, by decide +kernel⟩
theorem md_Measles_reckon : MDv ⟨"BellSchool$Measles", "reckon", "(LBellSchool$Noon;LBellSchool$Standing;II)V"⟩ prog_2_method_2_code 6 none 4 := ⟨mw408, mw409, mw410, mw383, by decide, by decide, by decide +kernel⟩
theorem md_B_commonDivisor : MDs ⟨"BellSchool", "commonDivisor", "(JJ)J"⟩ prog_1_method_38_code 11 (some .long) 2 := ⟨mw411, mw412, mw10, by decide, by decide, by decide +kernel⟩
theorem md_B_measles : MDv ⟨"BellSchool", "measles", "(IIII)J"⟩ prog_1_method_25_code 9 (some .long) 4 := ⟨mw422, mw423, mw424, mw10, by decide, by decide, by decide +kernel⟩
theorem md_B_drawnOn : MDv ⟨"BellSchool", "drawnOn", "(II)I"⟩ prog_1_method_36_code 7 (some .int) 2 := ⟨mw430, mw431, mw432, mw10, by decide, by decide, by decide +kernel⟩
theorem md_Standing_soupsInAll : MDv ⟨"BellSchool$Standing", "soupsInAll", "()I"⟩ prog_7_method_5_code 3 (some .int) 0 := ⟨mw433, mw434, mw435, mw113, by decide, by decide, by decide +kernel⟩
theorem md_B_year : MDv ⟨"BellSchool", "year", "(III)I"⟩ prog_1_method_26_code 5 (some .int) 3 := ⟨mw438, mw439, mw440, mw10, by decide, by decide, by decide +kernel⟩
theorem md_B_keep : MDv ⟨"BellSchool", "keep", "()I"⟩ prog_1_method_27_code 1 (some .int) 0 := ⟨mw442, mw443, mw444, mw10, by decide, by decide, by decide +kernel⟩
theorem md_B_back : MDv ⟨"BellSchool", "back", "()I"⟩ prog_1_method_28_code 1 (some .int) 0 := ⟨mw445, mw446, mw447, mw10, by decide, by decide, by decide +kernel⟩
theorem md_Valley_ways : MDv ⟨"BellSchool$Valley", "ways", "()I"⟩ prog_9_method_10_code 3 (some .int) 0 := ⟨mw448, mw449, mw450, mw23, by decide, by decide, by decide +kernel⟩
theorem md_Long_bitCount : MDs ⟨"java/lang/Long", "bitCount", "(J)I"⟩ prog_13_method_50_code 2 (some .int) 1 := ⟨mw454, mw456, mw455, by decide, by decide, by decide +kernel⟩
theorem md_Integer_bitCount : MDs ⟨"java/lang/Integer", "bitCount", "(I)I"⟩ prog_12_method_49_code 1 (some .int) 1 := ⟨mw460, mw462, mw461, by decide, by decide, by decide +kernel⟩
theorem md_B_count : MDv ⟨"BellSchool", "count", "(I)I"⟩ prog_1_method_29_code 2 (some .int) 1 := ⟨mw466, mw467, mw468, mw10, by decide, by decide, by decide +kernel⟩
theorem md_M_in : MDs ⟨"BellSchoolModel", "in", "(III)Z"⟩ prog_11_method_2_code 3 (some .boolean) 3 := ⟨mw469, mw471, mw470, by decide, by decide, by decide +kernel⟩
theorem md_M_has : MDs ⟨"BellSchoolModel", "has", "(II)Z"⟩ prog_11_method_3_code 2 (some .boolean) 2 := ⟨mw472, mw473, mw470, by decide, by decide, by decide +kernel⟩
theorem md_M_bits : MDs ⟨"BellSchoolModel", "bits", "(I)I"⟩ prog_11_method_4_code 3 (some .int) 1 := ⟨mw474, mw475, mw470, by decide, by decide, by decide +kernel⟩
theorem md_M_anew : MDv ⟨"BellSchoolModel", "anew", "()V"⟩ prog_11_method_5_code 2 none 0 := ⟨mw482, mw483, mw484, mw470, by decide, by decide, by decide +kernel⟩
theorem md_M_comesHome : MDv ⟨"BellSchoolModel", "comesHome", "(II)V"⟩ prog_11_method_6_code 3 none 2 := ⟨mw487, mw488, mw489, mw470, by decide, by decide, by decide +kernel⟩
theorem md_M_joins : MDv ⟨"BellSchoolModel", "joins", "(III)V"⟩ prog_11_method_7_code 4 none 3 := ⟨mw490, mw491, mw492, mw470, by decide, by decide, by decide +kernel⟩
theorem md_M_snows : MDv ⟨"BellSchoolModel", "snows", "(IIII)V"⟩ prog_11_method_8_code 5 none 4 := ⟨mw493, mw494, mw495, mw470, by decide, by decide, by decide +kernel⟩
theorem md_M_write : MDv ⟨"BellSchoolModel", "write", "(I)I"⟩ prog_11_method_9_code 2 (some .int) 1 := ⟨mw499, mw500, mw501, mw470, by decide, by decide, by decide +kernel⟩
theorem md_M_wipe : MDv ⟨"BellSchoolModel", "wipe", "()I"⟩ prog_11_method_10_code 2 (some .int) 0 := ⟨mw502, mw503, mw504, mw470, by decide, by decide, by decide +kernel⟩
theorem md_M_here : MDv ⟨"BellSchoolModel", "here", "()I"⟩ prog_11_method_11_code 1 (some .int) 0 := ⟨mw506, mw507, mw508, mw470, by decide, by decide, by decide +kernel⟩
theorem md_M_numbers : MDv ⟨"BellSchoolModel", "numbers", "(I)Z"⟩ prog_11_method_12_code 3 (some .boolean) 1 := ⟨mw511, mw512, mw513, mw470, by decide, by decide, by decide +kernel⟩
theorem md_M_isTwo : MDv ⟨"BellSchoolModel", "isTwo", "()Z"⟩ prog_11_method_13_code 1 (some .boolean) 0 := ⟨mw514, mw515, mw516, mw470, by decide, by decide, by decide +kernel⟩
theorem md_M_readsHome : MDv ⟨"BellSchoolModel", "readsHome", "()Z"⟩ prog_11_method_14_code 1 (some .boolean) 0 := ⟨mw519, mw520, mw521, mw470, by decide, by decide, by decide +kernel⟩
theorem md_M_readsWay : MDv ⟨"BellSchoolModel", "readsWay", "()Z"⟩ prog_11_method_15_code 1 (some .boolean) 0 := ⟨mw524, mw525, mw526, mw470, by decide, by decide, by decide +kernel⟩
theorem md_M_readsSnow : MDv ⟨"BellSchoolModel", "readsSnow", "()Z"⟩ prog_11_method_16_code 1 (some .boolean) 0 := ⟨mw528, mw529, mw530, mw470, by decide, by decide, by decide +kernel⟩
theorem md_M_readsBell : MDv ⟨"BellSchoolModel", "readsBell", "()Z"⟩ prog_11_method_17_code 1 (some .boolean) 0 := ⟨mw531, mw532, mw533, mw470, by decide, by decide, by decide +kernel⟩
theorem md_M_readsMost : MDv ⟨"BellSchoolModel", "readsMost", "()Z"⟩ prog_11_method_18_code 1 (some .boolean) 0 := ⟨mw534, mw535, mw536, mw470, by decide, by decide, by decide +kernel⟩
theorem md_M_readsItem : MDv ⟨"BellSchoolModel", "readsItem", "()Z"⟩ prog_11_method_19_code 2 (some .boolean) 0 := ⟨mw542, mw543, mw544, mw470, by decide, by decide, by decide +kernel⟩
theorem md_M_faultOf : MDv ⟨"BellSchoolModel", "faultOf", "()I"⟩ prog_11_method_20_code 2 (some .int) 0 := ⟨mw547, mw548, mw549, mw470, by decide, by decide, by decide +kernel⟩
theorem md_M_fault : MDv ⟨"BellSchoolModel", "fault", "()I"⟩ prog_11_method_21_code 1 (some .int) 0 := ⟨mw551, mw552, mw553, mw470, by decide, by decide, by decide +kernel⟩
theorem md_M_laid : MDv ⟨"BellSchoolModel", "laid", "()V"⟩ prog_11_method_22_code 2 none 0 := ⟨mw565, mw566, mw567, mw470, by decide, by decide, by decide +kernel⟩
theorem md_M_lay : MDv ⟨"BellSchoolModel", "lay", "()I"⟩ prog_11_method_23_code 1 (some .int) 0 := ⟨mw569, mw570, mw571, mw470, by decide, by decide, by decide +kernel⟩
theorem md_M_isHome : MDv ⟨"BellSchoolModel", "isHome", "(I)Z"⟩ prog_11_method_24_code 2 (some .boolean) 1 := ⟨mw572, mw573, mw574, mw470, by decide, by decide, by decide +kernel⟩
theorem md_M_pair : MDs ⟨"BellSchoolModel", "pair", "(II)I"⟩ prog_11_method_25_code 4 (some .int) 2 := ⟨mw575, mw576, mw470, by decide, by decide, by decide +kernel⟩
theorem md_M_isOpen : MDv ⟨"BellSchoolModel", "isOpen", "([III)Z"⟩ prog_11_method_26_code 5 (some .boolean) 3 := ⟨mw579, mw580, mw581, mw470, by decide, by decide, by decide +kernel⟩
theorem md_M_layMinutes : MDv ⟨"BellSchoolModel", "layMinutes", "([II)V"⟩ prog_11_method_27_code 6 none 2 := ⟨mw585, mw586, mw587, mw470, by decide, by decide, by decide +kernel⟩
theorem md_M_arrives : MDv ⟨"BellSchoolModel", "arrives", "([II)I"⟩ prog_11_method_28_code 6 (some .int) 2 := ⟨mw588, mw589, mw590, mw470, by decide, by decide, by decide +kernel⟩
theorem md_M_latest : MDv ⟨"BellSchoolModel", "latest", "([II)I"⟩ prog_11_method_29_code 7 (some .int) 2 := ⟨mw593, mw594, mw595, mw470, by decide, by decide, by decide +kernel⟩
theorem md_M_goesBy : MDv ⟨"BellSchoolModel", "goesBy", "([I)V"⟩ prog_11_method_30_code 4 none 1 := ⟨mw597, mw598, mw599, mw470, by decide, by decide, by decide +kernel⟩
theorem md_M_copyNow : MDv ⟨"BellSchoolModel", "copyNow", "()V"⟩ prog_11_method_31_code 2 none 0 := ⟨mw601, mw602, mw603, mw470, by decide, by decide, by decide +kernel⟩
theorem md_M_home : MDv ⟨"BellSchoolModel", "home", "(II)I"⟩ prog_11_method_32_code 3 (some .int) 2 := ⟨mw605, mw606, mw607, mw470, by decide, by decide, by decide +kernel⟩
theorem md_M_way : MDv ⟨"BellSchoolModel", "way", "(III)I"⟩ prog_11_method_33_code 5 (some .int) 3 := ⟨mw608, mw609, mw610, mw470, by decide, by decide, by decide +kernel⟩
theorem md_M_far : MDv ⟨"BellSchoolModel", "far", "(II)I"⟩ prog_11_method_34_code 3 (some .int) 2 := ⟨mw611, mw612, mw613, mw470, by decide, by decide, by decide +kernel⟩
theorem md_M_comes : MDv ⟨"BellSchoolModel", "comes", "(I)I"⟩ prog_11_method_35_code 3 (some .int) 1 := ⟨mw614, mw615, mw616, mw470, by decide, by decide, by decide +kernel⟩
theorem md_M_last : MDv ⟨"BellSchoolModel", "last", "()I"⟩ prog_11_method_36_code 1 (some .int) 0 := ⟨mw617, mw618, mw619, mw470, by decide, by decide, by decide +kernel⟩
theorem md_M_remember : MDv ⟨"BellSchoolModel", "remember", "()V"⟩ prog_11_method_37_code 2 none 0 := ⟨mw622, mw623, mw624, mw470, by decide, by decide, by decide +kernel⟩
theorem md_M_pass : MDv ⟨"BellSchoolModel", "pass", "(I)I"⟩ prog_11_method_38_code 3 (some .int) 1 := ⟨mw627, mw628, mw629, mw470, by decide, by decide, by decide +kernel⟩
theorem md_M_keepBack : MDv ⟨"BellSchoolModel", "keepBack", "(I)I"⟩ prog_11_method_39_code 2 (some .int) 1 := ⟨mw630, mw631, mw632, mw470, by decide, by decide, by decide +kernel⟩
theorem md_M_sick : MDv ⟨"BellSchoolModel", "sick", "(I)I"⟩ prog_11_method_40_code 2 (some .int) 1 := ⟨mw633, mw634, mw635, mw470, by decide, by decide, by decide +kernel⟩
theorem md_M_shut : MDv ⟨"BellSchoolModel", "shut", "(II)I"⟩ prog_11_method_41_code 3 (some .int) 2 := ⟨mw636, mw637, mw638, mw470, by decide, by decide, by decide +kernel⟩
theorem md_M_undo : MDv ⟨"BellSchoolModel", "undo", "()I"⟩ prog_11_method_42_code 2 (some .int) 0 := ⟨mw639, mw640, mw641, mw470, by decide, by decide, by decide +kernel⟩
theorem md_M_behind : MDv ⟨"BellSchoolModel", "behind", "(I)I"⟩ prog_11_method_43_code 3 (some .int) 1 := ⟨mw643, mw644, mw645, mw470, by decide, by decide, by decide +kernel⟩
theorem md_M_again : MDv ⟨"BellSchoolModel", "again", "()I"⟩ prog_11_method_44_code 2 (some .int) 0 := ⟨mw646, mw647, mw648, mw470, by decide, by decide, by decide +kernel⟩
theorem md_M_nextAt : MDs ⟨"BellSchoolModel", "nextAt", "(III)I"⟩ prog_11_method_45_code 3 (some .int) 3 := ⟨mw649, mw650, mw470, by decide, by decide, by decide +kernel⟩
theorem md_M_yetAt : MDs ⟨"BellSchoolModel", "yetAt", "(III)I"⟩ prog_11_method_46_code 3 (some .int) 3 := ⟨mw651, mw652, mw470, by decide, by decide, by decide +kernel⟩
theorem md_M_layNexts : MDv ⟨"BellSchoolModel", "layNexts", "()V"⟩ prog_11_method_47_code 5 none 0 := ⟨mw655, mw656, mw657, mw470, by decide, by decide, by decide +kernel⟩
theorem md_M_byChoice : MDv ⟨"BellSchoolModel", "byChoice", "(IIII)I"⟩ prog_11_method_48_code 6 (some .int) 4 := ⟨mw660, mw661, mw662, mw470, by decide, by decide, by decide +kernel⟩
theorem md_M_layYet : MDv ⟨"BellSchoolModel", "layYet", "()V"⟩ prog_11_method_49_code 8 none 0 := ⟨mw665, mw666, mw667, mw470, by decide, by decide, by decide +kernel⟩
theorem md_M_each : MDv ⟨"BellSchoolModel", "each", "(I)I"⟩ prog_11_method_50_code 7 (some .int) 1 := ⟨mw669, mw670, mw671, mw470, by decide, by decide, by decide +kernel⟩
theorem md_M_always : MDv ⟨"BellSchoolModel", "always", "()I"⟩ prog_11_method_51_code 4 (some .int) 0 := ⟨mw672, mw673, mw674, mw470, by decide, by decide, by decide +kernel⟩
theorem md_M_never : MDv ⟨"BellSchoolModel", "never", "()I"⟩ prog_11_method_52_code 3 (some .int) 0 := ⟨mw675, mw676, mw677, mw470, by decide, by decide, by decide +kernel⟩
theorem md_M_see : MDv ⟨"BellSchoolModel", "see", "(II)I"⟩ prog_11_method_53_code 3 (some .int) 2 := ⟨mw679, mw680, mw681, mw470, by decide, by decide, by decide +kernel⟩
theorem md_M_forget : MDv ⟨"BellSchoolModel", "forget", "()I"⟩ prog_11_method_54_code 2 (some .int) 0 := ⟨mw682, mw683, mw684, mw470, by decide, by decide, by decide +kernel⟩
theorem md_M_isSo : MDv ⟨"BellSchoolModel", "isSo", "()Z"⟩ prog_11_method_55_code 4 (some .boolean) 0 := ⟨mw685, mw686, mw687, mw470, by decide, by decide, by decide +kernel⟩
theorem md_M_fog : MDv ⟨"BellSchoolModel", "fog", "()I"⟩ prog_11_method_56_code 3 (some .int) 0 := ⟨mw689, mw690, mw691, mw470, by decide, by decide, by decide +kernel⟩
theorem md_M_tripped : MDv ⟨"BellSchoolModel", "tripped", "()I"⟩ prog_11_method_57_code 3 (some .int) 0 := ⟨mw692, mw693, mw694, mw470, by decide, by decide, by decide +kernel⟩
theorem md_M_common : MDs ⟨"BellSchoolModel", "common", "(JJ)J"⟩ prog_11_method_58_code 10 (some .long) 2 := ⟨mw695, mw696, mw470, by decide, by decide, by decide +kernel⟩
theorem md_M_spreads : MDv ⟨"BellSchoolModel", "spreads", "(II)V"⟩ prog_11_method_59_code 9 none 2 := ⟨mw699, mw700, mw701, mw470, by decide, by decide, by decide +kernel⟩
theorem md_M_measles : MDv ⟨"BellSchoolModel", "measles", "(IIII)J"⟩ prog_11_method_60_code 9 (some .long) 4 := ⟨mw706, mw707, mw708, mw470, by decide, by decide, by decide +kernel⟩
theorem md_M_soups : MDs ⟨"BellSchoolModel", "soups", "([I)I"⟩ prog_11_method_61_code 3 (some .int) 1 := ⟨mw709, mw710, mw470, by decide, by decide, by decide +kernel⟩
theorem md_M_year : MDv ⟨"BellSchoolModel", "year", "(III)I"⟩ prog_11_method_62_code 8 (some .int) 3 := ⟨mw716, mw717, mw718, mw470, by decide, by decide, by decide +kernel⟩
theorem md_M_keep : MDv ⟨"BellSchoolModel", "keep", "()I"⟩ prog_11_method_63_code 2 (some .int) 0 := ⟨mw720, mw721, mw722, mw470, by decide, by decide, by decide +kernel⟩
theorem md_M_back : MDv ⟨"BellSchoolModel", "back", "()I"⟩ prog_11_method_64_code 2 (some .int) 0 := ⟨mw723, mw724, mw725, mw470, by decide, by decide, by decide +kernel⟩
theorem md_M_wayMany : MDv ⟨"BellSchoolModel", "wayMany", "()I"⟩ prog_11_method_65_code 3 (some .int) 0 := ⟨mw726, mw727, mw728, mw470, by decide, by decide, by decide +kernel⟩
theorem md_M_count : MDv ⟨"BellSchoolModel", "count", "(I)I"⟩ prog_11_method_66_code 2 (some .int) 1 := ⟨mw731, mw732, mw733, mw470, by decide, by decide, by decide +kernel⟩
