/-! ===== printed by wip/whole/gen.py: the worlds, the words, the methods' conditions ===== -/
def dscC : List CD := [.inr (8, [(2, 0), (2, 0), (4, 13), (4, 15), (4, 17), (4, 36), (4, 38), (4, 21), (4, 23), (4, 25), (4, 31), (4, 34), (4, 35), (0, 0)]), .inr (7, [(3, 1), (3, 2), (3, 3), (3, 4), (3, 5), (0, 0), (0, 0), (0, 0)]), .inl (0, 7), .inl (0, 7), .inl (0, 49), .inl (0, 49), .inl (0, 49), .inr (7, [(3, 1), (3, 2), (3, 3), (3, 4), (3, 5), (0, 0), (0, 0), (0, 0)]), .inl (0, 7), .inl (0, 7), .inl (0, 49), .inl (0, 49), .inl (0, 49), .inr (6, [(4, 14), (0, 0)]), .inl (3, 200), .inr (2, [(4, 16), (0, 0)]), .inl (0, 4), .inr (1, [(4, 18), (4, 19), (2, 0), (4, 20), (0, 0), (0, 0)]), .inl (0, 1372), .inl (1, 28), .inl (0, 7), .inr (4, [(4, 22), (0, 0)]), .inl (2, 8), .inr (4, [(4, 24), (0, 0)]), .inl (2, 2), .inr (3, [(4, 26), (4, 27), (4, 28), (4, 29), (4, 60), (4, 62), (0, 0), (0, 0), (4, 30), (0, 0), (0, 0)]), .inl (1, 203), .inl (1, 203), .inl (0, 1568), .inl (0, 7), .inl (0, 28), .inr (0, [(4, 32), (4, 33), (1, 0)]), .inl (1, 7), .inl (1, 7), .inl (0, 6), .inl (0, 6), .inr (5, [(3, 1), (0, 0), (0, 0), (0, 0), (0, 0), (0, 0), (1, 0)]), .inl (0, 7), .inr (5, [(3, 1), (0, 0), (0, 0), (0, 0), (0, 0), (0, 0), (1, 0)]), .inl (0, 7), .inr (5, [(3, 1), (0, 0), (0, 0), (0, 0), (0, 0), (0, 0), (1, 0)]), .inl (0, 7), .inr (5, [(3, 1), (0, 0), (0, 0), (0, 0), (0, 0), (0, 0), (1, 0)]), .inl (0, 7), .inr (5, [(3, 1), (0, 0), (0, 0), (0, 0), (0, 0), (0, 0), (1, 0)]), .inl (0, 7), .inr (5, [(3, 1), (0, 0), (0, 0), (0, 0), (0, 0), (0, 0), (1, 0)]), .inl (0, 7), .inr (5, [(3, 1), (0, 0), (0, 0), (0, 0), (0, 0), (0, 0), (1, 0)]), .inl (0, 7), .inr (5, [(3, 1), (0, 0), (0, 0), (0, 0), (0, 0), (0, 0), (1, 0)]), .inl (0, 7), .inr (5, [(3, 1), (0, 0), (0, 0), (0, 0), (0, 0), (0, 0), (1, 0)]), .inl (0, 7), .inr (5, [(3, 1), (0, 0), (0, 0), (0, 0), (0, 0), (0, 0), (1, 0)]), .inl (0, 7), .inr (5, [(3, 1), (0, 0), (0, 0), (0, 0), (0, 0), (0, 0), (1, 0)]), .inl (0, 7), .inr (5, [(3, 1), (0, 0), (0, 0), (0, 0), (0, 0), (0, 0), (1, 0)]), .inl (0, 7), .inr (5, [(3, 1), (0, 0), (0, 0), (0, 0), (0, 0), (0, 0), (1, 0)]), .inl (0, 7), .inr (5, [(3, 1), (0, 0), (0, 0), (0, 0), (0, 0), (0, 0), (1, 0)]), .inl (0, 7)]
theorem dC_0 : dscC[0]? = some (.inr (8, [(2, 0), (2, 0), (4, 13), (4, 15), (4, 17), (4, 36), (4, 38), (4, 21), (4, 23), (4, 25), (4, 31), (4, 34), (4, 35), (0, 0)])) := rfl
theorem dC_1 : dscC[1]? = some (.inr (7, [(3, 1), (3, 2), (3, 3), (3, 4), (3, 5), (0, 0), (0, 0), (0, 0)])) := rfl
theorem dC_2 : dscC[2]? = some (.inl (0, 7)) := rfl
theorem dC_3 : dscC[3]? = some (.inl (0, 7)) := rfl
theorem dC_4 : dscC[4]? = some (.inl (0, 49)) := rfl
theorem dC_5 : dscC[5]? = some (.inl (0, 49)) := rfl
theorem dC_6 : dscC[6]? = some (.inl (0, 49)) := rfl
theorem dC_7 : dscC[7]? = some (.inr (7, [(3, 1), (3, 2), (3, 3), (3, 4), (3, 5), (0, 0), (0, 0), (0, 0)])) := rfl
theorem dC_8 : dscC[8]? = some (.inl (0, 7)) := rfl
theorem dC_9 : dscC[9]? = some (.inl (0, 7)) := rfl
theorem dC_10 : dscC[10]? = some (.inl (0, 49)) := rfl
theorem dC_11 : dscC[11]? = some (.inl (0, 49)) := rfl
theorem dC_12 : dscC[12]? = some (.inl (0, 49)) := rfl
theorem dC_13 : dscC[13]? = some (.inr (6, [(4, 14), (0, 0)])) := rfl
theorem dC_14 : dscC[14]? = some (.inl (3, 200)) := rfl
theorem dC_15 : dscC[15]? = some (.inr (2, [(4, 16), (0, 0)])) := rfl
theorem dC_16 : dscC[16]? = some (.inl (0, 4)) := rfl
theorem dC_17 : dscC[17]? = some (.inr (1, [(4, 18), (4, 19), (2, 0), (4, 20), (0, 0), (0, 0)])) := rfl
theorem dC_18 : dscC[18]? = some (.inl (0, 1372)) := rfl
theorem dC_19 : dscC[19]? = some (.inl (1, 28)) := rfl
theorem dC_20 : dscC[20]? = some (.inl (0, 7)) := rfl
theorem dC_21 : dscC[21]? = some (.inr (4, [(4, 22), (0, 0)])) := rfl
theorem dC_22 : dscC[22]? = some (.inl (2, 8)) := rfl
theorem dC_23 : dscC[23]? = some (.inr (4, [(4, 24), (0, 0)])) := rfl
theorem dC_24 : dscC[24]? = some (.inl (2, 2)) := rfl
theorem dC_25 : dscC[25]? = some (.inr (3, [(4, 26), (4, 27), (4, 28), (4, 29), (4, 60), (4, 62), (0, 0), (0, 0), (4, 30), (0, 0), (0, 0)])) := rfl
theorem dC_26 : dscC[26]? = some (.inl (1, 203)) := rfl
theorem dC_27 : dscC[27]? = some (.inl (1, 203)) := rfl
theorem dC_28 : dscC[28]? = some (.inl (0, 1568)) := rfl
theorem dC_29 : dscC[29]? = some (.inl (0, 7)) := rfl
theorem dC_30 : dscC[30]? = some (.inl (0, 28)) := rfl
theorem dC_31 : dscC[31]? = some (.inr (0, [(4, 32), (4, 33), (1, 0)])) := rfl
theorem dC_32 : dscC[32]? = some (.inl (1, 7)) := rfl
theorem dC_33 : dscC[33]? = some (.inl (1, 7)) := rfl
theorem dC_34 : dscC[34]? = some (.inl (0, 6)) := rfl
theorem dC_35 : dscC[35]? = some (.inl (0, 6)) := rfl
theorem dC_36 : dscC[36]? = some (.inr (5, [(3, 1), (0, 0), (0, 0), (0, 0), (0, 0), (0, 0), (1, 0)])) := rfl
theorem dC_37 : dscC[37]? = some (.inl (0, 7)) := rfl
theorem dC_38 : dscC[38]? = some (.inr (5, [(3, 1), (0, 0), (0, 0), (0, 0), (0, 0), (0, 0), (1, 0)])) := rfl
theorem dC_39 : dscC[39]? = some (.inl (0, 7)) := rfl
theorem dC_40 : dscC[40]? = some (.inr (5, [(3, 1), (0, 0), (0, 0), (0, 0), (0, 0), (0, 0), (1, 0)])) := rfl
theorem dC_41 : dscC[41]? = some (.inl (0, 7)) := rfl
theorem dC_42 : dscC[42]? = some (.inr (5, [(3, 1), (0, 0), (0, 0), (0, 0), (0, 0), (0, 0), (1, 0)])) := rfl
theorem dC_43 : dscC[43]? = some (.inl (0, 7)) := rfl
theorem dC_44 : dscC[44]? = some (.inr (5, [(3, 1), (0, 0), (0, 0), (0, 0), (0, 0), (0, 0), (1, 0)])) := rfl
theorem dC_45 : dscC[45]? = some (.inl (0, 7)) := rfl
theorem dC_46 : dscC[46]? = some (.inr (5, [(3, 1), (0, 0), (0, 0), (0, 0), (0, 0), (0, 0), (1, 0)])) := rfl
theorem dC_47 : dscC[47]? = some (.inl (0, 7)) := rfl
theorem dC_48 : dscC[48]? = some (.inr (5, [(3, 1), (0, 0), (0, 0), (0, 0), (0, 0), (0, 0), (1, 0)])) := rfl
theorem dC_49 : dscC[49]? = some (.inl (0, 7)) := rfl
theorem dC_50 : dscC[50]? = some (.inr (5, [(3, 1), (0, 0), (0, 0), (0, 0), (0, 0), (0, 0), (1, 0)])) := rfl
theorem dC_51 : dscC[51]? = some (.inl (0, 7)) := rfl
theorem dC_52 : dscC[52]? = some (.inr (5, [(3, 1), (0, 0), (0, 0), (0, 0), (0, 0), (0, 0), (1, 0)])) := rfl
theorem dC_53 : dscC[53]? = some (.inl (0, 7)) := rfl
theorem dC_54 : dscC[54]? = some (.inr (5, [(3, 1), (0, 0), (0, 0), (0, 0), (0, 0), (0, 0), (1, 0)])) := rfl
theorem dC_55 : dscC[55]? = some (.inl (0, 7)) := rfl
theorem dC_56 : dscC[56]? = some (.inr (5, [(3, 1), (0, 0), (0, 0), (0, 0), (0, 0), (0, 0), (1, 0)])) := rfl
theorem dC_57 : dscC[57]? = some (.inl (0, 7)) := rfl
theorem dC_58 : dscC[58]? = some (.inr (5, [(3, 1), (0, 0), (0, 0), (0, 0), (0, 0), (0, 0), (1, 0)])) := rfl
theorem dC_59 : dscC[59]? = some (.inl (0, 7)) := rfl
theorem dC_60 : dscC[60]? = some (.inr (5, [(3, 1), (0, 0), (0, 0), (0, 0), (0, 0), (0, 0), (1, 0)])) := rfl
theorem dC_61 : dscC[61]? = some (.inl (0, 7)) := rfl
theorem dC_62 : dscC[62]? = some (.inr (5, [(3, 1), (0, 0), (0, 0), (0, 0), (0, 0), (0, 0), (1, 0)])) := rfl
theorem dC_63 : dscC[63]? = some (.inl (0, 7)) := rfl
def dscM : List CD := [.inr (9, [(0, 0), (4, 1), (0, 0), (0, 0), (0, 0), (0, 0), (4, 2), (4, 3), (4, 4), (4, 5), (4, 6), (4, 7), (0, 0), (0, 0), (4, 8), (4, 9), (4, 10), (4, 11), (4, 12), (4, 13), (4, 14), (4, 15), (0, 0), (0, 0), (4, 16), (4, 17), (4, 18), (0, 0), (4, 19), (4, 20), (4, 21), (0, 0), (4, 22)]), .inl (0, 200), .inl (0, 7), .inl (0, 7), .inl (0, 49), .inl (0, 49), .inl (0, 49), .inl (0, 4), .inl (0, 7), .inl (0, 7), .inl (0, 49), .inl (0, 49), .inl (0, 49), .inl (0, 13), .inl (0, 13), .inl (0, 7), .inl (0, 104), .inl (0, 1568), .inl (0, 25984), .inl (0, 12), .inl (1, 7), .inl (1, 7), .inl (0, 26)]
theorem dM_0 : dscM[0]? = some (.inr (9, [(0, 0), (4, 1), (0, 0), (0, 0), (0, 0), (0, 0), (4, 2), (4, 3), (4, 4), (4, 5), (4, 6), (4, 7), (0, 0), (0, 0), (4, 8), (4, 9), (4, 10), (4, 11), (4, 12), (4, 13), (4, 14), (4, 15), (0, 0), (0, 0), (4, 16), (4, 17), (4, 18), (0, 0), (4, 19), (4, 20), (4, 21), (0, 0), (4, 22)])) := rfl
theorem dM_1 : dscM[1]? = some (.inl (0, 200)) := rfl
theorem dM_2 : dscM[2]? = some (.inl (0, 7)) := rfl
theorem dM_3 : dscM[3]? = some (.inl (0, 7)) := rfl
theorem dM_4 : dscM[4]? = some (.inl (0, 49)) := rfl
theorem dM_5 : dscM[5]? = some (.inl (0, 49)) := rfl
theorem dM_6 : dscM[6]? = some (.inl (0, 49)) := rfl
theorem dM_7 : dscM[7]? = some (.inl (0, 4)) := rfl
theorem dM_8 : dscM[8]? = some (.inl (0, 7)) := rfl
theorem dM_9 : dscM[9]? = some (.inl (0, 7)) := rfl
theorem dM_10 : dscM[10]? = some (.inl (0, 49)) := rfl
theorem dM_11 : dscM[11]? = some (.inl (0, 49)) := rfl
theorem dM_12 : dscM[12]? = some (.inl (0, 49)) := rfl
theorem dM_13 : dscM[13]? = some (.inl (0, 13)) := rfl
theorem dM_14 : dscM[14]? = some (.inl (0, 13)) := rfl
theorem dM_15 : dscM[15]? = some (.inl (0, 7)) := rfl
theorem dM_16 : dscM[16]? = some (.inl (0, 104)) := rfl
theorem dM_17 : dscM[17]? = some (.inl (0, 1568)) := rfl
theorem dM_18 : dscM[18]? = some (.inl (0, 25984)) := rfl
theorem dM_19 : dscM[19]? = some (.inl (0, 12)) := rfl
theorem dM_20 : dscM[20]? = some (.inl (1, 7)) := rfl
theorem dM_21 : dscM[21]? = some (.inl (1, 7)) := rfl
theorem dM_22 : dscM[22]? = some (.inl (0, 26)) := rfl
theorem dC_o7_1 {v : Nat} (h : dscC[v]? = some dVal) : dscC[v + 1]? = some (.inl (0, 7)) := by
  have hl : v < 64 := (List.getElem?_eq_some_iff.mp h).1
  have key : ∀ i : Fin 64, dscC[i.val]? = some dVal → dscC[i.val + 1]? = some (.inl (0, 7)) := by decide +kernel
  exact key ⟨v, hl⟩ h
theorem dC_o7_2 {v : Nat} (h : dscC[v]? = some dVal) : dscC[v + 2]? = some (.inl (0, 7)) := by
  have hl : v < 64 := (List.getElem?_eq_some_iff.mp h).1
  have key : ∀ i : Fin 64, dscC[i.val]? = some dVal → dscC[i.val + 2]? = some (.inl (0, 7)) := by decide +kernel
  exact key ⟨v, hl⟩ h
theorem dC_o7_3 {v : Nat} (h : dscC[v]? = some dVal) : dscC[v + 3]? = some (.inl (0, 49)) := by
  have hl : v < 64 := (List.getElem?_eq_some_iff.mp h).1
  have key : ∀ i : Fin 64, dscC[i.val]? = some dVal → dscC[i.val + 3]? = some (.inl (0, 49)) := by decide +kernel
  exact key ⟨v, hl⟩ h
theorem dC_o7_4 {v : Nat} (h : dscC[v]? = some dVal) : dscC[v + 4]? = some (.inl (0, 49)) := by
  have hl : v < 64 := (List.getElem?_eq_some_iff.mp h).1
  have key : ∀ i : Fin 64, dscC[i.val]? = some dVal → dscC[i.val + 4]? = some (.inl (0, 49)) := by decide +kernel
  exact key ⟨v, hl⟩ h
theorem dC_o7_5 {v : Nat} (h : dscC[v]? = some dVal) : dscC[v + 5]? = some (.inl (0, 49)) := by
  have hl : v < 64 := (List.getElem?_eq_some_iff.mp h).1
  have key : ∀ i : Fin 64, dscC[i.val]? = some dVal → dscC[i.val + 5]? = some (.inl (0, 49)) := by decide +kernel
  exact key ⟨v, hl⟩ h
theorem dC_o5_1 {v : Nat} (h : dscC[v]? = some dSt) : dscC[v + 1]? = some (.inl (0, 7)) := by
  have hl : v < 64 := (List.getElem?_eq_some_iff.mp h).1
  have key : ∀ i : Fin 64, dscC[i.val]? = some dSt → dscC[i.val + 1]? = some (.inl (0, 7)) := by decide +kernel
  exact key ⟨v, hl⟩ h
theorem cf0 : CF 0 "BellSchool$Measles" TX0 3 tyX0 := ⟨rfl, inX0, tyX0_ok, nmX0⟩
theorem cf1 : CF 1 "BellSchool$Noon" TX1 6 tyX1 := ⟨rfl, inX1, tyX1_ok, nmX1⟩
theorem cf2 : CF 2 "BellSchool$Reader" TX2 2 tyX2 := ⟨rfl, inX2, tyX2_ok, nmX2⟩
theorem cf3 : CF 3 "BellSchool$Search" TX3 11 tyX3 := ⟨rfl, inX3, tyX3_ok, nmX3⟩
theorem cf4 : CF 4 "BellSchool$Shelf" TX4 2 tyX4 := ⟨rfl, inX4, tyX4_ok, nmX4⟩
theorem cf5 : CF 5 "BellSchool$Standing" TX5 7 tyX5 := ⟨rfl, inX5, tyX5_ok, nmX5⟩
theorem cf6 : CF 6 "BellSchool$Text" TX6 2 tyX6 := ⟨rfl, inX6, tyX6_ok, nmX6⟩
theorem cf7 : CF 7 "BellSchool$Valley" TX7 8 tyX7 := ⟨rfl, inX7, tyX7_ok, nmX7⟩
theorem cf8 : CF 8 "BellSchool" TX8 14 tyX8 := ⟨rfl, inX8, tyX8_ok, nmX8⟩
theorem cf9 : CF 9 "BellSchoolModel" TX9 33 tyX9 := ⟨rfl, inX9, tyX9_ok, nmX9⟩
theorem mw0 : Cond.fieldLink "BellSchool$Text" 13 "BellSchool$Text" "length" "I" ∈ TB := tb_in (lw_i1 76 (by decide +kernel)) (by decide +kernel)
theorem mw1 : Cond.fieldLink "BellSchool$Text" 7 "BellSchool$Text" "letters" "[C" ∈ TB := tb_in (lw_i1 74 (by decide +kernel)) (by decide +kernel)
theorem mw2 : Cond.code ⟨"BellSchool$Text", "add", "(C)Z"⟩ prog_8_method_2_code 2 (some .boolean) ∈ TB := tb_in (lw_i2 73 (by decide +kernel)) (by decide +kernel)
theorem mw3 : Cond.initialized "BellSchool$Text" ∈ TB := tb_in (lw_i1 3 (by decide +kernel)) (by decide +kernel)
theorem mw4 : Cond.instanceMethod ⟨"BellSchool$Text", "add", "(C)Z"⟩ ∈ TB := tb_in (lw_i2 71 (by decide +kernel)) (by decide +kernel)
theorem mw5 : Cond.selects "BellSchool$Text" ⟨"BellSchool$Text", "add", "(C)Z"⟩ ⟨"BellSchool$Text", "add", "(C)Z"⟩ ∈ TB := tb_in (lw_i2 72 (by decide +kernel)) (by decide +kernel)
theorem mw6 : Cond.fieldLink "BellSchool" 22 "BellSchool" "text" "LBellSchool$Text;" ∈ TB := tb_in (lw_i2 151 (by decide +kernel)) (by decide +kernel)
theorem mw7 : Cond.methodLink "BellSchool" 101 ⟨"BellSchool$Text", "add", "(C)Z"⟩ ∈ TB := tb_in (lw_i2 70 (by decide +kernel)) (by decide +kernel)
theorem mw8 : Cond.fieldLink "BellSchool" 109 "BellSchool$Text" "length" "I" ∈ TB := tb_in (lw_i1 77 (by decide +kernel)) (by decide +kernel)
theorem mw9 : Cond.code ⟨"BellSchool", "write", "(I)I"⟩ prog_1_method_2_code 2 (some .int) ∈ TB := tb_in (lw_i2 196 (by decide +kernel)) (by decide +kernel)
theorem mw10 : Cond.initialized "BellSchool" ∈ TB := tb_in (lw_i1 1 (by decide +kernel)) (by decide +kernel)
theorem mw11 : Cond.instanceMethod ⟨"BellSchool", "write", "(I)I"⟩ ∈ TB := tb_in (lw_i2 194 (by decide +kernel)) (by decide +kernel)
theorem mw12 : Cond.selects "BellSchool" ⟨"BellSchool", "write", "(I)I"⟩ ⟨"BellSchool", "write", "(I)I"⟩ ∈ TB := tb_in (lw_i2 195 (by decide +kernel)) (by decide +kernel)
theorem mw13 : Cond.code ⟨"BellSchool", "wipe", "()I"⟩ prog_1_method_3_code 2 (some .int) ∈ TB := tb_in (lw_i2 200 (by decide +kernel)) (by decide +kernel)
theorem mw14 : Cond.instanceMethod ⟨"BellSchool", "wipe", "()I"⟩ ∈ TB := tb_in (lw_i2 198 (by decide +kernel)) (by decide +kernel)
theorem mw15 : Cond.selects "BellSchool" ⟨"BellSchool", "wipe", "()I"⟩ ⟨"BellSchool", "wipe", "()I"⟩ ∈ TB := tb_in (lw_i2 199 (by decide +kernel)) (by decide +kernel)
theorem mw16 : Cond.fieldLink "BellSchool$Valley" 27 "BellSchool$Valley" "homes" "I" ∈ TB := tb_in (lw_i1 43 (by decide +kernel)) (by decide +kernel)
theorem mw17 : Cond.fieldLink "BellSchool$Valley" 31 "BellSchool$Valley" "bell" "I" ∈ TB := tb_in (lw_i1 46 (by decide +kernel)) (by decide +kernel)
theorem mw18 : Cond.fieldLink "BellSchool$Valley" 34 "BellSchool$Valley" "farthest" "I" ∈ TB := tb_in (lw_i1 48 (by decide +kernel)) (by decide +kernel)
theorem mw19 : Cond.fieldLink "BellSchool$Valley" 18 "BellSchool$Valley" "minutes" "[I" ∈ TB := tb_in (lw_i1 38 (by decide +kernel)) (by decide +kernel)
theorem mw20 : Cond.fieldLink "BellSchool$Valley" 21 "BellSchool$Valley" "snowFrom" "[I" ∈ TB := tb_in (lw_i1 41 (by decide +kernel)) (by decide +kernel)
theorem mw21 : Cond.fieldLink "BellSchool$Valley" 24 "BellSchool$Valley" "snowTo" "[I" ∈ TB := tb_in (lw_i1 42 (by decide +kernel)) (by decide +kernel)
theorem mw22 : Cond.code ⟨"BellSchool$Valley", "clear", "()V"⟩ prog_9_method_2_code 2 none ∈ TB := tb_in (lw_i2 85 (by decide +kernel)) (by decide +kernel)
theorem mw23 : Cond.initialized "BellSchool$Valley" ∈ TB := tb_in (lw_i1 2 (by decide +kernel)) (by decide +kernel)
theorem mw24 : Cond.instanceMethod ⟨"BellSchool$Valley", "clear", "()V"⟩ ∈ TB := tb_in (lw_i2 83 (by decide +kernel)) (by decide +kernel)
theorem mw25 : Cond.selects "BellSchool$Valley" ⟨"BellSchool$Valley", "clear", "()V"⟩ ⟨"BellSchool$Valley", "clear", "()V"⟩ ∈ TB := tb_in (lw_i2 84 (by decide +kernel)) (by decide +kernel)
theorem mw26 : Cond.code ⟨"BellSchool$Text", "at", "(I)C"⟩ prog_8_method_3_code 2 (some .char) ∈ TB := tb_in (lw_i2 89 (by decide +kernel)) (by decide +kernel)
theorem mw27 : Cond.instanceMethod ⟨"BellSchool$Text", "at", "(I)C"⟩ ∈ TB := tb_in (lw_i2 87 (by decide +kernel)) (by decide +kernel)
theorem mw28 : Cond.selects "BellSchool$Text" ⟨"BellSchool$Text", "at", "(I)C"⟩ ⟨"BellSchool$Text", "at", "(I)C"⟩ ∈ TB := tb_in (lw_i2 88 (by decide +kernel)) (by decide +kernel)
theorem mw29 : Cond.code ⟨"BellSchool$Reader", "numbersOf", "(I)I"⟩ prog_4_method_3_code 1 (some .int) ∈ TB := tb_in (lw_i2 92 (by decide +kernel)) (by decide +kernel)
theorem mw30 : Cond.initialized "BellSchool$Reader" ∈ TB := tb_in (lw_i1 4 (by decide +kernel)) (by decide +kernel)
theorem mw31 : Cond.static ⟨"BellSchool$Reader", "numbersOf", "(I)I"⟩ ∈ TB := tb_in (lw_i2 91 (by decide +kernel)) (by decide +kernel)
theorem mw32 : Cond.code ⟨"BellSchool$Reader", "isFigure", "(C)Z"⟩ prog_4_method_5_code 1 (some .boolean) ∈ TB := tb_in (lw_i2 99 (by decide +kernel)) (by decide +kernel)
theorem mw33 : Cond.static ⟨"BellSchool$Reader", "isFigure", "(C)Z"⟩ ∈ TB := tb_in (lw_i2 98 (by decide +kernel)) (by decide +kernel)
theorem mw34 : Cond.fieldLink "BellSchool$Reader" 9 "BellSchool$Reader" "number" "[I" ∈ TB := tb_in (lw_i1 91 (by decide +kernel)) (by decide +kernel)
theorem mw35 : Cond.fieldLink "BellSchool$Reader" 15 "BellSchool$Reader" "place" "I" ∈ TB := tb_in (lw_i1 92 (by decide +kernel)) (by decide +kernel)
theorem mw36 : Cond.methodLink "BellSchool$Reader" 33 ⟨"BellSchool$Text", "at", "(I)C"⟩ ∈ TB := tb_in (lw_i2 86 (by decide +kernel)) (by decide +kernel)
theorem mw37 : Cond.methodLink "BellSchool$Reader" 49 ⟨"BellSchool$Reader", "isFigure", "(C)Z"⟩ ∈ TB := tb_in (lw_i2 97 (by decide +kernel)) (by decide +kernel)
theorem mw38 : Cond.code ⟨"BellSchool$Reader", "readNumbers", "(LBellSchool$Text;I)Z"⟩ prog_4_method_4_code 4 (some .boolean) ∈ TB := tb_in (lw_i2 96 (by decide +kernel)) (by decide +kernel)
theorem mw39 : Cond.instanceMethod ⟨"BellSchool$Reader", "readNumbers", "(LBellSchool$Text;I)Z"⟩ ∈ TB := tb_in (lw_i2 95 (by decide +kernel)) (by decide +kernel)
theorem mw40 : Cond.selects "BellSchool$Reader" ⟨"BellSchool$Reader", "readNumbers", "(LBellSchool$Text;I)Z"⟩ ⟨"BellSchool$Reader", "readNumbers", "(LBellSchool$Text;I)Z"⟩ ∈ TB := tb_in (lw_s 1 (by decide +kernel)) (by decide +kernel)
theorem mw41 : Cond.fieldLink "BellSchool$Valley" 9 "BellSchool$Valley" "kind" "[I" ∈ TB := tb_in (lw_i1 32 (by decide +kernel)) (by decide +kernel)
theorem mw42 : Cond.fieldLink "BellSchool$Valley" 15 "BellSchool$Valley" "late" "[I" ∈ TB := tb_in (lw_i1 35 (by decide +kernel)) (by decide +kernel)
theorem mw43 : Cond.code ⟨"BellSchool$Valley", "addHome", "(II)Z"⟩ prog_9_method_5_code 3 (some .boolean) ∈ TB := tb_in (lw_i2 107 (by decide +kernel)) (by decide +kernel)
theorem mw44 : Cond.instanceMethod ⟨"BellSchool$Valley", "addHome", "(II)Z"⟩ ∈ TB := tb_in (lw_i2 105 (by decide +kernel)) (by decide +kernel)
theorem mw45 : Cond.selects "BellSchool$Valley" ⟨"BellSchool$Valley", "addHome", "(II)Z"⟩ ⟨"BellSchool$Valley", "addHome", "(II)Z"⟩ ∈ TB := tb_in (lw_i2 106 (by decide +kernel)) (by decide +kernel)
theorem mw46 : Cond.code ⟨"BellSchool$Valley", "has", "(I)Z"⟩ prog_9_method_3_code 2 (some .boolean) ∈ TB := tb_in (lw_i2 119 (by decide +kernel)) (by decide +kernel)
theorem mw47 : Cond.instanceMethod ⟨"BellSchool$Valley", "has", "(I)Z"⟩ ∈ TB := tb_in (lw_i2 117 (by decide +kernel)) (by decide +kernel)
theorem mw48 : Cond.selects "BellSchool$Valley" ⟨"BellSchool$Valley", "has", "(I)Z"⟩ ⟨"BellSchool$Valley", "has", "(I)Z"⟩ ∈ TB := tb_in (lw_i2 118 (by decide +kernel)) (by decide +kernel)
theorem mw49 : Cond.methodLink "BellSchool$Valley" 37 ⟨"BellSchool$Valley", "has", "(I)Z"⟩ ∈ TB := tb_in (lw_i2 116 (by decide +kernel)) (by decide +kernel)
theorem mw50 : Cond.code ⟨"BellSchool$Valley", "hasTwo", "(II)Z"⟩ prog_9_method_4_code 3 (some .boolean) ∈ TB := tb_in (lw_i2 115 (by decide +kernel)) (by decide +kernel)
theorem mw51 : Cond.instanceMethod ⟨"BellSchool$Valley", "hasTwo", "(II)Z"⟩ ∈ TB := tb_in (lw_i2 113 (by decide +kernel)) (by decide +kernel)
theorem mw52 : Cond.selects "BellSchool$Valley" ⟨"BellSchool$Valley", "hasTwo", "(II)Z"⟩ ⟨"BellSchool$Valley", "hasTwo", "(II)Z"⟩ ∈ TB := tb_in (lw_i2 114 (by decide +kernel)) (by decide +kernel)
theorem mw53 : Cond.methodLink "BellSchool" 287 Lib.Math.min.name ∈ TB := tb_in (lw_i2 123 (by decide +kernel)) (by decide +kernel)
theorem mw54 : Cond.static Lib.Math.min.name ∈ TB := tb_in (lw_i2 124 (by decide +kernel)) (by decide +kernel)
theorem mw55 : Cond.initialized "java/lang/Math" ∈ TB := tb_in (lw_i1 8 (by decide +kernel)) (by decide +kernel)
theorem mw56 : Cond.code Lib.Math.min.name Lib.Math.min.code 2 (some .int) ∈ TB := tb_in (lw_i2 125 (by decide +kernel)) (by decide +kernel)
theorem mw57 : Cond.methodLink "BellSchool" 275 Lib.Math.max.name ∈ TB := tb_in (lw_i2 126 (by decide +kernel)) (by decide +kernel)
theorem mw58 : Cond.static Lib.Math.max.name ∈ TB := tb_in (lw_i1 185 (by decide +kernel)) (by decide +kernel)
theorem mw59 : Cond.code Lib.Math.max.name Lib.Math.max.code 2 (some .int) ∈ TB := tb_in (lw_i1 186 (by decide +kernel)) (by decide +kernel)
theorem mw60 : Cond.code ⟨"BellSchool", "pairOf", "(II)I"⟩ prog_1_method_37_code 2 (some .int) ∈ TB := tb_in (lw_i2 122 (by decide +kernel)) (by decide +kernel)
theorem mw61 : Cond.static ⟨"BellSchool", "pairOf", "(II)I"⟩ ∈ TB := tb_in (lw_i2 121 (by decide +kernel)) (by decide +kernel)
theorem mw62 : Cond.methodLink "BellSchool$Valley" 41 ⟨"BellSchool$Valley", "hasTwo", "(II)Z"⟩ ∈ TB := tb_in (lw_i2 112 (by decide +kernel)) (by decide +kernel)
theorem mw63 : Cond.code ⟨"BellSchool$Valley", "addWay", "(III)Z"⟩ prog_9_method_6_code 4 (some .boolean) ∈ TB := tb_in (lw_i2 111 (by decide +kernel)) (by decide +kernel)
theorem mw64 : Cond.instanceMethod ⟨"BellSchool$Valley", "addWay", "(III)Z"⟩ ∈ TB := tb_in (lw_i2 109 (by decide +kernel)) (by decide +kernel)
theorem mw65 : Cond.selects "BellSchool$Valley" ⟨"BellSchool$Valley", "addWay", "(III)Z"⟩ ⟨"BellSchool$Valley", "addWay", "(III)Z"⟩ ∈ TB := tb_in (lw_i2 110 (by decide +kernel)) (by decide +kernel)
theorem mw66 : Cond.code ⟨"BellSchool$Valley", "addSnow", "(IIII)Z"⟩ prog_9_method_7_code 5 (some .boolean) ∈ TB := tb_in (lw_i2 130 (by decide +kernel)) (by decide +kernel)
theorem mw67 : Cond.instanceMethod ⟨"BellSchool$Valley", "addSnow", "(IIII)Z"⟩ ∈ TB := tb_in (lw_i2 128 (by decide +kernel)) (by decide +kernel)
theorem mw68 : Cond.selects "BellSchool$Valley" ⟨"BellSchool$Valley", "addSnow", "(IIII)Z"⟩ ⟨"BellSchool$Valley", "addSnow", "(IIII)Z"⟩ ∈ TB := tb_in (lw_i2 129 (by decide +kernel)) (by decide +kernel)
theorem mw69 : Cond.code ⟨"BellSchool$Valley", "putBell", "(I)Z"⟩ prog_9_method_8_code 2 (some .boolean) ∈ TB := tb_in (lw_i2 134 (by decide +kernel)) (by decide +kernel)
theorem mw70 : Cond.instanceMethod ⟨"BellSchool$Valley", "putBell", "(I)Z"⟩ ∈ TB := tb_in (lw_i2 132 (by decide +kernel)) (by decide +kernel)
theorem mw71 : Cond.selects "BellSchool$Valley" ⟨"BellSchool$Valley", "putBell", "(I)Z"⟩ ⟨"BellSchool$Valley", "putBell", "(I)Z"⟩ ∈ TB := tb_in (lw_i2 133 (by decide +kernel)) (by decide +kernel)
theorem mw72 : Cond.code ⟨"BellSchool$Valley", "limit", "(I)Z"⟩ prog_9_method_9_code 2 (some .boolean) ∈ TB := tb_in (lw_i2 138 (by decide +kernel)) (by decide +kernel)
theorem mw73 : Cond.instanceMethod ⟨"BellSchool$Valley", "limit", "(I)Z"⟩ ∈ TB := tb_in (lw_i2 136 (by decide +kernel)) (by decide +kernel)
theorem mw74 : Cond.selects "BellSchool$Valley" ⟨"BellSchool$Valley", "limit", "(I)Z"⟩ ⟨"BellSchool$Valley", "limit", "(I)Z"⟩ ∈ TB := tb_in (lw_i2 137 (by decide +kernel)) (by decide +kernel)
theorem mw75 : Cond.methodLink "BellSchool$Reader" 65 ⟨"BellSchool$Valley", "putBell", "(I)Z"⟩ ∈ TB := tb_in (lw_i2 131 (by decide +kernel)) (by decide +kernel)
theorem mw76 : Cond.methodLink "BellSchool$Reader" 53 ⟨"BellSchool$Valley", "addHome", "(II)Z"⟩ ∈ TB := tb_in (lw_i2 104 (by decide +kernel)) (by decide +kernel)
theorem mw77 : Cond.methodLink "BellSchool$Reader" 69 ⟨"BellSchool$Valley", "limit", "(I)Z"⟩ ∈ TB := tb_in (lw_i2 135 (by decide +kernel)) (by decide +kernel)
theorem mw78 : Cond.methodLink "BellSchool$Reader" 61 ⟨"BellSchool$Valley", "addSnow", "(IIII)Z"⟩ ∈ TB := tb_in (lw_i2 127 (by decide +kernel)) (by decide +kernel)
theorem mw79 : Cond.methodLink "BellSchool$Reader" 57 ⟨"BellSchool$Valley", "addWay", "(III)Z"⟩ ∈ TB := tb_in (lw_i2 108 (by decide +kernel)) (by decide +kernel)
theorem mw80 : Cond.code ⟨"BellSchool$Reader", "told", "(LBellSchool$Valley;I)Z"⟩ prog_4_method_6_code 3 (some .boolean) ∈ TB := tb_in (lw_i2 103 (by decide +kernel)) (by decide +kernel)
theorem mw81 : Cond.instanceMethod ⟨"BellSchool$Reader", "told", "(LBellSchool$Valley;I)Z"⟩ ∈ TB := tb_in (lw_i2 102 (by decide +kernel)) (by decide +kernel)
theorem mw82 : Cond.selects "BellSchool$Reader" ⟨"BellSchool$Reader", "told", "(LBellSchool$Valley;I)Z"⟩ ⟨"BellSchool$Reader", "told", "(LBellSchool$Valley;I)Z"⟩ ∈ TB := tb_in (lw_s 2 (by decide +kernel)) (by decide +kernel)
theorem mw83 : Cond.methodLink "BellSchool$Reader" 19 ⟨"BellSchool$Valley", "clear", "()V"⟩ ∈ TB := tb_in (lw_i2 82 (by decide +kernel)) (by decide +kernel)
theorem mw84 : Cond.fieldLink "BellSchool$Reader" 24 "BellSchool$Text" "letters" "[C" ∈ TB := tb_in (lw_i1 75 (by decide +kernel)) (by decide +kernel)
theorem mw85 : Cond.fieldLink "BellSchool$Reader" 30 "BellSchool$Text" "length" "I" ∈ TB := tb_in (lw_i1 78 (by decide +kernel)) (by decide +kernel)
theorem mw86 : Cond.methodLink "BellSchool$Reader" 37 ⟨"BellSchool$Reader", "numbersOf", "(I)I"⟩ ∈ TB := tb_in (lw_i2 90 (by decide +kernel)) (by decide +kernel)
theorem mw87 : Cond.methodLink "BellSchool$Reader" 41 ⟨"BellSchool$Reader", "readNumbers", "(LBellSchool$Text;I)Z"⟩ ∈ TB := tb_in (lw_i2 93 (by decide +kernel)) (by decide +kernel)
theorem mw88 : Cond.methodLink "BellSchool$Reader" 45 ⟨"BellSchool$Reader", "told", "(LBellSchool$Valley;I)Z"⟩ ∈ TB := tb_in (lw_i2 100 (by decide +kernel)) (by decide +kernel)
theorem mw89 : Cond.code ⟨"BellSchool$Reader", "readInto", "(LBellSchool$Valley;LBellSchool$Text;)I"⟩ prog_4_method_2_code 6 (some .int) ∈ TB := tb_in (lw_i2 81 (by decide +kernel)) (by decide +kernel)
theorem mw90 : Cond.instanceMethod ⟨"BellSchool$Reader", "readInto", "(LBellSchool$Valley;LBellSchool$Text;)I"⟩ ∈ TB := tb_in (lw_i2 79 (by decide +kernel)) (by decide +kernel)
theorem mw91 : Cond.selects "BellSchool$Reader" ⟨"BellSchool$Reader", "readInto", "(LBellSchool$Valley;LBellSchool$Text;)I"⟩ ⟨"BellSchool$Reader", "readInto", "(LBellSchool$Valley;LBellSchool$Text;)I"⟩ ∈ TB := tb_in (lw_i2 80 (by decide +kernel)) (by decide +kernel)
theorem mw92 : Cond.fieldLink "BellSchool" 29 "BellSchool" "reader" "LBellSchool$Reader;" ∈ TB := tb_in (lw_i2 152 (by decide +kernel)) (by decide +kernel)
theorem mw93 : Cond.fieldLink "BellSchool" 16 "BellSchool" "draft" "LBellSchool$Valley;" ∈ TB := tb_in (lw_i2 150 (by decide +kernel)) (by decide +kernel)
theorem mw94 : Cond.methodLink "BellSchool" 111 ⟨"BellSchool$Reader", "readInto", "(LBellSchool$Valley;LBellSchool$Text;)I"⟩ ∈ TB := tb_in (lw_i2 78 (by decide +kernel)) (by decide +kernel)
theorem mw95 : Cond.code ⟨"BellSchool", "fault", "()I"⟩ prog_1_method_4_code 1 (some .int) ∈ TB := tb_in (lw_i2 204 (by decide +kernel)) (by decide +kernel)
theorem mw96 : Cond.instanceMethod ⟨"BellSchool", "fault", "()I"⟩ ∈ TB := tb_in (lw_i2 202 (by decide +kernel)) (by decide +kernel)
theorem mw97 : Cond.selects "BellSchool" ⟨"BellSchool", "fault", "()I"⟩ ⟨"BellSchool", "fault", "()I"⟩ ∈ TB := tb_in (lw_i2 203 (by decide +kernel)) (by decide +kernel)
theorem mw98 : Cond.fieldLink "BellSchool$Noon" 29 "BellSchool$Noon" "valley" "LBellSchool$Valley;" ∈ TB := tb_in (lw_i1 106 (by decide +kernel)) (by decide +kernel)
theorem mw99 : Cond.fieldLink "BellSchool$Noon" 15 "BellSchool$Noon" "shutThen" "[J" ∈ TB := tb_in (lw_i1 105 (by decide +kernel)) (by decide +kernel)
theorem mw100 : Cond.constantLong "BellSchool$Noon" 33 (-1 : Int64) ∈ TB := tb_in (lw_i2 144 (by decide +kernel)) (by decide +kernel)
theorem mw101 : Cond.code ⟨"BellSchool$Noon", "settle", "(LBellSchool$Valley;)V"⟩ prog_3_method_2_code 3 none ∈ TB := tb_in (lw_i2 143 (by decide +kernel)) (by decide +kernel)
theorem mw102 : Cond.initialized "BellSchool$Noon" ∈ TB := tb_in (lw_i1 5 (by decide +kernel)) (by decide +kernel)
theorem mw103 : Cond.instanceMethod ⟨"BellSchool$Noon", "settle", "(LBellSchool$Valley;)V"⟩ ∈ TB := tb_in (lw_i2 141 (by decide +kernel)) (by decide +kernel)
theorem mw104 : Cond.selects "BellSchool$Noon" ⟨"BellSchool$Noon", "settle", "(LBellSchool$Valley;)V"⟩ ⟨"BellSchool$Noon", "settle", "(LBellSchool$Valley;)V"⟩ ∈ TB := tb_in (lw_i2 142 (by decide +kernel)) (by decide +kernel)
theorem mw105 : Cond.fieldLink "BellSchool$Standing" 15 "BellSchool$Standing" "day" "I" ∈ TB := tb_in (lw_i1 138 (by decide +kernel)) (by decide +kernel)
theorem mw106 : Cond.fieldLink "BellSchool$Standing" 19 "BellSchool$Standing" "bell" "I" ∈ TB := tb_in (lw_i1 143 (by decide +kernel)) (by decide +kernel)
theorem mw107 : Cond.fieldLink "BellSchool$Standing" 22 "BellSchool$Standing" "held" "I" ∈ TB := tb_in (lw_i1 148 (by decide +kernel)) (by decide +kernel)
theorem mw108 : Cond.fieldLink "BellSchool$Standing" 25 "BellSchool$Standing" "sick" "I" ∈ TB := tb_in (lw_i1 153 (by decide +kernel)) (by decide +kernel)
theorem mw109 : Cond.fieldLink "BellSchool$Standing" 28 "BellSchool$Standing" "had" "I" ∈ TB := tb_in (lw_i1 156 (by decide +kernel)) (by decide +kernel)
theorem mw110 : Cond.fieldLink "BellSchool$Standing" 31 "BellSchool$Standing" "shut" "J" ∈ TB := tb_in (lw_i1 160 (by decide +kernel)) (by decide +kernel)
theorem mw111 : Cond.fieldLink "BellSchool$Standing" 9 "BellSchool$Standing" "soups" "[I" ∈ TB := tb_in (lw_i1 135 (by decide +kernel)) (by decide +kernel)
theorem mw112 : Cond.code ⟨"BellSchool$Standing", "begin", "(I)V"⟩ prog_7_method_2_code 3 none ∈ TB := tb_in (lw_i2 148 (by decide +kernel)) (by decide +kernel)
theorem mw113 : Cond.initialized "BellSchool$Standing" ∈ TB := tb_in (lw_i1 6 (by decide +kernel)) (by decide +kernel)
theorem mw114 : Cond.instanceMethod ⟨"BellSchool$Standing", "begin", "(I)V"⟩ ∈ TB := tb_in (lw_i2 146 (by decide +kernel)) (by decide +kernel)
theorem mw115 : Cond.selects "BellSchool$Standing" ⟨"BellSchool$Standing", "begin", "(I)V"⟩ ⟨"BellSchool$Standing", "begin", "(I)V"⟩ ∈ TB := tb_in (lw_i2 147 (by decide +kernel)) (by decide +kernel)
theorem mw116 : Cond.fieldLink "BellSchool" 258 "BellSchool$Valley" "bell" "I" ∈ TB := tb_in (lw_i1 47 (by decide +kernel)) (by decide +kernel)
theorem mw117 : Cond.methodLink "BellSchool" 118 ⟨"BellSchool$Valley", "has", "(I)Z"⟩ ∈ TB := tb_in (lw_i2 139 (by decide +kernel)) (by decide +kernel)
theorem mw118 : Cond.fieldLink "BellSchool" 10 "BellSchool" "valley" "LBellSchool$Valley;" ∈ TB := tb_in (lw_i2 149 (by decide +kernel)) (by decide +kernel)
theorem mw119 : Cond.fieldLink "BellSchool" 38 "BellSchool" "noon" "LBellSchool$Noon;" ∈ TB := tb_in (lw_i2 153 (by decide +kernel)) (by decide +kernel)
theorem mw120 : Cond.methodLink "BellSchool" 259 ⟨"BellSchool$Noon", "settle", "(LBellSchool$Valley;)V"⟩ ∈ TB := tb_in (lw_i2 140 (by decide +kernel)) (by decide +kernel)
theorem mw121 : Cond.fieldLink "BellSchool" 67 "BellSchool" "search" "LBellSchool$Search;" ∈ TB := tb_in (lw_i2 158 (by decide +kernel)) (by decide +kernel)
theorem mw122 : Cond.fieldLink "BellSchool" 262 "BellSchool$Search" "known" "Z" ∈ TB := tb_in (lw_i1 219 (by decide +kernel)) (by decide +kernel)
theorem mw123 : Cond.fieldLink "BellSchool" 45 "BellSchool" "now" "LBellSchool$Standing;" ∈ TB := tb_in (lw_i2 154 (by decide +kernel)) (by decide +kernel)
theorem mw124 : Cond.methodLink "BellSchool" 266 ⟨"BellSchool$Standing", "begin", "(I)V"⟩ ∈ TB := tb_in (lw_i2 145 (by decide +kernel)) (by decide +kernel)
theorem mw125 : Cond.fieldLink "BellSchool" 57 "BellSchool" "undoable" "LBellSchool$Shelf;" ∈ TB := tb_in (lw_i2 156 (by decide +kernel)) (by decide +kernel)
theorem mw126 : Cond.fieldLink "BellSchool" 190 "BellSchool$Shelf" "size" "I" ∈ TB := tb_in (lw_i1 192 (by decide +kernel)) (by decide +kernel)
theorem mw127 : Cond.fieldLink "BellSchool" 61 "BellSchool" "kept" "LBellSchool$Shelf;" ∈ TB := tb_in (lw_i2 157 (by decide +kernel)) (by decide +kernel)
theorem mw128 : Cond.fieldLink "BellSchool" 85 "BellSchool" "seen" "I" ∈ TB := tb_in (lw_i2 162 (by decide +kernel)) (by decide +kernel)
theorem mw129 : Cond.code ⟨"BellSchool", "layText", "()Z"⟩ prog_1_method_30_code 2 (some .boolean) ∈ TB := tb_in (lw_i2 77 (by decide +kernel)) (by decide +kernel)
theorem mw130 : Cond.instanceMethod ⟨"BellSchool", "layText", "()Z"⟩ ∈ TB := tb_in (lw_i2 76 (by decide +kernel)) (by decide +kernel)
theorem mw131 : Cond.selects "BellSchool" ⟨"BellSchool", "layText", "()Z"⟩ ⟨"BellSchool", "layText", "()Z"⟩ ∈ TB := tb_in (lw_s 0 (by decide +kernel)) (by decide +kernel)
theorem mw132 : Cond.methodLink "BellSchool" 105 ⟨"BellSchool", "layText", "()Z"⟩ ∈ TB := tb_in (lw_i2 74 (by decide +kernel)) (by decide +kernel)
theorem mw133 : Cond.fieldLink "BellSchool" 115 "BellSchool$Valley" "homes" "I" ∈ TB := tb_in (lw_i1 45 (by decide +kernel)) (by decide +kernel)
theorem mw134 : Cond.code ⟨"BellSchool", "lay", "()I"⟩ prog_1_method_5_code 1 (some .int) ∈ TB := tb_in (lw_i2 208 (by decide +kernel)) (by decide +kernel)
theorem mw135 : Cond.instanceMethod ⟨"BellSchool", "lay", "()I"⟩ ∈ TB := tb_in (lw_i2 206 (by decide +kernel)) (by decide +kernel)
theorem mw136 : Cond.selects "BellSchool" ⟨"BellSchool", "lay", "()I"⟩ ⟨"BellSchool", "lay", "()I"⟩ ∈ TB := tb_in (lw_i2 207 (by decide +kernel)) (by decide +kernel)
theorem mw137 : Cond.fieldLink "BellSchool" 122 "BellSchool$Valley" "kind" "[I" ∈ TB := tb_in (lw_i1 33 (by decide +kernel)) (by decide +kernel)
theorem mw138 : Cond.fieldLink "BellSchool" 125 "BellSchool$Valley" "late" "[I" ∈ TB := tb_in (lw_i1 36 (by decide +kernel)) (by decide +kernel)
theorem mw139 : Cond.fieldLink "BellSchool" 128 "BellSchool$Standing" "bell" "I" ∈ TB := tb_in (lw_i1 146 (by decide +kernel)) (by decide +kernel)
theorem mw140 : Cond.fieldLink "BellSchool" 131 "BellSchool$Standing" "had" "I" ∈ TB := tb_in (lw_i1 158 (by decide +kernel)) (by decide +kernel)
theorem mw141 : Cond.fieldLink "BellSchool" 134 "BellSchool$Standing" "soups" "[I" ∈ TB := tb_in (lw_i1 136 (by decide +kernel)) (by decide +kernel)
theorem mw142 : Cond.fieldLink "BellSchool" 137 "BellSchool$Standing" "sick" "I" ∈ TB := tb_in (lw_i1 154 (by decide +kernel)) (by decide +kernel)
theorem mw143 : Cond.fieldLink "BellSchool" 140 "BellSchool$Standing" "held" "I" ∈ TB := tb_in (lw_i1 151 (by decide +kernel)) (by decide +kernel)
theorem mw144 : Cond.code ⟨"BellSchool", "home", "(II)I"⟩ prog_1_method_6_code 3 (some .int) ∈ TB := tb_in (lw_i2 212 (by decide +kernel)) (by decide +kernel)
theorem mw145 : Cond.instanceMethod ⟨"BellSchool", "home", "(II)I"⟩ ∈ TB := tb_in (lw_i2 210 (by decide +kernel)) (by decide +kernel)
theorem mw146 : Cond.selects "BellSchool" ⟨"BellSchool", "home", "(II)I"⟩ ⟨"BellSchool", "home", "(II)I"⟩ ∈ TB := tb_in (lw_i2 211 (by decide +kernel)) (by decide +kernel)
theorem mw147 : Cond.code ⟨"BellSchool$Valley", "canBeGone", "(IIJ)Z"⟩ prog_9_method_11_code 6 (some .boolean) ∈ TB := tb_in (lw_i2 222 (by decide +kernel)) (by decide +kernel)
theorem mw148 : Cond.instanceMethod ⟨"BellSchool$Valley", "canBeGone", "(IIJ)Z"⟩ ∈ TB := tb_in (lw_i2 220 (by decide +kernel)) (by decide +kernel)
theorem mw149 : Cond.selects "BellSchool$Valley" ⟨"BellSchool$Valley", "canBeGone", "(IIJ)Z"⟩ ⟨"BellSchool$Valley", "canBeGone", "(IIJ)Z"⟩ ∈ TB := tb_in (lw_i2 221 (by decide +kernel)) (by decide +kernel)
theorem mw150 : Cond.methodLink "BellSchool" 143 ⟨"BellSchool$Valley", "hasTwo", "(II)Z"⟩ ∈ TB := tb_in (lw_i2 217 (by decide +kernel)) (by decide +kernel)
theorem mw151 : Cond.methodLink "BellSchool" 147 ⟨"BellSchool", "pairOf", "(II)I"⟩ ∈ TB := tb_in (lw_i2 218 (by decide +kernel)) (by decide +kernel)
theorem mw152 : Cond.fieldLink "BellSchool" 151 "BellSchool$Valley" "minutes" "[I" ∈ TB := tb_in (lw_i1 40 (by decide +kernel)) (by decide +kernel)
theorem mw153 : Cond.fieldLink "BellSchool" 154 "BellSchool$Standing" "day" "I" ∈ TB := tb_in (lw_i1 141 (by decide +kernel)) (by decide +kernel)
theorem mw154 : Cond.fieldLink "BellSchool" 157 "BellSchool$Standing" "shut" "J" ∈ TB := tb_in (lw_i1 161 (by decide +kernel)) (by decide +kernel)
theorem mw155 : Cond.methodLink "BellSchool" 161 ⟨"BellSchool$Valley", "canBeGone", "(IIJ)Z"⟩ ∈ TB := tb_in (lw_i2 219 (by decide +kernel)) (by decide +kernel)
theorem mw156 : Cond.code ⟨"BellSchool", "way", "(III)I"⟩ prog_1_method_7_code 5 (some .int) ∈ TB := tb_in (lw_i2 216 (by decide +kernel)) (by decide +kernel)
theorem mw157 : Cond.instanceMethod ⟨"BellSchool", "way", "(III)I"⟩ ∈ TB := tb_in (lw_i2 214 (by decide +kernel)) (by decide +kernel)
theorem mw158 : Cond.selects "BellSchool" ⟨"BellSchool", "way", "(III)I"⟩ ⟨"BellSchool", "way", "(III)I"⟩ ∈ TB := tb_in (lw_i2 215 (by decide +kernel)) (by decide +kernel)
theorem mw159 : Cond.fieldLink "BellSchool$Noon" 9 "BellSchool$Noon" "fars" "[I" ∈ TB := tb_in (lw_i1 104 (by decide +kernel)) (by decide +kernel)
theorem mw160 : Cond.fieldLink "BellSchool$Noon" 35 "BellSchool$Valley" "homes" "I" ∈ TB := tb_in (lw_i1 44 (by decide +kernel)) (by decide +kernel)
theorem mw161 : Cond.methodLink "BellSchool$Noon" 60 Lib.Math.min.name ∈ TB := tb_in (lw_i3 2 (by decide +kernel)) (by decide +kernel)
theorem mw162 : Cond.code ⟨"BellSchool$Noon", "shortenBy", "(III)V"⟩ prog_3_method_6_code 8 none ∈ TB := tb_in (lw_i3 1 (by decide +kernel)) (by decide +kernel)
theorem mw163 : Cond.instanceMethod ⟨"BellSchool$Noon", "shortenBy", "(III)V"⟩ ∈ TB := tb_in (lw_i3 0 (by decide +kernel)) (by decide +kernel)
theorem mw164 : Cond.selects "BellSchool$Noon" ⟨"BellSchool$Noon", "shortenBy", "(III)V"⟩ ⟨"BellSchool$Noon", "shortenBy", "(III)V"⟩ ∈ TB := tb_in (lw_s 4 (by decide +kernel)) (by decide +kernel)
theorem mw165 : Cond.methodLink "BellSchool$Noon" 56 ⟨"BellSchool$Noon", "shortenBy", "(III)V"⟩ ∈ TB := tb_in (lw_i2 238 (by decide +kernel)) (by decide +kernel)
theorem mw166 : Cond.methodLink "BellSchool$Noon" 49 ⟨"BellSchool$Valley", "canBeGone", "(IIJ)Z"⟩ ∈ TB := tb_in (lw_i2 236 (by decide +kernel)) (by decide +kernel)
theorem mw167 : Cond.constant "BellSchool$Noon" 44 (1000000 : Int32) ∈ TB := tb_in (lw_i2 237 (by decide +kernel)) (by decide +kernel)
theorem mw168 : Cond.fieldLink "BellSchool$Noon" 53 "BellSchool$Valley" "minutes" "[I" ∈ TB := tb_in (lw_i1 39 (by decide +kernel)) (by decide +kernel)
theorem mw169 : Cond.code ⟨"BellSchool$Noon", "readyFars", "(IJ)I"⟩ prog_3_method_5_code 10 (some .int) ∈ TB := tb_in (lw_i2 234 (by decide +kernel)) (by decide +kernel)
theorem mw170 : Cond.instanceMethod ⟨"BellSchool$Noon", "readyFars", "(IJ)I"⟩ ∈ TB := tb_in (lw_i2 233 (by decide +kernel)) (by decide +kernel)
theorem mw171 : Cond.selects "BellSchool$Noon" ⟨"BellSchool$Noon", "readyFars", "(IJ)I"⟩ ⟨"BellSchool$Noon", "readyFars", "(IJ)I"⟩ ∈ TB := tb_in (lw_s 3 (by decide +kernel)) (by decide +kernel)
theorem mw172 : Cond.methodLink "BellSchool$Noon" 40 ⟨"BellSchool$Noon", "readyFars", "(IJ)I"⟩ ∈ TB := tb_in (lw_i2 231 (by decide +kernel)) (by decide +kernel)
theorem mw173 : Cond.code ⟨"BellSchool$Noon", "farOn", "(IJII)I"⟩ prog_3_method_4_code 7 (some .int) ∈ TB := tb_in (lw_i2 230 (by decide +kernel)) (by decide +kernel)
theorem mw174 : Cond.instanceMethod ⟨"BellSchool$Noon", "farOn", "(IJII)I"⟩ ∈ TB := tb_in (lw_i2 228 (by decide +kernel)) (by decide +kernel)
theorem mw175 : Cond.selects "BellSchool$Noon" ⟨"BellSchool$Noon", "farOn", "(IJII)I"⟩ ⟨"BellSchool$Noon", "farOn", "(IJII)I"⟩ ∈ TB := tb_in (lw_i2 229 (by decide +kernel)) (by decide +kernel)
theorem mw176 : Cond.methodLink "BellSchool" 165 ⟨"BellSchool$Noon", "farOn", "(IJII)I"⟩ ∈ TB := tb_in (lw_i2 227 (by decide +kernel)) (by decide +kernel)
theorem mw177 : Cond.code ⟨"BellSchool", "far", "(II)I"⟩ prog_1_method_8_code 3 (some .int) ∈ TB := tb_in (lw_i2 226 (by decide +kernel)) (by decide +kernel)
theorem mw178 : Cond.instanceMethod ⟨"BellSchool", "far", "(II)I"⟩ ∈ TB := tb_in (lw_i2 224 (by decide +kernel)) (by decide +kernel)
theorem mw179 : Cond.selects "BellSchool" ⟨"BellSchool", "far", "(II)I"⟩ ⟨"BellSchool", "far", "(II)I"⟩ ∈ TB := tb_in (lw_i2 225 (by decide +kernel)) (by decide +kernel)
theorem mw180 : Cond.code ⟨"BellSchool$Noon", "walk", "(II)I"⟩ prog_3_method_8_code 2 (some .int) ∈ TB := tb_in (lw_i3 17 (by decide +kernel)) (by decide +kernel)
theorem mw181 : Cond.static ⟨"BellSchool$Noon", "walk", "(II)I"⟩ ∈ TB := tb_in (lw_i3 16 (by decide +kernel)) (by decide +kernel)
theorem mw182 : Cond.fieldLink "BellSchool$Noon" 65 "BellSchool$Standing" "sick" "I" ∈ TB := tb_in (lw_i1 155 (by decide +kernel)) (by decide +kernel)
theorem mw183 : Cond.fieldLink "BellSchool$Noon" 70 "BellSchool$Standing" "held" "I" ∈ TB := tb_in (lw_i1 152 (by decide +kernel)) (by decide +kernel)
theorem mw184 : Cond.fieldLink "BellSchool$Noon" 73 "BellSchool$Standing" "bell" "I" ∈ TB := tb_in (lw_i1 147 (by decide +kernel)) (by decide +kernel)
theorem mw185 : Cond.fieldLink "BellSchool$Noon" 76 "BellSchool$Valley" "farthest" "I" ∈ TB := tb_in (lw_i1 49 (by decide +kernel)) (by decide +kernel)
theorem mw186 : Cond.fieldLink "BellSchool$Noon" 79 "BellSchool$Valley" "kind" "[I" ∈ TB := tb_in (lw_i1 34 (by decide +kernel)) (by decide +kernel)
theorem mw187 : Cond.methodLink "BellSchool$Noon" 82 ⟨"BellSchool$Noon", "walk", "(II)I"⟩ ∈ TB := tb_in (lw_i3 15 (by decide +kernel)) (by decide +kernel)
theorem mw188 : Cond.fieldLink "BellSchool$Noon" 85 "BellSchool$Valley" "late" "[I" ∈ TB := tb_in (lw_i1 37 (by decide +kernel)) (by decide +kernel)
theorem mw189 : Cond.code ⟨"BellSchool$Noon", "timeOf", "(LBellSchool$Standing;II)I"⟩ prog_3_method_7_code 7 (some .int) ∈ TB := tb_in (lw_i3 14 (by decide +kernel)) (by decide +kernel)
theorem mw190 : Cond.instanceMethod ⟨"BellSchool$Noon", "timeOf", "(LBellSchool$Standing;II)I"⟩ ∈ TB := tb_in (lw_i3 13 (by decide +kernel)) (by decide +kernel)
theorem mw191 : Cond.selects "BellSchool$Noon" ⟨"BellSchool$Noon", "timeOf", "(LBellSchool$Standing;II)I"⟩ ⟨"BellSchool$Noon", "timeOf", "(LBellSchool$Standing;II)I"⟩ ∈ TB := tb_in (lw_s 5 (by decide +kernel)) (by decide +kernel)
theorem mw192 : Cond.fieldLink "BellSchool$Noon" 22 "BellSchool$Noon" "latest" "I" ∈ TB := tb_in (lw_i1 110 (by decide +kernel)) (by decide +kernel)
theorem mw193 : Cond.fieldLink "BellSchool$Noon" 26 "BellSchool$Noon" "comers" "I" ∈ TB := tb_in (lw_i1 113 (by decide +kernel)) (by decide +kernel)
theorem mw194 : Cond.fieldLink "BellSchool$Noon" 88 "BellSchool$Standing" "day" "I" ∈ TB := tb_in (lw_i1 142 (by decide +kernel)) (by decide +kernel)
theorem mw195 : Cond.fieldLink "BellSchool$Noon" 91 "BellSchool$Standing" "shut" "J" ∈ TB := tb_in (lw_i1 162 (by decide +kernel)) (by decide +kernel)
theorem mw196 : Cond.fieldLink "BellSchool$Noon" 19 "BellSchool$Noon" "times" "[I" ∈ TB := tb_in (lw_i1 107 (by decide +kernel)) (by decide +kernel)
theorem mw197 : Cond.methodLink "BellSchool$Noon" 95 ⟨"BellSchool$Noon", "timeOf", "(LBellSchool$Standing;II)I"⟩ ∈ TB := tb_in (lw_i3 11 (by decide +kernel)) (by decide +kernel)
theorem mw198 : Cond.code ⟨"BellSchool$Noon", "gather", "(LBellSchool$Standing;)V"⟩ prog_3_method_9_code 4 none ∈ TB := tb_in (lw_i3 10 (by decide +kernel)) (by decide +kernel)
theorem mw199 : Cond.instanceMethod ⟨"BellSchool$Noon", "gather", "(LBellSchool$Standing;)V"⟩ ∈ TB := tb_in (lw_i3 8 (by decide +kernel)) (by decide +kernel)
theorem mw200 : Cond.selects "BellSchool$Noon" ⟨"BellSchool$Noon", "gather", "(LBellSchool$Standing;)V"⟩ ⟨"BellSchool$Noon", "gather", "(LBellSchool$Standing;)V"⟩ ∈ TB := tb_in (lw_i3 9 (by decide +kernel)) (by decide +kernel)
theorem mw201 : Cond.methodLink "BellSchool" 169 ⟨"BellSchool$Noon", "gather", "(LBellSchool$Standing;)V"⟩ ∈ TB := tb_in (lw_i3 7 (by decide +kernel)) (by decide +kernel)
theorem mw202 : Cond.fieldLink "BellSchool" 173 "BellSchool$Noon" "times" "[I" ∈ TB := tb_in (lw_i1 109 (by decide +kernel)) (by decide +kernel)
theorem mw203 : Cond.code ⟨"BellSchool", "comes", "(I)I"⟩ prog_1_method_9_code 2 (some .int) ∈ TB := tb_in (lw_i3 6 (by decide +kernel)) (by decide +kernel)
theorem mw204 : Cond.instanceMethod ⟨"BellSchool", "comes", "(I)I"⟩ ∈ TB := tb_in (lw_i3 4 (by decide +kernel)) (by decide +kernel)
theorem mw205 : Cond.selects "BellSchool" ⟨"BellSchool", "comes", "(I)I"⟩ ⟨"BellSchool", "comes", "(I)I"⟩ ∈ TB := tb_in (lw_i3 5 (by decide +kernel)) (by decide +kernel)
theorem mw206 : Cond.fieldLink "BellSchool" 176 "BellSchool$Noon" "latest" "I" ∈ TB := tb_in (lw_i1 112 (by decide +kernel)) (by decide +kernel)
theorem mw207 : Cond.code ⟨"BellSchool", "last", "()I"⟩ prog_1_method_10_code 1 (some .int) ∈ TB := tb_in (lw_i3 21 (by decide +kernel)) (by decide +kernel)
theorem mw208 : Cond.instanceMethod ⟨"BellSchool", "last", "()I"⟩ ∈ TB := tb_in (lw_i3 19 (by decide +kernel)) (by decide +kernel)
theorem mw209 : Cond.selects "BellSchool" ⟨"BellSchool", "last", "()I"⟩ ⟨"BellSchool", "last", "()I"⟩ ∈ TB := tb_in (lw_i3 20 (by decide +kernel)) (by decide +kernel)
theorem mw210 : Cond.code ⟨"BellSchool$Standing", "copy", "(LBellSchool$Standing;)V"⟩ prog_7_method_3_code 3 none ∈ TB := tb_in (lw_i3 37 (by decide +kernel)) (by decide +kernel)
theorem mw211 : Cond.instanceMethod ⟨"BellSchool$Standing", "copy", "(LBellSchool$Standing;)V"⟩ ∈ TB := tb_in (lw_i3 35 (by decide +kernel)) (by decide +kernel)
theorem mw212 : Cond.selects "BellSchool$Standing" ⟨"BellSchool$Standing", "copy", "(LBellSchool$Standing;)V"⟩ ⟨"BellSchool$Standing", "copy", "(LBellSchool$Standing;)V"⟩ ∈ TB := tb_in (lw_i3 36 (by decide +kernel)) (by decide +kernel)
theorem mw213 : Cond.fieldLink "BellSchool$Shelf" 7 "BellSchool$Shelf" "size" "I" ∈ TB := tb_in (lw_i1 191 (by decide +kernel)) (by decide +kernel)
theorem mw214 : Cond.fieldLink "BellSchool$Shelf" 21 "BellSchool$Shelf" "rows" "[LBellSchool$Standing;" ∈ TB := tb_in (lw_i1 190 (by decide +kernel)) (by decide +kernel)
theorem mw215 : Cond.methodLink "BellSchool$Shelf" 26 ⟨"BellSchool$Standing", "copy", "(LBellSchool$Standing;)V"⟩ ∈ TB := tb_in (lw_i3 34 (by decide +kernel)) (by decide +kernel)
theorem mw216 : Cond.code ⟨"BellSchool$Shelf", "put", "(LBellSchool$Standing;)Z"⟩ prog_6_method_2_code 2 (some .boolean) ∈ TB := tb_in (lw_i3 33 (by decide +kernel)) (by decide +kernel)
theorem mw217 : Cond.initialized "BellSchool$Shelf" ∈ TB := tb_in (lw_i1 7 (by decide +kernel)) (by decide +kernel)
theorem mw218 : Cond.instanceMethod ⟨"BellSchool$Shelf", "put", "(LBellSchool$Standing;)Z"⟩ ∈ TB := tb_in (lw_i3 31 (by decide +kernel)) (by decide +kernel)
theorem mw219 : Cond.selects "BellSchool$Shelf" ⟨"BellSchool$Shelf", "put", "(LBellSchool$Standing;)Z"⟩ ⟨"BellSchool$Shelf", "put", "(LBellSchool$Standing;)Z"⟩ ∈ TB := tb_in (lw_i3 32 (by decide +kernel)) (by decide +kernel)
theorem mw220 : Cond.methodLink "BellSchool$Shelf" 30 ⟨"BellSchool$Shelf", "put", "(LBellSchool$Standing;)Z"⟩ ∈ TB := tb_in (lw_i3 30 (by decide +kernel)) (by decide +kernel)
theorem mw221 : Cond.code ⟨"BellSchool$Shelf", "putDroppingOldest", "(LBellSchool$Standing;)V"⟩ prog_6_method_3_code 4 none ∈ TB := tb_in (lw_i3 29 (by decide +kernel)) (by decide +kernel)
theorem mw222 : Cond.instanceMethod ⟨"BellSchool$Shelf", "putDroppingOldest", "(LBellSchool$Standing;)V"⟩ ∈ TB := tb_in (lw_i3 27 (by decide +kernel)) (by decide +kernel)
theorem mw223 : Cond.selects "BellSchool$Shelf" ⟨"BellSchool$Shelf", "putDroppingOldest", "(LBellSchool$Standing;)V"⟩ ⟨"BellSchool$Shelf", "putDroppingOldest", "(LBellSchool$Standing;)V"⟩ ∈ TB := tb_in (lw_i3 28 (by decide +kernel)) (by decide +kernel)
theorem mw224 : Cond.methodLink "BellSchool$Noon" 99 ⟨"BellSchool$Noon", "gather", "(LBellSchool$Standing;)V"⟩ ∈ TB := tb_in (lw_i3 46 (by decide +kernel)) (by decide +kernel)
theorem mw225 : Cond.fieldLink "BellSchool$Noon" 103 "BellSchool$Standing" "soups" "[I" ∈ TB := tb_in (lw_i1 137 (by decide +kernel)) (by decide +kernel)
theorem mw226 : Cond.fieldLink "BellSchool$Noon" 106 "BellSchool$Standing" "had" "I" ∈ TB := tb_in (lw_i1 159 (by decide +kernel)) (by decide +kernel)
theorem mw227 : Cond.code ⟨"BellSchool$Noon", "goBy", "(LBellSchool$Standing;)V"⟩ prog_3_method_10_code 2 none ∈ TB := tb_in (lw_i3 45 (by decide +kernel)) (by decide +kernel)
theorem mw228 : Cond.instanceMethod ⟨"BellSchool$Noon", "goBy", "(LBellSchool$Standing;)V"⟩ ∈ TB := tb_in (lw_i3 43 (by decide +kernel)) (by decide +kernel)
theorem mw229 : Cond.selects "BellSchool$Noon" ⟨"BellSchool$Noon", "goBy", "(LBellSchool$Standing;)V"⟩ ⟨"BellSchool$Noon", "goBy", "(LBellSchool$Standing;)V"⟩ ∈ TB := tb_in (lw_i3 44 (by decide +kernel)) (by decide +kernel)
theorem mw230 : Cond.methodLink "BellSchool" 196 ⟨"BellSchool$Noon", "goBy", "(LBellSchool$Standing;)V"⟩ ∈ TB := tb_in (lw_i3 42 (by decide +kernel)) (by decide +kernel)
theorem mw231 : Cond.code ⟨"BellSchool", "goBy", "(LBellSchool$Standing;I)V"⟩ prog_1_method_31_code 4 none ∈ TB := tb_in (lw_i3 41 (by decide +kernel)) (by decide +kernel)
theorem mw232 : Cond.instanceMethod ⟨"BellSchool", "goBy", "(LBellSchool$Standing;I)V"⟩ ∈ TB := tb_in (lw_i3 40 (by decide +kernel)) (by decide +kernel)
theorem mw233 : Cond.selects "BellSchool" ⟨"BellSchool", "goBy", "(LBellSchool$Standing;I)V"⟩ ⟨"BellSchool", "goBy", "(LBellSchool$Standing;I)V"⟩ ∈ TB := tb_in (lw_s 6 (by decide +kernel)) (by decide +kernel)
theorem mw234 : Cond.methodLink "BellSchool" 179 ⟨"BellSchool$Shelf", "putDroppingOldest", "(LBellSchool$Standing;)V"⟩ ∈ TB := tb_in (lw_i3 26 (by decide +kernel)) (by decide +kernel)
theorem mw235 : Cond.methodLink "BellSchool" 182 ⟨"BellSchool", "goBy", "(LBellSchool$Standing;I)V"⟩ ∈ TB := tb_in (lw_i3 38 (by decide +kernel)) (by decide +kernel)
theorem mw236 : Cond.code ⟨"BellSchool", "pass", "(I)I"⟩ prog_1_method_11_code 2 (some .int) ∈ TB := tb_in (lw_i3 25 (by decide +kernel)) (by decide +kernel)
theorem mw237 : Cond.instanceMethod ⟨"BellSchool", "pass", "(I)I"⟩ ∈ TB := tb_in (lw_i3 23 (by decide +kernel)) (by decide +kernel)
theorem mw238 : Cond.selects "BellSchool" ⟨"BellSchool", "pass", "(I)I"⟩ ⟨"BellSchool", "pass", "(I)I"⟩ ∈ TB := tb_in (lw_i3 24 (by decide +kernel)) (by decide +kernel)
theorem mw239 : Cond.code ⟨"BellSchool", "keepBack", "(I)I"⟩ prog_1_method_12_code 2 (some .int) ∈ TB := tb_in (lw_i3 50 (by decide +kernel)) (by decide +kernel)
theorem mw240 : Cond.instanceMethod ⟨"BellSchool", "keepBack", "(I)I"⟩ ∈ TB := tb_in (lw_i3 48 (by decide +kernel)) (by decide +kernel)
theorem mw241 : Cond.selects "BellSchool" ⟨"BellSchool", "keepBack", "(I)I"⟩ ⟨"BellSchool", "keepBack", "(I)I"⟩ ∈ TB := tb_in (lw_i3 49 (by decide +kernel)) (by decide +kernel)
theorem mw242 : Cond.code ⟨"BellSchool", "sick", "(I)I"⟩ prog_1_method_13_code 2 (some .int) ∈ TB := tb_in (lw_i3 54 (by decide +kernel)) (by decide +kernel)
theorem mw243 : Cond.instanceMethod ⟨"BellSchool", "sick", "(I)I"⟩ ∈ TB := tb_in (lw_i3 52 (by decide +kernel)) (by decide +kernel)
theorem mw244 : Cond.selects "BellSchool" ⟨"BellSchool", "sick", "(I)I"⟩ ⟨"BellSchool", "sick", "(I)I"⟩ ∈ TB := tb_in (lw_i3 53 (by decide +kernel)) (by decide +kernel)
theorem mw245 : Cond.code ⟨"BellSchool", "shut", "(II)I"⟩ prog_1_method_14_code 4 (some .int) ∈ TB := tb_in (lw_i3 58 (by decide +kernel)) (by decide +kernel)
theorem mw246 : Cond.instanceMethod ⟨"BellSchool", "shut", "(II)I"⟩ ∈ TB := tb_in (lw_i3 56 (by decide +kernel)) (by decide +kernel)
theorem mw247 : Cond.selects "BellSchool" ⟨"BellSchool", "shut", "(II)I"⟩ ⟨"BellSchool", "shut", "(II)I"⟩ ∈ TB := tb_in (lw_i3 57 (by decide +kernel)) (by decide +kernel)
theorem mw248 : Cond.code ⟨"BellSchool$Shelf", "takeInto", "(LBellSchool$Standing;)Z"⟩ prog_6_method_4_code 2 (some .boolean) ∈ TB := tb_in (lw_i3 66 (by decide +kernel)) (by decide +kernel)
theorem mw249 : Cond.instanceMethod ⟨"BellSchool$Shelf", "takeInto", "(LBellSchool$Standing;)Z"⟩ ∈ TB := tb_in (lw_i3 64 (by decide +kernel)) (by decide +kernel)
theorem mw250 : Cond.selects "BellSchool$Shelf" ⟨"BellSchool$Shelf", "takeInto", "(LBellSchool$Standing;)Z"⟩ ⟨"BellSchool$Shelf", "takeInto", "(LBellSchool$Standing;)Z"⟩ ∈ TB := tb_in (lw_i3 65 (by decide +kernel)) (by decide +kernel)
theorem mw251 : Cond.methodLink "BellSchool" 186 ⟨"BellSchool$Shelf", "takeInto", "(LBellSchool$Standing;)Z"⟩ ∈ TB := tb_in (lw_i3 63 (by decide +kernel)) (by decide +kernel)
theorem mw252 : Cond.code ⟨"BellSchool", "undo", "()I"⟩ prog_1_method_15_code 1 (some .int) ∈ TB := tb_in (lw_i3 62 (by decide +kernel)) (by decide +kernel)
theorem mw253 : Cond.instanceMethod ⟨"BellSchool", "undo", "()I"⟩ ∈ TB := tb_in (lw_i3 60 (by decide +kernel)) (by decide +kernel)
theorem mw254 : Cond.selects "BellSchool" ⟨"BellSchool", "undo", "()I"⟩ ⟨"BellSchool", "undo", "()I"⟩ ∈ TB := tb_in (lw_i3 61 (by decide +kernel)) (by decide +kernel)
theorem mw255 : Cond.fieldLink "BellSchool" 49 "BellSchool" "dream" "LBellSchool$Standing;" ∈ TB := tb_in (lw_i2 155 (by decide +kernel)) (by decide +kernel)
theorem mw256 : Cond.methodLink "BellSchool" 193 ⟨"BellSchool$Standing", "copy", "(LBellSchool$Standing;)V"⟩ ∈ TB := tb_in (lw_i3 71 (by decide +kernel)) (by decide +kernel)
theorem mw257 : Cond.code ⟨"BellSchool", "behind", "(I)I"⟩ prog_1_method_16_code 2 (some .int) ∈ TB := tb_in (lw_i3 70 (by decide +kernel)) (by decide +kernel)
theorem mw258 : Cond.instanceMethod ⟨"BellSchool", "behind", "(I)I"⟩ ∈ TB := tb_in (lw_i3 68 (by decide +kernel)) (by decide +kernel)
theorem mw259 : Cond.selects "BellSchool" ⟨"BellSchool", "behind", "(I)I"⟩ ⟨"BellSchool", "behind", "(I)I"⟩ ∈ TB := tb_in (lw_i3 69 (by decide +kernel)) (by decide +kernel)
theorem mw260 : Cond.code ⟨"BellSchool", "again", "()I"⟩ prog_1_method_17_code 2 (some .int) ∈ TB := tb_in (lw_i3 75 (by decide +kernel)) (by decide +kernel)
theorem mw261 : Cond.instanceMethod ⟨"BellSchool", "again", "()I"⟩ ∈ TB := tb_in (lw_i3 73 (by decide +kernel)) (by decide +kernel)
theorem mw262 : Cond.selects "BellSchool" ⟨"BellSchool", "again", "()I"⟩ ⟨"BellSchool", "again", "()I"⟩ ∈ TB := tb_in (lw_i3 74 (by decide +kernel)) (by decide +kernel)
theorem mw263 : Cond.code ⟨"BellSchool$Standing", "isLike", "(LBellSchool$Standing;)Z"⟩ prog_7_method_4_code 2 (some .boolean) ∈ TB := tb_in (lw_i3 87 (by decide +kernel)) (by decide +kernel)
theorem mw264 : Cond.instanceMethod ⟨"BellSchool$Standing", "isLike", "(LBellSchool$Standing;)Z"⟩ ∈ TB := tb_in (lw_i3 85 (by decide +kernel)) (by decide +kernel)
theorem mw265 : Cond.selects "BellSchool$Standing" ⟨"BellSchool$Standing", "isLike", "(LBellSchool$Standing;)Z"⟩ ⟨"BellSchool$Standing", "isLike", "(LBellSchool$Standing;)Z"⟩ ∈ TB := tb_in (lw_i3 86 (by decide +kernel)) (by decide +kernel)
theorem mw266 : Cond.code ⟨"BellSchool$Noon", "homes", "()I"⟩ prog_3_method_3_code 1 (some .int) ∈ TB := tb_in (lw_i3 91 (by decide +kernel)) (by decide +kernel)
theorem mw267 : Cond.instanceMethod ⟨"BellSchool$Noon", "homes", "()I"⟩ ∈ TB := tb_in (lw_i3 89 (by decide +kernel)) (by decide +kernel)
theorem mw268 : Cond.selects "BellSchool$Noon" ⟨"BellSchool$Noon", "homes", "()I"⟩ ⟨"BellSchool$Noon", "homes", "()I"⟩ ∈ TB := tb_in (lw_i3 90 (by decide +kernel)) (by decide +kernel)
theorem mw269 : Cond.fieldLink "BellSchool$Search" 39 "BellSchool$Search" "whole" "I" ∈ TB := tb_in (lw_i1 213 (by decide +kernel)) (by decide +kernel)
theorem mw270 : Cond.fieldLink "BellSchool$Search" 35 "BellSchool$Search" "homes" "I" ∈ TB := tb_in (lw_i1 212 (by decide +kernel)) (by decide +kernel)
theorem mw271 : Cond.fieldLink "BellSchool$Search" 22 "BellSchool$Search" "numbers" "[I" ∈ TB := tb_in (lw_i1 209 (by decide +kernel)) (by decide +kernel)
theorem mw272 : Cond.fieldLink "BellSchool$Search" 28 "BellSchool$Search" "asked" "LBellSchool$Standing;" ∈ TB := tb_in (lw_i1 210 (by decide +kernel)) (by decide +kernel)
theorem mw273 : Cond.fieldLink "BellSchool$Search" 92 "BellSchool$Standing" "had" "I" ∈ TB := tb_in (lw_i1 157 (by decide +kernel)) (by decide +kernel)
theorem mw274 : Cond.fieldLink "BellSchool$Search" 95 "BellSchool$Search" "HOLDING" "[J" ∈ TB := tb_in (lw_i3 101 (by decide +kernel)) (by decide +kernel)
theorem mw275 : Cond.code ⟨"BellSchool$Search", "numberMissing", "()V"⟩ prog_5_method_4_code 4 none ∈ TB := tb_in (lw_i3 100 (by decide +kernel)) (by decide +kernel)
theorem mw276 : Cond.initialized "BellSchool$Search" ∈ TB := tb_in (lw_i1 9 (by decide +kernel)) (by decide +kernel)
theorem mw277 : Cond.instanceMethod ⟨"BellSchool$Search", "numberMissing", "()V"⟩ ∈ TB := tb_in (lw_i3 99 (by decide +kernel)) (by decide +kernel)
theorem mw278 : Cond.selects "BellSchool$Search" ⟨"BellSchool$Search", "numberMissing", "()V"⟩ ⟨"BellSchool$Search", "numberMissing", "()V"⟩ ∈ TB := tb_in (lw_s 8 (by decide +kernel)) (by decide +kernel)
theorem mw279 : Cond.fieldLink "BellSchool$Search" 48 "BellSchool$Search" "known" "Z" ∈ TB := tb_in (lw_i1 218 (by decide +kernel)) (by decide +kernel)
theorem mw280 : Cond.methodLink "BellSchool$Search" 79 ⟨"BellSchool$Standing", "copy", "(LBellSchool$Standing;)V"⟩ ∈ TB := tb_in (lw_i3 96 (by decide +kernel)) (by decide +kernel)
theorem mw281 : Cond.fieldLink "BellSchool$Search" 32 "BellSchool$Search" "dream" "LBellSchool$Standing;" ∈ TB := tb_in (lw_i1 211 (by decide +kernel)) (by decide +kernel)
theorem mw282 : Cond.fieldLink "BellSchool$Search" 83 "BellSchool$Standing" "held" "I" ∈ TB := tb_in (lw_i1 150 (by decide +kernel)) (by decide +kernel)
theorem mw283 : Cond.methodLink "BellSchool$Search" 86 ⟨"BellSchool$Search", "numberMissing", "()V"⟩ ∈ TB := tb_in (lw_i3 97 (by decide +kernel)) (by decide +kernel)
theorem mw284 : Cond.fieldLink "BellSchool$Search" 9 "BellSchool$Search" "reached" "[J" ∈ TB := tb_in (lw_i1 206 (by decide +kernel)) (by decide +kernel)
theorem mw285 : Cond.fieldLink "BellSchool$Search" 89 "BellSchool$Standing" "bell" "I" ∈ TB := tb_in (lw_i1 145 (by decide +kernel)) (by decide +kernel)
theorem mw286 : Cond.code ⟨"BellSchool$Search", "begin", "(LBellSchool$Standing;I)V"⟩ prog_5_method_3_code 4 none ∈ TB := tb_in (lw_i3 95 (by decide +kernel)) (by decide +kernel)
theorem mw287 : Cond.instanceMethod ⟨"BellSchool$Search", "begin", "(LBellSchool$Standing;I)V"⟩ ∈ TB := tb_in (lw_i3 94 (by decide +kernel)) (by decide +kernel)
theorem mw288 : Cond.selects "BellSchool$Search" ⟨"BellSchool$Search", "begin", "(LBellSchool$Standing;I)V"⟩ ⟨"BellSchool$Search", "begin", "(LBellSchool$Standing;I)V"⟩ ∈ TB := tb_in (lw_s 7 (by decide +kernel)) (by decide +kernel)
theorem mw289 : Cond.code ⟨"BellSchool$Search", "isWholeBy", "(I)Z"⟩ prog_5_method_5_code 3 (some .boolean) ∈ TB := tb_in (lw_i3 106 (by decide +kernel)) (by decide +kernel)
theorem mw290 : Cond.instanceMethod ⟨"BellSchool$Search", "isWholeBy", "(I)Z"⟩ ∈ TB := tb_in (lw_i3 105 (by decide +kernel)) (by decide +kernel)
theorem mw291 : Cond.selects "BellSchool$Search" ⟨"BellSchool$Search", "isWholeBy", "(I)Z"⟩ ⟨"BellSchool$Search", "isWholeBy", "(I)Z"⟩ ∈ TB := tb_in (lw_s 9 (by decide +kernel)) (by decide +kernel)
theorem mw292 : Cond.code ⟨"BellSchool$Noon", "latestHolding", "(I)I"⟩ prog_3_method_11_code 4 (some .int) ∈ TB := tb_in (lw_i3 115 (by decide +kernel)) (by decide +kernel)
theorem mw293 : Cond.instanceMethod ⟨"BellSchool$Noon", "latestHolding", "(I)I"⟩ ∈ TB := tb_in (lw_i3 113 (by decide +kernel)) (by decide +kernel)
theorem mw294 : Cond.selects "BellSchool$Noon" ⟨"BellSchool$Noon", "latestHolding", "(I)I"⟩ ⟨"BellSchool$Noon", "latestHolding", "(I)I"⟩ ∈ TB := tb_in (lw_i3 114 (by decide +kernel)) (by decide +kernel)
theorem mw295 : Cond.code ⟨"BellSchool$Search", "placeOf", "(III)I"⟩ prog_5_method_7_code 3 (some .int) ∈ TB := tb_in (lw_i3 118 (by decide +kernel)) (by decide +kernel)
theorem mw296 : Cond.static ⟨"BellSchool$Search", "placeOf", "(III)I"⟩ ∈ TB := tb_in (lw_i3 117 (by decide +kernel)) (by decide +kernel)
theorem mw297 : Cond.constantLong "BellSchool$Search" 119 (-1 : Int64) ∈ TB := tb_in (lw_i3 122 (by decide +kernel)) (by decide +kernel)
theorem mw298 : Cond.code ⟨"BellSchool$Search", "joined", "(JI)J"⟩ prog_5_method_8_code 5 (some .long) ∈ TB := tb_in (lw_i3 121 (by decide +kernel)) (by decide +kernel)
theorem mw299 : Cond.static ⟨"BellSchool$Search", "joined", "(JI)J"⟩ ∈ TB := tb_in (lw_i3 120 (by decide +kernel)) (by decide +kernel)
theorem mw300 : Cond.fieldLink "BellSchool$Search" 98 "BellSchool$Standing" "day" "I" ∈ TB := tb_in (lw_i1 140 (by decide +kernel)) (by decide +kernel)
theorem mw301 : Cond.methodLink "BellSchool$Search" 101 ⟨"BellSchool$Noon", "gather", "(LBellSchool$Standing;)V"⟩ ∈ TB := tb_in (lw_i3 111 (by decide +kernel)) (by decide +kernel)
theorem mw302 : Cond.methodLink "BellSchool$Search" 107 ⟨"BellSchool$Noon", "latestHolding", "(I)I"⟩ ∈ TB := tb_in (lw_i3 112 (by decide +kernel)) (by decide +kernel)
theorem mw303 : Cond.fieldLink "BellSchool$Search" 18 "BellSchool$Search" "next" "[I" ∈ TB := tb_in (lw_i1 208 (by decide +kernel)) (by decide +kernel)
theorem mw304 : Cond.methodLink "BellSchool$Search" 111 ⟨"BellSchool$Search", "placeOf", "(III)I"⟩ ∈ TB := tb_in (lw_i3 116 (by decide +kernel)) (by decide +kernel)
theorem mw305 : Cond.methodLink "BellSchool$Search" 115 ⟨"BellSchool$Search", "joined", "(JI)J"⟩ ∈ TB := tb_in (lw_i3 119 (by decide +kernel)) (by decide +kernel)
theorem mw306 : Cond.fieldLink "BellSchool$Search" 104 "BellSchool$Noon" "latest" "I" ∈ TB := tb_in (lw_i1 111 (by decide +kernel)) (by decide +kernel)
theorem mw307 : Cond.code ⟨"BellSchool$Search", "spread", "(LBellSchool$Noon;I)V"⟩ prog_5_method_6_code 9 none ∈ TB := tb_in (lw_i3 110 (by decide +kernel)) (by decide +kernel)
theorem mw308 : Cond.instanceMethod ⟨"BellSchool$Search", "spread", "(LBellSchool$Noon;I)V"⟩ ∈ TB := tb_in (lw_i3 109 (by decide +kernel)) (by decide +kernel)
theorem mw309 : Cond.selects "BellSchool$Search" ⟨"BellSchool$Search", "spread", "(LBellSchool$Noon;I)V"⟩ ⟨"BellSchool$Search", "spread", "(LBellSchool$Noon;I)V"⟩ ∈ TB := tb_in (lw_s 10 (by decide +kernel)) (by decide +kernel)
theorem mw310 : Cond.code ⟨"BellSchool$Search", "before", "(JI)J"⟩ prog_5_method_9_code 5 (some .long) ∈ TB := tb_in (lw_i3 133 (by decide +kernel)) (by decide +kernel)
theorem mw311 : Cond.static ⟨"BellSchool$Search", "before", "(JI)J"⟩ ∈ TB := tb_in (lw_i3 132 (by decide +kernel)) (by decide +kernel)
theorem mw312 : Cond.fieldLink "BellSchool$Search" 15 "BellSchool$Search" "hopeful" "[J" ∈ TB := tb_in (lw_i1 207 (by decide +kernel)) (by decide +kernel)
theorem mw313 : Cond.methodLink "BellSchool$Search" 125 ⟨"BellSchool$Search", "before", "(JI)J"⟩ ∈ TB := tb_in (lw_i3 131 (by decide +kernel)) (by decide +kernel)
theorem mw314 : Cond.code ⟨"BellSchool$Search", "hopesFrom", "(II)J"⟩ prog_5_method_11_code 7 (some .long) ∈ TB := tb_in (lw_i3 130 (by decide +kernel)) (by decide +kernel)
theorem mw315 : Cond.instanceMethod ⟨"BellSchool$Search", "hopesFrom", "(II)J"⟩ ∈ TB := tb_in (lw_i3 129 (by decide +kernel)) (by decide +kernel)
theorem mw316 : Cond.selects "BellSchool$Search" ⟨"BellSchool$Search", "hopesFrom", "(II)J"⟩ ⟨"BellSchool$Search", "hopesFrom", "(II)J"⟩ ∈ TB := tb_in (lw_s 12 (by decide +kernel)) (by decide +kernel)
theorem mw317 : Cond.fieldLink "BellSchool$Search" 45 "BellSchool$Search" "days" "I" ∈ TB := tb_in (lw_i1 216 (by decide +kernel)) (by decide +kernel)
theorem mw318 : Cond.methodLink "BellSchool$Search" 121 ⟨"BellSchool$Search", "hopesFrom", "(II)J"⟩ ∈ TB := tb_in (lw_i3 127 (by decide +kernel)) (by decide +kernel)
theorem mw319 : Cond.code ⟨"BellSchool$Search", "findHopeful", "()V"⟩ prog_5_method_10_code 3 none ∈ TB := tb_in (lw_i3 126 (by decide +kernel)) (by decide +kernel)
theorem mw320 : Cond.instanceMethod ⟨"BellSchool$Search", "findHopeful", "()V"⟩ ∈ TB := tb_in (lw_i3 125 (by decide +kernel)) (by decide +kernel)
theorem mw321 : Cond.selects "BellSchool$Search" ⟨"BellSchool$Search", "findHopeful", "()V"⟩ ⟨"BellSchool$Search", "findHopeful", "()V"⟩ ∈ TB := tb_in (lw_s 11 (by decide +kernel)) (by decide +kernel)
theorem mw322 : Cond.code ⟨"BellSchool$Search", "firstHopeful", "(IIJ)I"⟩ prog_5_method_13_code 7 (some .int) ∈ TB := tb_in (lw_i3 141 (by decide +kernel)) (by decide +kernel)
theorem mw323 : Cond.instanceMethod ⟨"BellSchool$Search", "firstHopeful", "(IIJ)I"⟩ ∈ TB := tb_in (lw_i3 140 (by decide +kernel)) (by decide +kernel)
theorem mw324 : Cond.selects "BellSchool$Search" ⟨"BellSchool$Search", "firstHopeful", "(IIJ)I"⟩ ⟨"BellSchool$Search", "firstHopeful", "(IIJ)I"⟩ ∈ TB := tb_in (lw_s 14 (by decide +kernel)) (by decide +kernel)
theorem mw325 : Cond.methodLink "BellSchool$Search" 128 ⟨"BellSchool$Search", "firstHopeful", "(IIJ)I"⟩ ∈ TB := tb_in (lw_i3 138 (by decide +kernel)) (by decide +kernel)
theorem mw326 : Cond.fieldLink "BellSchool$Search" 42 "BellSchool$Search" "row" "[I" ∈ TB := tb_in (lw_i1 214 (by decide +kernel)) (by decide +kernel)
theorem mw327 : Cond.code ⟨"BellSchool$Search", "findRow", "()V"⟩ prog_5_method_12_code 6 none ∈ TB := tb_in (lw_i3 137 (by decide +kernel)) (by decide +kernel)
theorem mw328 : Cond.instanceMethod ⟨"BellSchool$Search", "findRow", "()V"⟩ ∈ TB := tb_in (lw_i3 136 (by decide +kernel)) (by decide +kernel)
theorem mw329 : Cond.selects "BellSchool$Search" ⟨"BellSchool$Search", "findRow", "()V"⟩ ⟨"BellSchool$Search", "findRow", "()V"⟩ ∈ TB := tb_in (lw_s 13 (by decide +kernel)) (by decide +kernel)
theorem mw330 : Cond.methodLink "BellSchool$Search" 56 ⟨"BellSchool$Noon", "homes", "()I"⟩ ∈ TB := tb_in (lw_i3 88 (by decide +kernel)) (by decide +kernel)
theorem mw331 : Cond.methodLink "BellSchool$Search" 61 ⟨"BellSchool$Search", "begin", "(LBellSchool$Standing;I)V"⟩ ∈ TB := tb_in (lw_i3 92 (by decide +kernel)) (by decide +kernel)
theorem mw332 : Cond.methodLink "BellSchool$Search" 65 ⟨"BellSchool$Search", "isWholeBy", "(I)Z"⟩ ∈ TB := tb_in (lw_i3 103 (by decide +kernel)) (by decide +kernel)
theorem mw333 : Cond.methodLink "BellSchool$Search" 73 ⟨"BellSchool$Search", "findHopeful", "()V"⟩ ∈ TB := tb_in (lw_i3 123 (by decide +kernel)) (by decide +kernel)
theorem mw334 : Cond.methodLink "BellSchool$Search" 76 ⟨"BellSchool$Search", "findRow", "()V"⟩ ∈ TB := tb_in (lw_i3 134 (by decide +kernel)) (by decide +kernel)
theorem mw335 : Cond.methodLink "BellSchool$Search" 69 ⟨"BellSchool$Search", "spread", "(LBellSchool$Noon;I)V"⟩ ∈ TB := tb_in (lw_i3 107 (by decide +kernel)) (by decide +kernel)
theorem mw336 : Cond.methodLink "BellSchool$Search" 52 ⟨"BellSchool$Standing", "isLike", "(LBellSchool$Standing;)Z"⟩ ∈ TB := tb_in (lw_i3 84 (by decide +kernel)) (by decide +kernel)
theorem mw337 : Cond.code ⟨"BellSchool$Search", "search", "(LBellSchool$Noon;LBellSchool$Standing;)V"⟩ prog_5_method_2_code 4 none ∈ TB := tb_in (lw_i3 83 (by decide +kernel)) (by decide +kernel)
theorem mw338 : Cond.instanceMethod ⟨"BellSchool$Search", "search", "(LBellSchool$Noon;LBellSchool$Standing;)V"⟩ ∈ TB := tb_in (lw_i3 81 (by decide +kernel)) (by decide +kernel)
theorem mw339 : Cond.selects "BellSchool$Search" ⟨"BellSchool$Search", "search", "(LBellSchool$Noon;LBellSchool$Standing;)V"⟩ ⟨"BellSchool$Search", "search", "(LBellSchool$Noon;LBellSchool$Standing;)V"⟩ ∈ TB := tb_in (lw_i3 82 (by decide +kernel)) (by decide +kernel)
theorem mw340 : Cond.methodLink "BellSchool" 198 ⟨"BellSchool$Search", "search", "(LBellSchool$Noon;LBellSchool$Standing;)V"⟩ ∈ TB := tb_in (lw_i3 80 (by decide +kernel)) (by decide +kernel)
theorem mw341 : Cond.fieldLink "BellSchool" 201 "BellSchool$Search" "days" "I" ∈ TB := tb_in (lw_i1 217 (by decide +kernel)) (by decide +kernel)
theorem mw342 : Cond.fieldLink "BellSchool" 204 "BellSchool$Search" "row" "[I" ∈ TB := tb_in (lw_i1 215 (by decide +kernel)) (by decide +kernel)
theorem mw343 : Cond.code ⟨"BellSchool", "each", "(I)I"⟩ prog_1_method_18_code 2 (some .int) ∈ TB := tb_in (lw_i3 79 (by decide +kernel)) (by decide +kernel)
theorem mw344 : Cond.instanceMethod ⟨"BellSchool", "each", "(I)I"⟩ ∈ TB := tb_in (lw_i3 77 (by decide +kernel)) (by decide +kernel)
theorem mw345 : Cond.selects "BellSchool" ⟨"BellSchool", "each", "(I)I"⟩ ⟨"BellSchool", "each", "(I)I"⟩ ∈ TB := tb_in (lw_i3 78 (by decide +kernel)) (by decide +kernel)
theorem mw346 : Cond.code ⟨"BellSchool", "allBits", "()I"⟩ prog_1_method_32_code 1 (some .int) ∈ TB := tb_in (lw_i3 149 (by decide +kernel)) (by decide +kernel)
theorem mw347 : Cond.instanceMethod ⟨"BellSchool", "allBits", "()I"⟩ ∈ TB := tb_in (lw_i3 148 (by decide +kernel)) (by decide +kernel)
theorem mw348 : Cond.selects "BellSchool" ⟨"BellSchool", "allBits", "()I"⟩ ⟨"BellSchool", "allBits", "()I"⟩ ∈ TB := tb_in (lw_s 15 (by decide +kernel)) (by decide +kernel)
theorem mw349 : Cond.methodLink "BellSchool" 207 ⟨"BellSchool", "allBits", "()I"⟩ ∈ TB := tb_in (lw_i3 146 (by decide +kernel)) (by decide +kernel)
theorem mw350 : Cond.code ⟨"BellSchool", "always", "()I"⟩ prog_1_method_19_code 3 (some .int) ∈ TB := tb_in (lw_i3 145 (by decide +kernel)) (by decide +kernel)
theorem mw351 : Cond.instanceMethod ⟨"BellSchool", "always", "()I"⟩ ∈ TB := tb_in (lw_i3 143 (by decide +kernel)) (by decide +kernel)
theorem mw352 : Cond.selects "BellSchool" ⟨"BellSchool", "always", "()I"⟩ ⟨"BellSchool", "always", "()I"⟩ ∈ TB := tb_in (lw_i3 144 (by decide +kernel)) (by decide +kernel)
theorem mw353 : Cond.code ⟨"BellSchool", "never", "()I"⟩ prog_1_method_20_code 3 (some .int) ∈ TB := tb_in (lw_i3 153 (by decide +kernel)) (by decide +kernel)
theorem mw354 : Cond.instanceMethod ⟨"BellSchool", "never", "()I"⟩ ∈ TB := tb_in (lw_i3 151 (by decide +kernel)) (by decide +kernel)
theorem mw355 : Cond.selects "BellSchool" ⟨"BellSchool", "never", "()I"⟩ ⟨"BellSchool", "never", "()I"⟩ ∈ TB := tb_in (lw_i3 152 (by decide +kernel)) (by decide +kernel)
theorem mw356 : Cond.fieldLink "BellSchool" 78 "BellSchool" "seenHome" "[I" ∈ TB := tb_in (lw_i2 160 (by decide +kernel)) (by decide +kernel)
theorem mw357 : Cond.fieldLink "BellSchool" 82 "BellSchool" "seenDays" "[I" ∈ TB := tb_in (lw_i2 161 (by decide +kernel)) (by decide +kernel)
theorem mw358 : Cond.code ⟨"BellSchool", "see", "(II)I"⟩ prog_1_method_21_code 3 (some .int) ∈ TB := tb_in (lw_i3 157 (by decide +kernel)) (by decide +kernel)
theorem mw359 : Cond.instanceMethod ⟨"BellSchool", "see", "(II)I"⟩ ∈ TB := tb_in (lw_i3 155 (by decide +kernel)) (by decide +kernel)
theorem mw360 : Cond.selects "BellSchool" ⟨"BellSchool", "see", "(II)I"⟩ ⟨"BellSchool", "see", "(II)I"⟩ ∈ TB := tb_in (lw_i3 156 (by decide +kernel)) (by decide +kernel)
theorem mw361 : Cond.code ⟨"BellSchool", "forget", "()I"⟩ prog_1_method_22_code 2 (some .int) ∈ TB := tb_in (lw_i3 161 (by decide +kernel)) (by decide +kernel)
theorem mw362 : Cond.instanceMethod ⟨"BellSchool", "forget", "()I"⟩ ∈ TB := tb_in (lw_i3 159 (by decide +kernel)) (by decide +kernel)
theorem mw363 : Cond.selects "BellSchool" ⟨"BellSchool", "forget", "()I"⟩ ⟨"BellSchool", "forget", "()I"⟩ ∈ TB := tb_in (lw_i3 160 (by decide +kernel)) (by decide +kernel)
theorem mw364 : Cond.code ⟨"BellSchool", "farthestSeen", "()I"⟩ prog_1_method_34_code 3 (some .int) ∈ TB := tb_in (lw_i3 173 (by decide +kernel)) (by decide +kernel)
theorem mw365 : Cond.instanceMethod ⟨"BellSchool", "farthestSeen", "()I"⟩ ∈ TB := tb_in (lw_i3 172 (by decide +kernel)) (by decide +kernel)
theorem mw366 : Cond.selects "BellSchool" ⟨"BellSchool", "farthestSeen", "()I"⟩ ⟨"BellSchool", "farthestSeen", "()I"⟩ ∈ TB := tb_in (lw_s 17 (by decide +kernel)) (by decide +kernel)
theorem mw367 : Cond.code ⟨"BellSchool", "isSeenAt", "(II)Z"⟩ prog_1_method_35_code 4 (some .boolean) ∈ TB := tb_in (lw_i3 177 (by decide +kernel)) (by decide +kernel)
theorem mw368 : Cond.instanceMethod ⟨"BellSchool", "isSeenAt", "(II)Z"⟩ ∈ TB := tb_in (lw_i3 176 (by decide +kernel)) (by decide +kernel)
theorem mw369 : Cond.selects "BellSchool" ⟨"BellSchool", "isSeenAt", "(II)Z"⟩ ⟨"BellSchool", "isSeenAt", "(II)Z"⟩ ∈ TB := tb_in (lw_s 18 (by decide +kernel)) (by decide +kernel)
theorem mw370 : Cond.methodLink "BellSchool" 269 ⟨"BellSchool", "farthestSeen", "()I"⟩ ∈ TB := tb_in (lw_i3 170 (by decide +kernel)) (by decide +kernel)
theorem mw371 : Cond.methodLink "BellSchool" 272 ⟨"BellSchool", "isSeenAt", "(II)Z"⟩ ∈ TB := tb_in (lw_i3 174 (by decide +kernel)) (by decide +kernel)
theorem mw372 : Cond.code ⟨"BellSchool", "fitsSeen", "(II)Z"⟩ prog_1_method_33_code 5 (some .boolean) ∈ TB := tb_in (lw_i3 169 (by decide +kernel)) (by decide +kernel)
theorem mw373 : Cond.instanceMethod ⟨"BellSchool", "fitsSeen", "(II)Z"⟩ ∈ TB := tb_in (lw_i3 168 (by decide +kernel)) (by decide +kernel)
theorem mw374 : Cond.selects "BellSchool" ⟨"BellSchool", "fitsSeen", "(II)Z"⟩ ⟨"BellSchool", "fitsSeen", "(II)Z"⟩ ∈ TB := tb_in (lw_s 16 (by decide +kernel)) (by decide +kernel)
theorem mw375 : Cond.methodLink "BellSchool" 210 ⟨"BellSchool", "fitsSeen", "(II)Z"⟩ ∈ TB := tb_in (lw_i3 166 (by decide +kernel)) (by decide +kernel)
theorem mw376 : Cond.code ⟨"BellSchool", "fog", "()I"⟩ prog_1_method_23_code 3 (some .int) ∈ TB := tb_in (lw_i3 165 (by decide +kernel)) (by decide +kernel)
theorem mw377 : Cond.instanceMethod ⟨"BellSchool", "fog", "()I"⟩ ∈ TB := tb_in (lw_i3 163 (by decide +kernel)) (by decide +kernel)
theorem mw378 : Cond.selects "BellSchool" ⟨"BellSchool", "fog", "()I"⟩ ⟨"BellSchool", "fog", "()I"⟩ ∈ TB := tb_in (lw_i3 164 (by decide +kernel)) (by decide +kernel)
theorem mw379 : Cond.code ⟨"BellSchool", "tripped", "()I"⟩ prog_1_method_24_code 3 (some .int) ∈ TB := tb_in (lw_i3 181 (by decide +kernel)) (by decide +kernel)
theorem mw380 : Cond.instanceMethod ⟨"BellSchool", "tripped", "()I"⟩ ∈ TB := tb_in (lw_i3 179 (by decide +kernel)) (by decide +kernel)
theorem mw381 : Cond.selects "BellSchool" ⟨"BellSchool", "tripped", "()I"⟩ ⟨"BellSchool", "tripped", "()I"⟩ ∈ TB := tb_in (lw_i3 180 (by decide +kernel)) (by decide +kernel)
theorem mw382 : Cond.code ⟨"BellSchool$Measles", "power", "(II)J"⟩ prog_2_method_5_code 5 (some .long) ∈ TB := tb_in (lw_i3 203 (by decide +kernel)) (by decide +kernel)
theorem mw383 : Cond.initialized "BellSchool$Measles" ∈ TB := tb_in (lw_i1 10 (by decide +kernel)) (by decide +kernel)
theorem mw384 : Cond.static ⟨"BellSchool$Measles", "power", "(II)J"⟩ ∈ TB := tb_in (lw_i3 202 (by decide +kernel)) (by decide +kernel)
theorem mw385 : Cond.code ⟨"BellSchool$Noon", "laterThan", "(I)I"⟩ prog_3_method_12_code 4 (some .int) ∈ TB := tb_in (lw_i3 207 (by decide +kernel)) (by decide +kernel)
theorem mw386 : Cond.instanceMethod ⟨"BellSchool$Noon", "laterThan", "(I)I"⟩ ∈ TB := tb_in (lw_i3 205 (by decide +kernel)) (by decide +kernel)
theorem mw387 : Cond.selects "BellSchool$Noon" ⟨"BellSchool$Noon", "laterThan", "(I)I"⟩ ⟨"BellSchool$Noon", "laterThan", "(I)I"⟩ ∈ TB := tb_in (lw_i3 206 (by decide +kernel)) (by decide +kernel)
theorem mw388 : Cond.methodLink "BellSchool$Measles" 38 ⟨"BellSchool$Noon", "homes", "()I"⟩ ∈ TB := tb_in (lw_i3 195 (by decide +kernel)) (by decide +kernel)
theorem mw389 : Cond.fieldLink "BellSchool$Measles" 15 "BellSchool$Measles" "then" "[J" ∈ TB := tb_in (lw_i2 11 (by decide +kernel)) (by decide +kernel)
theorem mw390 : Cond.fieldLink "BellSchool$Measles" 9 "BellSchool$Measles" "chance" "[J" ∈ TB := tb_in (lw_i2 9 (by decide +kernel)) (by decide +kernel)
theorem mw391 : Cond.fieldLink "BellSchool$Measles" 56 "BellSchool$Noon" "comers" "I" ∈ TB := tb_in (lw_i1 114 (by decide +kernel)) (by decide +kernel)
theorem mw392 : Cond.methodLink "BellSchool$Measles" 52 ⟨"BellSchool$Measles", "power", "(II)J"⟩ ∈ TB := tb_in (lw_i3 201 (by decide +kernel)) (by decide +kernel)
theorem mw393 : Cond.fieldLink "BellSchool$Measles" 59 "BellSchool$Noon" "times" "[I" ∈ TB := tb_in (lw_i1 108 (by decide +kernel)) (by decide +kernel)
theorem mw394 : Cond.methodLink "BellSchool$Measles" 63 ⟨"BellSchool$Noon", "laterThan", "(I)I"⟩ ∈ TB := tb_in (lw_i3 204 (by decide +kernel)) (by decide +kernel)
theorem mw395 : Cond.code ⟨"BellSchool$Measles", "spreadFrom", "(ILBellSchool$Noon;I)V"⟩ prog_2_method_4_code 9 none ∈ TB := tb_in (lw_i3 200 (by decide +kernel)) (by decide +kernel)
theorem mw396 : Cond.instanceMethod ⟨"BellSchool$Measles", "spreadFrom", "(ILBellSchool$Noon;I)V"⟩ ∈ TB := tb_in (lw_i3 199 (by decide +kernel)) (by decide +kernel)
theorem mw397 : Cond.selects "BellSchool$Measles" ⟨"BellSchool$Measles", "spreadFrom", "(ILBellSchool$Noon;I)V"⟩ ⟨"BellSchool$Measles", "spreadFrom", "(ILBellSchool$Noon;I)V"⟩ ∈ TB := tb_in (lw_s 20 (by decide +kernel)) (by decide +kernel)
theorem mw398 : Cond.fieldLink "BellSchool$Measles" 18 "BellSchool$Measles" "below" "J" ∈ TB := tb_in (lw_i2 12 (by decide +kernel)) (by decide +kernel)
theorem mw399 : Cond.fieldLink "BellSchool$Measles" 22 "BellSchool$Standing" "bell" "I" ∈ TB := tb_in (lw_i1 144 (by decide +kernel)) (by decide +kernel)
theorem mw400 : Cond.methodLink "BellSchool$Measles" 44 ⟨"BellSchool$Noon", "gather", "(LBellSchool$Standing;)V"⟩ ∈ TB := tb_in (lw_i3 196 (by decide +kernel)) (by decide +kernel)
theorem mw401 : Cond.methodLink "BellSchool$Measles" 48 ⟨"BellSchool$Measles", "spreadFrom", "(ILBellSchool$Noon;I)V"⟩ ∈ TB := tb_in (lw_i3 197 (by decide +kernel)) (by decide +kernel)
theorem mw402 : Cond.code ⟨"BellSchool$Measles", "spread", "(LBellSchool$Noon;LBellSchool$Standing;I)V"⟩ prog_2_method_3_code 5 none ∈ TB := tb_in (lw_i3 194 (by decide +kernel)) (by decide +kernel)
theorem mw403 : Cond.instanceMethod ⟨"BellSchool$Measles", "spread", "(LBellSchool$Noon;LBellSchool$Standing;I)V"⟩ ∈ TB := tb_in (lw_i3 193 (by decide +kernel)) (by decide +kernel)
theorem mw404 : Cond.selects "BellSchool$Measles" ⟨"BellSchool$Measles", "spread", "(LBellSchool$Noon;LBellSchool$Standing;I)V"⟩ ⟨"BellSchool$Measles", "spread", "(LBellSchool$Noon;LBellSchool$Standing;I)V"⟩ ∈ TB := tb_in (lw_s 19 (by decide +kernel)) (by decide +kernel)
theorem mw405 : Cond.methodLink "BellSchool$Measles" 28 ⟨"BellSchool$Measles", "spread", "(LBellSchool$Noon;LBellSchool$Standing;I)V"⟩ ∈ TB := tb_in (lw_i3 191 (by decide +kernel)) (by decide +kernel)
theorem mw406 : Cond.fieldLink "BellSchool$Measles" 32 "BellSchool$Standing" "held" "I" ∈ TB := tb_in (lw_i1 149 (by decide +kernel)) (by decide +kernel)
theorem mw407 : Cond.fieldLink "BellSchool$Measles" 35 "BellSchool$Standing" "day" "I" ∈ TB := tb_in (lw_i1 139 (by decide +kernel)) (by decide +kernel)
theorem mw408 : Cond.code ⟨"BellSchool$Measles", "reckon", "(LBellSchool$Noon;LBellSchool$Standing;II)V"⟩ prog_2_method_2_code 6 none ∈ TB := tb_in (lw_i3 190 (by decide +kernel)) (by decide +kernel)
theorem mw409 : Cond.instanceMethod ⟨"BellSchool$Measles", "reckon", "(LBellSchool$Noon;LBellSchool$Standing;II)V"⟩ ∈ TB := tb_in (lw_i3 188 (by decide +kernel)) (by decide +kernel)
theorem mw410 : Cond.selects "BellSchool$Measles" ⟨"BellSchool$Measles", "reckon", "(LBellSchool$Noon;LBellSchool$Standing;II)V"⟩ ⟨"BellSchool$Measles", "reckon", "(LBellSchool$Noon;LBellSchool$Standing;II)V"⟩ ∈ TB := tb_in (lw_i3 189 (by decide +kernel)) (by decide +kernel)
theorem mw411 : Cond.code ⟨"BellSchool", "commonDivisor", "(JJ)J"⟩ prog_1_method_38_code 11 (some .long) ∈ TB := tb_in (lw_i3 210 (by decide +kernel)) (by decide +kernel)
theorem mw412 : Cond.static ⟨"BellSchool", "commonDivisor", "(JJ)J"⟩ ∈ TB := tb_in (lw_i3 209 (by decide +kernel)) (by decide +kernel)
theorem mw413 : Cond.constantLong "BellSchool" 213 (-1 : Int64) ∈ TB := tb_in (lw_i3 186 (by decide +kernel)) (by decide +kernel)
theorem mw414 : Cond.fieldLink "BellSchool" 74 "BellSchool" "chances" "LBellSchool$Measles;" ∈ TB := tb_in (lw_i2 159 (by decide +kernel)) (by decide +kernel)
theorem mw415 : Cond.methodLink "BellSchool" 215 ⟨"BellSchool$Measles", "reckon", "(LBellSchool$Noon;LBellSchool$Standing;II)V"⟩ ∈ TB := tb_in (lw_i3 187 (by decide +kernel)) (by decide +kernel)
theorem mw416 : Cond.fieldLink "BellSchool" 219 "BellSchool$Measles" "chance" "[J" ∈ TB := tb_in (lw_i2 10 (by decide +kernel)) (by decide +kernel)
theorem mw417 : Cond.fieldLink "BellSchool" 223 "BellSchool$Measles" "below" "J" ∈ TB := tb_in (lw_i2 13 (by decide +kernel)) (by decide +kernel)
theorem mw418 : Cond.methodLink "BellSchool" 226 ⟨"BellSchool", "commonDivisor", "(JJ)J"⟩ ∈ TB := tb_in (lw_i3 208 (by decide +kernel)) (by decide +kernel)
theorem mw419 : Cond.methodLink "BellSchool" 230 Lib.MathLoose.max_long.x ∈ TB := tb_in (lw_i3 211 (by decide +kernel)) (by decide +kernel)
theorem mw420 : Cond.static Lib.MathLoose.max_long.x ∈ TB := tb_in (lw_i3 212 (by decide +kernel)) (by decide +kernel)
theorem mw421 : Cond.code Lib.MathLoose.max_long.x Lib.MathLoose.max_long.code 4 (some .long) ∈ TB := tb_in (lw_i3 213 (by decide +kernel)) (by decide +kernel)
theorem mw422 : Cond.code ⟨"BellSchool", "measles", "(IIII)J"⟩ prog_1_method_25_code 9 (some .long) ∈ TB := tb_in (lw_i3 185 (by decide +kernel)) (by decide +kernel)
theorem mw423 : Cond.instanceMethod ⟨"BellSchool", "measles", "(IIII)J"⟩ ∈ TB := tb_in (lw_i3 183 (by decide +kernel)) (by decide +kernel)
theorem mw424 : Cond.selects "BellSchool" ⟨"BellSchool", "measles", "(IIII)J"⟩ ⟨"BellSchool", "measles", "(IIII)J"⟩ ∈ TB := tb_in (lw_i3 184 (by decide +kernel)) (by decide +kernel)
theorem mw425 : Cond.constantLong "BellSchool" 277 (7919 : Int64) ∈ TB := tb_in (lw_i3 222 (by decide +kernel)) (by decide +kernel)
theorem mw426 : Cond.constantLong "BellSchool" 279 (6151 : Int64) ∈ TB := tb_in (lw_i3 223 (by decide +kernel)) (by decide +kernel)
theorem mw427 : Cond.constantLong "BellSchool" 281 (65521 : Int64) ∈ TB := tb_in (lw_i3 224 (by decide +kernel)) (by decide +kernel)
theorem mw428 : Cond.constantLong "BellSchool" 283 (2 : Int64) ∈ TB := tb_in (lw_i3 225 (by decide +kernel)) (by decide +kernel)
theorem mw429 : Cond.constantLong "BellSchool" 285 (8 : Int64) ∈ TB := tb_in (lw_i3 226 (by decide +kernel)) (by decide +kernel)
theorem mw430 : Cond.code ⟨"BellSchool", "drawnOn", "(II)I"⟩ prog_1_method_36_code 7 (some .int) ∈ TB := tb_in (lw_i3 221 (by decide +kernel)) (by decide +kernel)
theorem mw431 : Cond.instanceMethod ⟨"BellSchool", "drawnOn", "(II)I"⟩ ∈ TB := tb_in (lw_i3 220 (by decide +kernel)) (by decide +kernel)
theorem mw432 : Cond.selects "BellSchool" ⟨"BellSchool", "drawnOn", "(II)I"⟩ ⟨"BellSchool", "drawnOn", "(II)I"⟩ ∈ TB := tb_in (lw_s 21 (by decide +kernel)) (by decide +kernel)
theorem mw433 : Cond.code ⟨"BellSchool$Standing", "soupsInAll", "()I"⟩ prog_7_method_5_code 3 (some .int) ∈ TB := tb_in (lw_i3 230 (by decide +kernel)) (by decide +kernel)
theorem mw434 : Cond.instanceMethod ⟨"BellSchool$Standing", "soupsInAll", "()I"⟩ ∈ TB := tb_in (lw_i3 228 (by decide +kernel)) (by decide +kernel)
theorem mw435 : Cond.selects "BellSchool$Standing" ⟨"BellSchool$Standing", "soupsInAll", "()I"⟩ ⟨"BellSchool$Standing", "soupsInAll", "()I"⟩ ∈ TB := tb_in (lw_i3 229 (by decide +kernel)) (by decide +kernel)
theorem mw436 : Cond.methodLink "BellSchool" 238 ⟨"BellSchool$Standing", "soupsInAll", "()I"⟩ ∈ TB := tb_in (lw_i3 227 (by decide +kernel)) (by decide +kernel)
theorem mw437 : Cond.methodLink "BellSchool" 235 ⟨"BellSchool", "drawnOn", "(II)I"⟩ ∈ TB := tb_in (lw_i3 218 (by decide +kernel)) (by decide +kernel)
theorem mw438 : Cond.code ⟨"BellSchool", "year", "(III)I"⟩ prog_1_method_26_code 5 (some .int) ∈ TB := tb_in (lw_i3 217 (by decide +kernel)) (by decide +kernel)
theorem mw439 : Cond.instanceMethod ⟨"BellSchool", "year", "(III)I"⟩ ∈ TB := tb_in (lw_i3 215 (by decide +kernel)) (by decide +kernel)
theorem mw440 : Cond.selects "BellSchool" ⟨"BellSchool", "year", "(III)I"⟩ ⟨"BellSchool", "year", "(III)I"⟩ ∈ TB := tb_in (lw_i3 216 (by decide +kernel)) (by decide +kernel)
theorem mw441 : Cond.methodLink "BellSchool" 241 ⟨"BellSchool$Shelf", "put", "(LBellSchool$Standing;)Z"⟩ ∈ TB := tb_in (lw_i3 235 (by decide +kernel)) (by decide +kernel)
theorem mw442 : Cond.code ⟨"BellSchool", "keep", "()I"⟩ prog_1_method_27_code 1 (some .int) ∈ TB := tb_in (lw_i3 234 (by decide +kernel)) (by decide +kernel)
theorem mw443 : Cond.instanceMethod ⟨"BellSchool", "keep", "()I"⟩ ∈ TB := tb_in (lw_i3 232 (by decide +kernel)) (by decide +kernel)
theorem mw444 : Cond.selects "BellSchool" ⟨"BellSchool", "keep", "()I"⟩ ⟨"BellSchool", "keep", "()I"⟩ ∈ TB := tb_in (lw_i3 233 (by decide +kernel)) (by decide +kernel)
theorem mw445 : Cond.code ⟨"BellSchool", "back", "()I"⟩ prog_1_method_28_code 1 (some .int) ∈ TB := tb_in (lw_i3 239 (by decide +kernel)) (by decide +kernel)
theorem mw446 : Cond.instanceMethod ⟨"BellSchool", "back", "()I"⟩ ∈ TB := tb_in (lw_i3 237 (by decide +kernel)) (by decide +kernel)
theorem mw447 : Cond.selects "BellSchool" ⟨"BellSchool", "back", "()I"⟩ ⟨"BellSchool", "back", "()I"⟩ ∈ TB := tb_in (lw_i3 238 (by decide +kernel)) (by decide +kernel)
theorem mw448 : Cond.code ⟨"BellSchool$Valley", "ways", "()I"⟩ prog_9_method_10_code 3 (some .int) ∈ TB := tb_in (lw_i4 7 (by decide +kernel)) (by decide +kernel)
theorem mw449 : Cond.instanceMethod ⟨"BellSchool$Valley", "ways", "()I"⟩ ∈ TB := tb_in (lw_i4 5 (by decide +kernel)) (by decide +kernel)
theorem mw450 : Cond.selects "BellSchool$Valley" ⟨"BellSchool$Valley", "ways", "()I"⟩ ⟨"BellSchool$Valley", "ways", "()I"⟩ ∈ TB := tb_in (lw_i4 6 (by decide +kernel)) (by decide +kernel)
theorem mw451 : Cond.constantLong "java/lang/Long" 314 (6148914691236517205 : Int64) ∈ TB := tb_in (lw_i4 11 (by decide +kernel)) (by decide +kernel)
theorem mw452 : Cond.constantLong "java/lang/Long" 316 (3689348814741910323 : Int64) ∈ TB := tb_in (lw_i4 12 (by decide +kernel)) (by decide +kernel)
theorem mw453 : Cond.constantLong "java/lang/Long" 318 (1085102592571150095 : Int64) ∈ TB := tb_in (lw_i4 13 (by decide +kernel)) (by decide +kernel)
theorem mw454 : Cond.code ⟨"java/lang/Long", "bitCount", "(J)I"⟩ prog_13_method_50_code 2 (some .int) ∈ TB := tb_in (lw_i4 10 (by decide +kernel)) (by decide +kernel)
theorem mw455 : Cond.initialized "java/lang/Long" ∈ TB := tb_in (lw_i1 16 (by decide +kernel)) (by decide +kernel)
theorem mw456 : Cond.static ⟨"java/lang/Long", "bitCount", "(J)I"⟩ ∈ TB := tb_in (lw_i4 9 (by decide +kernel)) (by decide +kernel)
theorem mw457 : Cond.constant "java/lang/Integer" 265 (1431655765 : Int32) ∈ TB := tb_in (lw_i4 17 (by decide +kernel)) (by decide +kernel)
theorem mw458 : Cond.constant "java/lang/Integer" 266 (858993459 : Int32) ∈ TB := tb_in (lw_i4 18 (by decide +kernel)) (by decide +kernel)
theorem mw459 : Cond.constant "java/lang/Integer" 267 (252645135 : Int32) ∈ TB := tb_in (lw_i4 19 (by decide +kernel)) (by decide +kernel)
theorem mw460 : Cond.code ⟨"java/lang/Integer", "bitCount", "(I)I"⟩ prog_12_method_49_code 1 (some .int) ∈ TB := tb_in (lw_i4 16 (by decide +kernel)) (by decide +kernel)
theorem mw461 : Cond.initialized "java/lang/Integer" ∈ TB := tb_in (lw_i1 17 (by decide +kernel)) (by decide +kernel)
theorem mw462 : Cond.static ⟨"java/lang/Integer", "bitCount", "(I)I"⟩ ∈ TB := tb_in (lw_i4 15 (by decide +kernel)) (by decide +kernel)
theorem mw463 : Cond.methodLink "BellSchool" 244 ⟨"BellSchool$Valley", "ways", "()I"⟩ ∈ TB := tb_in (lw_i4 4 (by decide +kernel)) (by decide +kernel)
theorem mw464 : Cond.methodLink "BellSchool" 247 ⟨"java/lang/Long", "bitCount", "(J)I"⟩ ∈ TB := tb_in (lw_i4 8 (by decide +kernel)) (by decide +kernel)
theorem mw465 : Cond.methodLink "BellSchool" 253 ⟨"java/lang/Integer", "bitCount", "(I)I"⟩ ∈ TB := tb_in (lw_i4 14 (by decide +kernel)) (by decide +kernel)
theorem mw466 : Cond.code ⟨"BellSchool", "count", "(I)I"⟩ prog_1_method_29_code 2 (some .int) ∈ TB := tb_in (lw_i4 3 (by decide +kernel)) (by decide +kernel)
theorem mw467 : Cond.instanceMethod ⟨"BellSchool", "count", "(I)I"⟩ ∈ TB := tb_in (lw_i4 1 (by decide +kernel)) (by decide +kernel)
theorem mw468 : Cond.selects "BellSchool" ⟨"BellSchool", "count", "(I)I"⟩ ⟨"BellSchool", "count", "(I)I"⟩ ∈ TB := tb_in (lw_i4 2 (by decide +kernel)) (by decide +kernel)
theorem mw469 : Cond.code ⟨"BellSchoolModel", "in", "(III)Z"⟩ prog_11_method_2_code 3 (some .boolean) ∈ TB := tb_in (lw_i4 152 (by decide +kernel)) (by decide +kernel)
theorem mw470 : Cond.initialized "BellSchoolModel" ∈ TB := tb_in (lw_i1 15 (by decide +kernel)) (by decide +kernel)
theorem mw471 : Cond.static ⟨"BellSchoolModel", "in", "(III)Z"⟩ ∈ TB := tb_in (lw_i4 151 (by decide +kernel)) (by decide +kernel)
theorem mw472 : Cond.code ⟨"BellSchoolModel", "has", "(II)Z"⟩ prog_11_method_3_code 2 (some .boolean) ∈ TB := tb_in (lw_i4 226 (by decide +kernel)) (by decide +kernel)
theorem mw473 : Cond.static ⟨"BellSchoolModel", "has", "(II)Z"⟩ ∈ TB := tb_in (lw_i4 225 (by decide +kernel)) (by decide +kernel)
theorem mw474 : Cond.code ⟨"BellSchoolModel", "bits", "(I)I"⟩ prog_11_method_4_code 3 (some .int) ∈ TB := tb_in (lw_i5 144 (by decide +kernel)) (by decide +kernel)
theorem mw475 : Cond.static ⟨"BellSchoolModel", "bits", "(I)I"⟩ ∈ TB := tb_in (lw_i5 143 (by decide +kernel)) (by decide +kernel)
theorem mw476 : Cond.fieldLink "BellSchoolModel" 99 "BellSchoolModel" "readHomes" "I" ∈ TB := tb_in (lw_i4 49 (by decide +kernel)) (by decide +kernel)
theorem mw477 : Cond.fieldLink "BellSchoolModel" 102 "BellSchoolModel" "readBell" "I" ∈ TB := tb_in (lw_i4 50 (by decide +kernel)) (by decide +kernel)
theorem mw478 : Cond.fieldLink "BellSchoolModel" 92 "BellSchoolModel" "readMost" "I" ∈ TB := tb_in (lw_i4 51 (by decide +kernel)) (by decide +kernel)
theorem mw479 : Cond.fieldLink "BellSchoolModel" 19 "BellSchoolModel" "readWays" "[I" ∈ TB := tb_in (lw_i4 54 (by decide +kernel)) (by decide +kernel)
theorem mw480 : Cond.fieldLink "BellSchoolModel" 22 "BellSchoolModel" "readFrom" "[I" ∈ TB := tb_in (lw_i4 55 (by decide +kernel)) (by decide +kernel)
theorem mw481 : Cond.fieldLink "BellSchoolModel" 25 "BellSchoolModel" "readTo" "[I" ∈ TB := tb_in (lw_i4 56 (by decide +kernel)) (by decide +kernel)
theorem mw482 : Cond.code ⟨"BellSchoolModel", "anew", "()V"⟩ prog_11_method_5_code 2 none ∈ TB := tb_in (lw_i4 29 (by decide +kernel)) (by decide +kernel)
theorem mw483 : Cond.instanceMethod ⟨"BellSchoolModel", "anew", "()V"⟩ ∈ TB := tb_in (lw_i4 28 (by decide +kernel)) (by decide +kernel)
theorem mw484 : Cond.selects "BellSchoolModel" ⟨"BellSchoolModel", "anew", "()V"⟩ ⟨"BellSchoolModel", "anew", "()V"⟩ ∈ TB := tb_in (lw_s 22 (by decide +kernel)) (by decide +kernel)
theorem mw485 : Cond.fieldLink "BellSchoolModel" 13 "BellSchoolModel" "readKinds" "[I" ∈ TB := tb_in (lw_i4 52 (by decide +kernel)) (by decide +kernel)
theorem mw486 : Cond.fieldLink "BellSchoolModel" 16 "BellSchoolModel" "readLate" "[I" ∈ TB := tb_in (lw_i4 53 (by decide +kernel)) (by decide +kernel)
theorem mw487 : Cond.code ⟨"BellSchoolModel", "comesHome", "(II)V"⟩ prog_11_method_6_code 3 none ∈ TB := tb_in (lw_i4 33 (by decide +kernel)) (by decide +kernel)
theorem mw488 : Cond.instanceMethod ⟨"BellSchoolModel", "comesHome", "(II)V"⟩ ∈ TB := tb_in (lw_i4 32 (by decide +kernel)) (by decide +kernel)
theorem mw489 : Cond.selects "BellSchoolModel" ⟨"BellSchoolModel", "comesHome", "(II)V"⟩ ⟨"BellSchoolModel", "comesHome", "(II)V"⟩ ∈ TB := tb_in (lw_s 23 (by decide +kernel)) (by decide +kernel)
theorem mw490 : Cond.code ⟨"BellSchoolModel", "joins", "(III)V"⟩ prog_11_method_7_code 4 none ∈ TB := tb_in (lw_i4 37 (by decide +kernel)) (by decide +kernel)
theorem mw491 : Cond.instanceMethod ⟨"BellSchoolModel", "joins", "(III)V"⟩ ∈ TB := tb_in (lw_i4 36 (by decide +kernel)) (by decide +kernel)
theorem mw492 : Cond.selects "BellSchoolModel" ⟨"BellSchoolModel", "joins", "(III)V"⟩ ⟨"BellSchoolModel", "joins", "(III)V"⟩ ∈ TB := tb_in (lw_s 24 (by decide +kernel)) (by decide +kernel)
theorem mw493 : Cond.code ⟨"BellSchoolModel", "snows", "(IIII)V"⟩ prog_11_method_8_code 5 none ∈ TB := tb_in (lw_i4 41 (by decide +kernel)) (by decide +kernel)
theorem mw494 : Cond.instanceMethod ⟨"BellSchoolModel", "snows", "(IIII)V"⟩ ∈ TB := tb_in (lw_i4 40 (by decide +kernel)) (by decide +kernel)
theorem mw495 : Cond.selects "BellSchoolModel" ⟨"BellSchoolModel", "snows", "(IIII)V"⟩ ⟨"BellSchoolModel", "snows", "(IIII)V"⟩ ∈ TB := tb_in (lw_s 25 (by decide +kernel)) (by decide +kernel)
theorem mw496 : Cond.methodLink "BellSchoolModel" 105 ⟨"BellSchoolModel", "in", "(III)Z"⟩ ∈ TB := tb_in (lw_i4 150 (by decide +kernel)) (by decide +kernel)
theorem mw497 : Cond.fieldLink "BellSchoolModel" 109 "BellSchoolModel" "letterMany" "I" ∈ TB := tb_in (lw_i4 46 (by decide +kernel)) (by decide +kernel)
theorem mw498 : Cond.fieldLink "BellSchoolModel" 7 "BellSchoolModel" "text" "[I" ∈ TB := tb_in (lw_i4 47 (by decide +kernel)) (by decide +kernel)
theorem mw499 : Cond.code ⟨"BellSchoolModel", "write", "(I)I"⟩ prog_11_method_9_code 2 (some .int) ∈ TB := tb_in (lw_i4 149 (by decide +kernel)) (by decide +kernel)
theorem mw500 : Cond.instanceMethod ⟨"BellSchoolModel", "write", "(I)I"⟩ ∈ TB := tb_in (lw_i4 147 (by decide +kernel)) (by decide +kernel)
theorem mw501 : Cond.selects "BellSchoolModel" ⟨"BellSchoolModel", "write", "(I)I"⟩ ⟨"BellSchoolModel", "write", "(I)I"⟩ ∈ TB := tb_in (lw_i4 148 (by decide +kernel)) (by decide +kernel)
theorem mw502 : Cond.code ⟨"BellSchoolModel", "wipe", "()I"⟩ prog_11_method_10_code 2 (some .int) ∈ TB := tb_in (lw_i4 156 (by decide +kernel)) (by decide +kernel)
theorem mw503 : Cond.instanceMethod ⟨"BellSchoolModel", "wipe", "()I"⟩ ∈ TB := tb_in (lw_i4 154 (by decide +kernel)) (by decide +kernel)
theorem mw504 : Cond.selects "BellSchoolModel" ⟨"BellSchoolModel", "wipe", "()I"⟩ ⟨"BellSchoolModel", "wipe", "()I"⟩ ∈ TB := tb_in (lw_i4 155 (by decide +kernel)) (by decide +kernel)
theorem mw505 : Cond.fieldLink "BellSchoolModel" 112 "BellSchoolModel" "readAt" "I" ∈ TB := tb_in (lw_i4 48 (by decide +kernel)) (by decide +kernel)
theorem mw506 : Cond.code ⟨"BellSchoolModel", "here", "()I"⟩ prog_11_method_11_code 1 (some .int) ∈ TB := tb_in (lw_i4 172 (by decide +kernel)) (by decide +kernel)
theorem mw507 : Cond.instanceMethod ⟨"BellSchoolModel", "here", "()I"⟩ ∈ TB := tb_in (lw_i4 171 (by decide +kernel)) (by decide +kernel)
theorem mw508 : Cond.selects "BellSchoolModel" ⟨"BellSchoolModel", "here", "()I"⟩ ⟨"BellSchoolModel", "here", "()I"⟩ ∈ TB := tb_in (lw_s 29 (by decide +kernel)) (by decide +kernel)
theorem mw509 : Cond.methodLink "BellSchoolModel" 115 ⟨"BellSchoolModel", "here", "()I"⟩ ∈ TB := tb_in (lw_i4 169 (by decide +kernel)) (by decide +kernel)
theorem mw510 : Cond.fieldLink "BellSchoolModel" 28 "BellSchoolModel" "told" "[I" ∈ TB := tb_in (lw_i4 57 (by decide +kernel)) (by decide +kernel)
theorem mw511 : Cond.code ⟨"BellSchoolModel", "numbers", "(I)Z"⟩ prog_11_method_12_code 3 (some .boolean) ∈ TB := tb_in (lw_i4 180 (by decide +kernel)) (by decide +kernel)
theorem mw512 : Cond.instanceMethod ⟨"BellSchoolModel", "numbers", "(I)Z"⟩ ∈ TB := tb_in (lw_i4 179 (by decide +kernel)) (by decide +kernel)
theorem mw513 : Cond.selects "BellSchoolModel" ⟨"BellSchoolModel", "numbers", "(I)Z"⟩ ⟨"BellSchoolModel", "numbers", "(I)Z"⟩ ∈ TB := tb_in (lw_s 31 (by decide +kernel)) (by decide +kernel)
theorem mw514 : Cond.code ⟨"BellSchoolModel", "isTwo", "()Z"⟩ prog_11_method_13_code 1 (some .boolean) ∈ TB := tb_in (lw_i4 188 (by decide +kernel)) (by decide +kernel)
theorem mw515 : Cond.instanceMethod ⟨"BellSchoolModel", "isTwo", "()Z"⟩ ∈ TB := tb_in (lw_i4 187 (by decide +kernel)) (by decide +kernel)
theorem mw516 : Cond.selects "BellSchoolModel" ⟨"BellSchoolModel", "isTwo", "()Z"⟩ ⟨"BellSchoolModel", "isTwo", "()Z"⟩ ∈ TB := tb_in (lw_s 33 (by decide +kernel)) (by decide +kernel)
theorem mw517 : Cond.methodLink "BellSchoolModel" 119 ⟨"BellSchoolModel", "numbers", "(I)Z"⟩ ∈ TB := tb_in (lw_i4 177 (by decide +kernel)) (by decide +kernel)
theorem mw518 : Cond.methodLink "BellSchoolModel" 80 ⟨"BellSchoolModel", "comesHome", "(II)V"⟩ ∈ TB := tb_in (lw_i4 30 (by decide +kernel)) (by decide +kernel)
theorem mw519 : Cond.code ⟨"BellSchoolModel", "readsHome", "()Z"⟩ prog_11_method_14_code 1 (some .boolean) ∈ TB := tb_in (lw_i4 176 (by decide +kernel)) (by decide +kernel)
theorem mw520 : Cond.instanceMethod ⟨"BellSchoolModel", "readsHome", "()Z"⟩ ∈ TB := tb_in (lw_i4 175 (by decide +kernel)) (by decide +kernel)
theorem mw521 : Cond.selects "BellSchoolModel" ⟨"BellSchoolModel", "readsHome", "()Z"⟩ ⟨"BellSchoolModel", "readsHome", "()Z"⟩ ∈ TB := tb_in (lw_s 30 (by decide +kernel)) (by decide +kernel)
theorem mw522 : Cond.methodLink "BellSchoolModel" 123 ⟨"BellSchoolModel", "isTwo", "()Z"⟩ ∈ TB := tb_in (lw_i4 185 (by decide +kernel)) (by decide +kernel)
theorem mw523 : Cond.methodLink "BellSchoolModel" 84 ⟨"BellSchoolModel", "joins", "(III)V"⟩ ∈ TB := tb_in (lw_i4 34 (by decide +kernel)) (by decide +kernel)
theorem mw524 : Cond.code ⟨"BellSchoolModel", "readsWay", "()Z"⟩ prog_11_method_15_code 1 (some .boolean) ∈ TB := tb_in (lw_i4 184 (by decide +kernel)) (by decide +kernel)
theorem mw525 : Cond.instanceMethod ⟨"BellSchoolModel", "readsWay", "()Z"⟩ ∈ TB := tb_in (lw_i4 183 (by decide +kernel)) (by decide +kernel)
theorem mw526 : Cond.selects "BellSchoolModel" ⟨"BellSchoolModel", "readsWay", "()Z"⟩ ⟨"BellSchoolModel", "readsWay", "()Z"⟩ ∈ TB := tb_in (lw_s 32 (by decide +kernel)) (by decide +kernel)
theorem mw527 : Cond.methodLink "BellSchoolModel" 88 ⟨"BellSchoolModel", "snows", "(IIII)V"⟩ ∈ TB := tb_in (lw_i4 38 (by decide +kernel)) (by decide +kernel)
theorem mw528 : Cond.code ⟨"BellSchoolModel", "readsSnow", "()Z"⟩ prog_11_method_16_code 1 (some .boolean) ∈ TB := tb_in (lw_i4 192 (by decide +kernel)) (by decide +kernel)
theorem mw529 : Cond.instanceMethod ⟨"BellSchoolModel", "readsSnow", "()Z"⟩ ∈ TB := tb_in (lw_i4 191 (by decide +kernel)) (by decide +kernel)
theorem mw530 : Cond.selects "BellSchoolModel" ⟨"BellSchoolModel", "readsSnow", "()Z"⟩ ⟨"BellSchoolModel", "readsSnow", "()Z"⟩ ∈ TB := tb_in (lw_s 34 (by decide +kernel)) (by decide +kernel)
theorem mw531 : Cond.code ⟨"BellSchoolModel", "readsBell", "()Z"⟩ prog_11_method_17_code 1 (some .boolean) ∈ TB := tb_in (lw_i4 196 (by decide +kernel)) (by decide +kernel)
theorem mw532 : Cond.instanceMethod ⟨"BellSchoolModel", "readsBell", "()Z"⟩ ∈ TB := tb_in (lw_i4 195 (by decide +kernel)) (by decide +kernel)
theorem mw533 : Cond.selects "BellSchoolModel" ⟨"BellSchoolModel", "readsBell", "()Z"⟩ ⟨"BellSchoolModel", "readsBell", "()Z"⟩ ∈ TB := tb_in (lw_s 35 (by decide +kernel)) (by decide +kernel)
theorem mw534 : Cond.code ⟨"BellSchoolModel", "readsMost", "()Z"⟩ prog_11_method_18_code 1 (some .boolean) ∈ TB := tb_in (lw_i4 200 (by decide +kernel)) (by decide +kernel)
theorem mw535 : Cond.instanceMethod ⟨"BellSchoolModel", "readsMost", "()Z"⟩ ∈ TB := tb_in (lw_i4 199 (by decide +kernel)) (by decide +kernel)
theorem mw536 : Cond.selects "BellSchoolModel" ⟨"BellSchoolModel", "readsMost", "()Z"⟩ ⟨"BellSchoolModel", "readsMost", "()Z"⟩ ∈ TB := tb_in (lw_s 36 (by decide +kernel)) (by decide +kernel)
theorem mw537 : Cond.methodLink "BellSchoolModel" 136 ⟨"BellSchoolModel", "readsBell", "()Z"⟩ ∈ TB := tb_in (lw_i4 193 (by decide +kernel)) (by decide +kernel)
theorem mw538 : Cond.methodLink "BellSchoolModel" 127 ⟨"BellSchoolModel", "readsHome", "()Z"⟩ ∈ TB := tb_in (lw_i4 173 (by decide +kernel)) (by decide +kernel)
theorem mw539 : Cond.methodLink "BellSchoolModel" 139 ⟨"BellSchoolModel", "readsMost", "()Z"⟩ ∈ TB := tb_in (lw_i4 197 (by decide +kernel)) (by decide +kernel)
theorem mw540 : Cond.methodLink "BellSchoolModel" 133 ⟨"BellSchoolModel", "readsSnow", "()Z"⟩ ∈ TB := tb_in (lw_i4 189 (by decide +kernel)) (by decide +kernel)
theorem mw541 : Cond.methodLink "BellSchoolModel" 130 ⟨"BellSchoolModel", "readsWay", "()Z"⟩ ∈ TB := tb_in (lw_i4 181 (by decide +kernel)) (by decide +kernel)
theorem mw542 : Cond.code ⟨"BellSchoolModel", "readsItem", "()Z"⟩ prog_11_method_19_code 2 (some .boolean) ∈ TB := tb_in (lw_i4 168 (by decide +kernel)) (by decide +kernel)
theorem mw543 : Cond.instanceMethod ⟨"BellSchoolModel", "readsItem", "()Z"⟩ ∈ TB := tb_in (lw_i4 167 (by decide +kernel)) (by decide +kernel)
theorem mw544 : Cond.selects "BellSchoolModel" ⟨"BellSchoolModel", "readsItem", "()Z"⟩ ⟨"BellSchoolModel", "readsItem", "()Z"⟩ ∈ TB := tb_in (lw_s 28 (by decide +kernel)) (by decide +kernel)
theorem mw545 : Cond.methodLink "BellSchoolModel" 77 ⟨"BellSchoolModel", "anew", "()V"⟩ ∈ TB := tb_in (lw_i4 26 (by decide +kernel)) (by decide +kernel)
theorem mw546 : Cond.methodLink "BellSchoolModel" 142 ⟨"BellSchoolModel", "readsItem", "()Z"⟩ ∈ TB := tb_in (lw_i4 165 (by decide +kernel)) (by decide +kernel)
theorem mw547 : Cond.code ⟨"BellSchoolModel", "faultOf", "()I"⟩ prog_11_method_20_code 2 (some .int) ∈ TB := tb_in (lw_i4 164 (by decide +kernel)) (by decide +kernel)
theorem mw548 : Cond.instanceMethod ⟨"BellSchoolModel", "faultOf", "()I"⟩ ∈ TB := tb_in (lw_i4 163 (by decide +kernel)) (by decide +kernel)
theorem mw549 : Cond.selects "BellSchoolModel" ⟨"BellSchoolModel", "faultOf", "()I"⟩ ⟨"BellSchoolModel", "faultOf", "()I"⟩ ∈ TB := tb_in (lw_s 27 (by decide +kernel)) (by decide +kernel)
theorem mw550 : Cond.methodLink "BellSchoolModel" 145 ⟨"BellSchoolModel", "faultOf", "()I"⟩ ∈ TB := tb_in (lw_i4 161 (by decide +kernel)) (by decide +kernel)
theorem mw551 : Cond.code ⟨"BellSchoolModel", "fault", "()I"⟩ prog_11_method_21_code 1 (some .int) ∈ TB := tb_in (lw_i4 160 (by decide +kernel)) (by decide +kernel)
theorem mw552 : Cond.instanceMethod ⟨"BellSchoolModel", "fault", "()I"⟩ ∈ TB := tb_in (lw_i4 158 (by decide +kernel)) (by decide +kernel)
theorem mw553 : Cond.selects "BellSchoolModel" ⟨"BellSchoolModel", "fault", "()I"⟩ ⟨"BellSchoolModel", "fault", "()I"⟩ ∈ TB := tb_in (lw_i4 159 (by decide +kernel)) (by decide +kernel)
theorem mw554 : Cond.fieldLink "BellSchoolModel" 148 "BellSchoolModel" "n" "I" ∈ TB := tb_in (lw_i4 58 (by decide +kernel)) (by decide +kernel)
theorem mw555 : Cond.fieldLink "BellSchoolModel" 151 "BellSchoolModel" "most" "I" ∈ TB := tb_in (lw_i4 59 (by decide +kernel)) (by decide +kernel)
theorem mw556 : Cond.fieldLink "BellSchoolModel" 46 "BellSchoolModel" "now" "[I" ∈ TB := tb_in (lw_i4 65 (by decide +kernel)) (by decide +kernel)
theorem mw557 : Cond.fieldLink "BellSchoolModel" 154 "BellSchoolModel" "undoMany" "I" ∈ TB := tb_in (lw_i4 68 (by decide +kernel)) (by decide +kernel)
theorem mw558 : Cond.fieldLink "BellSchoolModel" 157 "BellSchoolModel" "keptMany" "I" ∈ TB := tb_in (lw_i4 77 (by decide +kernel)) (by decide +kernel)
theorem mw559 : Cond.fieldLink "BellSchoolModel" 160 "BellSchoolModel" "seenMany" "I" ∈ TB := tb_in (lw_i4 73 (by decide +kernel)) (by decide +kernel)
theorem mw560 : Cond.fieldLink "BellSchoolModel" 37 "BellSchoolModel" "ways" "[I" ∈ TB := tb_in (lw_i4 62 (by decide +kernel)) (by decide +kernel)
theorem mw561 : Cond.fieldLink "BellSchoolModel" 40 "BellSchoolModel" "from" "[I" ∈ TB := tb_in (lw_i4 63 (by decide +kernel)) (by decide +kernel)
theorem mw562 : Cond.fieldLink "BellSchoolModel" 43 "BellSchoolModel" "to" "[I" ∈ TB := tb_in (lw_i4 64 (by decide +kernel)) (by decide +kernel)
theorem mw563 : Cond.fieldLink "BellSchoolModel" 31 "BellSchoolModel" "kinds" "[I" ∈ TB := tb_in (lw_i4 60 (by decide +kernel)) (by decide +kernel)
theorem mw564 : Cond.fieldLink "BellSchoolModel" 34 "BellSchoolModel" "late" "[I" ∈ TB := tb_in (lw_i4 61 (by decide +kernel)) (by decide +kernel)
theorem mw565 : Cond.code ⟨"BellSchoolModel", "laid", "()V"⟩ prog_11_method_22_code 2 none ∈ TB := tb_in (lw_i4 45 (by decide +kernel)) (by decide +kernel)
theorem mw566 : Cond.instanceMethod ⟨"BellSchoolModel", "laid", "()V"⟩ ∈ TB := tb_in (lw_i4 44 (by decide +kernel)) (by decide +kernel)
theorem mw567 : Cond.selects "BellSchoolModel" ⟨"BellSchoolModel", "laid", "()V"⟩ ⟨"BellSchoolModel", "laid", "()V"⟩ ∈ TB := tb_in (lw_s 26 (by decide +kernel)) (by decide +kernel)
theorem mw568 : Cond.methodLink "BellSchoolModel" 96 ⟨"BellSchoolModel", "laid", "()V"⟩ ∈ TB := tb_in (lw_i4 42 (by decide +kernel)) (by decide +kernel)
theorem mw569 : Cond.code ⟨"BellSchoolModel", "lay", "()I"⟩ prog_11_method_23_code 1 (some .int) ∈ TB := tb_in (lw_i4 204 (by decide +kernel)) (by decide +kernel)
theorem mw570 : Cond.instanceMethod ⟨"BellSchoolModel", "lay", "()I"⟩ ∈ TB := tb_in (lw_i4 202 (by decide +kernel)) (by decide +kernel)
theorem mw571 : Cond.selects "BellSchoolModel" ⟨"BellSchoolModel", "lay", "()I"⟩ ⟨"BellSchoolModel", "lay", "()I"⟩ ∈ TB := tb_in (lw_i4 203 (by decide +kernel)) (by decide +kernel)
theorem mw572 : Cond.code ⟨"BellSchoolModel", "isHome", "(I)Z"⟩ prog_11_method_24_code 2 (some .boolean) ∈ TB := tb_in (lw_i4 212 (by decide +kernel)) (by decide +kernel)
theorem mw573 : Cond.instanceMethod ⟨"BellSchoolModel", "isHome", "(I)Z"⟩ ∈ TB := tb_in (lw_i4 211 (by decide +kernel)) (by decide +kernel)
theorem mw574 : Cond.selects "BellSchoolModel" ⟨"BellSchoolModel", "isHome", "(I)Z"⟩ ⟨"BellSchoolModel", "isHome", "(I)Z"⟩ ∈ TB := tb_in (lw_s 37 (by decide +kernel)) (by decide +kernel)
theorem mw575 : Cond.code ⟨"BellSchoolModel", "pair", "(II)I"⟩ prog_11_method_25_code 4 (some .int) ∈ TB := tb_in (lw_i4 223 (by decide +kernel)) (by decide +kernel)
theorem mw576 : Cond.static ⟨"BellSchoolModel", "pair", "(II)I"⟩ ∈ TB := tb_in (lw_i4 222 (by decide +kernel)) (by decide +kernel)
theorem mw577 : Cond.methodLink "BellSchoolModel" 163 ⟨"BellSchoolModel", "pair", "(II)I"⟩ ∈ TB := tb_in (lw_i4 221 (by decide +kernel)) (by decide +kernel)
theorem mw578 : Cond.methodLink "BellSchoolModel" 167 ⟨"BellSchoolModel", "has", "(II)Z"⟩ ∈ TB := tb_in (lw_i4 224 (by decide +kernel)) (by decide +kernel)
theorem mw579 : Cond.code ⟨"BellSchoolModel", "isOpen", "([III)Z"⟩ prog_11_method_26_code 5 (some .boolean) ∈ TB := tb_in (lw_i4 220 (by decide +kernel)) (by decide +kernel)
theorem mw580 : Cond.instanceMethod ⟨"BellSchoolModel", "isOpen", "([III)Z"⟩ ∈ TB := tb_in (lw_i4 219 (by decide +kernel)) (by decide +kernel)
theorem mw581 : Cond.selects "BellSchoolModel" ⟨"BellSchoolModel", "isOpen", "([III)Z"⟩ ⟨"BellSchoolModel", "isOpen", "([III)Z"⟩ ∈ TB := tb_in (lw_s 38 (by decide +kernel)) (by decide +kernel)
theorem mw582 : Cond.methodLink "BellSchoolModel" 172 ⟨"BellSchoolModel", "isOpen", "([III)Z"⟩ ∈ TB := tb_in (lw_i4 217 (by decide +kernel)) (by decide +kernel)
theorem mw583 : Cond.fieldLink "BellSchoolModel" 52 "BellSchoolModel" "minutes" "[I" ∈ TB := tb_in (lw_i4 67 (by decide +kernel)) (by decide +kernel)
theorem mw584 : Cond.constant "BellSchoolModel" 171 (1000000 : Int32) ∈ TB := tb_in (lw_i4 235 (by decide +kernel)) (by decide +kernel)
theorem mw585 : Cond.code ⟨"BellSchoolModel", "layMinutes", "([II)V"⟩ prog_11_method_27_code 6 none ∈ TB := tb_in (lw_i4 234 (by decide +kernel)) (by decide +kernel)
theorem mw586 : Cond.instanceMethod ⟨"BellSchoolModel", "layMinutes", "([II)V"⟩ ∈ TB := tb_in (lw_i4 233 (by decide +kernel)) (by decide +kernel)
theorem mw587 : Cond.selects "BellSchoolModel" ⟨"BellSchoolModel", "layMinutes", "([II)V"⟩ ⟨"BellSchoolModel", "layMinutes", "([II)V"⟩ ∈ TB := tb_in (lw_s 39 (by decide +kernel)) (by decide +kernel)
theorem mw588 : Cond.code ⟨"BellSchoolModel", "arrives", "([II)I"⟩ prog_11_method_28_code 6 (some .int) ∈ TB := tb_in (lw_i5 3 (by decide +kernel)) (by decide +kernel)
theorem mw589 : Cond.instanceMethod ⟨"BellSchoolModel", "arrives", "([II)I"⟩ ∈ TB := tb_in (lw_i5 2 (by decide +kernel)) (by decide +kernel)
theorem mw590 : Cond.selects "BellSchoolModel" ⟨"BellSchoolModel", "arrives", "([II)I"⟩ ⟨"BellSchoolModel", "arrives", "([II)I"⟩ ∈ TB := tb_in (lw_s 40 (by decide +kernel)) (by decide +kernel)
theorem mw591 : Cond.methodLink "BellSchoolModel" 176 ⟨"BellSchoolModel", "layMinutes", "([II)V"⟩ ∈ TB := tb_in (lw_i4 231 (by decide +kernel)) (by decide +kernel)
theorem mw592 : Cond.methodLink "BellSchoolModel" 180 ⟨"BellSchoolModel", "arrives", "([II)I"⟩ ∈ TB := tb_in (lw_i5 0 (by decide +kernel)) (by decide +kernel)
theorem mw593 : Cond.code ⟨"BellSchoolModel", "latest", "([II)I"⟩ prog_11_method_29_code 7 (some .int) ∈ TB := tb_in (lw_i5 11 (by decide +kernel)) (by decide +kernel)
theorem mw594 : Cond.instanceMethod ⟨"BellSchoolModel", "latest", "([II)I"⟩ ∈ TB := tb_in (lw_i5 10 (by decide +kernel)) (by decide +kernel)
theorem mw595 : Cond.selects "BellSchoolModel" ⟨"BellSchoolModel", "latest", "([II)I"⟩ ⟨"BellSchoolModel", "latest", "([II)I"⟩ ∈ TB := tb_in (lw_s 41 (by decide +kernel)) (by decide +kernel)
theorem mw596 : Cond.methodLink "BellSchoolModel" 184 ⟨"BellSchoolModel", "latest", "([II)I"⟩ ∈ TB := tb_in (lw_i5 8 (by decide +kernel)) (by decide +kernel)
theorem mw597 : Cond.code ⟨"BellSchoolModel", "goesBy", "([I)V"⟩ prog_11_method_30_code 4 none ∈ TB := tb_in (lw_i5 23 (by decide +kernel)) (by decide +kernel)
theorem mw598 : Cond.instanceMethod ⟨"BellSchoolModel", "goesBy", "([I)V"⟩ ∈ TB := tb_in (lw_i5 22 (by decide +kernel)) (by decide +kernel)
theorem mw599 : Cond.selects "BellSchoolModel" ⟨"BellSchoolModel", "goesBy", "([I)V"⟩ ⟨"BellSchoolModel", "goesBy", "([I)V"⟩ ∈ TB := tb_in (lw_s 43 (by decide +kernel)) (by decide +kernel)
theorem mw600 : Cond.fieldLink "BellSchoolModel" 49 "BellSchoolModel" "tried" "[I" ∈ TB := tb_in (lw_i4 66 (by decide +kernel)) (by decide +kernel)
theorem mw601 : Cond.code ⟨"BellSchoolModel", "copyNow", "()V"⟩ prog_11_method_31_code 2 none ∈ TB := tb_in (lw_i5 47 (by decide +kernel)) (by decide +kernel)
theorem mw602 : Cond.instanceMethod ⟨"BellSchoolModel", "copyNow", "()V"⟩ ∈ TB := tb_in (lw_i5 46 (by decide +kernel)) (by decide +kernel)
theorem mw603 : Cond.selects "BellSchoolModel" ⟨"BellSchoolModel", "copyNow", "()V"⟩ ⟨"BellSchoolModel", "copyNow", "()V"⟩ ∈ TB := tb_in (lw_s 44 (by decide +kernel)) (by decide +kernel)
theorem mw604 : Cond.methodLink "BellSchoolModel" 187 ⟨"BellSchoolModel", "isHome", "(I)Z"⟩ ∈ TB := tb_in (lw_i4 209 (by decide +kernel)) (by decide +kernel)
theorem mw605 : Cond.code ⟨"BellSchoolModel", "home", "(II)I"⟩ prog_11_method_32_code 3 (some .int) ∈ TB := tb_in (lw_i4 208 (by decide +kernel)) (by decide +kernel)
theorem mw606 : Cond.instanceMethod ⟨"BellSchoolModel", "home", "(II)I"⟩ ∈ TB := tb_in (lw_i4 206 (by decide +kernel)) (by decide +kernel)
theorem mw607 : Cond.selects "BellSchoolModel" ⟨"BellSchoolModel", "home", "(II)I"⟩ ⟨"BellSchoolModel", "home", "(II)I"⟩ ∈ TB := tb_in (lw_i4 207 (by decide +kernel)) (by decide +kernel)
theorem mw608 : Cond.code ⟨"BellSchoolModel", "way", "(III)I"⟩ prog_11_method_33_code 5 (some .int) ∈ TB := tb_in (lw_i4 216 (by decide +kernel)) (by decide +kernel)
theorem mw609 : Cond.instanceMethod ⟨"BellSchoolModel", "way", "(III)I"⟩ ∈ TB := tb_in (lw_i4 214 (by decide +kernel)) (by decide +kernel)
theorem mw610 : Cond.selects "BellSchoolModel" ⟨"BellSchoolModel", "way", "(III)I"⟩ ⟨"BellSchoolModel", "way", "(III)I"⟩ ∈ TB := tb_in (lw_i4 215 (by decide +kernel)) (by decide +kernel)
theorem mw611 : Cond.code ⟨"BellSchoolModel", "far", "(II)I"⟩ prog_11_method_34_code 3 (some .int) ∈ TB := tb_in (lw_i4 230 (by decide +kernel)) (by decide +kernel)
theorem mw612 : Cond.instanceMethod ⟨"BellSchoolModel", "far", "(II)I"⟩ ∈ TB := tb_in (lw_i4 228 (by decide +kernel)) (by decide +kernel)
theorem mw613 : Cond.selects "BellSchoolModel" ⟨"BellSchoolModel", "far", "(II)I"⟩ ⟨"BellSchoolModel", "far", "(II)I"⟩ ∈ TB := tb_in (lw_i4 229 (by decide +kernel)) (by decide +kernel)
theorem mw614 : Cond.code ⟨"BellSchoolModel", "comes", "(I)I"⟩ prog_11_method_35_code 3 (some .int) ∈ TB := tb_in (lw_i4 239 (by decide +kernel)) (by decide +kernel)
theorem mw615 : Cond.instanceMethod ⟨"BellSchoolModel", "comes", "(I)I"⟩ ∈ TB := tb_in (lw_i4 237 (by decide +kernel)) (by decide +kernel)
theorem mw616 : Cond.selects "BellSchoolModel" ⟨"BellSchoolModel", "comes", "(I)I"⟩ ⟨"BellSchoolModel", "comes", "(I)I"⟩ ∈ TB := tb_in (lw_i4 238 (by decide +kernel)) (by decide +kernel)
theorem mw617 : Cond.code ⟨"BellSchoolModel", "last", "()I"⟩ prog_11_method_36_code 1 (some .int) ∈ TB := tb_in (lw_i5 7 (by decide +kernel)) (by decide +kernel)
theorem mw618 : Cond.instanceMethod ⟨"BellSchoolModel", "last", "()I"⟩ ∈ TB := tb_in (lw_i5 5 (by decide +kernel)) (by decide +kernel)
theorem mw619 : Cond.selects "BellSchoolModel" ⟨"BellSchoolModel", "last", "()I"⟩ ⟨"BellSchoolModel", "last", "()I"⟩ ∈ TB := tb_in (lw_i5 6 (by decide +kernel)) (by decide +kernel)
theorem mw620 : Cond.fieldLink "BellSchoolModel" 190 "BellSchoolModel" "undoAt" "I" ∈ TB := tb_in (lw_i4 69 (by decide +kernel)) (by decide +kernel)
theorem mw621 : Cond.fieldLink "BellSchoolModel" 55 "BellSchoolModel" "undos" "[I" ∈ TB := tb_in (lw_i4 70 (by decide +kernel)) (by decide +kernel)
theorem mw622 : Cond.code ⟨"BellSchoolModel", "remember", "()V"⟩ prog_11_method_37_code 2 none ∈ TB := tb_in (lw_i5 19 (by decide +kernel)) (by decide +kernel)
theorem mw623 : Cond.instanceMethod ⟨"BellSchoolModel", "remember", "()V"⟩ ∈ TB := tb_in (lw_i5 18 (by decide +kernel)) (by decide +kernel)
theorem mw624 : Cond.selects "BellSchoolModel" ⟨"BellSchoolModel", "remember", "()V"⟩ ⟨"BellSchoolModel", "remember", "()V"⟩ ∈ TB := tb_in (lw_s 42 (by decide +kernel)) (by decide +kernel)
theorem mw625 : Cond.methodLink "BellSchoolModel" 193 ⟨"BellSchoolModel", "remember", "()V"⟩ ∈ TB := tb_in (lw_i5 16 (by decide +kernel)) (by decide +kernel)
theorem mw626 : Cond.methodLink "BellSchoolModel" 196 ⟨"BellSchoolModel", "goesBy", "([I)V"⟩ ∈ TB := tb_in (lw_i5 20 (by decide +kernel)) (by decide +kernel)
theorem mw627 : Cond.code ⟨"BellSchoolModel", "pass", "(I)I"⟩ prog_11_method_38_code 3 (some .int) ∈ TB := tb_in (lw_i5 15 (by decide +kernel)) (by decide +kernel)
theorem mw628 : Cond.instanceMethod ⟨"BellSchoolModel", "pass", "(I)I"⟩ ∈ TB := tb_in (lw_i5 13 (by decide +kernel)) (by decide +kernel)
theorem mw629 : Cond.selects "BellSchoolModel" ⟨"BellSchoolModel", "pass", "(I)I"⟩ ⟨"BellSchoolModel", "pass", "(I)I"⟩ ∈ TB := tb_in (lw_i5 14 (by decide +kernel)) (by decide +kernel)
theorem mw630 : Cond.code ⟨"BellSchoolModel", "keepBack", "(I)I"⟩ prog_11_method_39_code 2 (some .int) ∈ TB := tb_in (lw_i5 27 (by decide +kernel)) (by decide +kernel)
theorem mw631 : Cond.instanceMethod ⟨"BellSchoolModel", "keepBack", "(I)I"⟩ ∈ TB := tb_in (lw_i5 25 (by decide +kernel)) (by decide +kernel)
theorem mw632 : Cond.selects "BellSchoolModel" ⟨"BellSchoolModel", "keepBack", "(I)I"⟩ ⟨"BellSchoolModel", "keepBack", "(I)I"⟩ ∈ TB := tb_in (lw_i5 26 (by decide +kernel)) (by decide +kernel)
theorem mw633 : Cond.code ⟨"BellSchoolModel", "sick", "(I)I"⟩ prog_11_method_40_code 2 (some .int) ∈ TB := tb_in (lw_i5 31 (by decide +kernel)) (by decide +kernel)
theorem mw634 : Cond.instanceMethod ⟨"BellSchoolModel", "sick", "(I)I"⟩ ∈ TB := tb_in (lw_i5 29 (by decide +kernel)) (by decide +kernel)
theorem mw635 : Cond.selects "BellSchoolModel" ⟨"BellSchoolModel", "sick", "(I)I"⟩ ⟨"BellSchoolModel", "sick", "(I)I"⟩ ∈ TB := tb_in (lw_i5 30 (by decide +kernel)) (by decide +kernel)
theorem mw636 : Cond.code ⟨"BellSchoolModel", "shut", "(II)I"⟩ prog_11_method_41_code 3 (some .int) ∈ TB := tb_in (lw_i5 35 (by decide +kernel)) (by decide +kernel)
theorem mw637 : Cond.instanceMethod ⟨"BellSchoolModel", "shut", "(II)I"⟩ ∈ TB := tb_in (lw_i5 33 (by decide +kernel)) (by decide +kernel)
theorem mw638 : Cond.selects "BellSchoolModel" ⟨"BellSchoolModel", "shut", "(II)I"⟩ ⟨"BellSchoolModel", "shut", "(II)I"⟩ ∈ TB := tb_in (lw_i5 34 (by decide +kernel)) (by decide +kernel)
theorem mw639 : Cond.code ⟨"BellSchoolModel", "undo", "()I"⟩ prog_11_method_42_code 2 (some .int) ∈ TB := tb_in (lw_i5 39 (by decide +kernel)) (by decide +kernel)
theorem mw640 : Cond.instanceMethod ⟨"BellSchoolModel", "undo", "()I"⟩ ∈ TB := tb_in (lw_i5 37 (by decide +kernel)) (by decide +kernel)
theorem mw641 : Cond.selects "BellSchoolModel" ⟨"BellSchoolModel", "undo", "()I"⟩ ⟨"BellSchoolModel", "undo", "()I"⟩ ∈ TB := tb_in (lw_i5 38 (by decide +kernel)) (by decide +kernel)
theorem mw642 : Cond.methodLink "BellSchoolModel" 200 ⟨"BellSchoolModel", "copyNow", "()V"⟩ ∈ TB := tb_in (lw_i5 44 (by decide +kernel)) (by decide +kernel)
theorem mw643 : Cond.code ⟨"BellSchoolModel", "behind", "(I)I"⟩ prog_11_method_43_code 3 (some .int) ∈ TB := tb_in (lw_i5 43 (by decide +kernel)) (by decide +kernel)
theorem mw644 : Cond.instanceMethod ⟨"BellSchoolModel", "behind", "(I)I"⟩ ∈ TB := tb_in (lw_i5 41 (by decide +kernel)) (by decide +kernel)
theorem mw645 : Cond.selects "BellSchoolModel" ⟨"BellSchoolModel", "behind", "(I)I"⟩ ⟨"BellSchoolModel", "behind", "(I)I"⟩ ∈ TB := tb_in (lw_i5 42 (by decide +kernel)) (by decide +kernel)
theorem mw646 : Cond.code ⟨"BellSchoolModel", "again", "()I"⟩ prog_11_method_44_code 2 (some .int) ∈ TB := tb_in (lw_i5 51 (by decide +kernel)) (by decide +kernel)
theorem mw647 : Cond.instanceMethod ⟨"BellSchoolModel", "again", "()I"⟩ ∈ TB := tb_in (lw_i5 49 (by decide +kernel)) (by decide +kernel)
theorem mw648 : Cond.selects "BellSchoolModel" ⟨"BellSchoolModel", "again", "()I"⟩ ⟨"BellSchoolModel", "again", "()I"⟩ ∈ TB := tb_in (lw_i5 50 (by decide +kernel)) (by decide +kernel)
theorem mw649 : Cond.code ⟨"BellSchoolModel", "nextAt", "(III)I"⟩ prog_11_method_45_code 3 (some .int) ∈ TB := tb_in (lw_i5 66 (by decide +kernel)) (by decide +kernel)
theorem mw650 : Cond.static ⟨"BellSchoolModel", "nextAt", "(III)I"⟩ ∈ TB := tb_in (lw_i5 65 (by decide +kernel)) (by decide +kernel)
theorem mw651 : Cond.code ⟨"BellSchoolModel", "yetAt", "(III)I"⟩ prog_11_method_46_code 3 (some .int) ∈ TB := tb_in (lw_i5 73 (by decide +kernel)) (by decide +kernel)
theorem mw652 : Cond.static ⟨"BellSchoolModel", "yetAt", "(III)I"⟩ ∈ TB := tb_in (lw_i5 72 (by decide +kernel)) (by decide +kernel)
theorem mw653 : Cond.fieldLink "BellSchoolModel" 58 "BellSchoolModel" "nexts" "[I" ∈ TB := tb_in (lw_i4 71 (by decide +kernel)) (by decide +kernel)
theorem mw654 : Cond.methodLink "BellSchoolModel" 203 ⟨"BellSchoolModel", "nextAt", "(III)I"⟩ ∈ TB := tb_in (lw_i5 64 (by decide +kernel)) (by decide +kernel)
theorem mw655 : Cond.code ⟨"BellSchoolModel", "layNexts", "()V"⟩ prog_11_method_47_code 5 none ∈ TB := tb_in (lw_i5 63 (by decide +kernel)) (by decide +kernel)
theorem mw656 : Cond.instanceMethod ⟨"BellSchoolModel", "layNexts", "()V"⟩ ∈ TB := tb_in (lw_i5 62 (by decide +kernel)) (by decide +kernel)
theorem mw657 : Cond.selects "BellSchoolModel" ⟨"BellSchoolModel", "layNexts", "()V"⟩ ⟨"BellSchoolModel", "layNexts", "()V"⟩ ∈ TB := tb_in (lw_s 46 (by decide +kernel)) (by decide +kernel)
theorem mw658 : Cond.fieldLink "BellSchoolModel" 61 "BellSchoolModel" "yet" "[I" ∈ TB := tb_in (lw_i4 72 (by decide +kernel)) (by decide +kernel)
theorem mw659 : Cond.methodLink "BellSchoolModel" 207 ⟨"BellSchoolModel", "yetAt", "(III)I"⟩ ∈ TB := tb_in (lw_i5 71 (by decide +kernel)) (by decide +kernel)
theorem mw660 : Cond.code ⟨"BellSchoolModel", "byChoice", "(IIII)I"⟩ prog_11_method_48_code 6 (some .int) ∈ TB := tb_in (lw_i5 70 (by decide +kernel)) (by decide +kernel)
theorem mw661 : Cond.instanceMethod ⟨"BellSchoolModel", "byChoice", "(IIII)I"⟩ ∈ TB := tb_in (lw_i5 69 (by decide +kernel)) (by decide +kernel)
theorem mw662 : Cond.selects "BellSchoolModel" ⟨"BellSchoolModel", "byChoice", "(IIII)I"⟩ ⟨"BellSchoolModel", "byChoice", "(IIII)I"⟩ ∈ TB := tb_in (lw_s 47 (by decide +kernel)) (by decide +kernel)
theorem mw663 : Cond.methodLink "BellSchoolModel" 210 ⟨"BellSchoolModel", "layNexts", "()V"⟩ ∈ TB := tb_in (lw_i5 60 (by decide +kernel)) (by decide +kernel)
theorem mw664 : Cond.methodLink "BellSchoolModel" 213 ⟨"BellSchoolModel", "byChoice", "(IIII)I"⟩ ∈ TB := tb_in (lw_i5 67 (by decide +kernel)) (by decide +kernel)
theorem mw665 : Cond.code ⟨"BellSchoolModel", "layYet", "()V"⟩ prog_11_method_49_code 8 none ∈ TB := tb_in (lw_i5 59 (by decide +kernel)) (by decide +kernel)
theorem mw666 : Cond.instanceMethod ⟨"BellSchoolModel", "layYet", "()V"⟩ ∈ TB := tb_in (lw_i5 58 (by decide +kernel)) (by decide +kernel)
theorem mw667 : Cond.selects "BellSchoolModel" ⟨"BellSchoolModel", "layYet", "()V"⟩ ⟨"BellSchoolModel", "layYet", "()V"⟩ ∈ TB := tb_in (lw_s 45 (by decide +kernel)) (by decide +kernel)
theorem mw668 : Cond.methodLink "BellSchoolModel" 217 ⟨"BellSchoolModel", "layYet", "()V"⟩ ∈ TB := tb_in (lw_i5 56 (by decide +kernel)) (by decide +kernel)
theorem mw669 : Cond.code ⟨"BellSchoolModel", "each", "(I)I"⟩ prog_11_method_50_code 7 (some .int) ∈ TB := tb_in (lw_i5 55 (by decide +kernel)) (by decide +kernel)
theorem mw670 : Cond.instanceMethod ⟨"BellSchoolModel", "each", "(I)I"⟩ ∈ TB := tb_in (lw_i5 53 (by decide +kernel)) (by decide +kernel)
theorem mw671 : Cond.selects "BellSchoolModel" ⟨"BellSchoolModel", "each", "(I)I"⟩ ⟨"BellSchoolModel", "each", "(I)I"⟩ ∈ TB := tb_in (lw_i5 54 (by decide +kernel)) (by decide +kernel)
theorem mw672 : Cond.code ⟨"BellSchoolModel", "always", "()I"⟩ prog_11_method_51_code 4 (some .int) ∈ TB := tb_in (lw_i5 77 (by decide +kernel)) (by decide +kernel)
theorem mw673 : Cond.instanceMethod ⟨"BellSchoolModel", "always", "()I"⟩ ∈ TB := tb_in (lw_i5 75 (by decide +kernel)) (by decide +kernel)
theorem mw674 : Cond.selects "BellSchoolModel" ⟨"BellSchoolModel", "always", "()I"⟩ ⟨"BellSchoolModel", "always", "()I"⟩ ∈ TB := tb_in (lw_i5 76 (by decide +kernel)) (by decide +kernel)
theorem mw675 : Cond.code ⟨"BellSchoolModel", "never", "()I"⟩ prog_11_method_52_code 3 (some .int) ∈ TB := tb_in (lw_i5 81 (by decide +kernel)) (by decide +kernel)
theorem mw676 : Cond.instanceMethod ⟨"BellSchoolModel", "never", "()I"⟩ ∈ TB := tb_in (lw_i5 79 (by decide +kernel)) (by decide +kernel)
theorem mw677 : Cond.selects "BellSchoolModel" ⟨"BellSchoolModel", "never", "()I"⟩ ⟨"BellSchoolModel", "never", "()I"⟩ ∈ TB := tb_in (lw_i5 80 (by decide +kernel)) (by decide +kernel)
theorem mw678 : Cond.fieldLink "BellSchoolModel" 64 "BellSchoolModel" "seen" "[I" ∈ TB := tb_in (lw_i4 74 (by decide +kernel)) (by decide +kernel)
theorem mw679 : Cond.code ⟨"BellSchoolModel", "see", "(II)I"⟩ prog_11_method_53_code 3 (some .int) ∈ TB := tb_in (lw_i5 85 (by decide +kernel)) (by decide +kernel)
theorem mw680 : Cond.instanceMethod ⟨"BellSchoolModel", "see", "(II)I"⟩ ∈ TB := tb_in (lw_i5 83 (by decide +kernel)) (by decide +kernel)
theorem mw681 : Cond.selects "BellSchoolModel" ⟨"BellSchoolModel", "see", "(II)I"⟩ ⟨"BellSchoolModel", "see", "(II)I"⟩ ∈ TB := tb_in (lw_i5 84 (by decide +kernel)) (by decide +kernel)
theorem mw682 : Cond.code ⟨"BellSchoolModel", "forget", "()I"⟩ prog_11_method_54_code 2 (some .int) ∈ TB := tb_in (lw_i5 89 (by decide +kernel)) (by decide +kernel)
theorem mw683 : Cond.instanceMethod ⟨"BellSchoolModel", "forget", "()I"⟩ ∈ TB := tb_in (lw_i5 87 (by decide +kernel)) (by decide +kernel)
theorem mw684 : Cond.selects "BellSchoolModel" ⟨"BellSchoolModel", "forget", "()I"⟩ ⟨"BellSchoolModel", "forget", "()I"⟩ ∈ TB := tb_in (lw_i5 88 (by decide +kernel)) (by decide +kernel)
theorem mw685 : Cond.code ⟨"BellSchoolModel", "isSo", "()Z"⟩ prog_11_method_55_code 4 (some .boolean) ∈ TB := tb_in (lw_i5 97 (by decide +kernel)) (by decide +kernel)
theorem mw686 : Cond.instanceMethod ⟨"BellSchoolModel", "isSo", "()Z"⟩ ∈ TB := tb_in (lw_i5 96 (by decide +kernel)) (by decide +kernel)
theorem mw687 : Cond.selects "BellSchoolModel" ⟨"BellSchoolModel", "isSo", "()Z"⟩ ⟨"BellSchoolModel", "isSo", "()Z"⟩ ∈ TB := tb_in (lw_s 48 (by decide +kernel)) (by decide +kernel)
theorem mw688 : Cond.methodLink "BellSchoolModel" 220 ⟨"BellSchoolModel", "isSo", "()Z"⟩ ∈ TB := tb_in (lw_i5 94 (by decide +kernel)) (by decide +kernel)
theorem mw689 : Cond.code ⟨"BellSchoolModel", "fog", "()I"⟩ prog_11_method_56_code 3 (some .int) ∈ TB := tb_in (lw_i5 93 (by decide +kernel)) (by decide +kernel)
theorem mw690 : Cond.instanceMethod ⟨"BellSchoolModel", "fog", "()I"⟩ ∈ TB := tb_in (lw_i5 91 (by decide +kernel)) (by decide +kernel)
theorem mw691 : Cond.selects "BellSchoolModel" ⟨"BellSchoolModel", "fog", "()I"⟩ ⟨"BellSchoolModel", "fog", "()I"⟩ ∈ TB := tb_in (lw_i5 92 (by decide +kernel)) (by decide +kernel)
theorem mw692 : Cond.code ⟨"BellSchoolModel", "tripped", "()I"⟩ prog_11_method_57_code 3 (some .int) ∈ TB := tb_in (lw_i5 101 (by decide +kernel)) (by decide +kernel)
theorem mw693 : Cond.instanceMethod ⟨"BellSchoolModel", "tripped", "()I"⟩ ∈ TB := tb_in (lw_i5 99 (by decide +kernel)) (by decide +kernel)
theorem mw694 : Cond.selects "BellSchoolModel" ⟨"BellSchoolModel", "tripped", "()I"⟩ ⟨"BellSchoolModel", "tripped", "()I"⟩ ∈ TB := tb_in (lw_i5 100 (by decide +kernel)) (by decide +kernel)
theorem mw695 : Cond.code ⟨"BellSchoolModel", "common", "(JJ)J"⟩ prog_11_method_58_code 10 (some .long) ∈ TB := tb_in (lw_i5 114 (by decide +kernel)) (by decide +kernel)
theorem mw696 : Cond.static ⟨"BellSchoolModel", "common", "(JJ)J"⟩ ∈ TB := tb_in (lw_i5 113 (by decide +kernel)) (by decide +kernel)
theorem mw697 : Cond.fieldLink "BellSchoolModel" 67 "BellSchoolModel" "chances" "[J" ∈ TB := tb_in (lw_i4 75 (by decide +kernel)) (by decide +kernel)
theorem mw698 : Cond.fieldLink "BellSchoolModel" 71 "BellSchoolModel" "then" "[J" ∈ TB := tb_in (lw_i4 76 (by decide +kernel)) (by decide +kernel)
theorem mw699 : Cond.code ⟨"BellSchoolModel", "spreads", "(II)V"⟩ prog_11_method_59_code 9 none ∈ TB := tb_in (lw_i5 110 (by decide +kernel)) (by decide +kernel)
theorem mw700 : Cond.instanceMethod ⟨"BellSchoolModel", "spreads", "(II)V"⟩ ∈ TB := tb_in (lw_i5 109 (by decide +kernel)) (by decide +kernel)
theorem mw701 : Cond.selects "BellSchoolModel" ⟨"BellSchoolModel", "spreads", "(II)V"⟩ ⟨"BellSchoolModel", "spreads", "(II)V"⟩ ∈ TB := tb_in (lw_s 49 (by decide +kernel)) (by decide +kernel)
theorem mw702 : Cond.constantLong "BellSchoolModel" 223 (-1 : Int64) ∈ TB := tb_in (lw_i5 106 (by decide +kernel)) (by decide +kernel)
theorem mw703 : Cond.methodLink "BellSchoolModel" 230 ⟨"BellSchoolModel", "common", "(JJ)J"⟩ ∈ TB := tb_in (lw_i5 112 (by decide +kernel)) (by decide +kernel)
theorem mw704 : Cond.methodLink "BellSchoolModel" 225 ⟨"BellSchoolModel", "spreads", "(II)V"⟩ ∈ TB := tb_in (lw_i5 107 (by decide +kernel)) (by decide +kernel)
theorem mw705 : Cond.constantLong "BellSchoolModel" 228 (10 : Int64) ∈ TB := tb_in (lw_i5 111 (by decide +kernel)) (by decide +kernel)
theorem mw706 : Cond.code ⟨"BellSchoolModel", "measles", "(IIII)J"⟩ prog_11_method_60_code 9 (some .long) ∈ TB := tb_in (lw_i5 105 (by decide +kernel)) (by decide +kernel)
theorem mw707 : Cond.instanceMethod ⟨"BellSchoolModel", "measles", "(IIII)J"⟩ ∈ TB := tb_in (lw_i5 103 (by decide +kernel)) (by decide +kernel)
theorem mw708 : Cond.selects "BellSchoolModel" ⟨"BellSchoolModel", "measles", "(IIII)J"⟩ ⟨"BellSchoolModel", "measles", "(IIII)J"⟩ ∈ TB := tb_in (lw_i5 104 (by decide +kernel)) (by decide +kernel)
theorem mw709 : Cond.code ⟨"BellSchoolModel", "soups", "([I)I"⟩ prog_11_method_61_code 3 (some .int) ∈ TB := tb_in (lw_i5 125 (by decide +kernel)) (by decide +kernel)
theorem mw710 : Cond.static ⟨"BellSchoolModel", "soups", "([I)I"⟩ ∈ TB := tb_in (lw_i5 124 (by decide +kernel)) (by decide +kernel)
theorem mw711 : Cond.methodLink "BellSchoolModel" 242 ⟨"BellSchoolModel", "soups", "([I)I"⟩ ∈ TB := tb_in (lw_i5 123 (by decide +kernel)) (by decide +kernel)
theorem mw712 : Cond.constantLong "BellSchoolModel" 234 (7919 : Int64) ∈ TB := tb_in (lw_i5 119 (by decide +kernel)) (by decide +kernel)
theorem mw713 : Cond.constantLong "BellSchoolModel" 236 (6151 : Int64) ∈ TB := tb_in (lw_i5 120 (by decide +kernel)) (by decide +kernel)
theorem mw714 : Cond.constantLong "BellSchoolModel" 238 (65521 : Int64) ∈ TB := tb_in (lw_i5 121 (by decide +kernel)) (by decide +kernel)
theorem mw715 : Cond.constantLong "BellSchoolModel" 240 (2 : Int64) ∈ TB := tb_in (lw_i5 122 (by decide +kernel)) (by decide +kernel)
theorem mw716 : Cond.code ⟨"BellSchoolModel", "year", "(III)I"⟩ prog_11_method_62_code 8 (some .int) ∈ TB := tb_in (lw_i5 118 (by decide +kernel)) (by decide +kernel)
theorem mw717 : Cond.instanceMethod ⟨"BellSchoolModel", "year", "(III)I"⟩ ∈ TB := tb_in (lw_i5 116 (by decide +kernel)) (by decide +kernel)
theorem mw718 : Cond.selects "BellSchoolModel" ⟨"BellSchoolModel", "year", "(III)I"⟩ ⟨"BellSchoolModel", "year", "(III)I"⟩ ∈ TB := tb_in (lw_i5 117 (by decide +kernel)) (by decide +kernel)
theorem mw719 : Cond.fieldLink "BellSchoolModel" 74 "BellSchoolModel" "kept" "[I" ∈ TB := tb_in (lw_i4 78 (by decide +kernel)) (by decide +kernel)
theorem mw720 : Cond.code ⟨"BellSchoolModel", "keep", "()I"⟩ prog_11_method_63_code 2 (some .int) ∈ TB := tb_in (lw_i5 129 (by decide +kernel)) (by decide +kernel)
theorem mw721 : Cond.instanceMethod ⟨"BellSchoolModel", "keep", "()I"⟩ ∈ TB := tb_in (lw_i5 127 (by decide +kernel)) (by decide +kernel)
theorem mw722 : Cond.selects "BellSchoolModel" ⟨"BellSchoolModel", "keep", "()I"⟩ ⟨"BellSchoolModel", "keep", "()I"⟩ ∈ TB := tb_in (lw_i5 128 (by decide +kernel)) (by decide +kernel)
theorem mw723 : Cond.code ⟨"BellSchoolModel", "back", "()I"⟩ prog_11_method_64_code 2 (some .int) ∈ TB := tb_in (lw_i5 133 (by decide +kernel)) (by decide +kernel)
theorem mw724 : Cond.instanceMethod ⟨"BellSchoolModel", "back", "()I"⟩ ∈ TB := tb_in (lw_i5 131 (by decide +kernel)) (by decide +kernel)
theorem mw725 : Cond.selects "BellSchoolModel" ⟨"BellSchoolModel", "back", "()I"⟩ ⟨"BellSchoolModel", "back", "()I"⟩ ∈ TB := tb_in (lw_i5 132 (by decide +kernel)) (by decide +kernel)
theorem mw726 : Cond.code ⟨"BellSchoolModel", "wayMany", "()I"⟩ prog_11_method_65_code 3 (some .int) ∈ TB := tb_in (lw_i5 141 (by decide +kernel)) (by decide +kernel)
theorem mw727 : Cond.instanceMethod ⟨"BellSchoolModel", "wayMany", "()I"⟩ ∈ TB := tb_in (lw_i5 140 (by decide +kernel)) (by decide +kernel)
theorem mw728 : Cond.selects "BellSchoolModel" ⟨"BellSchoolModel", "wayMany", "()I"⟩ ⟨"BellSchoolModel", "wayMany", "()I"⟩ ∈ TB := tb_in (lw_s 50 (by decide +kernel)) (by decide +kernel)
theorem mw729 : Cond.methodLink "BellSchoolModel" 246 ⟨"BellSchoolModel", "wayMany", "()I"⟩ ∈ TB := tb_in (lw_i5 138 (by decide +kernel)) (by decide +kernel)
theorem mw730 : Cond.methodLink "BellSchoolModel" 249 ⟨"BellSchoolModel", "bits", "(I)I"⟩ ∈ TB := tb_in (lw_i5 142 (by decide +kernel)) (by decide +kernel)
theorem mw731 : Cond.code ⟨"BellSchoolModel", "count", "(I)I"⟩ prog_11_method_66_code 2 (some .int) ∈ TB := tb_in (lw_i5 137 (by decide +kernel)) (by decide +kernel)
theorem mw732 : Cond.instanceMethod ⟨"BellSchoolModel", "count", "(I)I"⟩ ∈ TB := tb_in (lw_i5 135 (by decide +kernel)) (by decide +kernel)
theorem mw733 : Cond.selects "BellSchoolModel" ⟨"BellSchoolModel", "count", "(I)I"⟩ ⟨"BellSchoolModel", "count", "(I)I"⟩ ∈ TB := tb_in (lw_i5 136 (by decide +kernel)) (by decide +kernel)
theorem md_Text_add : MDv ⟨"BellSchool$Text", "add", "(C)Z"⟩ prog_8_method_2_code 2 (some .boolean) 1 := ⟨mw2, mw4, mw5, mw3, by decide, by decide, by decide +kernel⟩
theorem md_B_write : MDv ⟨"BellSchool", "write", "(I)I"⟩ prog_1_method_2_code 2 (some .int) 1 := ⟨mw9, mw11, mw12, mw10, by decide, by decide, by decide +kernel⟩
theorem md_B_wipe : MDv ⟨"BellSchool", "wipe", "()I"⟩ prog_1_method_3_code 2 (some .int) 0 := ⟨mw13, mw14, mw15, mw10, by decide, by decide, by decide +kernel⟩
theorem md_Valley_clear : MDv ⟨"BellSchool$Valley", "clear", "()V"⟩ prog_9_method_2_code 2 none 0 := ⟨mw22, mw24, mw25, mw23, by decide, by decide, by decide +kernel⟩
theorem md_Text_at : MDv ⟨"BellSchool$Text", "at", "(I)C"⟩ prog_8_method_3_code 2 (some .char) 1 := ⟨mw26, mw27, mw28, mw3, by decide, by decide, by decide +kernel⟩
theorem md_Reader_numbersOf : MDs ⟨"BellSchool$Reader", "numbersOf", "(I)I"⟩ prog_4_method_3_code 1 (some .int) 1 := ⟨mw29, mw31, mw30, by decide, by decide, by decide +kernel⟩
theorem md_Reader_isFigure : MDs ⟨"BellSchool$Reader", "isFigure", "(C)Z"⟩ prog_4_method_5_code 1 (some .boolean) 1 := ⟨mw32, mw33, mw30, by decide, by decide, by decide +kernel⟩
theorem md_Reader_readNumbers : MDv ⟨"BellSchool$Reader", "readNumbers", "(LBellSchool$Text;I)Z"⟩ prog_4_method_4_code 4 (some .boolean) 2 := ⟨mw38, mw39, mw40, mw30, by decide, by decide, by decide +kernel⟩
theorem md_Valley_addHome : MDv ⟨"BellSchool$Valley", "addHome", "(II)Z"⟩ prog_9_method_5_code 3 (some .boolean) 2 := ⟨mw43, mw44, mw45, mw23, by decide, by decide, by decide +kernel⟩
theorem md_Valley_has : MDv ⟨"BellSchool$Valley", "has", "(I)Z"⟩ prog_9_method_3_code 2 (some .boolean) 1 := ⟨mw46, mw47, mw48, mw23, by decide, by decide, by decide +kernel⟩
theorem md_Valley_hasTwo : MDv ⟨"BellSchool$Valley", "hasTwo", "(II)Z"⟩ prog_9_method_4_code 3 (some .boolean) 2 := ⟨mw50, mw51, mw52, mw23, by decide, by decide, by decide +kernel⟩
theorem md_B_pairOf : MDs ⟨"BellSchool", "pairOf", "(II)I"⟩ prog_1_method_37_code 2 (some .int) 2 := ⟨mw60, mw61, mw10, by decide, by decide, by decide +kernel⟩
theorem md_Valley_addWay : MDv ⟨"BellSchool$Valley", "addWay", "(III)Z"⟩ prog_9_method_6_code 4 (some .boolean) 3 := ⟨mw63, mw64, mw65, mw23, by decide, by decide, by decide +kernel⟩
theorem md_Valley_addSnow : MDv ⟨"BellSchool$Valley", "addSnow", "(IIII)Z"⟩ prog_9_method_7_code 5 (some .boolean) 4 := ⟨mw66, mw67, mw68, mw23, by decide, by decide, by decide +kernel⟩
theorem md_Valley_putBell : MDv ⟨"BellSchool$Valley", "putBell", "(I)Z"⟩ prog_9_method_8_code 2 (some .boolean) 1 := ⟨mw69, mw70, mw71, mw23, by decide, by decide, by decide +kernel⟩
theorem md_Valley_limit : MDv ⟨"BellSchool$Valley", "limit", "(I)Z"⟩ prog_9_method_9_code 2 (some .boolean) 1 := ⟨mw72, mw73, mw74, mw23, by decide, by decide, by decide +kernel⟩
theorem md_Reader_told : MDv ⟨"BellSchool$Reader", "told", "(LBellSchool$Valley;I)Z"⟩ prog_4_method_6_code 3 (some .boolean) 2 := ⟨mw80, mw81, mw82, mw30, by decide, by decide, by decide +kernel⟩
theorem md_Reader_readInto : MDv ⟨"BellSchool$Reader", "readInto", "(LBellSchool$Valley;LBellSchool$Text;)I"⟩ prog_4_method_2_code 6 (some .int) 2 := ⟨mw89, mw90, mw91, mw30, by decide, by decide, by decide +kernel⟩
theorem md_B_fault : MDv ⟨"BellSchool", "fault", "()I"⟩ prog_1_method_4_code 1 (some .int) 0 := ⟨mw95, mw96, mw97, mw10, by decide, by decide, by decide +kernel⟩
theorem md_Noon_settle : MDv ⟨"BellSchool$Noon", "settle", "(LBellSchool$Valley;)V"⟩ prog_3_method_2_code 3 none 1 := ⟨mw101, mw103, mw104, mw102, by decide, by decide, by decide +kernel⟩
theorem md_Standing_begin : MDv ⟨"BellSchool$Standing", "begin", "(I)V"⟩ prog_7_method_2_code 3 none 1 := ⟨mw112, mw114, mw115, mw113, by decide, by decide, by decide +kernel⟩
theorem md_B_layText : MDv ⟨"BellSchool", "layText", "()Z"⟩ prog_1_method_30_code 2 (some .boolean) 0 := ⟨mw129, mw130, mw131, mw10, by decide, by decide, by decide +kernel⟩
theorem md_B_lay : MDv ⟨"BellSchool", "lay", "()I"⟩ prog_1_method_5_code 1 (some .int) 0 := ⟨mw134, mw135, mw136, mw10, by decide, by decide, by decide +kernel⟩
theorem md_B_home : MDv ⟨"BellSchool", "home", "(II)I"⟩ prog_1_method_6_code 3 (some .int) 2 := ⟨mw144, mw145, mw146, mw10, by decide, by decide, by decide +kernel⟩
theorem md_Valley_canBeGone : MDv ⟨"BellSchool$Valley", "canBeGone", "(IIJ)Z"⟩ prog_9_method_11_code 6 (some .boolean) 3 := ⟨mw147, mw148, mw149, mw23, by decide, by decide, by decide +kernel⟩
theorem md_B_way : MDv ⟨"BellSchool", "way", "(III)I"⟩ prog_1_method_7_code 5 (some .int) 3 := ⟨mw156, mw157, mw158, mw10, by decide, by decide, by decide +kernel⟩
theorem md_Noon_shortenBy : MDv ⟨"BellSchool$Noon", "shortenBy", "(III)V"⟩ prog_3_method_6_code 8 none 3 := ⟨mw162, mw163, mw164, mw102, by decide, by decide, by decide +kernel⟩
theorem md_Noon_readyFars : MDv ⟨"BellSchool$Noon", "readyFars", "(IJ)I"⟩ prog_3_method_5_code 10 (some .int) 2 := ⟨mw169, mw170, mw171, mw102, by decide, by decide, by decide +kernel⟩
theorem md_Noon_farOn : MDv ⟨"BellSchool$Noon", "farOn", "(IJII)I"⟩ prog_3_method_4_code 7 (some .int) 4 := ⟨mw173, mw174, mw175, mw102, by decide, by decide, by decide +kernel⟩
theorem md_B_far : MDv ⟨"BellSchool", "far", "(II)I"⟩ prog_1_method_8_code 3 (some .int) 2 := ⟨mw177, mw178, mw179, mw10, by decide, by decide, by decide +kernel⟩
theorem md_Noon_walk : MDs ⟨"BellSchool$Noon", "walk", "(II)I"⟩ prog_3_method_8_code 2 (some .int) 2 := ⟨mw180, mw181, mw102, by decide, by decide, by decide +kernel⟩
theorem md_Noon_timeOf : MDv ⟨"BellSchool$Noon", "timeOf", "(LBellSchool$Standing;II)I"⟩ prog_3_method_7_code 7 (some .int) 3 := ⟨mw189, mw190, mw191, mw102, by decide, by decide, by decide +kernel⟩
theorem md_Noon_gather : MDv ⟨"BellSchool$Noon", "gather", "(LBellSchool$Standing;)V"⟩ prog_3_method_9_code 4 none 1 := ⟨mw198, mw199, mw200, mw102, by decide, by decide, by decide +kernel⟩
theorem md_B_comes : MDv ⟨"BellSchool", "comes", "(I)I"⟩ prog_1_method_9_code 2 (some .int) 1 := ⟨mw203, mw204, mw205, mw10, by decide, by decide, by decide +kernel⟩
theorem md_B_last : MDv ⟨"BellSchool", "last", "()I"⟩ prog_1_method_10_code 1 (some .int) 0 := ⟨mw207, mw208, mw209, mw10, by decide, by decide, by decide +kernel⟩
theorem md_Standing_copy : MDv ⟨"BellSchool$Standing", "copy", "(LBellSchool$Standing;)V"⟩ prog_7_method_3_code 3 none 1 := ⟨mw210, mw211, mw212, mw113, by decide, by decide, by decide +kernel⟩
theorem md_Shelf_put : MDv ⟨"BellSchool$Shelf", "put", "(LBellSchool$Standing;)Z"⟩ prog_6_method_2_code 2 (some .boolean) 1 := ⟨mw216, mw218, mw219, mw217, by decide, by decide, by decide +kernel⟩
theorem md_Shelf_putDroppingOldest : MDv ⟨"BellSchool$Shelf", "putDroppingOldest", "(LBellSchool$Standing;)V"⟩ prog_6_method_3_code 4 none 1 := ⟨mw221, mw222, mw223, mw217, by decide, by decide, by decide +kernel⟩
theorem md_Noon_goBy : MDv ⟨"BellSchool$Noon", "goBy", "(LBellSchool$Standing;)V"⟩ prog_3_method_10_code 2 none 1 := ⟨mw227, mw228, mw229, mw102, by decide, by decide, by decide +kernel⟩
theorem md_B_goBy : MDv ⟨"BellSchool", "goBy", "(LBellSchool$Standing;I)V"⟩ prog_1_method_31_code 4 none 2 := ⟨mw231, mw232, mw233, mw10, by decide, by decide, by decide +kernel⟩
theorem md_B_pass : MDv ⟨"BellSchool", "pass", "(I)I"⟩ prog_1_method_11_code 2 (some .int) 1 := ⟨mw236, mw237, mw238, mw10, by decide, by decide, by decide +kernel⟩
theorem md_B_keepBack : MDv ⟨"BellSchool", "keepBack", "(I)I"⟩ prog_1_method_12_code 2 (some .int) 1 := ⟨mw239, mw240, mw241, mw10, by decide, by decide, by decide +kernel⟩
theorem md_B_sick : MDv ⟨"BellSchool", "sick", "(I)I"⟩ prog_1_method_13_code 2 (some .int) 1 := ⟨mw242, mw243, mw244, mw10, by decide, by decide, by decide +kernel⟩
theorem md_B_shut : MDv ⟨"BellSchool", "shut", "(II)I"⟩ prog_1_method_14_code 4 (some .int) 2 := ⟨mw245, mw246, mw247, mw10, by decide, by decide, by decide +kernel⟩
theorem md_Shelf_takeInto : MDv ⟨"BellSchool$Shelf", "takeInto", "(LBellSchool$Standing;)Z"⟩ prog_6_method_4_code 2 (some .boolean) 1 := ⟨mw248, mw249, mw250, mw217, by decide, by decide, by decide +kernel⟩
theorem md_B_undo : MDv ⟨"BellSchool", "undo", "()I"⟩ prog_1_method_15_code 1 (some .int) 0 := ⟨mw252, mw253, mw254, mw10, by decide, by decide, by decide +kernel⟩
theorem md_B_behind : MDv ⟨"BellSchool", "behind", "(I)I"⟩ prog_1_method_16_code 2 (some .int) 1 := ⟨mw257, mw258, mw259, mw10, by decide, by decide, by decide +kernel⟩
theorem md_B_again : MDv ⟨"BellSchool", "again", "()I"⟩ prog_1_method_17_code 2 (some .int) 0 := ⟨mw260, mw261, mw262, mw10, by decide, by decide, by decide +kernel⟩
theorem md_Standing_isLike : MDv ⟨"BellSchool$Standing", "isLike", "(LBellSchool$Standing;)Z"⟩ prog_7_method_4_code 2 (some .boolean) 1 := ⟨mw263, mw264, mw265, mw113, by decide, by decide, by decide +kernel⟩
theorem md_Noon_homes : MDv ⟨"BellSchool$Noon", "homes", "()I"⟩ prog_3_method_3_code 1 (some .int) 0 := ⟨mw266, mw267, mw268, mw102, by decide, by decide, by decide +kernel⟩
theorem md_Search_numberMissing : MDv ⟨"BellSchool$Search", "numberMissing", "()V"⟩ prog_5_method_4_code 4 none 0 := ⟨mw275, mw277, mw278, mw276, by decide, by decide, by decide +kernel⟩
theorem md_Search_begin : MDv ⟨"BellSchool$Search", "begin", "(LBellSchool$Standing;I)V"⟩ prog_5_method_3_code 4 none 2 := ⟨mw286, mw287, mw288, mw276, by decide, by decide, by decide +kernel⟩
theorem md_Search_isWholeBy : MDv ⟨"BellSchool$Search", "isWholeBy", "(I)Z"⟩ prog_5_method_5_code 3 (some .boolean) 1 := ⟨mw289, mw290, mw291, mw276, by decide, by decide, by decide +kernel⟩
theorem md_Noon_latestHolding : MDv ⟨"BellSchool$Noon", "latestHolding", "(I)I"⟩ prog_3_method_11_code 4 (some .int) 1 := ⟨mw292, mw293, mw294, mw102, by decide, by decide, by decide +kernel⟩
theorem md_Search_placeOf : MDs ⟨"BellSchool$Search", "placeOf", "(III)I"⟩ prog_5_method_7_code 3 (some .int) 3 := ⟨mw295, mw296, mw276, by decide, by decide, by decide +kernel⟩
theorem md_Search_joined : MDs ⟨"BellSchool$Search", "joined", "(JI)J"⟩ prog_5_method_8_code 5 (some .long) 2 := ⟨mw298, mw299, mw276, by decide, by decide, by decide +kernel⟩
theorem md_Search_spread : MDv ⟨"BellSchool$Search", "spread", "(LBellSchool$Noon;I)V"⟩ prog_5_method_6_code 9 none 2 := ⟨mw307, mw308, mw309, mw276, by decide, by decide, by decide +kernel⟩
theorem md_Search_before : MDs ⟨"BellSchool$Search", "before", "(JI)J"⟩ prog_5_method_9_code 5 (some .long) 2 := ⟨mw310, mw311, mw276, by decide, by decide, by decide +kernel⟩
theorem md_Search_hopesFrom : MDv ⟨"BellSchool$Search", "hopesFrom", "(II)J"⟩ prog_5_method_11_code 7 (some .long) 2 := ⟨mw314, mw315, mw316, mw276, by decide, by decide, by decide +kernel⟩
theorem md_Search_findHopeful : MDv ⟨"BellSchool$Search", "findHopeful", "()V"⟩ prog_5_method_10_code 3 none 0 := ⟨mw319, mw320, mw321, mw276, by decide, by decide, by decide +kernel⟩
theorem md_Search_firstHopeful : MDv ⟨"BellSchool$Search", "firstHopeful", "(IIJ)I"⟩ prog_5_method_13_code 7 (some .int) 3 := ⟨mw322, mw323, mw324, mw276, by decide, by decide, by decide +kernel⟩
theorem md_Search_findRow : MDv ⟨"BellSchool$Search", "findRow", "()V"⟩ prog_5_method_12_code 6 none 0 := ⟨mw327, mw328, mw329, mw276, by decide, by decide, by decide +kernel⟩
theorem md_Search_search : MDv ⟨"BellSchool$Search", "search", "(LBellSchool$Noon;LBellSchool$Standing;)V"⟩ prog_5_method_2_code 4 none 2 := ⟨mw337, mw338, mw339, mw276, by decide, by decide, by decide +kernel⟩
theorem md_B_each : MDv ⟨"BellSchool", "each", "(I)I"⟩ prog_1_method_18_code 2 (some .int) 1 := ⟨mw343, mw344, mw345, mw10, by decide, by decide, by decide +kernel⟩
theorem md_B_allBits : MDv ⟨"BellSchool", "allBits", "()I"⟩ prog_1_method_32_code 1 (some .int) 0 := ⟨mw346, mw347, mw348, mw10, by decide, by decide, by decide +kernel⟩
theorem md_B_always : MDv ⟨"BellSchool", "always", "()I"⟩ prog_1_method_19_code 3 (some .int) 0 := ⟨mw350, mw351, mw352, mw10, by decide, by decide, by decide +kernel⟩
theorem md_B_never : MDv ⟨"BellSchool", "never", "()I"⟩ prog_1_method_20_code 3 (some .int) 0 := ⟨mw353, mw354, mw355, mw10, by decide, by decide, by decide +kernel⟩
theorem md_B_see : MDv ⟨"BellSchool", "see", "(II)I"⟩ prog_1_method_21_code 3 (some .int) 2 := ⟨mw358, mw359, mw360, mw10, by decide, by decide, by decide +kernel⟩
theorem md_B_forget : MDv ⟨"BellSchool", "forget", "()I"⟩ prog_1_method_22_code 2 (some .int) 0 := ⟨mw361, mw362, mw363, mw10, by decide, by decide, by decide +kernel⟩
theorem md_B_farthestSeen : MDv ⟨"BellSchool", "farthestSeen", "()I"⟩ prog_1_method_34_code 3 (some .int) 0 := ⟨mw364, mw365, mw366, mw10, by decide, by decide, by decide +kernel⟩
theorem md_B_isSeenAt : MDv ⟨"BellSchool", "isSeenAt", "(II)Z"⟩ prog_1_method_35_code 4 (some .boolean) 2 := ⟨mw367, mw368, mw369, mw10, by decide, by decide, by decide +kernel⟩
theorem md_B_fitsSeen : MDv ⟨"BellSchool", "fitsSeen", "(II)Z"⟩ prog_1_method_33_code 5 (some .boolean) 2 := ⟨mw372, mw373, mw374, mw10, by decide, by decide, by decide +kernel⟩
theorem md_B_fog : MDv ⟨"BellSchool", "fog", "()I"⟩ prog_1_method_23_code 3 (some .int) 0 := ⟨mw376, mw377, mw378, mw10, by decide, by decide, by decide +kernel⟩
theorem md_B_tripped : MDv ⟨"BellSchool", "tripped", "()I"⟩ prog_1_method_24_code 3 (some .int) 0 := ⟨mw379, mw380, mw381, mw10, by decide, by decide, by decide +kernel⟩
theorem md_Measles_power : MDs ⟨"BellSchool$Measles", "power", "(II)J"⟩ prog_2_method_5_code 5 (some .long) 2 := ⟨mw382, mw384, mw383, by decide, by decide, by decide +kernel⟩
theorem md_Noon_laterThan : MDv ⟨"BellSchool$Noon", "laterThan", "(I)I"⟩ prog_3_method_12_code 4 (some .int) 1 := ⟨mw385, mw386, mw387, mw102, by decide, by decide, by decide +kernel⟩
theorem md_Measles_spreadFrom : MDv ⟨"BellSchool$Measles", "spreadFrom", "(ILBellSchool$Noon;I)V"⟩ prog_2_method_4_code 9 none 3 := ⟨mw395, mw396, mw397, mw383, by decide, by decide, by decide +kernel⟩
theorem md_Measles_spread : MDv ⟨"BellSchool$Measles", "spread", "(LBellSchool$Noon;LBellSchool$Standing;I)V"⟩ prog_2_method_3_code 5 none 3 := ⟨mw402, mw403, mw404, mw383, by decide, by decide, by decide +kernel⟩
theorem md_Measles_reckon : MDv ⟨"BellSchool$Measles", "reckon", "(LBellSchool$Noon;LBellSchool$Standing;II)V"⟩ prog_2_method_2_code 6 none 4 := ⟨mw408, mw409, mw410, mw383, by decide, by decide, by decide +kernel⟩
theorem md_B_commonDivisor : MDs ⟨"BellSchool", "commonDivisor", "(JJ)J"⟩ prog_1_method_38_code 11 (some .long) 2 := ⟨mw411, mw412, mw10, by decide, by decide, by decide +kernel⟩
theorem md_B_measles : MDv ⟨"BellSchool", "measles", "(IIII)J"⟩ prog_1_method_25_code 9 (some .long) 4 := ⟨mw422, mw423, mw424, mw10, by decide, by decide, by decide +kernel⟩
theorem md_B_drawnOn : MDv ⟨"BellSchool", "drawnOn", "(II)I"⟩ prog_1_method_36_code 7 (some .int) 2 := ⟨mw430, mw431, mw432, mw10, by decide, by decide, by decide +kernel⟩
theorem md_Standing_soupsInAll : MDv ⟨"BellSchool$Standing", "soupsInAll", "()I"⟩ prog_7_method_5_code 3 (some .int) 0 := ⟨mw433, mw434, mw435, mw113, by decide, by decide, by decide +kernel⟩
theorem md_B_year : MDv ⟨"BellSchool", "year", "(III)I"⟩ prog_1_method_26_code 5 (some .int) 3 := ⟨mw438, mw439, mw440, mw10, by decide, by decide, by decide +kernel⟩
theorem md_B_keep : MDv ⟨"BellSchool", "keep", "()I"⟩ prog_1_method_27_code 1 (some .int) 0 := ⟨mw442, mw443, mw444, mw10, by decide, by decide, by decide +kernel⟩
theorem md_B_back : MDv ⟨"BellSchool", "back", "()I"⟩ prog_1_method_28_code 1 (some .int) 0 := ⟨mw445, mw446, mw447, mw10, by decide, by decide, by decide +kernel⟩
theorem md_Valley_ways : MDv ⟨"BellSchool$Valley", "ways", "()I"⟩ prog_9_method_10_code 3 (some .int) 0 := ⟨mw448, mw449, mw450, mw23, by decide, by decide, by decide +kernel⟩
theorem md_Long_bitCount : MDs ⟨"java/lang/Long", "bitCount", "(J)I"⟩ prog_13_method_50_code 2 (some .int) 1 := ⟨mw454, mw456, mw455, by decide, by decide, by decide +kernel⟩
theorem md_Integer_bitCount : MDs ⟨"java/lang/Integer", "bitCount", "(I)I"⟩ prog_12_method_49_code 1 (some .int) 1 := ⟨mw460, mw462, mw461, by decide, by decide, by decide +kernel⟩
theorem md_B_count : MDv ⟨"BellSchool", "count", "(I)I"⟩ prog_1_method_29_code 2 (some .int) 1 := ⟨mw466, mw467, mw468, mw10, by decide, by decide, by decide +kernel⟩
theorem md_M_in : MDs ⟨"BellSchoolModel", "in", "(III)Z"⟩ prog_11_method_2_code 3 (some .boolean) 3 := ⟨mw469, mw471, mw470, by decide, by decide, by decide +kernel⟩
theorem md_M_has : MDs ⟨"BellSchoolModel", "has", "(II)Z"⟩ prog_11_method_3_code 2 (some .boolean) 2 := ⟨mw472, mw473, mw470, by decide, by decide, by decide +kernel⟩
theorem md_M_bits : MDs ⟨"BellSchoolModel", "bits", "(I)I"⟩ prog_11_method_4_code 3 (some .int) 1 := ⟨mw474, mw475, mw470, by decide, by decide, by decide +kernel⟩
theorem md_M_anew : MDv ⟨"BellSchoolModel", "anew", "()V"⟩ prog_11_method_5_code 2 none 0 := ⟨mw482, mw483, mw484, mw470, by decide, by decide, by decide +kernel⟩
theorem md_M_comesHome : MDv ⟨"BellSchoolModel", "comesHome", "(II)V"⟩ prog_11_method_6_code 3 none 2 := ⟨mw487, mw488, mw489, mw470, by decide, by decide, by decide +kernel⟩
theorem md_M_joins : MDv ⟨"BellSchoolModel", "joins", "(III)V"⟩ prog_11_method_7_code 4 none 3 := ⟨mw490, mw491, mw492, mw470, by decide, by decide, by decide +kernel⟩
theorem md_M_snows : MDv ⟨"BellSchoolModel", "snows", "(IIII)V"⟩ prog_11_method_8_code 5 none 4 := ⟨mw493, mw494, mw495, mw470, by decide, by decide, by decide +kernel⟩
theorem md_M_write : MDv ⟨"BellSchoolModel", "write", "(I)I"⟩ prog_11_method_9_code 2 (some .int) 1 := ⟨mw499, mw500, mw501, mw470, by decide, by decide, by decide +kernel⟩
theorem md_M_wipe : MDv ⟨"BellSchoolModel", "wipe", "()I"⟩ prog_11_method_10_code 2 (some .int) 0 := ⟨mw502, mw503, mw504, mw470, by decide, by decide, by decide +kernel⟩
theorem md_M_here : MDv ⟨"BellSchoolModel", "here", "()I"⟩ prog_11_method_11_code 1 (some .int) 0 := ⟨mw506, mw507, mw508, mw470, by decide, by decide, by decide +kernel⟩
theorem md_M_numbers : MDv ⟨"BellSchoolModel", "numbers", "(I)Z"⟩ prog_11_method_12_code 3 (some .boolean) 1 := ⟨mw511, mw512, mw513, mw470, by decide, by decide, by decide +kernel⟩
theorem md_M_isTwo : MDv ⟨"BellSchoolModel", "isTwo", "()Z"⟩ prog_11_method_13_code 1 (some .boolean) 0 := ⟨mw514, mw515, mw516, mw470, by decide, by decide, by decide +kernel⟩
theorem md_M_readsHome : MDv ⟨"BellSchoolModel", "readsHome", "()Z"⟩ prog_11_method_14_code 1 (some .boolean) 0 := ⟨mw519, mw520, mw521, mw470, by decide, by decide, by decide +kernel⟩
theorem md_M_readsWay : MDv ⟨"BellSchoolModel", "readsWay", "()Z"⟩ prog_11_method_15_code 1 (some .boolean) 0 := ⟨mw524, mw525, mw526, mw470, by decide, by decide, by decide +kernel⟩
theorem md_M_readsSnow : MDv ⟨"BellSchoolModel", "readsSnow", "()Z"⟩ prog_11_method_16_code 1 (some .boolean) 0 := ⟨mw528, mw529, mw530, mw470, by decide, by decide, by decide +kernel⟩
theorem md_M_readsBell : MDv ⟨"BellSchoolModel", "readsBell", "()Z"⟩ prog_11_method_17_code 1 (some .boolean) 0 := ⟨mw531, mw532, mw533, mw470, by decide, by decide, by decide +kernel⟩
theorem md_M_readsMost : MDv ⟨"BellSchoolModel", "readsMost", "()Z"⟩ prog_11_method_18_code 1 (some .boolean) 0 := ⟨mw534, mw535, mw536, mw470, by decide, by decide, by decide +kernel⟩
theorem md_M_readsItem : MDv ⟨"BellSchoolModel", "readsItem", "()Z"⟩ prog_11_method_19_code 2 (some .boolean) 0 := ⟨mw542, mw543, mw544, mw470, by decide, by decide, by decide +kernel⟩
theorem md_M_faultOf : MDv ⟨"BellSchoolModel", "faultOf", "()I"⟩ prog_11_method_20_code 2 (some .int) 0 := ⟨mw547, mw548, mw549, mw470, by decide, by decide, by decide +kernel⟩
theorem md_M_fault : MDv ⟨"BellSchoolModel", "fault", "()I"⟩ prog_11_method_21_code 1 (some .int) 0 := ⟨mw551, mw552, mw553, mw470, by decide, by decide, by decide +kernel⟩
theorem md_M_laid : MDv ⟨"BellSchoolModel", "laid", "()V"⟩ prog_11_method_22_code 2 none 0 := ⟨mw565, mw566, mw567, mw470, by decide, by decide, by decide +kernel⟩
theorem md_M_lay : MDv ⟨"BellSchoolModel", "lay", "()I"⟩ prog_11_method_23_code 1 (some .int) 0 := ⟨mw569, mw570, mw571, mw470, by decide, by decide, by decide +kernel⟩
theorem md_M_isHome : MDv ⟨"BellSchoolModel", "isHome", "(I)Z"⟩ prog_11_method_24_code 2 (some .boolean) 1 := ⟨mw572, mw573, mw574, mw470, by decide, by decide, by decide +kernel⟩
theorem md_M_pair : MDs ⟨"BellSchoolModel", "pair", "(II)I"⟩ prog_11_method_25_code 4 (some .int) 2 := ⟨mw575, mw576, mw470, by decide, by decide, by decide +kernel⟩
theorem md_M_isOpen : MDv ⟨"BellSchoolModel", "isOpen", "([III)Z"⟩ prog_11_method_26_code 5 (some .boolean) 3 := ⟨mw579, mw580, mw581, mw470, by decide, by decide, by decide +kernel⟩
theorem md_M_layMinutes : MDv ⟨"BellSchoolModel", "layMinutes", "([II)V"⟩ prog_11_method_27_code 6 none 2 := ⟨mw585, mw586, mw587, mw470, by decide, by decide, by decide +kernel⟩
theorem md_M_arrives : MDv ⟨"BellSchoolModel", "arrives", "([II)I"⟩ prog_11_method_28_code 6 (some .int) 2 := ⟨mw588, mw589, mw590, mw470, by decide, by decide, by decide +kernel⟩
theorem md_M_latest : MDv ⟨"BellSchoolModel", "latest", "([II)I"⟩ prog_11_method_29_code 7 (some .int) 2 := ⟨mw593, mw594, mw595, mw470, by decide, by decide, by decide +kernel⟩
theorem md_M_goesBy : MDv ⟨"BellSchoolModel", "goesBy", "([I)V"⟩ prog_11_method_30_code 4 none 1 := ⟨mw597, mw598, mw599, mw470, by decide, by decide, by decide +kernel⟩
theorem md_M_copyNow : MDv ⟨"BellSchoolModel", "copyNow", "()V"⟩ prog_11_method_31_code 2 none 0 := ⟨mw601, mw602, mw603, mw470, by decide, by decide, by decide +kernel⟩
theorem md_M_home : MDv ⟨"BellSchoolModel", "home", "(II)I"⟩ prog_11_method_32_code 3 (some .int) 2 := ⟨mw605, mw606, mw607, mw470, by decide, by decide, by decide +kernel⟩
theorem md_M_way : MDv ⟨"BellSchoolModel", "way", "(III)I"⟩ prog_11_method_33_code 5 (some .int) 3 := ⟨mw608, mw609, mw610, mw470, by decide, by decide, by decide +kernel⟩
theorem md_M_far : MDv ⟨"BellSchoolModel", "far", "(II)I"⟩ prog_11_method_34_code 3 (some .int) 2 := ⟨mw611, mw612, mw613, mw470, by decide, by decide, by decide +kernel⟩
theorem md_M_comes : MDv ⟨"BellSchoolModel", "comes", "(I)I"⟩ prog_11_method_35_code 3 (some .int) 1 := ⟨mw614, mw615, mw616, mw470, by decide, by decide, by decide +kernel⟩
theorem md_M_last : MDv ⟨"BellSchoolModel", "last", "()I"⟩ prog_11_method_36_code 1 (some .int) 0 := ⟨mw617, mw618, mw619, mw470, by decide, by decide, by decide +kernel⟩
theorem md_M_remember : MDv ⟨"BellSchoolModel", "remember", "()V"⟩ prog_11_method_37_code 2 none 0 := ⟨mw622, mw623, mw624, mw470, by decide, by decide, by decide +kernel⟩
theorem md_M_pass : MDv ⟨"BellSchoolModel", "pass", "(I)I"⟩ prog_11_method_38_code 3 (some .int) 1 := ⟨mw627, mw628, mw629, mw470, by decide, by decide, by decide +kernel⟩
theorem md_M_keepBack : MDv ⟨"BellSchoolModel", "keepBack", "(I)I"⟩ prog_11_method_39_code 2 (some .int) 1 := ⟨mw630, mw631, mw632, mw470, by decide, by decide, by decide +kernel⟩
theorem md_M_sick : MDv ⟨"BellSchoolModel", "sick", "(I)I"⟩ prog_11_method_40_code 2 (some .int) 1 := ⟨mw633, mw634, mw635, mw470, by decide, by decide, by decide +kernel⟩
theorem md_M_shut : MDv ⟨"BellSchoolModel", "shut", "(II)I"⟩ prog_11_method_41_code 3 (some .int) 2 := ⟨mw636, mw637, mw638, mw470, by decide, by decide, by decide +kernel⟩
theorem md_M_undo : MDv ⟨"BellSchoolModel", "undo", "()I"⟩ prog_11_method_42_code 2 (some .int) 0 := ⟨mw639, mw640, mw641, mw470, by decide, by decide, by decide +kernel⟩
theorem md_M_behind : MDv ⟨"BellSchoolModel", "behind", "(I)I"⟩ prog_11_method_43_code 3 (some .int) 1 := ⟨mw643, mw644, mw645, mw470, by decide, by decide, by decide +kernel⟩
theorem md_M_again : MDv ⟨"BellSchoolModel", "again", "()I"⟩ prog_11_method_44_code 2 (some .int) 0 := ⟨mw646, mw647, mw648, mw470, by decide, by decide, by decide +kernel⟩
theorem md_M_nextAt : MDs ⟨"BellSchoolModel", "nextAt", "(III)I"⟩ prog_11_method_45_code 3 (some .int) 3 := ⟨mw649, mw650, mw470, by decide, by decide, by decide +kernel⟩
theorem md_M_yetAt : MDs ⟨"BellSchoolModel", "yetAt", "(III)I"⟩ prog_11_method_46_code 3 (some .int) 3 := ⟨mw651, mw652, mw470, by decide, by decide, by decide +kernel⟩
theorem md_M_layNexts : MDv ⟨"BellSchoolModel", "layNexts", "()V"⟩ prog_11_method_47_code 5 none 0 := ⟨mw655, mw656, mw657, mw470, by decide, by decide, by decide +kernel⟩
theorem md_M_byChoice : MDv ⟨"BellSchoolModel", "byChoice", "(IIII)I"⟩ prog_11_method_48_code 6 (some .int) 4 := ⟨mw660, mw661, mw662, mw470, by decide, by decide, by decide +kernel⟩
theorem md_M_layYet : MDv ⟨"BellSchoolModel", "layYet", "()V"⟩ prog_11_method_49_code 8 none 0 := ⟨mw665, mw666, mw667, mw470, by decide, by decide, by decide +kernel⟩
theorem md_M_each : MDv ⟨"BellSchoolModel", "each", "(I)I"⟩ prog_11_method_50_code 7 (some .int) 1 := ⟨mw669, mw670, mw671, mw470, by decide, by decide, by decide +kernel⟩
theorem md_M_always : MDv ⟨"BellSchoolModel", "always", "()I"⟩ prog_11_method_51_code 4 (some .int) 0 := ⟨mw672, mw673, mw674, mw470, by decide, by decide, by decide +kernel⟩
theorem md_M_never : MDv ⟨"BellSchoolModel", "never", "()I"⟩ prog_11_method_52_code 3 (some .int) 0 := ⟨mw675, mw676, mw677, mw470, by decide, by decide, by decide +kernel⟩
theorem md_M_see : MDv ⟨"BellSchoolModel", "see", "(II)I"⟩ prog_11_method_53_code 3 (some .int) 2 := ⟨mw679, mw680, mw681, mw470, by decide, by decide, by decide +kernel⟩
theorem md_M_forget : MDv ⟨"BellSchoolModel", "forget", "()I"⟩ prog_11_method_54_code 2 (some .int) 0 := ⟨mw682, mw683, mw684, mw470, by decide, by decide, by decide +kernel⟩
theorem md_M_isSo : MDv ⟨"BellSchoolModel", "isSo", "()Z"⟩ prog_11_method_55_code 4 (some .boolean) 0 := ⟨mw685, mw686, mw687, mw470, by decide, by decide, by decide +kernel⟩
theorem md_M_fog : MDv ⟨"BellSchoolModel", "fog", "()I"⟩ prog_11_method_56_code 3 (some .int) 0 := ⟨mw689, mw690, mw691, mw470, by decide, by decide, by decide +kernel⟩
theorem md_M_tripped : MDv ⟨"BellSchoolModel", "tripped", "()I"⟩ prog_11_method_57_code 3 (some .int) 0 := ⟨mw692, mw693, mw694, mw470, by decide, by decide, by decide +kernel⟩
theorem md_M_common : MDs ⟨"BellSchoolModel", "common", "(JJ)J"⟩ prog_11_method_58_code 10 (some .long) 2 := ⟨mw695, mw696, mw470, by decide, by decide, by decide +kernel⟩
theorem md_M_spreads : MDv ⟨"BellSchoolModel", "spreads", "(II)V"⟩ prog_11_method_59_code 9 none 2 := ⟨mw699, mw700, mw701, mw470, by decide, by decide, by decide +kernel⟩
theorem md_M_measles : MDv ⟨"BellSchoolModel", "measles", "(IIII)J"⟩ prog_11_method_60_code 9 (some .long) 4 := ⟨mw706, mw707, mw708, mw470, by decide, by decide, by decide +kernel⟩
theorem md_M_soups : MDs ⟨"BellSchoolModel", "soups", "([I)I"⟩ prog_11_method_61_code 3 (some .int) 1 := ⟨mw709, mw710, mw470, by decide, by decide, by decide +kernel⟩
theorem md_M_year : MDv ⟨"BellSchoolModel", "year", "(III)I"⟩ prog_11_method_62_code 8 (some .int) 3 := ⟨mw716, mw717, mw718, mw470, by decide, by decide, by decide +kernel⟩
theorem md_M_keep : MDv ⟨"BellSchoolModel", "keep", "()I"⟩ prog_11_method_63_code 2 (some .int) 0 := ⟨mw720, mw721, mw722, mw470, by decide, by decide, by decide +kernel⟩
theorem md_M_back : MDv ⟨"BellSchoolModel", "back", "()I"⟩ prog_11_method_64_code 2 (some .int) 0 := ⟨mw723, mw724, mw725, mw470, by decide, by decide, by decide +kernel⟩
theorem md_M_wayMany : MDv ⟨"BellSchoolModel", "wayMany", "()I"⟩ prog_11_method_65_code 3 (some .int) 0 := ⟨mw726, mw727, mw728, mw470, by decide, by decide, by decide +kernel⟩
theorem md_M_count : MDv ⟨"BellSchoolModel", "count", "(I)I"⟩ prog_11_method_66_code 2 (some .int) 1 := ⟨mw731, mw732, mw733, mw470, by decide, by decide, by decide +kernel⟩
