/-! ===== printed by wip/whole/gen2.py: the small constructors ===== -/
theorem nw0 : Cond.methodLink "BellSchool$Valley" 3 Lib.objectInit ∈ TB := tb_in (lw_i1 31 rfl) rfl
theorem nw1 : Cond.instanceMethod Lib.objectInit ∈ TB := tb_in (lw_i1 24 rfl) rfl
theorem nw2 : Cond.code Lib.objectInit ⟨#[0xb1]⟩ 1 none ∈ TB := tb_in (lw_i1 25 rfl) rfl
theorem nw3 : Cond.arrayClass .int ∈ TB := tb_in (lw_i1 67 rfl) rfl
theorem nw4 : Cond.fieldLink "BellSchool$Valley" 9 "BellSchool$Valley" "kind" "[I" ∈ TB := tb_in (lw_i1 32 rfl) rfl
theorem nw5 : Cond.fieldLink "BellSchool$Valley" 15 "BellSchool$Valley" "late" "[I" ∈ TB := tb_in (lw_i1 35 rfl) rfl
theorem nw6 : Cond.fieldLink "BellSchool$Valley" 18 "BellSchool$Valley" "minutes" "[I" ∈ TB := tb_in (lw_i1 38 rfl) rfl
theorem nw7 : Cond.fieldLink "BellSchool$Valley" 21 "BellSchool$Valley" "snowFrom" "[I" ∈ TB := tb_in (lw_i1 41 rfl) rfl
theorem nw8 : Cond.fieldLink "BellSchool$Valley" 24 "BellSchool$Valley" "snowTo" "[I" ∈ TB := tb_in (lw_i1 42 rfl) rfl
theorem nw9 : Cond.fieldLink "BellSchool$Valley" 27 "BellSchool$Valley" "homes" "I" ∈ TB := tb_in (lw_i1 43 rfl) rfl
theorem nw10 : Cond.fieldLink "BellSchool$Valley" 31 "BellSchool$Valley" "bell" "I" ∈ TB := tb_in (lw_i1 46 rfl) rfl
theorem nw11 : Cond.fieldLink "BellSchool$Valley" 34 "BellSchool$Valley" "farthest" "I" ∈ TB := tb_in (lw_i1 48 rfl) rfl
theorem nw12 : Cond.code ⟨"BellSchool$Valley", "<init>", "()V"⟩ prog_9_method_1_code 1 none ∈ TB := tb_in (lw_i1 30 rfl) rfl
theorem nw13 : Cond.instanceMethod ⟨"BellSchool$Valley", "<init>", "()V"⟩ ∈ TB := tb_in (lw_i1 29 rfl) rfl
theorem nw14 : Cond.initialized "BellSchool$Valley" ∈ TB := tb_in (lw_i1 2 rfl) rfl
theorem nw15 : Cond.methodLink "BellSchool$Text" 1 Lib.objectInit ∈ TB := tb_in (lw_i1 73 rfl) rfl
theorem nw16 : Cond.arrayClass .char ∈ TB := tb_in (lw_i1 84 rfl) rfl
theorem nw17 : Cond.fieldLink "BellSchool$Text" 7 "BellSchool$Text" "letters" "[C" ∈ TB := tb_in (lw_i1 74 rfl) rfl
theorem nw18 : Cond.fieldLink "BellSchool$Text" 13 "BellSchool$Text" "length" "I" ∈ TB := tb_in (lw_i1 76 rfl) rfl
theorem nw19 : Cond.code ⟨"BellSchool$Text", "<init>", "()V"⟩ prog_8_method_1_code 1 none ∈ TB := tb_in (lw_i1 72 rfl) rfl
theorem nw20 : Cond.instanceMethod ⟨"BellSchool$Text", "<init>", "()V"⟩ ∈ TB := tb_in (lw_i1 71 rfl) rfl
theorem nw21 : Cond.initialized "BellSchool$Text" ∈ TB := tb_in (lw_i1 3 rfl) rfl
theorem nw22 : Cond.methodLink "BellSchool$Reader" 3 Lib.objectInit ∈ TB := tb_in (lw_i1 90 rfl) rfl
theorem nw23 : Cond.fieldLink "BellSchool$Reader" 9 "BellSchool$Reader" "number" "[I" ∈ TB := tb_in (lw_i1 91 rfl) rfl
theorem nw24 : Cond.fieldLink "BellSchool$Reader" 15 "BellSchool$Reader" "place" "I" ∈ TB := tb_in (lw_i1 92 rfl) rfl
theorem nw25 : Cond.code ⟨"BellSchool$Reader", "<init>", "()V"⟩ prog_4_method_1_code 1 none ∈ TB := tb_in (lw_i1 89 rfl) rfl
theorem nw26 : Cond.instanceMethod ⟨"BellSchool$Reader", "<init>", "()V"⟩ ∈ TB := tb_in (lw_i1 88 rfl) rfl
theorem nw27 : Cond.initialized "BellSchool$Reader" ∈ TB := tb_in (lw_i1 4 rfl) rfl
theorem nw28 : Cond.methodLink "BellSchool$Noon" 3 Lib.objectInit ∈ TB := tb_in (lw_i1 103 rfl) rfl
theorem nw29 : Cond.fieldLink "BellSchool$Noon" 9 "BellSchool$Noon" "fars" "[I" ∈ TB := tb_in (lw_i1 104 rfl) rfl
theorem nw30 : Cond.arrayClass .long ∈ TB := tb_in (lw_i1 128 rfl) rfl
theorem nw31 : Cond.fieldLink "BellSchool$Noon" 15 "BellSchool$Noon" "shutThen" "[J" ∈ TB := tb_in (lw_i1 105 rfl) rfl
theorem nw32 : Cond.fieldLink "BellSchool$Noon" 19 "BellSchool$Noon" "times" "[I" ∈ TB := tb_in (lw_i1 107 rfl) rfl
theorem nw33 : Cond.fieldLink "BellSchool$Noon" 22 "BellSchool$Noon" "latest" "I" ∈ TB := tb_in (lw_i1 110 rfl) rfl
theorem nw34 : Cond.fieldLink "BellSchool$Noon" 26 "BellSchool$Noon" "comers" "I" ∈ TB := tb_in (lw_i1 113 rfl) rfl
theorem nw35 : Cond.fieldLink "BellSchool$Noon" 29 "BellSchool$Noon" "valley" "LBellSchool$Valley;" ∈ TB := tb_in (lw_i1 106 rfl) rfl
theorem nw36 : Cond.code ⟨"BellSchool$Noon", "<init>", "(LBellSchool$Valley;)V"⟩ prog_3_method_1_code 2 none ∈ TB := tb_in (lw_i1 102 rfl) rfl
theorem nw37 : Cond.instanceMethod ⟨"BellSchool$Noon", "<init>", "(LBellSchool$Valley;)V"⟩ ∈ TB := tb_in (lw_i1 101 rfl) rfl
theorem nw38 : Cond.initialized "BellSchool$Noon" ∈ TB := tb_in (lw_i1 5 rfl) rfl
theorem nw39 : Cond.methodLink "BellSchool$Standing" 3 Lib.objectInit ∈ TB := tb_in (lw_i1 134 rfl) rfl
theorem nw40 : Cond.fieldLink "BellSchool$Standing" 9 "BellSchool$Standing" "soups" "[I" ∈ TB := tb_in (lw_i1 135 rfl) rfl
theorem nw41 : Cond.fieldLink "BellSchool$Standing" 15 "BellSchool$Standing" "day" "I" ∈ TB := tb_in (lw_i1 138 rfl) rfl
theorem nw42 : Cond.fieldLink "BellSchool$Standing" 19 "BellSchool$Standing" "bell" "I" ∈ TB := tb_in (lw_i1 143 rfl) rfl
theorem nw43 : Cond.fieldLink "BellSchool$Standing" 22 "BellSchool$Standing" "held" "I" ∈ TB := tb_in (lw_i1 148 rfl) rfl
theorem nw44 : Cond.fieldLink "BellSchool$Standing" 25 "BellSchool$Standing" "sick" "I" ∈ TB := tb_in (lw_i1 153 rfl) rfl
theorem nw45 : Cond.fieldLink "BellSchool$Standing" 28 "BellSchool$Standing" "had" "I" ∈ TB := tb_in (lw_i1 156 rfl) rfl
theorem nw46 : Cond.fieldLink "BellSchool$Standing" 31 "BellSchool$Standing" "shut" "J" ∈ TB := tb_in (lw_i1 160 rfl) rfl
theorem nw47 : Cond.code ⟨"BellSchool$Standing", "<init>", "()V"⟩ prog_7_method_1_code 1 none ∈ TB := tb_in (lw_i1 133 rfl) rfl
theorem nw48 : Cond.instanceMethod ⟨"BellSchool$Standing", "<init>", "()V"⟩ ∈ TB := tb_in (lw_i1 132 rfl) rfl
theorem nw49 : Cond.initialized "BellSchool$Standing" ∈ TB := tb_in (lw_i1 6 rfl) rfl
theorem nw50 : Cond.methodLink "BellSchool$Shelf" 1 Lib.objectInit ∈ TB := tb_in (lw_i1 183 rfl) rfl
theorem nw51 : Cond.fieldLink "BellSchool$Shelf" 7 "BellSchool$Shelf" "size" "I" ∈ TB := tb_in (lw_i1 191 rfl) rfl
theorem nw52 : Cond.methodLink "BellSchool$Shelf" 13 Lib.Math.max.name ∈ TB := tb_in (lw_i1 184 rfl) rfl
theorem nw53 : Cond.static Lib.Math.max.name ∈ TB := tb_in (lw_i1 185 rfl) rfl
theorem nw54 : Cond.initialized "java/lang/Math" ∈ TB := tb_in (lw_i1 8 rfl) rfl
theorem nw55 : Cond.code Lib.Math.max.name Lib.Math.max.code 2 (some .int) ∈ TB := tb_in (lw_i1 186 rfl) rfl
theorem nw56 : Cond.classLink "BellSchool$Shelf" 19 "BellSchool$Standing" ∈ TB := tb_in (lw_i1 187 rfl) rfl
theorem nw57 : Cond.fieldLink "BellSchool$Shelf" 21 "BellSchool$Shelf" "rows" "[LBellSchool$Standing;" ∈ TB := tb_in (lw_i1 190 rfl) rfl
theorem nw58 : Cond.instantiable "BellSchool$Standing" 7 ∈ TB := tb_in (lw_i1 130 rfl) rfl
theorem nw59 : Cond.code ⟨"BellSchool$Shelf", "<init>", "(I)V"⟩ prog_6_method_1_code 3 none ∈ TB := tb_in (lw_i1 182 rfl) rfl
theorem nw60 : Cond.instanceMethod ⟨"BellSchool$Shelf", "<init>", "(I)V"⟩ ∈ TB := tb_in (lw_i1 181 rfl) rfl
theorem nw61 : Cond.initialized "BellSchool$Shelf" ∈ TB := tb_in (lw_i1 7 rfl) rfl
theorem nw62 : Cond.methodLink "BellSchool$Search" 3 Lib.objectInit ∈ TB := tb_in (lw_i1 203 rfl) rfl
theorem nw63 : Cond.fieldLink "BellSchool$Search" 9 "BellSchool$Search" "reached" "[J" ∈ TB := tb_in (lw_i1 206 rfl) rfl
theorem nw64 : Cond.fieldLink "BellSchool$Search" 15 "BellSchool$Search" "hopeful" "[J" ∈ TB := tb_in (lw_i1 207 rfl) rfl
theorem nw65 : Cond.fieldLink "BellSchool$Search" 18 "BellSchool$Search" "next" "[I" ∈ TB := tb_in (lw_i1 208 rfl) rfl
theorem nw66 : Cond.fieldLink "BellSchool$Search" 22 "BellSchool$Search" "numbers" "[I" ∈ TB := tb_in (lw_i1 209 rfl) rfl
theorem nw67 : Cond.classLink "BellSchool$Search" 25 "BellSchool$Standing" ∈ TB := tb_in (lw_i1 204 rfl) rfl
theorem nw68 : Cond.fieldLink "BellSchool$Search" 28 "BellSchool$Search" "asked" "LBellSchool$Standing;" ∈ TB := tb_in (lw_i1 210 rfl) rfl
theorem nw69 : Cond.fieldLink "BellSchool$Search" 32 "BellSchool$Search" "dream" "LBellSchool$Standing;" ∈ TB := tb_in (lw_i1 211 rfl) rfl
theorem nw70 : Cond.fieldLink "BellSchool$Search" 35 "BellSchool$Search" "homes" "I" ∈ TB := tb_in (lw_i1 212 rfl) rfl
theorem nw71 : Cond.fieldLink "BellSchool$Search" 39 "BellSchool$Search" "whole" "I" ∈ TB := tb_in (lw_i1 213 rfl) rfl
theorem nw72 : Cond.fieldLink "BellSchool$Search" 42 "BellSchool$Search" "row" "[I" ∈ TB := tb_in (lw_i1 214 rfl) rfl
theorem nw73 : Cond.fieldLink "BellSchool$Search" 45 "BellSchool$Search" "days" "I" ∈ TB := tb_in (lw_i1 216 rfl) rfl
theorem nw74 : Cond.fieldLink "BellSchool$Search" 48 "BellSchool$Search" "known" "Z" ∈ TB := tb_in (lw_i1 218 rfl) rfl
theorem nw75 : Cond.code ⟨"BellSchool$Search", "<init>", "()V"⟩ prog_5_method_1_code 1 none ∈ TB := tb_in (lw_i1 202 rfl) rfl
theorem nw76 : Cond.instanceMethod ⟨"BellSchool$Search", "<init>", "()V"⟩ ∈ TB := tb_in (lw_i1 201 rfl) rfl
theorem nw77 : Cond.initialized "BellSchool$Search" ∈ TB := tb_in (lw_i1 9 rfl) rfl
theorem nw78 : Cond.methodLink "BellSchool$Measles" 3 Lib.objectInit ∈ TB := tb_in (lw_i2 8 rfl) rfl
theorem nw79 : Cond.fieldLink "BellSchool$Measles" 9 "BellSchool$Measles" "chance" "[J" ∈ TB := tb_in (lw_i2 9 rfl) rfl
theorem nw80 : Cond.fieldLink "BellSchool$Measles" 15 "BellSchool$Measles" "then" "[J" ∈ TB := tb_in (lw_i2 11 rfl) rfl
theorem nw81 : Cond.fieldLink "BellSchool$Measles" 18 "BellSchool$Measles" "below" "J" ∈ TB := tb_in (lw_i2 12 rfl) rfl
theorem nw82 : Cond.code ⟨"BellSchool$Measles", "<init>", "()V"⟩ prog_2_method_1_code 1 none ∈ TB := tb_in (lw_i2 7 rfl) rfl
theorem nw83 : Cond.instanceMethod ⟨"BellSchool$Measles", "<init>", "()V"⟩ ∈ TB := tb_in (lw_i2 6 rfl) rfl
theorem nw84 : Cond.initialized "BellSchool$Measles" ∈ TB := tb_in (lw_i1 10 rfl) rfl
theorem di_Valley_0 : decode prog_9_method_1_code 0 = .ok (.aload_n 0, 1) := by decide +kernel
theorem di_Valley_1 : decode prog_9_method_1_code 1 = .ok (.invokespecial 3, 3) := by decide +kernel
theorem di_Valley_4 : decode prog_9_method_1_code 4 = .ok (.aload_n 0, 1) := by decide +kernel
theorem di_Valley_5 : decode prog_9_method_1_code 5 = .ok (.bipush 7, 2) := by decide +kernel
theorem di_Valley_7 : decode prog_9_method_1_code 7 = .ok (.newarray .int, 2) := by decide +kernel
theorem di_Valley_9 : decode prog_9_method_1_code 9 = .ok (.putfield 9, 3) := by decide +kernel
theorem di_Valley_12 : decode prog_9_method_1_code 12 = .ok (.aload_n 0, 1) := by decide +kernel
theorem di_Valley_13 : decode prog_9_method_1_code 13 = .ok (.bipush 7, 2) := by decide +kernel
theorem di_Valley_15 : decode prog_9_method_1_code 15 = .ok (.newarray .int, 2) := by decide +kernel
theorem di_Valley_17 : decode prog_9_method_1_code 17 = .ok (.putfield 15, 3) := by decide +kernel
theorem di_Valley_20 : decode prog_9_method_1_code 20 = .ok (.aload_n 0, 1) := by decide +kernel
theorem di_Valley_21 : decode prog_9_method_1_code 21 = .ok (.bipush 49, 2) := by decide +kernel
theorem di_Valley_23 : decode prog_9_method_1_code 23 = .ok (.newarray .int, 2) := by decide +kernel
theorem di_Valley_25 : decode prog_9_method_1_code 25 = .ok (.putfield 18, 3) := by decide +kernel
theorem di_Valley_28 : decode prog_9_method_1_code 28 = .ok (.aload_n 0, 1) := by decide +kernel
theorem di_Valley_29 : decode prog_9_method_1_code 29 = .ok (.bipush 49, 2) := by decide +kernel
theorem di_Valley_31 : decode prog_9_method_1_code 31 = .ok (.newarray .int, 2) := by decide +kernel
theorem di_Valley_33 : decode prog_9_method_1_code 33 = .ok (.putfield 21, 3) := by decide +kernel
theorem di_Valley_36 : decode prog_9_method_1_code 36 = .ok (.aload_n 0, 1) := by decide +kernel
theorem di_Valley_37 : decode prog_9_method_1_code 37 = .ok (.bipush 49, 2) := by decide +kernel
theorem di_Valley_39 : decode prog_9_method_1_code 39 = .ok (.newarray .int, 2) := by decide +kernel
theorem di_Valley_41 : decode prog_9_method_1_code 41 = .ok (.putfield 24, 3) := by decide +kernel
theorem di_Valley_44 : decode prog_9_method_1_code 44 = .ok (.aload_n 0, 1) := by decide +kernel
theorem di_Valley_45 : decode prog_9_method_1_code 45 = .ok (.iconst 0, 1) := by decide +kernel
theorem di_Valley_46 : decode prog_9_method_1_code 46 = .ok (.putfield 27, 3) := by decide +kernel
theorem di_Valley_49 : decode prog_9_method_1_code 49 = .ok (.aload_n 0, 1) := by decide +kernel
theorem di_Valley_50 : decode prog_9_method_1_code 50 = .ok (.iconst 0, 1) := by decide +kernel
theorem di_Valley_51 : decode prog_9_method_1_code 51 = .ok (.putfield 31, 3) := by decide +kernel
theorem di_Valley_54 : decode prog_9_method_1_code 54 = .ok (.aload_n 0, 1) := by decide +kernel
theorem di_Valley_55 : decode prog_9_method_1_code 55 = .ok (.iconst 0, 1) := by decide +kernel
theorem di_Valley_56 : decode prog_9_method_1_code 56 = .ok (.putfield 34, 3) := by decide +kernel
theorem di_Valley_59 : decode prog_9_method_1_code 59 = .ok (.return_, 1) := by decide +kernel
theorem di_Text_0 : decode prog_8_method_1_code 0 = .ok (.aload_n 0, 1) := by decide +kernel
theorem di_Text_1 : decode prog_8_method_1_code 1 = .ok (.invokespecial 1, 3) := by decide +kernel
theorem di_Text_4 : decode prog_8_method_1_code 4 = .ok (.aload_n 0, 1) := by decide +kernel
theorem di_Text_5 : decode prog_8_method_1_code 5 = .ok (.sipush 200, 3) := by decide +kernel
theorem di_Text_8 : decode prog_8_method_1_code 8 = .ok (.newarray .char, 2) := by decide +kernel
theorem di_Text_10 : decode prog_8_method_1_code 10 = .ok (.putfield 7, 3) := by decide +kernel
theorem di_Text_13 : decode prog_8_method_1_code 13 = .ok (.aload_n 0, 1) := by decide +kernel
theorem di_Text_14 : decode prog_8_method_1_code 14 = .ok (.iconst 0, 1) := by decide +kernel
theorem di_Text_15 : decode prog_8_method_1_code 15 = .ok (.putfield 13, 3) := by decide +kernel
theorem di_Text_18 : decode prog_8_method_1_code 18 = .ok (.return_, 1) := by decide +kernel
theorem di_Reader_0 : decode prog_4_method_1_code 0 = .ok (.aload_n 0, 1) := by decide +kernel
theorem di_Reader_1 : decode prog_4_method_1_code 1 = .ok (.invokespecial 3, 3) := by decide +kernel
theorem di_Reader_4 : decode prog_4_method_1_code 4 = .ok (.aload_n 0, 1) := by decide +kernel
theorem di_Reader_5 : decode prog_4_method_1_code 5 = .ok (.iconst 4, 1) := by decide +kernel
theorem di_Reader_6 : decode prog_4_method_1_code 6 = .ok (.newarray .int, 2) := by decide +kernel
theorem di_Reader_8 : decode prog_4_method_1_code 8 = .ok (.putfield 9, 3) := by decide +kernel
theorem di_Reader_11 : decode prog_4_method_1_code 11 = .ok (.aload_n 0, 1) := by decide +kernel
theorem di_Reader_12 : decode prog_4_method_1_code 12 = .ok (.iconst 0, 1) := by decide +kernel
theorem di_Reader_13 : decode prog_4_method_1_code 13 = .ok (.putfield 15, 3) := by decide +kernel
theorem di_Reader_16 : decode prog_4_method_1_code 16 = .ok (.return_, 1) := by decide +kernel
theorem di_Noon_0 : decode prog_3_method_1_code 0 = .ok (.aload_n 0, 1) := by decide +kernel
theorem di_Noon_1 : decode prog_3_method_1_code 1 = .ok (.invokespecial 3, 3) := by decide +kernel
theorem di_Noon_4 : decode prog_3_method_1_code 4 = .ok (.aload_n 0, 1) := by decide +kernel
theorem di_Noon_5 : decode prog_3_method_1_code 5 = .ok (.sipush 1372, 3) := by decide +kernel
theorem di_Noon_8 : decode prog_3_method_1_code 8 = .ok (.newarray .int, 2) := by decide +kernel
theorem di_Noon_10 : decode prog_3_method_1_code 10 = .ok (.putfield 9, 3) := by decide +kernel
theorem di_Noon_13 : decode prog_3_method_1_code 13 = .ok (.aload_n 0, 1) := by decide +kernel
theorem di_Noon_14 : decode prog_3_method_1_code 14 = .ok (.bipush 28, 2) := by decide +kernel
theorem di_Noon_16 : decode prog_3_method_1_code 16 = .ok (.newarray .long, 2) := by decide +kernel
theorem di_Noon_18 : decode prog_3_method_1_code 18 = .ok (.putfield 15, 3) := by decide +kernel
theorem di_Noon_21 : decode prog_3_method_1_code 21 = .ok (.aload_n 0, 1) := by decide +kernel
theorem di_Noon_22 : decode prog_3_method_1_code 22 = .ok (.bipush 7, 2) := by decide +kernel
theorem di_Noon_24 : decode prog_3_method_1_code 24 = .ok (.newarray .int, 2) := by decide +kernel
theorem di_Noon_26 : decode prog_3_method_1_code 26 = .ok (.putfield 19, 3) := by decide +kernel
theorem di_Noon_29 : decode prog_3_method_1_code 29 = .ok (.aload_n 0, 1) := by decide +kernel
theorem di_Noon_30 : decode prog_3_method_1_code 30 = .ok (.bipush (-4), 2) := by decide +kernel
theorem di_Noon_32 : decode prog_3_method_1_code 32 = .ok (.putfield 22, 3) := by decide +kernel
theorem di_Noon_35 : decode prog_3_method_1_code 35 = .ok (.aload_n 0, 1) := by decide +kernel
theorem di_Noon_36 : decode prog_3_method_1_code 36 = .ok (.iconst 0, 1) := by decide +kernel
theorem di_Noon_37 : decode prog_3_method_1_code 37 = .ok (.putfield 26, 3) := by decide +kernel
theorem di_Noon_40 : decode prog_3_method_1_code 40 = .ok (.aload_n 0, 1) := by decide +kernel
theorem di_Noon_41 : decode prog_3_method_1_code 41 = .ok (.aload_n 1, 1) := by decide +kernel
theorem di_Noon_42 : decode prog_3_method_1_code 42 = .ok (.putfield 29, 3) := by decide +kernel
theorem di_Noon_45 : decode prog_3_method_1_code 45 = .ok (.return_, 1) := by decide +kernel
theorem di_Standing_0 : decode prog_7_method_1_code 0 = .ok (.aload_n 0, 1) := by decide +kernel
theorem di_Standing_1 : decode prog_7_method_1_code 1 = .ok (.invokespecial 3, 3) := by decide +kernel
theorem di_Standing_4 : decode prog_7_method_1_code 4 = .ok (.aload_n 0, 1) := by decide +kernel
theorem di_Standing_5 : decode prog_7_method_1_code 5 = .ok (.bipush 7, 2) := by decide +kernel
theorem di_Standing_7 : decode prog_7_method_1_code 7 = .ok (.newarray .int, 2) := by decide +kernel
theorem di_Standing_9 : decode prog_7_method_1_code 9 = .ok (.putfield 9, 3) := by decide +kernel
theorem di_Standing_12 : decode prog_7_method_1_code 12 = .ok (.aload_n 0, 1) := by decide +kernel
theorem di_Standing_13 : decode prog_7_method_1_code 13 = .ok (.iconst 0, 1) := by decide +kernel
theorem di_Standing_14 : decode prog_7_method_1_code 14 = .ok (.putfield 15, 3) := by decide +kernel
theorem di_Standing_17 : decode prog_7_method_1_code 17 = .ok (.aload_n 0, 1) := by decide +kernel
theorem di_Standing_18 : decode prog_7_method_1_code 18 = .ok (.iconst 0, 1) := by decide +kernel
theorem di_Standing_19 : decode prog_7_method_1_code 19 = .ok (.putfield 19, 3) := by decide +kernel
theorem di_Standing_22 : decode prog_7_method_1_code 22 = .ok (.aload_n 0, 1) := by decide +kernel
theorem di_Standing_23 : decode prog_7_method_1_code 23 = .ok (.iconst 0, 1) := by decide +kernel
theorem di_Standing_24 : decode prog_7_method_1_code 24 = .ok (.putfield 22, 3) := by decide +kernel
theorem di_Standing_27 : decode prog_7_method_1_code 27 = .ok (.aload_n 0, 1) := by decide +kernel
theorem di_Standing_28 : decode prog_7_method_1_code 28 = .ok (.iconst 0, 1) := by decide +kernel
theorem di_Standing_29 : decode prog_7_method_1_code 29 = .ok (.putfield 25, 3) := by decide +kernel
theorem di_Standing_32 : decode prog_7_method_1_code 32 = .ok (.aload_n 0, 1) := by decide +kernel
theorem di_Standing_33 : decode prog_7_method_1_code 33 = .ok (.iconst 0, 1) := by decide +kernel
theorem di_Standing_34 : decode prog_7_method_1_code 34 = .ok (.putfield 28, 3) := by decide +kernel
theorem di_Standing_37 : decode prog_7_method_1_code 37 = .ok (.aload_n 0, 1) := by decide +kernel
theorem di_Standing_38 : decode prog_7_method_1_code 38 = .ok (.lconst 0, 1) := by decide +kernel
theorem di_Standing_39 : decode prog_7_method_1_code 39 = .ok (.putfield 31, 3) := by decide +kernel
theorem di_Standing_42 : decode prog_7_method_1_code 42 = .ok (.return_, 1) := by decide +kernel
theorem di_Shelf_0 : decode prog_6_method_1_code 0 = .ok (.aload_n 0, 1) := by decide +kernel
theorem di_Shelf_1 : decode prog_6_method_1_code 1 = .ok (.invokespecial 1, 3) := by decide +kernel
theorem di_Shelf_4 : decode prog_6_method_1_code 4 = .ok (.aload_n 0, 1) := by decide +kernel
theorem di_Shelf_5 : decode prog_6_method_1_code 5 = .ok (.iconst 0, 1) := by decide +kernel
theorem di_Shelf_6 : decode prog_6_method_1_code 6 = .ok (.putfield 7, 3) := by decide +kernel
theorem di_Shelf_9 : decode prog_6_method_1_code 9 = .ok (.aload_n 0, 1) := by decide +kernel
theorem di_Shelf_10 : decode prog_6_method_1_code 10 = .ok (.iconst 1, 1) := by decide +kernel
theorem di_Shelf_11 : decode prog_6_method_1_code 11 = .ok (.iload_n 1, 1) := by decide +kernel
theorem di_Shelf_12 : decode prog_6_method_1_code 12 = .ok (.invokestatic 13, 3) := by decide +kernel
theorem di_Shelf_15 : decode prog_6_method_1_code 15 = .ok (.anewarray 19, 3) := by decide +kernel
theorem di_Shelf_18 : decode prog_6_method_1_code 18 = .ok (.putfield 21, 3) := by decide +kernel
theorem di_Shelf_21 : decode prog_6_method_1_code 21 = .ok (.iconst 0, 1) := by decide +kernel
theorem di_Shelf_22 : decode prog_6_method_1_code 22 = .ok (.istore_n 2, 1) := by decide +kernel
theorem di_Shelf_23 : decode prog_6_method_1_code 23 = .ok (.iload_n 2, 1) := by decide +kernel
theorem di_Shelf_24 : decode prog_6_method_1_code 24 = .ok (.aload_n 0, 1) := by decide +kernel
theorem di_Shelf_25 : decode prog_6_method_1_code 25 = .ok (.getfield 21, 3) := by decide +kernel
theorem di_Shelf_28 : decode prog_6_method_1_code 28 = .ok (.arraylength, 1) := by decide +kernel
theorem di_Shelf_29 : decode prog_6_method_1_code 29 = .ok (.if_icmp .ge 22, 3) := by decide +kernel
theorem di_Shelf_32 : decode prog_6_method_1_code 32 = .ok (.aload_n 0, 1) := by decide +kernel
theorem di_Shelf_33 : decode prog_6_method_1_code 33 = .ok (.getfield 21, 3) := by decide +kernel
theorem di_Shelf_36 : decode prog_6_method_1_code 36 = .ok (.iload_n 2, 1) := by decide +kernel
theorem di_Shelf_37 : decode prog_6_method_1_code 37 = .ok (.new 19, 3) := by decide +kernel
theorem di_Shelf_40 : decode prog_6_method_1_code 40 = .ok (.dup, 1) := by decide +kernel
theorem di_Shelf_41 : decode prog_6_method_1_code 41 = .ok (.invokespecial 25, 3) := by decide +kernel
theorem di_Shelf_44 : decode prog_6_method_1_code 44 = .ok (.aastore, 1) := by decide +kernel
theorem di_Shelf_45 : decode prog_6_method_1_code 45 = .ok (.iinc 2 1, 3) := by decide +kernel
theorem di_Shelf_48 : decode prog_6_method_1_code 48 = .ok (.goto (-25), 3) := by decide +kernel
theorem di_Shelf_51 : decode prog_6_method_1_code 51 = .ok (.return_, 1) := by decide +kernel
theorem di_Search_0 : decode prog_5_method_1_code 0 = .ok (.aload_n 0, 1) := by decide +kernel
theorem di_Search_1 : decode prog_5_method_1_code 1 = .ok (.invokespecial 3, 3) := by decide +kernel
theorem di_Search_4 : decode prog_5_method_1_code 4 = .ok (.aload_n 0, 1) := by decide +kernel
theorem di_Search_5 : decode prog_5_method_1_code 5 = .ok (.sipush 203, 3) := by decide +kernel
theorem di_Search_8 : decode prog_5_method_1_code 8 = .ok (.newarray .long, 2) := by decide +kernel
theorem di_Search_10 : decode prog_5_method_1_code 10 = .ok (.putfield 9, 3) := by decide +kernel
theorem di_Search_13 : decode prog_5_method_1_code 13 = .ok (.aload_n 0, 1) := by decide +kernel
theorem di_Search_14 : decode prog_5_method_1_code 14 = .ok (.sipush 203, 3) := by decide +kernel
theorem di_Search_17 : decode prog_5_method_1_code 17 = .ok (.newarray .long, 2) := by decide +kernel
theorem di_Search_19 : decode prog_5_method_1_code 19 = .ok (.putfield 15, 3) := by decide +kernel
theorem di_Search_22 : decode prog_5_method_1_code 22 = .ok (.aload_n 0, 1) := by decide +kernel
theorem di_Search_23 : decode prog_5_method_1_code 23 = .ok (.sipush 1568, 3) := by decide +kernel
theorem di_Search_26 : decode prog_5_method_1_code 26 = .ok (.newarray .int, 2) := by decide +kernel
theorem di_Search_28 : decode prog_5_method_1_code 28 = .ok (.putfield 18, 3) := by decide +kernel
theorem di_Search_31 : decode prog_5_method_1_code 31 = .ok (.aload_n 0, 1) := by decide +kernel
theorem di_Search_32 : decode prog_5_method_1_code 32 = .ok (.bipush 7, 2) := by decide +kernel
theorem di_Search_34 : decode prog_5_method_1_code 34 = .ok (.newarray .int, 2) := by decide +kernel
theorem di_Search_36 : decode prog_5_method_1_code 36 = .ok (.putfield 22, 3) := by decide +kernel
theorem di_Search_39 : decode prog_5_method_1_code 39 = .ok (.aload_n 0, 1) := by decide +kernel
theorem di_Search_40 : decode prog_5_method_1_code 40 = .ok (.new 25, 3) := by decide +kernel
theorem di_Search_43 : decode prog_5_method_1_code 43 = .ok (.dup, 1) := by decide +kernel
theorem di_Search_44 : decode prog_5_method_1_code 44 = .ok (.invokespecial 27, 3) := by decide +kernel
theorem di_Search_47 : decode prog_5_method_1_code 47 = .ok (.putfield 28, 3) := by decide +kernel
theorem di_Search_50 : decode prog_5_method_1_code 50 = .ok (.aload_n 0, 1) := by decide +kernel
theorem di_Search_51 : decode prog_5_method_1_code 51 = .ok (.new 25, 3) := by decide +kernel
theorem di_Search_54 : decode prog_5_method_1_code 54 = .ok (.dup, 1) := by decide +kernel
theorem di_Search_55 : decode prog_5_method_1_code 55 = .ok (.invokespecial 27, 3) := by decide +kernel
theorem di_Search_58 : decode prog_5_method_1_code 58 = .ok (.putfield 32, 3) := by decide +kernel
theorem di_Search_61 : decode prog_5_method_1_code 61 = .ok (.aload_n 0, 1) := by decide +kernel
theorem di_Search_62 : decode prog_5_method_1_code 62 = .ok (.iconst 0, 1) := by decide +kernel
theorem di_Search_63 : decode prog_5_method_1_code 63 = .ok (.putfield 35, 3) := by decide +kernel
theorem di_Search_66 : decode prog_5_method_1_code 66 = .ok (.aload_n 0, 1) := by decide +kernel
theorem di_Search_67 : decode prog_5_method_1_code 67 = .ok (.iconst 0, 1) := by decide +kernel
theorem di_Search_68 : decode prog_5_method_1_code 68 = .ok (.putfield 39, 3) := by decide +kernel
theorem di_Search_71 : decode prog_5_method_1_code 71 = .ok (.aload_n 0, 1) := by decide +kernel
theorem di_Search_72 : decode prog_5_method_1_code 72 = .ok (.bipush 28, 2) := by decide +kernel
theorem di_Search_74 : decode prog_5_method_1_code 74 = .ok (.newarray .int, 2) := by decide +kernel
theorem di_Search_76 : decode prog_5_method_1_code 76 = .ok (.putfield 42, 3) := by decide +kernel
theorem di_Search_79 : decode prog_5_method_1_code 79 = .ok (.aload_n 0, 1) := by decide +kernel
theorem di_Search_80 : decode prog_5_method_1_code 80 = .ok (.bipush (-4), 2) := by decide +kernel
theorem di_Search_82 : decode prog_5_method_1_code 82 = .ok (.putfield 45, 3) := by decide +kernel
theorem di_Search_85 : decode prog_5_method_1_code 85 = .ok (.aload_n 0, 1) := by decide +kernel
theorem di_Search_86 : decode prog_5_method_1_code 86 = .ok (.iconst 0, 1) := by decide +kernel
theorem di_Search_87 : decode prog_5_method_1_code 87 = .ok (.putfield 48, 3) := by decide +kernel
theorem di_Search_90 : decode prog_5_method_1_code 90 = .ok (.return_, 1) := by decide +kernel
theorem di_Measles_0 : decode prog_2_method_1_code 0 = .ok (.aload_n 0, 1) := by decide +kernel
theorem di_Measles_1 : decode prog_2_method_1_code 1 = .ok (.invokespecial 3, 3) := by decide +kernel
theorem di_Measles_4 : decode prog_2_method_1_code 4 = .ok (.aload_n 0, 1) := by decide +kernel
theorem di_Measles_5 : decode prog_2_method_1_code 5 = .ok (.bipush 7, 2) := by decide +kernel
theorem di_Measles_7 : decode prog_2_method_1_code 7 = .ok (.newarray .long, 2) := by decide +kernel
theorem di_Measles_9 : decode prog_2_method_1_code 9 = .ok (.putfield 9, 3) := by decide +kernel
theorem di_Measles_12 : decode prog_2_method_1_code 12 = .ok (.aload_n 0, 1) := by decide +kernel
theorem di_Measles_13 : decode prog_2_method_1_code 13 = .ok (.bipush 7, 2) := by decide +kernel
theorem di_Measles_15 : decode prog_2_method_1_code 15 = .ok (.newarray .long, 2) := by decide +kernel
theorem di_Measles_17 : decode prog_2_method_1_code 17 = .ok (.putfield 15, 3) := by decide +kernel
theorem di_Measles_20 : decode prog_2_method_1_code 20 = .ok (.aload_n 0, 1) := by decide +kernel
theorem di_Measles_21 : decode prog_2_method_1_code 21 = .ok (.lconst 1, 1) := by decide +kernel
theorem di_Measles_22 : decode prog_2_method_1_code 22 = .ok (.putfield 18, 3) := by decide +kernel
theorem di_Measles_25 : decode prog_2_method_1_code 25 = .ok (.return_, 1) := by decide +kernel
theorem df0 : ∀ j, j < 3 → defaultValue (tyX0 j) = vp_V [.null, .null, .long 0] j := fun j hj => match j, hj with | 0, _ => rfl | 1, _ => rfl | 2, _ => rfl | n + 3, h => absurd h (by omega)
theorem df1 : ∀ j, j < 6 → defaultValue (tyX1 j) = vp_V [.null, .null, .null, .null, .int 0, .int 0] j := fun j hj => match j, hj with | 0, _ => rfl | 1, _ => rfl | 2, _ => rfl | 3, _ => rfl | 4, _ => rfl | 5, _ => rfl | n + 6, h => absurd h (by omega)
theorem df2 : ∀ j, j < 2 → defaultValue (tyX2 j) = vp_V [.null, .int 0] j := fun j hj => match j, hj with | 0, _ => rfl | 1, _ => rfl | n + 2, h => absurd h (by omega)
theorem df3 : ∀ j, j < 11 → defaultValue (tyX3 j) = vp_V [.null, .null, .null, .null, .null, .null, .int 0, .int 0, .null, .int 0, .int 0] j := fun j hj => match j, hj with | 0, _ => rfl | 1, _ => rfl | 2, _ => rfl | 3, _ => rfl | 4, _ => rfl | 5, _ => rfl | 6, _ => rfl | 7, _ => rfl | 8, _ => rfl | 9, _ => rfl | 10, _ => rfl | n + 11, h => absurd h (by omega)
theorem df4 : ∀ j, j < 2 → defaultValue (tyX4 j) = vp_V [.null, .int 0] j := fun j hj => match j, hj with | 0, _ => rfl | 1, _ => rfl | n + 2, h => absurd h (by omega)
theorem df5 : ∀ j, j < 7 → defaultValue (tyX5 j) = vp_V [.null, .int 0, .int 0, .int 0, .int 0, .int 0, .long 0] j := fun j hj => match j, hj with | 0, _ => rfl | 1, _ => rfl | 2, _ => rfl | 3, _ => rfl | 4, _ => rfl | 5, _ => rfl | 6, _ => rfl | n + 7, h => absurd h (by omega)
theorem df6 : ∀ j, j < 2 → defaultValue (tyX6 j) = vp_V [.null, .int 0] j := fun j hj => match j, hj with | 0, _ => rfl | 1, _ => rfl | n + 2, h => absurd h (by omega)
theorem df7 : ∀ j, j < 8 → defaultValue (tyX7 j) = vp_V [.null, .null, .null, .null, .null, .int 0, .int 0, .int 0] j := fun j hj => match j, hj with | 0, _ => rfl | 1, _ => rfl | 2, _ => rfl | 3, _ => rfl | 4, _ => rfl | 5, _ => rfl | 6, _ => rfl | 7, _ => rfl | n + 8, h => absurd h (by omega)
theorem df8 : ∀ j, j < 14 → defaultValue (tyX8 j) = vp_V [.null, .null, .null, .null, .null, .null, .null, .null, .null, .null, .null, .null, .null, .int 0] j := fun j hj => match j, hj with | 0, _ => rfl | 1, _ => rfl | 2, _ => rfl | 3, _ => rfl | 4, _ => rfl | 5, _ => rfl | 6, _ => rfl | 7, _ => rfl | 8, _ => rfl | 9, _ => rfl | 10, _ => rfl | 11, _ => rfl | 12, _ => rfl | 13, _ => rfl | n + 14, h => absurd h (by omega)
theorem df9 : ∀ j, j < 33 → defaultValue (tyX9 j) = vp_V [.int 0, .null, .int 0, .int 0, .int 0, .int 0, .null, .null, .null, .null, .null, .null, .int 0, .int 0, .null, .null, .null, .null, .null, .null, .null, .null, .int 0, .int 0, .null, .null, .null, .int 0, .null, .null, .null, .int 0, .null] j := fun j hj => match j, hj with | 0, _ => rfl | 1, _ => rfl | 2, _ => rfl | 3, _ => rfl | 4, _ => rfl | 5, _ => rfl | 6, _ => rfl | 7, _ => rfl | 8, _ => rfl | 9, _ => rfl | 10, _ => rfl | 11, _ => rfl | 12, _ => rfl | 13, _ => rfl | 14, _ => rfl | 15, _ => rfl | 16, _ => rfl | 17, _ => rfl | 18, _ => rfl | 19, _ => rfl | 20, _ => rfl | 21, _ => rfl | 22, _ => rfl | 23, _ => rfl | 24, _ => rfl | 25, _ => rfl | 26, _ => rfl | 27, _ => rfl | 28, _ => rfl | 29, _ => rfl | 30, _ => rfl | 31, _ => rfl | 32, _ => rfl | n + 33, h => absurd h (by omega)
theorem hNb (A : Nat → Prop) (ar : Array Value) (U : State) (g : JFrame) (mk : MethodId) (h : NW U) : NW (U.calling g mk ar) := NW.same (U := U.calling g mk ar) h rfl
theorem hNx {A : Nat → Prop} {s : State} (hN : NW s) (A' : Nat → Prop) (U : State) (_ : ∀ q, A' q → A q) (hW : s.WarmedH U.vm) (_ : ∀ q : Nat, q < s.heap.size → ¬ A q → U.heap[q]? = s.heap[q]?) : NW U := hN.warm hW
def rm_Valley : Room := { frames := 1, cells := 5, slots := 161, locals := 40 }
def P_Valley (h0 : Nat) (w : WDt) (u : Nat → Nat) : va_W := [(h0, .inr (7, [.ref (u 0), .ref (u 1), .ref (u 2), .ref (u 3), .ref (u 4), .int 0, .int 0, .int 0])), ((u 0), .inl (w.2.2.1, 7, .inl (fun _ => 0))), ((u 1), .inl (w.2.2.1, 7, .inl (fun _ => 0))), ((u 2), .inl (w.2.2.1, 49, .inl (fun _ => 0))), ((u 3), .inl (w.2.2.1, 49, .inl (fun _ => 0))), ((u 4), .inl (w.2.2.1, 49, .inl (fun _ => 0)))]
theorem md_Valley_init : MDi ⟨"BellSchool$Valley", "<init>", "()V"⟩ prog_9_method_1_code 1 0 := ⟨nw12, nw13, nw14, by decide, by decide, by decide +kernel⟩
theorem c_Valley_init (h0 : Nat) : CTR ⟨"BellSchool$Valley", "<init>", "()V"⟩ prog_9_method_1_code 1 rm_Valley [.ref h0] [(h0, .inr (7, [.null, .null, .null, .null, .null, .int 0, .int 0, .int 0]))] (fun _ U => NW U) (fun w u z => z = P_Valley h0 w u) := by
  refine ct_of (by decide) rfl (Nat.le_of_ble_eq_true rfl) (fun A X E hA hR hin hN => ?_)
  replace E : NE X prog_9_method_1_code "BellSchool$Valley" 1 rm_Valley := E
  show NV A X 0 [(0, .ref h0)] [] [(h0, .inr (7, [.null, .null, .null, .null, .null, .int 0, .int 0, .int 0]))] 0 0
  refine n_aloadn E di_Valley_0 rfl 0 rfl ?_
  refine n_objInit E nw0 nw1 nw2 di_Valley_1 (Nat.le_of_ble_eq_true rfl) (Nat.le_of_ble_eq_true rfl) ?_
  refine n_aloadn E di_Valley_4 rfl 0 rfl ?_
  refine n_bipush (v := 7) E di_Valley_5 (by decide) ?_
  refine n_newI E hA nw3 7 (by decide) (by decide) (Nat.le_of_ble_eq_true rfl) (Nat.le_of_ble_eq_true rfl) (Nat.le_of_ble_eq_true rfl) di_Valley_7 (fun q1 => ?_)
  refine n_world (ws' := [(h0, .inr (7, [.null, .null, .null, .null, .null, .int 0, .int 0, .int 0])), (q1, .inl (X.2.2.1.2.2.1, 7, .inl (fun _ => 0)))]) rfl ?_
  refine n_put E cf7 0 rfl 0 (by decide) rfl (Or.inr ⟨hin, rfl⟩) nw4 rfl rfl (Nat.le_of_ble_eq_true rfl) di_Valley_9 [(h0, .inr (7, [.ref q1, .null, .null, .null, .null, .int 0, .int 0, .int 0])), (q1, .inl (X.2.2.1.2.2.1, 7, .inl (fun _ => 0)))] rfl ?_
  refine n_aloadn E di_Valley_12 rfl 0 rfl ?_
  refine n_bipush (v := 7) E di_Valley_13 (by decide) ?_
  refine n_newI E hA nw3 7 (by decide) (by decide) (Nat.le_of_ble_eq_true rfl) (Nat.le_of_ble_eq_true rfl) (Nat.le_of_ble_eq_true rfl) di_Valley_15 (fun q2 => ?_)
  refine n_world (ws' := [(h0, .inr (7, [.ref q1, .null, .null, .null, .null, .int 0, .int 0, .int 0])), (q1, .inl (X.2.2.1.2.2.1, 7, .inl (fun _ => 0))), (q2, .inl (X.2.2.1.2.2.1, 7, .inl (fun _ => 0)))]) rfl ?_
  refine n_put E cf7 0 rfl 1 (by decide) rfl (Or.inr ⟨hin, rfl⟩) nw5 rfl rfl (Nat.le_of_ble_eq_true rfl) di_Valley_17 [(h0, .inr (7, [.ref q1, .ref q2, .null, .null, .null, .int 0, .int 0, .int 0])), (q1, .inl (X.2.2.1.2.2.1, 7, .inl (fun _ => 0))), (q2, .inl (X.2.2.1.2.2.1, 7, .inl (fun _ => 0)))] rfl ?_
  refine n_aloadn E di_Valley_20 rfl 0 rfl ?_
  refine n_bipush (v := 49) E di_Valley_21 (by decide) ?_
  refine n_newI E hA nw3 49 (by decide) (by decide) (Nat.le_of_ble_eq_true rfl) (Nat.le_of_ble_eq_true rfl) (Nat.le_of_ble_eq_true rfl) di_Valley_23 (fun q3 => ?_)
  refine n_world (ws' := [(h0, .inr (7, [.ref q1, .ref q2, .null, .null, .null, .int 0, .int 0, .int 0])), (q1, .inl (X.2.2.1.2.2.1, 7, .inl (fun _ => 0))), (q2, .inl (X.2.2.1.2.2.1, 7, .inl (fun _ => 0))), (q3, .inl (X.2.2.1.2.2.1, 49, .inl (fun _ => 0)))]) rfl ?_
  refine n_put E cf7 0 rfl 2 (by decide) rfl (Or.inr ⟨hin, rfl⟩) nw6 rfl rfl (Nat.le_of_ble_eq_true rfl) di_Valley_25 [(h0, .inr (7, [.ref q1, .ref q2, .ref q3, .null, .null, .int 0, .int 0, .int 0])), (q1, .inl (X.2.2.1.2.2.1, 7, .inl (fun _ => 0))), (q2, .inl (X.2.2.1.2.2.1, 7, .inl (fun _ => 0))), (q3, .inl (X.2.2.1.2.2.1, 49, .inl (fun _ => 0)))] rfl ?_
  refine n_aloadn E di_Valley_28 rfl 0 rfl ?_
  refine n_bipush (v := 49) E di_Valley_29 (by decide) ?_
  refine n_newI E hA nw3 49 (by decide) (by decide) (Nat.le_of_ble_eq_true rfl) (Nat.le_of_ble_eq_true rfl) (Nat.le_of_ble_eq_true rfl) di_Valley_31 (fun q4 => ?_)
  refine n_world (ws' := [(h0, .inr (7, [.ref q1, .ref q2, .ref q3, .null, .null, .int 0, .int 0, .int 0])), (q1, .inl (X.2.2.1.2.2.1, 7, .inl (fun _ => 0))), (q2, .inl (X.2.2.1.2.2.1, 7, .inl (fun _ => 0))), (q3, .inl (X.2.2.1.2.2.1, 49, .inl (fun _ => 0))), (q4, .inl (X.2.2.1.2.2.1, 49, .inl (fun _ => 0)))]) rfl ?_
  refine n_put E cf7 0 rfl 3 (by decide) rfl (Or.inr ⟨hin, rfl⟩) nw7 rfl rfl (Nat.le_of_ble_eq_true rfl) di_Valley_33 [(h0, .inr (7, [.ref q1, .ref q2, .ref q3, .ref q4, .null, .int 0, .int 0, .int 0])), (q1, .inl (X.2.2.1.2.2.1, 7, .inl (fun _ => 0))), (q2, .inl (X.2.2.1.2.2.1, 7, .inl (fun _ => 0))), (q3, .inl (X.2.2.1.2.2.1, 49, .inl (fun _ => 0))), (q4, .inl (X.2.2.1.2.2.1, 49, .inl (fun _ => 0)))] rfl ?_
  refine n_aloadn E di_Valley_36 rfl 0 rfl ?_
  refine n_bipush (v := 49) E di_Valley_37 (by decide) ?_
  refine n_newI E hA nw3 49 (by decide) (by decide) (Nat.le_of_ble_eq_true rfl) (Nat.le_of_ble_eq_true rfl) (Nat.le_of_ble_eq_true rfl) di_Valley_39 (fun q5 => ?_)
  refine n_world (ws' := [(h0, .inr (7, [.ref q1, .ref q2, .ref q3, .ref q4, .null, .int 0, .int 0, .int 0])), (q1, .inl (X.2.2.1.2.2.1, 7, .inl (fun _ => 0))), (q2, .inl (X.2.2.1.2.2.1, 7, .inl (fun _ => 0))), (q3, .inl (X.2.2.1.2.2.1, 49, .inl (fun _ => 0))), (q4, .inl (X.2.2.1.2.2.1, 49, .inl (fun _ => 0))), (q5, .inl (X.2.2.1.2.2.1, 49, .inl (fun _ => 0)))]) rfl ?_
  refine n_put E cf7 0 rfl 4 (by decide) rfl (Or.inr ⟨hin, rfl⟩) nw8 rfl rfl (Nat.le_of_ble_eq_true rfl) di_Valley_41 [(h0, .inr (7, [.ref q1, .ref q2, .ref q3, .ref q4, .ref q5, .int 0, .int 0, .int 0])), (q1, .inl (X.2.2.1.2.2.1, 7, .inl (fun _ => 0))), (q2, .inl (X.2.2.1.2.2.1, 7, .inl (fun _ => 0))), (q3, .inl (X.2.2.1.2.2.1, 49, .inl (fun _ => 0))), (q4, .inl (X.2.2.1.2.2.1, 49, .inl (fun _ => 0))), (q5, .inl (X.2.2.1.2.2.1, 49, .inl (fun _ => 0)))] rfl ?_
  refine n_aloadn E di_Valley_44 rfl 0 rfl ?_
  refine n_iconst (v := 0) E di_Valley_45 (by decide) ?_
  refine n_put E cf7 0 rfl 5 (by decide) rfl (Or.inl rfl) nw9 rfl rfl (Nat.le_of_ble_eq_true rfl) di_Valley_46 [(h0, .inr (7, [.ref q1, .ref q2, .ref q3, .ref q4, .ref q5, .int 0, .int 0, .int 0])), (q1, .inl (X.2.2.1.2.2.1, 7, .inl (fun _ => 0))), (q2, .inl (X.2.2.1.2.2.1, 7, .inl (fun _ => 0))), (q3, .inl (X.2.2.1.2.2.1, 49, .inl (fun _ => 0))), (q4, .inl (X.2.2.1.2.2.1, 49, .inl (fun _ => 0))), (q5, .inl (X.2.2.1.2.2.1, 49, .inl (fun _ => 0)))] rfl ?_
  refine n_aloadn E di_Valley_49 rfl 0 rfl ?_
  refine n_iconst (v := 0) E di_Valley_50 (by decide) ?_
  refine n_put E cf7 0 rfl 6 (by decide) rfl (Or.inl rfl) nw10 rfl rfl (Nat.le_of_ble_eq_true rfl) di_Valley_51 [(h0, .inr (7, [.ref q1, .ref q2, .ref q3, .ref q4, .ref q5, .int 0, .int 0, .int 0])), (q1, .inl (X.2.2.1.2.2.1, 7, .inl (fun _ => 0))), (q2, .inl (X.2.2.1.2.2.1, 7, .inl (fun _ => 0))), (q3, .inl (X.2.2.1.2.2.1, 49, .inl (fun _ => 0))), (q4, .inl (X.2.2.1.2.2.1, 49, .inl (fun _ => 0))), (q5, .inl (X.2.2.1.2.2.1, 49, .inl (fun _ => 0)))] rfl ?_
  refine n_aloadn E di_Valley_54 rfl 0 rfl ?_
  refine n_iconst (v := 0) E di_Valley_55 (by decide) ?_
  refine n_put E cf7 0 rfl 7 (by decide) rfl (Or.inl rfl) nw11 rfl rfl (Nat.le_of_ble_eq_true rfl) di_Valley_56 [(h0, .inr (7, [.ref q1, .ref q2, .ref q3, .ref q4, .ref q5, .int 0, .int 0, .int 0])), (q1, .inl (X.2.2.1.2.2.1, 7, .inl (fun _ => 0))), (q2, .inl (X.2.2.1.2.2.1, 7, .inl (fun _ => 0))), (q3, .inl (X.2.2.1.2.2.1, 49, .inl (fun _ => 0))), (q4, .inl (X.2.2.1.2.2.1, 49, .inl (fun _ => 0))), (q5, .inl (X.2.2.1.2.2.1, 49, .inl (fun _ => 0)))] rfl ?_
  refine n_part (ws' := [(h0, .inr (7, [.ref q1, .ref q2, .ref q3, .ref q4, .ref q5, .int 0, .int 0, .int 0])), (q1, .inl (X.2.2.1.2.2.1, 7, .inl (fun _ => 0))), (q2, .inl (X.2.2.1.2.2.1, 7, .inl (fun _ => 0))), (q3, .inl (X.2.2.1.2.2.1, 49, .inl (fun _ => 0))), (q4, .inl (X.2.2.1.2.2.1, 49, .inl (fun _ => 0))), (q5, .inl (X.2.2.1.2.2.1, 49, .inl (fun _ => 0)))]) [0, 1, 2, 3, 4, 5] rfl rfl ?_
  exact n_vret E hR (fun i => [q1, q2, q3, q4, q5].getD i 0) rfl rfl rfl di_Valley_59
def rm_Text : Room := { frames := 1, cells := 1, slots := 200, locals := 40 }
def P_Text (h0 : Nat) (w : WDt) (u : Nat → Nat) : va_W := [(h0, .inr (6, [.ref (u 0), .int 0])), ((u 0), .inl (w.2.2.2.2.1, 200, .inl (fun _ => 0)))]
theorem md_Text_init : MDi ⟨"BellSchool$Text", "<init>", "()V"⟩ prog_8_method_1_code 1 0 := ⟨nw19, nw20, nw21, by decide, by decide, by decide +kernel⟩
theorem c_Text_init (h0 : Nat) : CTR ⟨"BellSchool$Text", "<init>", "()V"⟩ prog_8_method_1_code 1 rm_Text [.ref h0] [(h0, .inr (6, [.null, .int 0]))] (fun _ U => NW U) (fun w u z => z = P_Text h0 w u) := by
  refine ct_of (by decide) rfl (Nat.le_of_ble_eq_true rfl) (fun A X E hA hR hin hN => ?_)
  replace E : NE X prog_8_method_1_code "BellSchool$Text" 1 rm_Text := E
  show NV A X 0 [(0, .ref h0)] [] [(h0, .inr (6, [.null, .int 0]))] 0 0
  refine n_aloadn E di_Text_0 rfl 0 rfl ?_
  refine n_objInit E nw15 nw1 nw2 di_Text_1 (Nat.le_of_ble_eq_true rfl) (Nat.le_of_ble_eq_true rfl) ?_
  refine n_aloadn E di_Text_4 rfl 0 rfl ?_
  refine n_sipush (v := 200) E di_Text_5 (by decide) ?_
  refine n_newC E hA nw16 200 (by decide) (by decide) (Nat.le_of_ble_eq_true rfl) (Nat.le_of_ble_eq_true rfl) (Nat.le_of_ble_eq_true rfl) di_Text_8 (fun q1 => ?_)
  refine n_world (ws' := [(h0, .inr (6, [.null, .int 0])), (q1, .inl (X.2.2.1.2.2.2.2.1, 200, .inl (fun _ => 0)))]) rfl ?_
  refine n_put E cf6 0 rfl 0 (by decide) rfl (Or.inr ⟨hin, rfl⟩) nw17 rfl rfl (Nat.le_of_ble_eq_true rfl) di_Text_10 [(h0, .inr (6, [.ref q1, .int 0])), (q1, .inl (X.2.2.1.2.2.2.2.1, 200, .inl (fun _ => 0)))] rfl ?_
  refine n_aloadn E di_Text_13 rfl 0 rfl ?_
  refine n_iconst (v := 0) E di_Text_14 (by decide) ?_
  refine n_put E cf6 0 rfl 1 (by decide) rfl (Or.inl rfl) nw18 rfl rfl (Nat.le_of_ble_eq_true rfl) di_Text_15 [(h0, .inr (6, [.ref q1, .int 0])), (q1, .inl (X.2.2.1.2.2.2.2.1, 200, .inl (fun _ => 0)))] rfl ?_
  refine n_part (ws' := [(h0, .inr (6, [.ref q1, .int 0])), (q1, .inl (X.2.2.1.2.2.2.2.1, 200, .inl (fun _ => 0)))]) [0, 1] rfl rfl ?_
  exact n_vret E hR (fun i => [q1].getD i 0) rfl rfl rfl di_Text_18
def rm_Reader : Room := { frames := 1, cells := 1, slots := 4, locals := 40 }
def P_Reader (h0 : Nat) (w : WDt) (u : Nat → Nat) : va_W := [(h0, .inr (2, [.ref (u 0), .int 0])), ((u 0), .inl (w.2.2.1, 4, .inl (fun _ => 0)))]
theorem md_Reader_init : MDi ⟨"BellSchool$Reader", "<init>", "()V"⟩ prog_4_method_1_code 1 0 := ⟨nw25, nw26, nw27, by decide, by decide, by decide +kernel⟩
theorem c_Reader_init (h0 : Nat) : CTR ⟨"BellSchool$Reader", "<init>", "()V"⟩ prog_4_method_1_code 1 rm_Reader [.ref h0] [(h0, .inr (2, [.null, .int 0]))] (fun _ U => NW U) (fun w u z => z = P_Reader h0 w u) := by
  refine ct_of (by decide) rfl (Nat.le_of_ble_eq_true rfl) (fun A X E hA hR hin hN => ?_)
  replace E : NE X prog_4_method_1_code "BellSchool$Reader" 1 rm_Reader := E
  show NV A X 0 [(0, .ref h0)] [] [(h0, .inr (2, [.null, .int 0]))] 0 0
  refine n_aloadn E di_Reader_0 rfl 0 rfl ?_
  refine n_objInit E nw22 nw1 nw2 di_Reader_1 (Nat.le_of_ble_eq_true rfl) (Nat.le_of_ble_eq_true rfl) ?_
  refine n_aloadn E di_Reader_4 rfl 0 rfl ?_
  refine n_iconst (v := 4) E di_Reader_5 (by decide) ?_
  refine n_newI E hA nw3 4 (by decide) (by decide) (Nat.le_of_ble_eq_true rfl) (Nat.le_of_ble_eq_true rfl) (Nat.le_of_ble_eq_true rfl) di_Reader_6 (fun q1 => ?_)
  refine n_world (ws' := [(h0, .inr (2, [.null, .int 0])), (q1, .inl (X.2.2.1.2.2.1, 4, .inl (fun _ => 0)))]) rfl ?_
  refine n_put E cf2 0 rfl 0 (by decide) rfl (Or.inr ⟨hin, rfl⟩) nw23 rfl rfl (Nat.le_of_ble_eq_true rfl) di_Reader_8 [(h0, .inr (2, [.ref q1, .int 0])), (q1, .inl (X.2.2.1.2.2.1, 4, .inl (fun _ => 0)))] rfl ?_
  refine n_aloadn E di_Reader_11 rfl 0 rfl ?_
  refine n_iconst (v := 0) E di_Reader_12 (by decide) ?_
  refine n_put E cf2 0 rfl 1 (by decide) rfl (Or.inl rfl) nw24 rfl rfl (Nat.le_of_ble_eq_true rfl) di_Reader_13 [(h0, .inr (2, [.ref q1, .int 0])), (q1, .inl (X.2.2.1.2.2.1, 4, .inl (fun _ => 0)))] rfl ?_
  refine n_part (ws' := [(h0, .inr (2, [.ref q1, .int 0])), (q1, .inl (X.2.2.1.2.2.1, 4, .inl (fun _ => 0)))]) [0, 1] rfl rfl ?_
  exact n_vret E hR (fun i => [q1].getD i 0) rfl rfl rfl di_Reader_16
def rm_Noon : Room := { frames := 1, cells := 3, slots := 1407, locals := 40 }
def P_Noon (h0 : Nat) (v0 : Nat) (w : WDt) (u : Nat → Nat) : va_W := [(h0, .inr (1, [.ref (u 0), .ref (u 1), .ref v0, .ref (u 2), .int (-4), .int 0])), ((u 0), .inl (w.2.2.1, 1372, .inl (fun _ => 0))), ((u 1), .inl (w.2.2.2.1, 28, .inr (.inl (fun _ => 0)))), ((u 2), .inl (w.2.2.1, 7, .inl (fun _ => 0)))]
theorem md_Noon_init : MDi ⟨"BellSchool$Noon", "<init>", "(LBellSchool$Valley;)V"⟩ prog_3_method_1_code 2 1 := ⟨nw36, nw37, nw38, by decide, by decide, by decide +kernel⟩
theorem c_Noon_init (h0 : Nat) (v0 : Nat) : CTR ⟨"BellSchool$Noon", "<init>", "(LBellSchool$Valley;)V"⟩ prog_3_method_1_code 2 rm_Noon [.ref h0, .ref v0] [(h0, .inr (1, [.null, .null, .null, .null, .int 0, .int 0]))] (fun _ U => NW U) (fun w u z => z = P_Noon h0 v0 w u) := by
  refine ct_of (by decide) rfl (Nat.le_of_ble_eq_true rfl) (fun A X E hA hR hin hN => ?_)
  replace E : NE X prog_3_method_1_code "BellSchool$Noon" 2 rm_Noon := E
  show NV A X 0 [(0, .ref h0), (1, .ref v0)] [] [(h0, .inr (1, [.null, .null, .null, .null, .int 0, .int 0]))] 0 0
  refine n_aloadn E di_Noon_0 rfl 0 rfl ?_
  refine n_objInit E nw28 nw1 nw2 di_Noon_1 (Nat.le_of_ble_eq_true rfl) (Nat.le_of_ble_eq_true rfl) ?_
  refine n_aloadn E di_Noon_4 rfl 0 rfl ?_
  refine n_sipush (v := 1372) E di_Noon_5 (by decide) ?_
  refine n_newI E hA nw3 1372 (by decide) (by decide) (Nat.le_of_ble_eq_true rfl) (Nat.le_of_ble_eq_true rfl) (Nat.le_of_ble_eq_true rfl) di_Noon_8 (fun q1 => ?_)
  refine n_world (ws' := [(h0, .inr (1, [.null, .null, .null, .null, .int 0, .int 0])), (q1, .inl (X.2.2.1.2.2.1, 1372, .inl (fun _ => 0)))]) rfl ?_
  refine n_put E cf1 0 rfl 0 (by decide) rfl (Or.inr ⟨hin, rfl⟩) nw29 rfl rfl (Nat.le_of_ble_eq_true rfl) di_Noon_10 [(h0, .inr (1, [.ref q1, .null, .null, .null, .int 0, .int 0])), (q1, .inl (X.2.2.1.2.2.1, 1372, .inl (fun _ => 0)))] rfl ?_
  refine n_aloadn E di_Noon_13 rfl 0 rfl ?_
  refine n_bipush (v := 28) E di_Noon_14 (by decide) ?_
  refine n_newL E hA nw30 28 (by decide) (by decide) (Nat.le_of_ble_eq_true rfl) (Nat.le_of_ble_eq_true rfl) (Nat.le_of_ble_eq_true rfl) di_Noon_16 (fun q2 => ?_)
  refine n_world (ws' := [(h0, .inr (1, [.ref q1, .null, .null, .null, .int 0, .int 0])), (q1, .inl (X.2.2.1.2.2.1, 1372, .inl (fun _ => 0))), (q2, .inl (X.2.2.1.2.2.2.1, 28, .inr (.inl (fun _ => 0))))]) rfl ?_
  refine n_put E cf1 0 rfl 1 (by decide) rfl (Or.inr ⟨hin, rfl⟩) nw31 rfl rfl (Nat.le_of_ble_eq_true rfl) di_Noon_18 [(h0, .inr (1, [.ref q1, .ref q2, .null, .null, .int 0, .int 0])), (q1, .inl (X.2.2.1.2.2.1, 1372, .inl (fun _ => 0))), (q2, .inl (X.2.2.1.2.2.2.1, 28, .inr (.inl (fun _ => 0))))] rfl ?_
  refine n_aloadn E di_Noon_21 rfl 0 rfl ?_
  refine n_bipush (v := 7) E di_Noon_22 (by decide) ?_
  refine n_newI E hA nw3 7 (by decide) (by decide) (Nat.le_of_ble_eq_true rfl) (Nat.le_of_ble_eq_true rfl) (Nat.le_of_ble_eq_true rfl) di_Noon_24 (fun q3 => ?_)
  refine n_world (ws' := [(h0, .inr (1, [.ref q1, .ref q2, .null, .null, .int 0, .int 0])), (q1, .inl (X.2.2.1.2.2.1, 1372, .inl (fun _ => 0))), (q2, .inl (X.2.2.1.2.2.2.1, 28, .inr (.inl (fun _ => 0)))), (q3, .inl (X.2.2.1.2.2.1, 7, .inl (fun _ => 0)))]) rfl ?_
  refine n_put E cf1 0 rfl 3 (by decide) rfl (Or.inr ⟨hin, rfl⟩) nw32 rfl rfl (Nat.le_of_ble_eq_true rfl) di_Noon_26 [(h0, .inr (1, [.ref q1, .ref q2, .null, .ref q3, .int 0, .int 0])), (q1, .inl (X.2.2.1.2.2.1, 1372, .inl (fun _ => 0))), (q2, .inl (X.2.2.1.2.2.2.1, 28, .inr (.inl (fun _ => 0)))), (q3, .inl (X.2.2.1.2.2.1, 7, .inl (fun _ => 0)))] rfl ?_
  refine n_aloadn E di_Noon_29 rfl 0 rfl ?_
  refine n_bipush (v := (-4)) E di_Noon_30 (by decide) ?_
  refine n_put E cf1 0 rfl 4 (by decide) rfl (Or.inl rfl) nw33 rfl rfl (Nat.le_of_ble_eq_true rfl) di_Noon_32 [(h0, .inr (1, [.ref q1, .ref q2, .null, .ref q3, .int (-4), .int 0])), (q1, .inl (X.2.2.1.2.2.1, 1372, .inl (fun _ => 0))), (q2, .inl (X.2.2.1.2.2.2.1, 28, .inr (.inl (fun _ => 0)))), (q3, .inl (X.2.2.1.2.2.1, 7, .inl (fun _ => 0)))] rfl ?_
  refine n_aloadn E di_Noon_35 rfl 0 rfl ?_
  refine n_iconst (v := 0) E di_Noon_36 (by decide) ?_
  refine n_put E cf1 0 rfl 5 (by decide) rfl (Or.inl rfl) nw34 rfl rfl (Nat.le_of_ble_eq_true rfl) di_Noon_37 [(h0, .inr (1, [.ref q1, .ref q2, .null, .ref q3, .int (-4), .int 0])), (q1, .inl (X.2.2.1.2.2.1, 1372, .inl (fun _ => 0))), (q2, .inl (X.2.2.1.2.2.2.1, 28, .inr (.inl (fun _ => 0)))), (q3, .inl (X.2.2.1.2.2.1, 7, .inl (fun _ => 0)))] rfl ?_
  refine n_aloadn E di_Noon_40 rfl 0 rfl ?_
  refine n_aloadn E di_Noon_41 rfl 1 rfl ?_
  refine n_put E cf1 0 rfl 2 (by decide) rfl (Or.inl rfl) nw35 rfl rfl (Nat.le_of_ble_eq_true rfl) di_Noon_42 [(h0, .inr (1, [.ref q1, .ref q2, .ref v0, .ref q3, .int (-4), .int 0])), (q1, .inl (X.2.2.1.2.2.1, 1372, .inl (fun _ => 0))), (q2, .inl (X.2.2.1.2.2.2.1, 28, .inr (.inl (fun _ => 0)))), (q3, .inl (X.2.2.1.2.2.1, 7, .inl (fun _ => 0)))] rfl ?_
  refine n_part (ws' := [(h0, .inr (1, [.ref q1, .ref q2, .ref v0, .ref q3, .int (-4), .int 0])), (q1, .inl (X.2.2.1.2.2.1, 1372, .inl (fun _ => 0))), (q2, .inl (X.2.2.1.2.2.2.1, 28, .inr (.inl (fun _ => 0)))), (q3, .inl (X.2.2.1.2.2.1, 7, .inl (fun _ => 0)))]) [0, 1, 2, 3] rfl rfl ?_
  exact n_vret E hR (fun i => [q1, q2, q3].getD i 0) rfl rfl rfl di_Noon_45
def rm_Standing : Room := { frames := 1, cells := 1, slots := 7, locals := 40 }
def P_Standing (h0 : Nat) (w : WDt) (u : Nat → Nat) : va_W := [(h0, .inr (5, [.ref (u 0), .int 0, .int 0, .int 0, .int 0, .int 0, .long 0])), ((u 0), .inl (w.2.2.1, 7, .inl (fun _ => 0)))]
theorem md_Standing_init : MDi ⟨"BellSchool$Standing", "<init>", "()V"⟩ prog_7_method_1_code 1 0 := ⟨nw47, nw48, nw49, by decide, by decide, by decide +kernel⟩
theorem c_Standing_init (h0 : Nat) : CTR ⟨"BellSchool$Standing", "<init>", "()V"⟩ prog_7_method_1_code 1 rm_Standing [.ref h0] [(h0, .inr (5, [.null, .int 0, .int 0, .int 0, .int 0, .int 0, .long 0]))] (fun _ U => NW U) (fun w u z => z = P_Standing h0 w u) := by
  refine ct_of (by decide) rfl (Nat.le_of_ble_eq_true rfl) (fun A X E hA hR hin hN => ?_)
  replace E : NE X prog_7_method_1_code "BellSchool$Standing" 1 rm_Standing := E
  show NV A X 0 [(0, .ref h0)] [] [(h0, .inr (5, [.null, .int 0, .int 0, .int 0, .int 0, .int 0, .long 0]))] 0 0
  refine n_aloadn E di_Standing_0 rfl 0 rfl ?_
  refine n_objInit E nw39 nw1 nw2 di_Standing_1 (Nat.le_of_ble_eq_true rfl) (Nat.le_of_ble_eq_true rfl) ?_
  refine n_aloadn E di_Standing_4 rfl 0 rfl ?_
  refine n_bipush (v := 7) E di_Standing_5 (by decide) ?_
  refine n_newI E hA nw3 7 (by decide) (by decide) (Nat.le_of_ble_eq_true rfl) (Nat.le_of_ble_eq_true rfl) (Nat.le_of_ble_eq_true rfl) di_Standing_7 (fun q1 => ?_)
  refine n_world (ws' := [(h0, .inr (5, [.null, .int 0, .int 0, .int 0, .int 0, .int 0, .long 0])), (q1, .inl (X.2.2.1.2.2.1, 7, .inl (fun _ => 0)))]) rfl ?_
  refine n_put E cf5 0 rfl 0 (by decide) rfl (Or.inr ⟨hin, rfl⟩) nw40 rfl rfl (Nat.le_of_ble_eq_true rfl) di_Standing_9 [(h0, .inr (5, [.ref q1, .int 0, .int 0, .int 0, .int 0, .int 0, .long 0])), (q1, .inl (X.2.2.1.2.2.1, 7, .inl (fun _ => 0)))] rfl ?_
  refine n_aloadn E di_Standing_12 rfl 0 rfl ?_
  refine n_iconst (v := 0) E di_Standing_13 (by decide) ?_
  refine n_put E cf5 0 rfl 1 (by decide) rfl (Or.inl rfl) nw41 rfl rfl (Nat.le_of_ble_eq_true rfl) di_Standing_14 [(h0, .inr (5, [.ref q1, .int 0, .int 0, .int 0, .int 0, .int 0, .long 0])), (q1, .inl (X.2.2.1.2.2.1, 7, .inl (fun _ => 0)))] rfl ?_
  refine n_aloadn E di_Standing_17 rfl 0 rfl ?_
  refine n_iconst (v := 0) E di_Standing_18 (by decide) ?_
  refine n_put E cf5 0 rfl 2 (by decide) rfl (Or.inl rfl) nw42 rfl rfl (Nat.le_of_ble_eq_true rfl) di_Standing_19 [(h0, .inr (5, [.ref q1, .int 0, .int 0, .int 0, .int 0, .int 0, .long 0])), (q1, .inl (X.2.2.1.2.2.1, 7, .inl (fun _ => 0)))] rfl ?_
  refine n_aloadn E di_Standing_22 rfl 0 rfl ?_
  refine n_iconst (v := 0) E di_Standing_23 (by decide) ?_
  refine n_put E cf5 0 rfl 3 (by decide) rfl (Or.inl rfl) nw43 rfl rfl (Nat.le_of_ble_eq_true rfl) di_Standing_24 [(h0, .inr (5, [.ref q1, .int 0, .int 0, .int 0, .int 0, .int 0, .long 0])), (q1, .inl (X.2.2.1.2.2.1, 7, .inl (fun _ => 0)))] rfl ?_
  refine n_aloadn E di_Standing_27 rfl 0 rfl ?_
  refine n_iconst (v := 0) E di_Standing_28 (by decide) ?_
  refine n_put E cf5 0 rfl 4 (by decide) rfl (Or.inl rfl) nw44 rfl rfl (Nat.le_of_ble_eq_true rfl) di_Standing_29 [(h0, .inr (5, [.ref q1, .int 0, .int 0, .int 0, .int 0, .int 0, .long 0])), (q1, .inl (X.2.2.1.2.2.1, 7, .inl (fun _ => 0)))] rfl ?_
  refine n_aloadn E di_Standing_32 rfl 0 rfl ?_
  refine n_iconst (v := 0) E di_Standing_33 (by decide) ?_
  refine n_put E cf5 0 rfl 5 (by decide) rfl (Or.inl rfl) nw45 rfl rfl (Nat.le_of_ble_eq_true rfl) di_Standing_34 [(h0, .inr (5, [.ref q1, .int 0, .int 0, .int 0, .int 0, .int 0, .long 0])), (q1, .inl (X.2.2.1.2.2.1, 7, .inl (fun _ => 0)))] rfl ?_
  refine n_aloadn E di_Standing_37 rfl 0 rfl ?_
  refine n_lconst (v := 0) E di_Standing_38 (by decide) ?_
  refine n_put E cf5 0 rfl 6 (by decide) rfl (Or.inl rfl) nw46 rfl rfl (Nat.le_of_ble_eq_true rfl) di_Standing_39 [(h0, .inr (5, [.ref q1, .int 0, .int 0, .int 0, .int 0, .int 0, .long 0])), (q1, .inl (X.2.2.1.2.2.1, 7, .inl (fun _ => 0)))] rfl ?_
  refine n_part (ws' := [(h0, .inr (5, [.ref q1, .int 0, .int 0, .int 0, .int 0, .int 0, .long 0])), (q1, .inl (X.2.2.1.2.2.1, 7, .inl (fun _ => 0)))]) [0, 1] rfl rfl ?_
  exact n_vret E hR (fun i => [q1].getD i 0) rfl rfl rfl di_Standing_42
def rm_Shelf8 : Room := { frames := 2, cells := 17, slots := 120, locals := 80 }
def P_Shelf8 (h0 : Nat) (w : WDt) (u : Nat → Nat) : va_W := [(h0, .inr (4, [.ref (u 0), .int 0])), ((u 0), .inl (w.2.2.2.2.2, 8, .inr (.inr (.inr (.inr (fun j => some (u (1 + 2 * j)))))))), ((u 1), .inr (5, [.ref (u 2), .int 0, .int 0, .int 0, .int 0, .int 0, .long 0])), ((u 2), .inl (w.2.2.1, 7, .inl (fun _ => 0))), ((u 3), .inr (5, [.ref (u 4), .int 0, .int 0, .int 0, .int 0, .int 0, .long 0])), ((u 4), .inl (w.2.2.1, 7, .inl (fun _ => 0))), ((u 5), .inr (5, [.ref (u 6), .int 0, .int 0, .int 0, .int 0, .int 0, .long 0])), ((u 6), .inl (w.2.2.1, 7, .inl (fun _ => 0))), ((u 7), .inr (5, [.ref (u 8), .int 0, .int 0, .int 0, .int 0, .int 0, .long 0])), ((u 8), .inl (w.2.2.1, 7, .inl (fun _ => 0))), ((u 9), .inr (5, [.ref (u 10), .int 0, .int 0, .int 0, .int 0, .int 0, .long 0])), ((u 10), .inl (w.2.2.1, 7, .inl (fun _ => 0))), ((u 11), .inr (5, [.ref (u 12), .int 0, .int 0, .int 0, .int 0, .int 0, .long 0])), ((u 12), .inl (w.2.2.1, 7, .inl (fun _ => 0))), ((u 13), .inr (5, [.ref (u 14), .int 0, .int 0, .int 0, .int 0, .int 0, .long 0])), ((u 14), .inl (w.2.2.1, 7, .inl (fun _ => 0))), ((u 15), .inr (5, [.ref (u 16), .int 0, .int 0, .int 0, .int 0, .int 0, .long 0])), ((u 16), .inl (w.2.2.1, 7, .inl (fun _ => 0)))]
theorem md_Shelf_init : MDi ⟨"BellSchool$Shelf", "<init>", "(I)V"⟩ prog_6_method_1_code 3 1 := ⟨nw59, nw60, nw61, by decide, by decide, by decide +kernel⟩
theorem c_Shelf8_init (h0 : Nat) : CTR ⟨"BellSchool$Shelf", "<init>", "(I)V"⟩ prog_6_method_1_code 3 rm_Shelf8 [.ref h0, .int 8] [(h0, .inr (4, [.null, .int 0]))] (fun _ U => NW U) (fun w u z => z = P_Shelf8 h0 w u) := by
  refine ct_of (by decide) rfl (Nat.le_of_ble_eq_true rfl) (fun A X E hA hR hin hN => ?_)
  replace E : NE X prog_6_method_1_code "BellSchool$Shelf" 3 rm_Shelf8 := E
  show NV A X 0 [(0, .ref h0), (1, .int 8)] [] [(h0, .inr (4, [.null, .int 0]))] 0 0
  refine n_aloadn E di_Shelf_0 rfl 0 rfl ?_
  refine n_objInit E nw50 nw1 nw2 di_Shelf_1 (Nat.le_of_ble_eq_true rfl) (Nat.le_of_ble_eq_true rfl) ?_
  refine n_aloadn E di_Shelf_4 rfl 0 rfl ?_
  refine n_iconst (v := 0) E di_Shelf_5 (by decide) ?_
  refine n_put E cf4 0 rfl 1 (by decide) rfl (Or.inl rfl) nw51 rfl rfl (Nat.le_of_ble_eq_true rfl) di_Shelf_6 [(h0, .inr (4, [.null, .int 0]))] rfl ?_
  refine n_aloadn E di_Shelf_9 rfl 0 rfl ?_
  refine n_iconst (v := 1) E di_Shelf_10 (by decide) ?_
  refine n_iloadn E di_Shelf_11 rfl 1 rfl ?_
  refine n_mmax (v := 8) E nw52 nw53 nw54 nw55 di_Shelf_12 (Nat.le_of_ble_eq_true rfl) (Nat.le_of_ble_eq_true rfl) (Nat.le_of_ble_eq_true rfl) (Nat.le_of_ble_eq_true rfl) (Nat.le_of_ble_eq_true rfl) (by decide) ?_
  refine n_newS E hA hN nw56 8 (by decide) (by decide) (Nat.le_of_ble_eq_true rfl) (Nat.le_of_ble_eq_true rfl) (Nat.le_of_ble_eq_true rfl) di_Shelf_15 (fun q1 => ?_)
  refine n_world (ws' := [(h0, .inr (4, [.null, .int 0])), (q1, .inl (X.2.2.1.2.2.2.2.2, 8, .inr (.inr (.inr (.inr (fun _ => none))))))]) rfl ?_
  refine n_put E cf4 0 rfl 0 (by decide) rfl (Or.inr ⟨hin, rfl⟩) nw57 rfl rfl (Nat.le_of_ble_eq_true rfl) di_Shelf_18 [(h0, .inr (4, [.ref q1, .int 0])), (q1, .inl (X.2.2.1.2.2.2.2.2, 8, .inr (.inr (.inr (.inr (fun _ => none))))))] rfl ?_
  refine n_iconst (v := 0) E di_Shelf_21 (by decide) ?_
  refine n_istoren (L' := [(2, .int 0), (0, .ref h0), (1, .int 8)]) E di_Shelf_22 rfl (by decide) rfl ?_
  refine n_iloadn E di_Shelf_23 rfl 0 rfl ?_
  refine n_aloadn E di_Shelf_24 rfl 1 rfl ?_
  refine n_get E cf4 0 rfl 0 (by decide) rfl nw57 rfl di_Shelf_25 ?_
  refine n_alenS (v := 8) E 1 rfl (by decide) di_Shelf_28 ?_
  refine n_icmp_ge E 51 di_Shelf_29 (by decide) (fun c => absurd c (by decide)) (fun _ => ?_)
  refine n_aloadn E di_Shelf_32 rfl 1 rfl ?_
  refine n_get E cf4 0 rfl 0 (by decide) rfl nw57 rfl di_Shelf_33 ?_
  refine n_iloadn E di_Shelf_36 rfl 0 rfl ?_
  refine n_new E hA cf5 nw56 nw58 nw49 [.null, .int 0, .int 0, .int 0, .int 0, .int 0, .long 0] df5 (Nat.le_of_ble_eq_true rfl) (Nat.le_of_ble_eq_true rfl) di_Shelf_37 (fun q2 => ?_)
  refine n_world (ws' := [(h0, .inr (4, [.ref q1, .int 0])), (q1, .inl (X.2.2.1.2.2.2.2.2, 8, .inr (.inr (.inr (.inr (fun _ => none)))))), (q2, .inr (5, [.null, .int 0, .int 0, .int 0, .int 0, .int 0, .long 0]))]) rfl ?_
  refine n_dup E di_Shelf_40 rfl ?_
  refine n_initN (wr := [(h0, .inr (4, [.ref q1, .int 0])), (q1, .inl (X.2.2.1.2.2.2.2.2, 8, .inr (.inr (.inr (.inr (fun _ => none))))))]) (As := []) E hA md_Standing_init rfl (c_Standing_init q2 ) hNb (hNx hN) (hN.1 ("BellSchool$Shelf", 25, "BellSchool$Standing") (by decide)) di_Shelf_41 rfl ⟨Nat.le_of_ble_eq_true rfl, Nat.le_of_ble_eq_true rfl⟩ (Nat.le_of_ble_eq_true rfl) ⟨Nat.le_of_ble_eq_true rfl, Nat.le_of_ble_eq_true rfl⟩ [2] [0, 1] rfl rfl rfl rfl (by decide) rfl (fun u1 w1 e1 => ?_)
  subst e1
  refine n_world (ws' := [(h0, .inr (4, [.ref q1, .int 0])), (q1, .inl (X.2.2.1.2.2.2.2.2, 8, .inr (.inr (.inr (.inr (fun _ => none)))))), (q2, .inr (5, [.ref (u1 0), .int 0, .int 0, .int 0, .int 0, .int 0, .long 0])), ((u1 0), .inl (X.2.2.1.2.2.1, 7, .inl (fun _ => 0)))]) rfl ?_
  refine n_aastS E 1 2 rfl rfl (by unfold vp_in; decide) di_Shelf_44 [(h0, .inr (4, [.ref q1, .int 0])), (q1, .inl (X.2.2.1.2.2.2.2.2, 8, .inr (.inr (.inr (.inr (va_up (fun _ => none) (Int32.toNatClampNeg 0) (some q2))))))), (q2, .inr (5, [.ref (u1 0), .int 0, .int 0, .int 0, .int 0, .int 0, .long 0])), ((u1 0), .inl (X.2.2.1.2.2.1, 7, .inl (fun _ => 0)))] rfl ?_
  refine n_iinc (y := 1) (L' := [(2, .int 1), (0, .ref h0), (1, .int 8)]) E di_Shelf_45 0 rfl (by decide) (by decide) rfl ?_
  refine n_goto E 23 di_Shelf_48 (by decide) ?_
  refine n_iloadn E di_Shelf_23 rfl 0 rfl ?_
  refine n_aloadn E di_Shelf_24 rfl 1 rfl ?_
  refine n_get E cf4 0 rfl 0 (by decide) rfl nw57 rfl di_Shelf_25 ?_
  refine n_alenS (v := 8) E 1 rfl (by decide) di_Shelf_28 ?_
  refine n_icmp_ge E 51 di_Shelf_29 (by decide) (fun c => absurd c (by decide)) (fun _ => ?_)
  refine n_aloadn E di_Shelf_32 rfl 1 rfl ?_
  refine n_get E cf4 0 rfl 0 (by decide) rfl nw57 rfl di_Shelf_33 ?_
  refine n_iloadn E di_Shelf_36 rfl 0 rfl ?_
  refine n_new E hA cf5 nw56 nw58 nw49 [.null, .int 0, .int 0, .int 0, .int 0, .int 0, .long 0] df5 (Nat.le_of_ble_eq_true rfl) (Nat.le_of_ble_eq_true rfl) di_Shelf_37 (fun q3 => ?_)
  refine n_world (ws' := [(h0, .inr (4, [.ref q1, .int 0])), (q1, .inl (X.2.2.1.2.2.2.2.2, 8, .inr (.inr (.inr (.inr (va_up (fun _ => none) (Int32.toNatClampNeg 0) (some q2))))))), (q2, .inr (5, [.ref (u1 0), .int 0, .int 0, .int 0, .int 0, .int 0, .long 0])), ((u1 0), .inl (X.2.2.1.2.2.1, 7, .inl (fun _ => 0))), (q3, .inr (5, [.null, .int 0, .int 0, .int 0, .int 0, .int 0, .long 0]))]) rfl ?_
  refine n_dup E di_Shelf_40 rfl ?_
  refine n_initN (wr := [(h0, .inr (4, [.ref q1, .int 0])), (q1, .inl (X.2.2.1.2.2.2.2.2, 8, .inr (.inr (.inr (.inr (va_up (fun _ => none) (Int32.toNatClampNeg 0) (some q2))))))), (q2, .inr (5, [.ref (u1 0), .int 0, .int 0, .int 0, .int 0, .int 0, .long 0])), ((u1 0), .inl (X.2.2.1.2.2.1, 7, .inl (fun _ => 0)))]) (As := []) E hA md_Standing_init rfl (c_Standing_init q3 ) hNb (hNx hN) (hN.1 ("BellSchool$Shelf", 25, "BellSchool$Standing") (by decide)) di_Shelf_41 rfl ⟨Nat.le_of_ble_eq_true rfl, Nat.le_of_ble_eq_true rfl⟩ (Nat.le_of_ble_eq_true rfl) ⟨Nat.le_of_ble_eq_true rfl, Nat.le_of_ble_eq_true rfl⟩ [4] [0, 1, 2, 3] rfl rfl rfl rfl (by decide) rfl (fun u2 w1 e1 => ?_)
  subst e1
  refine n_world (ws' := [(h0, .inr (4, [.ref q1, .int 0])), (q1, .inl (X.2.2.1.2.2.2.2.2, 8, .inr (.inr (.inr (.inr (va_up (fun _ => none) (Int32.toNatClampNeg 0) (some q2))))))), (q2, .inr (5, [.ref (u1 0), .int 0, .int 0, .int 0, .int 0, .int 0, .long 0])), ((u1 0), .inl (X.2.2.1.2.2.1, 7, .inl (fun _ => 0))), (q3, .inr (5, [.ref (u2 0), .int 0, .int 0, .int 0, .int 0, .int 0, .long 0])), ((u2 0), .inl (X.2.2.1.2.2.1, 7, .inl (fun _ => 0)))]) rfl ?_
  refine n_aastS E 1 4 rfl rfl (by unfold vp_in; decide) di_Shelf_44 [(h0, .inr (4, [.ref q1, .int 0])), (q1, .inl (X.2.2.1.2.2.2.2.2, 8, .inr (.inr (.inr (.inr (va_up (va_up (fun _ => none) (Int32.toNatClampNeg 0) (some q2)) (Int32.toNatClampNeg 1) (some q3))))))), (q2, .inr (5, [.ref (u1 0), .int 0, .int 0, .int 0, .int 0, .int 0, .long 0])), ((u1 0), .inl (X.2.2.1.2.2.1, 7, .inl (fun _ => 0))), (q3, .inr (5, [.ref (u2 0), .int 0, .int 0, .int 0, .int 0, .int 0, .long 0])), ((u2 0), .inl (X.2.2.1.2.2.1, 7, .inl (fun _ => 0)))] rfl ?_
  refine n_iinc (y := 2) (L' := [(2, .int 2), (0, .ref h0), (1, .int 8)]) E di_Shelf_45 0 rfl (by decide) (by decide) rfl ?_
  refine n_goto E 23 di_Shelf_48 (by decide) ?_
  refine n_iloadn E di_Shelf_23 rfl 0 rfl ?_
  refine n_aloadn E di_Shelf_24 rfl 1 rfl ?_
  refine n_get E cf4 0 rfl 0 (by decide) rfl nw57 rfl di_Shelf_25 ?_
  refine n_alenS (v := 8) E 1 rfl (by decide) di_Shelf_28 ?_
  refine n_icmp_ge E 51 di_Shelf_29 (by decide) (fun c => absurd c (by decide)) (fun _ => ?_)
  refine n_aloadn E di_Shelf_32 rfl 1 rfl ?_
  refine n_get E cf4 0 rfl 0 (by decide) rfl nw57 rfl di_Shelf_33 ?_
  refine n_iloadn E di_Shelf_36 rfl 0 rfl ?_
  refine n_new E hA cf5 nw56 nw58 nw49 [.null, .int 0, .int 0, .int 0, .int 0, .int 0, .long 0] df5 (Nat.le_of_ble_eq_true rfl) (Nat.le_of_ble_eq_true rfl) di_Shelf_37 (fun q4 => ?_)
  refine n_world (ws' := [(h0, .inr (4, [.ref q1, .int 0])), (q1, .inl (X.2.2.1.2.2.2.2.2, 8, .inr (.inr (.inr (.inr (va_up (va_up (fun _ => none) (Int32.toNatClampNeg 0) (some q2)) (Int32.toNatClampNeg 1) (some q3))))))), (q2, .inr (5, [.ref (u1 0), .int 0, .int 0, .int 0, .int 0, .int 0, .long 0])), ((u1 0), .inl (X.2.2.1.2.2.1, 7, .inl (fun _ => 0))), (q3, .inr (5, [.ref (u2 0), .int 0, .int 0, .int 0, .int 0, .int 0, .long 0])), ((u2 0), .inl (X.2.2.1.2.2.1, 7, .inl (fun _ => 0))), (q4, .inr (5, [.null, .int 0, .int 0, .int 0, .int 0, .int 0, .long 0]))]) rfl ?_
  refine n_dup E di_Shelf_40 rfl ?_
  refine n_initN (wr := [(h0, .inr (4, [.ref q1, .int 0])), (q1, .inl (X.2.2.1.2.2.2.2.2, 8, .inr (.inr (.inr (.inr (va_up (va_up (fun _ => none) (Int32.toNatClampNeg 0) (some q2)) (Int32.toNatClampNeg 1) (some q3))))))), (q2, .inr (5, [.ref (u1 0), .int 0, .int 0, .int 0, .int 0, .int 0, .long 0])), ((u1 0), .inl (X.2.2.1.2.2.1, 7, .inl (fun _ => 0))), (q3, .inr (5, [.ref (u2 0), .int 0, .int 0, .int 0, .int 0, .int 0, .long 0])), ((u2 0), .inl (X.2.2.1.2.2.1, 7, .inl (fun _ => 0)))]) (As := []) E hA md_Standing_init rfl (c_Standing_init q4 ) hNb (hNx hN) (hN.1 ("BellSchool$Shelf", 25, "BellSchool$Standing") (by decide)) di_Shelf_41 rfl ⟨Nat.le_of_ble_eq_true rfl, Nat.le_of_ble_eq_true rfl⟩ (Nat.le_of_ble_eq_true rfl) ⟨Nat.le_of_ble_eq_true rfl, Nat.le_of_ble_eq_true rfl⟩ [6] [0, 1, 2, 3, 4, 5] rfl rfl rfl rfl (by decide) rfl (fun u3 w1 e1 => ?_)
  subst e1
  refine n_world (ws' := [(h0, .inr (4, [.ref q1, .int 0])), (q1, .inl (X.2.2.1.2.2.2.2.2, 8, .inr (.inr (.inr (.inr (va_up (va_up (fun _ => none) (Int32.toNatClampNeg 0) (some q2)) (Int32.toNatClampNeg 1) (some q3))))))), (q2, .inr (5, [.ref (u1 0), .int 0, .int 0, .int 0, .int 0, .int 0, .long 0])), ((u1 0), .inl (X.2.2.1.2.2.1, 7, .inl (fun _ => 0))), (q3, .inr (5, [.ref (u2 0), .int 0, .int 0, .int 0, .int 0, .int 0, .long 0])), ((u2 0), .inl (X.2.2.1.2.2.1, 7, .inl (fun _ => 0))), (q4, .inr (5, [.ref (u3 0), .int 0, .int 0, .int 0, .int 0, .int 0, .long 0])), ((u3 0), .inl (X.2.2.1.2.2.1, 7, .inl (fun _ => 0)))]) rfl ?_
  refine n_aastS E 1 6 rfl rfl (by unfold vp_in; decide) di_Shelf_44 [(h0, .inr (4, [.ref q1, .int 0])), (q1, .inl (X.2.2.1.2.2.2.2.2, 8, .inr (.inr (.inr (.inr (va_up (va_up (va_up (fun _ => none) (Int32.toNatClampNeg 0) (some q2)) (Int32.toNatClampNeg 1) (some q3)) (Int32.toNatClampNeg 2) (some q4))))))), (q2, .inr (5, [.ref (u1 0), .int 0, .int 0, .int 0, .int 0, .int 0, .long 0])), ((u1 0), .inl (X.2.2.1.2.2.1, 7, .inl (fun _ => 0))), (q3, .inr (5, [.ref (u2 0), .int 0, .int 0, .int 0, .int 0, .int 0, .long 0])), ((u2 0), .inl (X.2.2.1.2.2.1, 7, .inl (fun _ => 0))), (q4, .inr (5, [.ref (u3 0), .int 0, .int 0, .int 0, .int 0, .int 0, .long 0])), ((u3 0), .inl (X.2.2.1.2.2.1, 7, .inl (fun _ => 0)))] rfl ?_
  refine n_iinc (y := 3) (L' := [(2, .int 3), (0, .ref h0), (1, .int 8)]) E di_Shelf_45 0 rfl (by decide) (by decide) rfl ?_
  refine n_goto E 23 di_Shelf_48 (by decide) ?_
  refine n_iloadn E di_Shelf_23 rfl 0 rfl ?_
  refine n_aloadn E di_Shelf_24 rfl 1 rfl ?_
  refine n_get E cf4 0 rfl 0 (by decide) rfl nw57 rfl di_Shelf_25 ?_
  refine n_alenS (v := 8) E 1 rfl (by decide) di_Shelf_28 ?_
  refine n_icmp_ge E 51 di_Shelf_29 (by decide) (fun c => absurd c (by decide)) (fun _ => ?_)
  refine n_aloadn E di_Shelf_32 rfl 1 rfl ?_
  refine n_get E cf4 0 rfl 0 (by decide) rfl nw57 rfl di_Shelf_33 ?_
  refine n_iloadn E di_Shelf_36 rfl 0 rfl ?_
  refine n_new E hA cf5 nw56 nw58 nw49 [.null, .int 0, .int 0, .int 0, .int 0, .int 0, .long 0] df5 (Nat.le_of_ble_eq_true rfl) (Nat.le_of_ble_eq_true rfl) di_Shelf_37 (fun q5 => ?_)
  refine n_world (ws' := [(h0, .inr (4, [.ref q1, .int 0])), (q1, .inl (X.2.2.1.2.2.2.2.2, 8, .inr (.inr (.inr (.inr (va_up (va_up (va_up (fun _ => none) (Int32.toNatClampNeg 0) (some q2)) (Int32.toNatClampNeg 1) (some q3)) (Int32.toNatClampNeg 2) (some q4))))))), (q2, .inr (5, [.ref (u1 0), .int 0, .int 0, .int 0, .int 0, .int 0, .long 0])), ((u1 0), .inl (X.2.2.1.2.2.1, 7, .inl (fun _ => 0))), (q3, .inr (5, [.ref (u2 0), .int 0, .int 0, .int 0, .int 0, .int 0, .long 0])), ((u2 0), .inl (X.2.2.1.2.2.1, 7, .inl (fun _ => 0))), (q4, .inr (5, [.ref (u3 0), .int 0, .int 0, .int 0, .int 0, .int 0, .long 0])), ((u3 0), .inl (X.2.2.1.2.2.1, 7, .inl (fun _ => 0))), (q5, .inr (5, [.null, .int 0, .int 0, .int 0, .int 0, .int 0, .long 0]))]) rfl ?_
  refine n_dup E di_Shelf_40 rfl ?_
  refine n_initN (wr := [(h0, .inr (4, [.ref q1, .int 0])), (q1, .inl (X.2.2.1.2.2.2.2.2, 8, .inr (.inr (.inr (.inr (va_up (va_up (va_up (fun _ => none) (Int32.toNatClampNeg 0) (some q2)) (Int32.toNatClampNeg 1) (some q3)) (Int32.toNatClampNeg 2) (some q4))))))), (q2, .inr (5, [.ref (u1 0), .int 0, .int 0, .int 0, .int 0, .int 0, .long 0])), ((u1 0), .inl (X.2.2.1.2.2.1, 7, .inl (fun _ => 0))), (q3, .inr (5, [.ref (u2 0), .int 0, .int 0, .int 0, .int 0, .int 0, .long 0])), ((u2 0), .inl (X.2.2.1.2.2.1, 7, .inl (fun _ => 0))), (q4, .inr (5, [.ref (u3 0), .int 0, .int 0, .int 0, .int 0, .int 0, .long 0])), ((u3 0), .inl (X.2.2.1.2.2.1, 7, .inl (fun _ => 0)))]) (As := []) E hA md_Standing_init rfl (c_Standing_init q5 ) hNb (hNx hN) (hN.1 ("BellSchool$Shelf", 25, "BellSchool$Standing") (by decide)) di_Shelf_41 rfl ⟨Nat.le_of_ble_eq_true rfl, Nat.le_of_ble_eq_true rfl⟩ (Nat.le_of_ble_eq_true rfl) ⟨Nat.le_of_ble_eq_true rfl, Nat.le_of_ble_eq_true rfl⟩ [8] [0, 1, 2, 3, 4, 5, 6, 7] rfl rfl rfl rfl (by decide) rfl (fun u4 w1 e1 => ?_)
  subst e1
  refine n_world (ws' := [(h0, .inr (4, [.ref q1, .int 0])), (q1, .inl (X.2.2.1.2.2.2.2.2, 8, .inr (.inr (.inr (.inr (va_up (va_up (va_up (fun _ => none) (Int32.toNatClampNeg 0) (some q2)) (Int32.toNatClampNeg 1) (some q3)) (Int32.toNatClampNeg 2) (some q4))))))), (q2, .inr (5, [.ref (u1 0), .int 0, .int 0, .int 0, .int 0, .int 0, .long 0])), ((u1 0), .inl (X.2.2.1.2.2.1, 7, .inl (fun _ => 0))), (q3, .inr (5, [.ref (u2 0), .int 0, .int 0, .int 0, .int 0, .int 0, .long 0])), ((u2 0), .inl (X.2.2.1.2.2.1, 7, .inl (fun _ => 0))), (q4, .inr (5, [.ref (u3 0), .int 0, .int 0, .int 0, .int 0, .int 0, .long 0])), ((u3 0), .inl (X.2.2.1.2.2.1, 7, .inl (fun _ => 0))), (q5, .inr (5, [.ref (u4 0), .int 0, .int 0, .int 0, .int 0, .int 0, .long 0])), ((u4 0), .inl (X.2.2.1.2.2.1, 7, .inl (fun _ => 0)))]) rfl ?_
  refine n_aastS E 1 8 rfl rfl (by unfold vp_in; decide) di_Shelf_44 [(h0, .inr (4, [.ref q1, .int 0])), (q1, .inl (X.2.2.1.2.2.2.2.2, 8, .inr (.inr (.inr (.inr (va_up (va_up (va_up (va_up (fun _ => none) (Int32.toNatClampNeg 0) (some q2)) (Int32.toNatClampNeg 1) (some q3)) (Int32.toNatClampNeg 2) (some q4)) (Int32.toNatClampNeg 3) (some q5))))))), (q2, .inr (5, [.ref (u1 0), .int 0, .int 0, .int 0, .int 0, .int 0, .long 0])), ((u1 0), .inl (X.2.2.1.2.2.1, 7, .inl (fun _ => 0))), (q3, .inr (5, [.ref (u2 0), .int 0, .int 0, .int 0, .int 0, .int 0, .long 0])), ((u2 0), .inl (X.2.2.1.2.2.1, 7, .inl (fun _ => 0))), (q4, .inr (5, [.ref (u3 0), .int 0, .int 0, .int 0, .int 0, .int 0, .long 0])), ((u3 0), .inl (X.2.2.1.2.2.1, 7, .inl (fun _ => 0))), (q5, .inr (5, [.ref (u4 0), .int 0, .int 0, .int 0, .int 0, .int 0, .long 0])), ((u4 0), .inl (X.2.2.1.2.2.1, 7, .inl (fun _ => 0)))] rfl ?_
  refine n_iinc (y := 4) (L' := [(2, .int 4), (0, .ref h0), (1, .int 8)]) E di_Shelf_45 0 rfl (by decide) (by decide) rfl ?_
  refine n_goto E 23 di_Shelf_48 (by decide) ?_
  refine n_iloadn E di_Shelf_23 rfl 0 rfl ?_
  refine n_aloadn E di_Shelf_24 rfl 1 rfl ?_
  refine n_get E cf4 0 rfl 0 (by decide) rfl nw57 rfl di_Shelf_25 ?_
  refine n_alenS (v := 8) E 1 rfl (by decide) di_Shelf_28 ?_
  refine n_icmp_ge E 51 di_Shelf_29 (by decide) (fun c => absurd c (by decide)) (fun _ => ?_)
  refine n_aloadn E di_Shelf_32 rfl 1 rfl ?_
  refine n_get E cf4 0 rfl 0 (by decide) rfl nw57 rfl di_Shelf_33 ?_
  refine n_iloadn E di_Shelf_36 rfl 0 rfl ?_
  refine n_new E hA cf5 nw56 nw58 nw49 [.null, .int 0, .int 0, .int 0, .int 0, .int 0, .long 0] df5 (Nat.le_of_ble_eq_true rfl) (Nat.le_of_ble_eq_true rfl) di_Shelf_37 (fun q6 => ?_)
  refine n_world (ws' := [(h0, .inr (4, [.ref q1, .int 0])), (q1, .inl (X.2.2.1.2.2.2.2.2, 8, .inr (.inr (.inr (.inr (va_up (va_up (va_up (va_up (fun _ => none) (Int32.toNatClampNeg 0) (some q2)) (Int32.toNatClampNeg 1) (some q3)) (Int32.toNatClampNeg 2) (some q4)) (Int32.toNatClampNeg 3) (some q5))))))), (q2, .inr (5, [.ref (u1 0), .int 0, .int 0, .int 0, .int 0, .int 0, .long 0])), ((u1 0), .inl (X.2.2.1.2.2.1, 7, .inl (fun _ => 0))), (q3, .inr (5, [.ref (u2 0), .int 0, .int 0, .int 0, .int 0, .int 0, .long 0])), ((u2 0), .inl (X.2.2.1.2.2.1, 7, .inl (fun _ => 0))), (q4, .inr (5, [.ref (u3 0), .int 0, .int 0, .int 0, .int 0, .int 0, .long 0])), ((u3 0), .inl (X.2.2.1.2.2.1, 7, .inl (fun _ => 0))), (q5, .inr (5, [.ref (u4 0), .int 0, .int 0, .int 0, .int 0, .int 0, .long 0])), ((u4 0), .inl (X.2.2.1.2.2.1, 7, .inl (fun _ => 0))), (q6, .inr (5, [.null, .int 0, .int 0, .int 0, .int 0, .int 0, .long 0]))]) rfl ?_
  refine n_dup E di_Shelf_40 rfl ?_
  refine n_initN (wr := [(h0, .inr (4, [.ref q1, .int 0])), (q1, .inl (X.2.2.1.2.2.2.2.2, 8, .inr (.inr (.inr (.inr (va_up (va_up (va_up (va_up (fun _ => none) (Int32.toNatClampNeg 0) (some q2)) (Int32.toNatClampNeg 1) (some q3)) (Int32.toNatClampNeg 2) (some q4)) (Int32.toNatClampNeg 3) (some q5))))))), (q2, .inr (5, [.ref (u1 0), .int 0, .int 0, .int 0, .int 0, .int 0, .long 0])), ((u1 0), .inl (X.2.2.1.2.2.1, 7, .inl (fun _ => 0))), (q3, .inr (5, [.ref (u2 0), .int 0, .int 0, .int 0, .int 0, .int 0, .long 0])), ((u2 0), .inl (X.2.2.1.2.2.1, 7, .inl (fun _ => 0))), (q4, .inr (5, [.ref (u3 0), .int 0, .int 0, .int 0, .int 0, .int 0, .long 0])), ((u3 0), .inl (X.2.2.1.2.2.1, 7, .inl (fun _ => 0))), (q5, .inr (5, [.ref (u4 0), .int 0, .int 0, .int 0, .int 0, .int 0, .long 0])), ((u4 0), .inl (X.2.2.1.2.2.1, 7, .inl (fun _ => 0)))]) (As := []) E hA md_Standing_init rfl (c_Standing_init q6 ) hNb (hNx hN) (hN.1 ("BellSchool$Shelf", 25, "BellSchool$Standing") (by decide)) di_Shelf_41 rfl ⟨Nat.le_of_ble_eq_true rfl, Nat.le_of_ble_eq_true rfl⟩ (Nat.le_of_ble_eq_true rfl) ⟨Nat.le_of_ble_eq_true rfl, Nat.le_of_ble_eq_true rfl⟩ [10] [0, 1, 2, 3, 4, 5, 6, 7, 8, 9] rfl rfl rfl rfl (by decide) rfl (fun u5 w1 e1 => ?_)
  subst e1
  refine n_world (ws' := [(h0, .inr (4, [.ref q1, .int 0])), (q1, .inl (X.2.2.1.2.2.2.2.2, 8, .inr (.inr (.inr (.inr (va_up (va_up (va_up (va_up (fun _ => none) (Int32.toNatClampNeg 0) (some q2)) (Int32.toNatClampNeg 1) (some q3)) (Int32.toNatClampNeg 2) (some q4)) (Int32.toNatClampNeg 3) (some q5))))))), (q2, .inr (5, [.ref (u1 0), .int 0, .int 0, .int 0, .int 0, .int 0, .long 0])), ((u1 0), .inl (X.2.2.1.2.2.1, 7, .inl (fun _ => 0))), (q3, .inr (5, [.ref (u2 0), .int 0, .int 0, .int 0, .int 0, .int 0, .long 0])), ((u2 0), .inl (X.2.2.1.2.2.1, 7, .inl (fun _ => 0))), (q4, .inr (5, [.ref (u3 0), .int 0, .int 0, .int 0, .int 0, .int 0, .long 0])), ((u3 0), .inl (X.2.2.1.2.2.1, 7, .inl (fun _ => 0))), (q5, .inr (5, [.ref (u4 0), .int 0, .int 0, .int 0, .int 0, .int 0, .long 0])), ((u4 0), .inl (X.2.2.1.2.2.1, 7, .inl (fun _ => 0))), (q6, .inr (5, [.ref (u5 0), .int 0, .int 0, .int 0, .int 0, .int 0, .long 0])), ((u5 0), .inl (X.2.2.1.2.2.1, 7, .inl (fun _ => 0)))]) rfl ?_
  refine n_aastS E 1 10 rfl rfl (by unfold vp_in; decide) di_Shelf_44 [(h0, .inr (4, [.ref q1, .int 0])), (q1, .inl (X.2.2.1.2.2.2.2.2, 8, .inr (.inr (.inr (.inr (va_up (va_up (va_up (va_up (va_up (fun _ => none) (Int32.toNatClampNeg 0) (some q2)) (Int32.toNatClampNeg 1) (some q3)) (Int32.toNatClampNeg 2) (some q4)) (Int32.toNatClampNeg 3) (some q5)) (Int32.toNatClampNeg 4) (some q6))))))), (q2, .inr (5, [.ref (u1 0), .int 0, .int 0, .int 0, .int 0, .int 0, .long 0])), ((u1 0), .inl (X.2.2.1.2.2.1, 7, .inl (fun _ => 0))), (q3, .inr (5, [.ref (u2 0), .int 0, .int 0, .int 0, .int 0, .int 0, .long 0])), ((u2 0), .inl (X.2.2.1.2.2.1, 7, .inl (fun _ => 0))), (q4, .inr (5, [.ref (u3 0), .int 0, .int 0, .int 0, .int 0, .int 0, .long 0])), ((u3 0), .inl (X.2.2.1.2.2.1, 7, .inl (fun _ => 0))), (q5, .inr (5, [.ref (u4 0), .int 0, .int 0, .int 0, .int 0, .int 0, .long 0])), ((u4 0), .inl (X.2.2.1.2.2.1, 7, .inl (fun _ => 0))), (q6, .inr (5, [.ref (u5 0), .int 0, .int 0, .int 0, .int 0, .int 0, .long 0])), ((u5 0), .inl (X.2.2.1.2.2.1, 7, .inl (fun _ => 0)))] rfl ?_
  refine n_iinc (y := 5) (L' := [(2, .int 5), (0, .ref h0), (1, .int 8)]) E di_Shelf_45 0 rfl (by decide) (by decide) rfl ?_
  refine n_goto E 23 di_Shelf_48 (by decide) ?_
  refine n_iloadn E di_Shelf_23 rfl 0 rfl ?_
  refine n_aloadn E di_Shelf_24 rfl 1 rfl ?_
  refine n_get E cf4 0 rfl 0 (by decide) rfl nw57 rfl di_Shelf_25 ?_
  refine n_alenS (v := 8) E 1 rfl (by decide) di_Shelf_28 ?_
  refine n_icmp_ge E 51 di_Shelf_29 (by decide) (fun c => absurd c (by decide)) (fun _ => ?_)
  refine n_aloadn E di_Shelf_32 rfl 1 rfl ?_
  refine n_get E cf4 0 rfl 0 (by decide) rfl nw57 rfl di_Shelf_33 ?_
  refine n_iloadn E di_Shelf_36 rfl 0 rfl ?_
  refine n_new E hA cf5 nw56 nw58 nw49 [.null, .int 0, .int 0, .int 0, .int 0, .int 0, .long 0] df5 (Nat.le_of_ble_eq_true rfl) (Nat.le_of_ble_eq_true rfl) di_Shelf_37 (fun q7 => ?_)
  refine n_world (ws' := [(h0, .inr (4, [.ref q1, .int 0])), (q1, .inl (X.2.2.1.2.2.2.2.2, 8, .inr (.inr (.inr (.inr (va_up (va_up (va_up (va_up (va_up (fun _ => none) (Int32.toNatClampNeg 0) (some q2)) (Int32.toNatClampNeg 1) (some q3)) (Int32.toNatClampNeg 2) (some q4)) (Int32.toNatClampNeg 3) (some q5)) (Int32.toNatClampNeg 4) (some q6))))))), (q2, .inr (5, [.ref (u1 0), .int 0, .int 0, .int 0, .int 0, .int 0, .long 0])), ((u1 0), .inl (X.2.2.1.2.2.1, 7, .inl (fun _ => 0))), (q3, .inr (5, [.ref (u2 0), .int 0, .int 0, .int 0, .int 0, .int 0, .long 0])), ((u2 0), .inl (X.2.2.1.2.2.1, 7, .inl (fun _ => 0))), (q4, .inr (5, [.ref (u3 0), .int 0, .int 0, .int 0, .int 0, .int 0, .long 0])), ((u3 0), .inl (X.2.2.1.2.2.1, 7, .inl (fun _ => 0))), (q5, .inr (5, [.ref (u4 0), .int 0, .int 0, .int 0, .int 0, .int 0, .long 0])), ((u4 0), .inl (X.2.2.1.2.2.1, 7, .inl (fun _ => 0))), (q6, .inr (5, [.ref (u5 0), .int 0, .int 0, .int 0, .int 0, .int 0, .long 0])), ((u5 0), .inl (X.2.2.1.2.2.1, 7, .inl (fun _ => 0))), (q7, .inr (5, [.null, .int 0, .int 0, .int 0, .int 0, .int 0, .long 0]))]) rfl ?_
  refine n_dup E di_Shelf_40 rfl ?_
  refine n_initN (wr := [(h0, .inr (4, [.ref q1, .int 0])), (q1, .inl (X.2.2.1.2.2.2.2.2, 8, .inr (.inr (.inr (.inr (va_up (va_up (va_up (va_up (va_up (fun _ => none) (Int32.toNatClampNeg 0) (some q2)) (Int32.toNatClampNeg 1) (some q3)) (Int32.toNatClampNeg 2) (some q4)) (Int32.toNatClampNeg 3) (some q5)) (Int32.toNatClampNeg 4) (some q6))))))), (q2, .inr (5, [.ref (u1 0), .int 0, .int 0, .int 0, .int 0, .int 0, .long 0])), ((u1 0), .inl (X.2.2.1.2.2.1, 7, .inl (fun _ => 0))), (q3, .inr (5, [.ref (u2 0), .int 0, .int 0, .int 0, .int 0, .int 0, .long 0])), ((u2 0), .inl (X.2.2.1.2.2.1, 7, .inl (fun _ => 0))), (q4, .inr (5, [.ref (u3 0), .int 0, .int 0, .int 0, .int 0, .int 0, .long 0])), ((u3 0), .inl (X.2.2.1.2.2.1, 7, .inl (fun _ => 0))), (q5, .inr (5, [.ref (u4 0), .int 0, .int 0, .int 0, .int 0, .int 0, .long 0])), ((u4 0), .inl (X.2.2.1.2.2.1, 7, .inl (fun _ => 0))), (q6, .inr (5, [.ref (u5 0), .int 0, .int 0, .int 0, .int 0, .int 0, .long 0])), ((u5 0), .inl (X.2.2.1.2.2.1, 7, .inl (fun _ => 0)))]) (As := []) E hA md_Standing_init rfl (c_Standing_init q7 ) hNb (hNx hN) (hN.1 ("BellSchool$Shelf", 25, "BellSchool$Standing") (by decide)) di_Shelf_41 rfl ⟨Nat.le_of_ble_eq_true rfl, Nat.le_of_ble_eq_true rfl⟩ (Nat.le_of_ble_eq_true rfl) ⟨Nat.le_of_ble_eq_true rfl, Nat.le_of_ble_eq_true rfl⟩ [12] [0, 1, 2, 3, 4, 5, 6, 7, 8, 9, 10, 11] rfl rfl rfl rfl (by decide) rfl (fun u6 w1 e1 => ?_)
  subst e1
  refine n_world (ws' := [(h0, .inr (4, [.ref q1, .int 0])), (q1, .inl (X.2.2.1.2.2.2.2.2, 8, .inr (.inr (.inr (.inr (va_up (va_up (va_up (va_up (va_up (fun _ => none) (Int32.toNatClampNeg 0) (some q2)) (Int32.toNatClampNeg 1) (some q3)) (Int32.toNatClampNeg 2) (some q4)) (Int32.toNatClampNeg 3) (some q5)) (Int32.toNatClampNeg 4) (some q6))))))), (q2, .inr (5, [.ref (u1 0), .int 0, .int 0, .int 0, .int 0, .int 0, .long 0])), ((u1 0), .inl (X.2.2.1.2.2.1, 7, .inl (fun _ => 0))), (q3, .inr (5, [.ref (u2 0), .int 0, .int 0, .int 0, .int 0, .int 0, .long 0])), ((u2 0), .inl (X.2.2.1.2.2.1, 7, .inl (fun _ => 0))), (q4, .inr (5, [.ref (u3 0), .int 0, .int 0, .int 0, .int 0, .int 0, .long 0])), ((u3 0), .inl (X.2.2.1.2.2.1, 7, .inl (fun _ => 0))), (q5, .inr (5, [.ref (u4 0), .int 0, .int 0, .int 0, .int 0, .int 0, .long 0])), ((u4 0), .inl (X.2.2.1.2.2.1, 7, .inl (fun _ => 0))), (q6, .inr (5, [.ref (u5 0), .int 0, .int 0, .int 0, .int 0, .int 0, .long 0])), ((u5 0), .inl (X.2.2.1.2.2.1, 7, .inl (fun _ => 0))), (q7, .inr (5, [.ref (u6 0), .int 0, .int 0, .int 0, .int 0, .int 0, .long 0])), ((u6 0), .inl (X.2.2.1.2.2.1, 7, .inl (fun _ => 0)))]) rfl ?_
  refine n_aastS E 1 12 rfl rfl (by unfold vp_in; decide) di_Shelf_44 [(h0, .inr (4, [.ref q1, .int 0])), (q1, .inl (X.2.2.1.2.2.2.2.2, 8, .inr (.inr (.inr (.inr (va_up (va_up (va_up (va_up (va_up (va_up (fun _ => none) (Int32.toNatClampNeg 0) (some q2)) (Int32.toNatClampNeg 1) (some q3)) (Int32.toNatClampNeg 2) (some q4)) (Int32.toNatClampNeg 3) (some q5)) (Int32.toNatClampNeg 4) (some q6)) (Int32.toNatClampNeg 5) (some q7))))))), (q2, .inr (5, [.ref (u1 0), .int 0, .int 0, .int 0, .int 0, .int 0, .long 0])), ((u1 0), .inl (X.2.2.1.2.2.1, 7, .inl (fun _ => 0))), (q3, .inr (5, [.ref (u2 0), .int 0, .int 0, .int 0, .int 0, .int 0, .long 0])), ((u2 0), .inl (X.2.2.1.2.2.1, 7, .inl (fun _ => 0))), (q4, .inr (5, [.ref (u3 0), .int 0, .int 0, .int 0, .int 0, .int 0, .long 0])), ((u3 0), .inl (X.2.2.1.2.2.1, 7, .inl (fun _ => 0))), (q5, .inr (5, [.ref (u4 0), .int 0, .int 0, .int 0, .int 0, .int 0, .long 0])), ((u4 0), .inl (X.2.2.1.2.2.1, 7, .inl (fun _ => 0))), (q6, .inr (5, [.ref (u5 0), .int 0, .int 0, .int 0, .int 0, .int 0, .long 0])), ((u5 0), .inl (X.2.2.1.2.2.1, 7, .inl (fun _ => 0))), (q7, .inr (5, [.ref (u6 0), .int 0, .int 0, .int 0, .int 0, .int 0, .long 0])), ((u6 0), .inl (X.2.2.1.2.2.1, 7, .inl (fun _ => 0)))] rfl ?_
  refine n_iinc (y := 6) (L' := [(2, .int 6), (0, .ref h0), (1, .int 8)]) E di_Shelf_45 0 rfl (by decide) (by decide) rfl ?_
  refine n_goto E 23 di_Shelf_48 (by decide) ?_
  refine n_iloadn E di_Shelf_23 rfl 0 rfl ?_
  refine n_aloadn E di_Shelf_24 rfl 1 rfl ?_
  refine n_get E cf4 0 rfl 0 (by decide) rfl nw57 rfl di_Shelf_25 ?_
  refine n_alenS (v := 8) E 1 rfl (by decide) di_Shelf_28 ?_
  refine n_icmp_ge E 51 di_Shelf_29 (by decide) (fun c => absurd c (by decide)) (fun _ => ?_)
  refine n_aloadn E di_Shelf_32 rfl 1 rfl ?_
  refine n_get E cf4 0 rfl 0 (by decide) rfl nw57 rfl di_Shelf_33 ?_
  refine n_iloadn E di_Shelf_36 rfl 0 rfl ?_
  refine n_new E hA cf5 nw56 nw58 nw49 [.null, .int 0, .int 0, .int 0, .int 0, .int 0, .long 0] df5 (Nat.le_of_ble_eq_true rfl) (Nat.le_of_ble_eq_true rfl) di_Shelf_37 (fun q8 => ?_)
  refine n_world (ws' := [(h0, .inr (4, [.ref q1, .int 0])), (q1, .inl (X.2.2.1.2.2.2.2.2, 8, .inr (.inr (.inr (.inr (va_up (va_up (va_up (va_up (va_up (va_up (fun _ => none) (Int32.toNatClampNeg 0) (some q2)) (Int32.toNatClampNeg 1) (some q3)) (Int32.toNatClampNeg 2) (some q4)) (Int32.toNatClampNeg 3) (some q5)) (Int32.toNatClampNeg 4) (some q6)) (Int32.toNatClampNeg 5) (some q7))))))), (q2, .inr (5, [.ref (u1 0), .int 0, .int 0, .int 0, .int 0, .int 0, .long 0])), ((u1 0), .inl (X.2.2.1.2.2.1, 7, .inl (fun _ => 0))), (q3, .inr (5, [.ref (u2 0), .int 0, .int 0, .int 0, .int 0, .int 0, .long 0])), ((u2 0), .inl (X.2.2.1.2.2.1, 7, .inl (fun _ => 0))), (q4, .inr (5, [.ref (u3 0), .int 0, .int 0, .int 0, .int 0, .int 0, .long 0])), ((u3 0), .inl (X.2.2.1.2.2.1, 7, .inl (fun _ => 0))), (q5, .inr (5, [.ref (u4 0), .int 0, .int 0, .int 0, .int 0, .int 0, .long 0])), ((u4 0), .inl (X.2.2.1.2.2.1, 7, .inl (fun _ => 0))), (q6, .inr (5, [.ref (u5 0), .int 0, .int 0, .int 0, .int 0, .int 0, .long 0])), ((u5 0), .inl (X.2.2.1.2.2.1, 7, .inl (fun _ => 0))), (q7, .inr (5, [.ref (u6 0), .int 0, .int 0, .int 0, .int 0, .int 0, .long 0])), ((u6 0), .inl (X.2.2.1.2.2.1, 7, .inl (fun _ => 0))), (q8, .inr (5, [.null, .int 0, .int 0, .int 0, .int 0, .int 0, .long 0]))]) rfl ?_
  refine n_dup E di_Shelf_40 rfl ?_
  refine n_initN (wr := [(h0, .inr (4, [.ref q1, .int 0])), (q1, .inl (X.2.2.1.2.2.2.2.2, 8, .inr (.inr (.inr (.inr (va_up (va_up (va_up (va_up (va_up (va_up (fun _ => none) (Int32.toNatClampNeg 0) (some q2)) (Int32.toNatClampNeg 1) (some q3)) (Int32.toNatClampNeg 2) (some q4)) (Int32.toNatClampNeg 3) (some q5)) (Int32.toNatClampNeg 4) (some q6)) (Int32.toNatClampNeg 5) (some q7))))))), (q2, .inr (5, [.ref (u1 0), .int 0, .int 0, .int 0, .int 0, .int 0, .long 0])), ((u1 0), .inl (X.2.2.1.2.2.1, 7, .inl (fun _ => 0))), (q3, .inr (5, [.ref (u2 0), .int 0, .int 0, .int 0, .int 0, .int 0, .long 0])), ((u2 0), .inl (X.2.2.1.2.2.1, 7, .inl (fun _ => 0))), (q4, .inr (5, [.ref (u3 0), .int 0, .int 0, .int 0, .int 0, .int 0, .long 0])), ((u3 0), .inl (X.2.2.1.2.2.1, 7, .inl (fun _ => 0))), (q5, .inr (5, [.ref (u4 0), .int 0, .int 0, .int 0, .int 0, .int 0, .long 0])), ((u4 0), .inl (X.2.2.1.2.2.1, 7, .inl (fun _ => 0))), (q6, .inr (5, [.ref (u5 0), .int 0, .int 0, .int 0, .int 0, .int 0, .long 0])), ((u5 0), .inl (X.2.2.1.2.2.1, 7, .inl (fun _ => 0))), (q7, .inr (5, [.ref (u6 0), .int 0, .int 0, .int 0, .int 0, .int 0, .long 0])), ((u6 0), .inl (X.2.2.1.2.2.1, 7, .inl (fun _ => 0)))]) (As := []) E hA md_Standing_init rfl (c_Standing_init q8 ) hNb (hNx hN) (hN.1 ("BellSchool$Shelf", 25, "BellSchool$Standing") (by decide)) di_Shelf_41 rfl ⟨Nat.le_of_ble_eq_true rfl, Nat.le_of_ble_eq_true rfl⟩ (Nat.le_of_ble_eq_true rfl) ⟨Nat.le_of_ble_eq_true rfl, Nat.le_of_ble_eq_true rfl⟩ [14] [0, 1, 2, 3, 4, 5, 6, 7, 8, 9, 10, 11, 12, 13] rfl rfl rfl rfl (by decide) rfl (fun u7 w1 e1 => ?_)
  subst e1
  refine n_world (ws' := [(h0, .inr (4, [.ref q1, .int 0])), (q1, .inl (X.2.2.1.2.2.2.2.2, 8, .inr (.inr (.inr (.inr (va_up (va_up (va_up (va_up (va_up (va_up (fun _ => none) (Int32.toNatClampNeg 0) (some q2)) (Int32.toNatClampNeg 1) (some q3)) (Int32.toNatClampNeg 2) (some q4)) (Int32.toNatClampNeg 3) (some q5)) (Int32.toNatClampNeg 4) (some q6)) (Int32.toNatClampNeg 5) (some q7))))))), (q2, .inr (5, [.ref (u1 0), .int 0, .int 0, .int 0, .int 0, .int 0, .long 0])), ((u1 0), .inl (X.2.2.1.2.2.1, 7, .inl (fun _ => 0))), (q3, .inr (5, [.ref (u2 0), .int 0, .int 0, .int 0, .int 0, .int 0, .long 0])), ((u2 0), .inl (X.2.2.1.2.2.1, 7, .inl (fun _ => 0))), (q4, .inr (5, [.ref (u3 0), .int 0, .int 0, .int 0, .int 0, .int 0, .long 0])), ((u3 0), .inl (X.2.2.1.2.2.1, 7, .inl (fun _ => 0))), (q5, .inr (5, [.ref (u4 0), .int 0, .int 0, .int 0, .int 0, .int 0, .long 0])), ((u4 0), .inl (X.2.2.1.2.2.1, 7, .inl (fun _ => 0))), (q6, .inr (5, [.ref (u5 0), .int 0, .int 0, .int 0, .int 0, .int 0, .long 0])), ((u5 0), .inl (X.2.2.1.2.2.1, 7, .inl (fun _ => 0))), (q7, .inr (5, [.ref (u6 0), .int 0, .int 0, .int 0, .int 0, .int 0, .long 0])), ((u6 0), .inl (X.2.2.1.2.2.1, 7, .inl (fun _ => 0))), (q8, .inr (5, [.ref (u7 0), .int 0, .int 0, .int 0, .int 0, .int 0, .long 0])), ((u7 0), .inl (X.2.2.1.2.2.1, 7, .inl (fun _ => 0)))]) rfl ?_
  refine n_aastS E 1 14 rfl rfl (by unfold vp_in; decide) di_Shelf_44 [(h0, .inr (4, [.ref q1, .int 0])), (q1, .inl (X.2.2.1.2.2.2.2.2, 8, .inr (.inr (.inr (.inr (va_up (va_up (va_up (va_up (va_up (va_up (va_up (fun _ => none) (Int32.toNatClampNeg 0) (some q2)) (Int32.toNatClampNeg 1) (some q3)) (Int32.toNatClampNeg 2) (some q4)) (Int32.toNatClampNeg 3) (some q5)) (Int32.toNatClampNeg 4) (some q6)) (Int32.toNatClampNeg 5) (some q7)) (Int32.toNatClampNeg 6) (some q8))))))), (q2, .inr (5, [.ref (u1 0), .int 0, .int 0, .int 0, .int 0, .int 0, .long 0])), ((u1 0), .inl (X.2.2.1.2.2.1, 7, .inl (fun _ => 0))), (q3, .inr (5, [.ref (u2 0), .int 0, .int 0, .int 0, .int 0, .int 0, .long 0])), ((u2 0), .inl (X.2.2.1.2.2.1, 7, .inl (fun _ => 0))), (q4, .inr (5, [.ref (u3 0), .int 0, .int 0, .int 0, .int 0, .int 0, .long 0])), ((u3 0), .inl (X.2.2.1.2.2.1, 7, .inl (fun _ => 0))), (q5, .inr (5, [.ref (u4 0), .int 0, .int 0, .int 0, .int 0, .int 0, .long 0])), ((u4 0), .inl (X.2.2.1.2.2.1, 7, .inl (fun _ => 0))), (q6, .inr (5, [.ref (u5 0), .int 0, .int 0, .int 0, .int 0, .int 0, .long 0])), ((u5 0), .inl (X.2.2.1.2.2.1, 7, .inl (fun _ => 0))), (q7, .inr (5, [.ref (u6 0), .int 0, .int 0, .int 0, .int 0, .int 0, .long 0])), ((u6 0), .inl (X.2.2.1.2.2.1, 7, .inl (fun _ => 0))), (q8, .inr (5, [.ref (u7 0), .int 0, .int 0, .int 0, .int 0, .int 0, .long 0])), ((u7 0), .inl (X.2.2.1.2.2.1, 7, .inl (fun _ => 0)))] rfl ?_
  refine n_iinc (y := 7) (L' := [(2, .int 7), (0, .ref h0), (1, .int 8)]) E di_Shelf_45 0 rfl (by decide) (by decide) rfl ?_
  refine n_goto E 23 di_Shelf_48 (by decide) ?_
  refine n_iloadn E di_Shelf_23 rfl 0 rfl ?_
  refine n_aloadn E di_Shelf_24 rfl 1 rfl ?_
  refine n_get E cf4 0 rfl 0 (by decide) rfl nw57 rfl di_Shelf_25 ?_
  refine n_alenS (v := 8) E 1 rfl (by decide) di_Shelf_28 ?_
  refine n_icmp_ge E 51 di_Shelf_29 (by decide) (fun c => absurd c (by decide)) (fun _ => ?_)
  refine n_aloadn E di_Shelf_32 rfl 1 rfl ?_
  refine n_get E cf4 0 rfl 0 (by decide) rfl nw57 rfl di_Shelf_33 ?_
  refine n_iloadn E di_Shelf_36 rfl 0 rfl ?_
  refine n_new E hA cf5 nw56 nw58 nw49 [.null, .int 0, .int 0, .int 0, .int 0, .int 0, .long 0] df5 (Nat.le_of_ble_eq_true rfl) (Nat.le_of_ble_eq_true rfl) di_Shelf_37 (fun q9 => ?_)
  refine n_world (ws' := [(h0, .inr (4, [.ref q1, .int 0])), (q1, .inl (X.2.2.1.2.2.2.2.2, 8, .inr (.inr (.inr (.inr (va_up (va_up (va_up (va_up (va_up (va_up (va_up (fun _ => none) (Int32.toNatClampNeg 0) (some q2)) (Int32.toNatClampNeg 1) (some q3)) (Int32.toNatClampNeg 2) (some q4)) (Int32.toNatClampNeg 3) (some q5)) (Int32.toNatClampNeg 4) (some q6)) (Int32.toNatClampNeg 5) (some q7)) (Int32.toNatClampNeg 6) (some q8))))))), (q2, .inr (5, [.ref (u1 0), .int 0, .int 0, .int 0, .int 0, .int 0, .long 0])), ((u1 0), .inl (X.2.2.1.2.2.1, 7, .inl (fun _ => 0))), (q3, .inr (5, [.ref (u2 0), .int 0, .int 0, .int 0, .int 0, .int 0, .long 0])), ((u2 0), .inl (X.2.2.1.2.2.1, 7, .inl (fun _ => 0))), (q4, .inr (5, [.ref (u3 0), .int 0, .int 0, .int 0, .int 0, .int 0, .long 0])), ((u3 0), .inl (X.2.2.1.2.2.1, 7, .inl (fun _ => 0))), (q5, .inr (5, [.ref (u4 0), .int 0, .int 0, .int 0, .int 0, .int 0, .long 0])), ((u4 0), .inl (X.2.2.1.2.2.1, 7, .inl (fun _ => 0))), (q6, .inr (5, [.ref (u5 0), .int 0, .int 0, .int 0, .int 0, .int 0, .long 0])), ((u5 0), .inl (X.2.2.1.2.2.1, 7, .inl (fun _ => 0))), (q7, .inr (5, [.ref (u6 0), .int 0, .int 0, .int 0, .int 0, .int 0, .long 0])), ((u6 0), .inl (X.2.2.1.2.2.1, 7, .inl (fun _ => 0))), (q8, .inr (5, [.ref (u7 0), .int 0, .int 0, .int 0, .int 0, .int 0, .long 0])), ((u7 0), .inl (X.2.2.1.2.2.1, 7, .inl (fun _ => 0))), (q9, .inr (5, [.null, .int 0, .int 0, .int 0, .int 0, .int 0, .long 0]))]) rfl ?_
  refine n_dup E di_Shelf_40 rfl ?_
  refine n_initN (wr := [(h0, .inr (4, [.ref q1, .int 0])), (q1, .inl (X.2.2.1.2.2.2.2.2, 8, .inr (.inr (.inr (.inr (va_up (va_up (va_up (va_up (va_up (va_up (va_up (fun _ => none) (Int32.toNatClampNeg 0) (some q2)) (Int32.toNatClampNeg 1) (some q3)) (Int32.toNatClampNeg 2) (some q4)) (Int32.toNatClampNeg 3) (some q5)) (Int32.toNatClampNeg 4) (some q6)) (Int32.toNatClampNeg 5) (some q7)) (Int32.toNatClampNeg 6) (some q8))))))), (q2, .inr (5, [.ref (u1 0), .int 0, .int 0, .int 0, .int 0, .int 0, .long 0])), ((u1 0), .inl (X.2.2.1.2.2.1, 7, .inl (fun _ => 0))), (q3, .inr (5, [.ref (u2 0), .int 0, .int 0, .int 0, .int 0, .int 0, .long 0])), ((u2 0), .inl (X.2.2.1.2.2.1, 7, .inl (fun _ => 0))), (q4, .inr (5, [.ref (u3 0), .int 0, .int 0, .int 0, .int 0, .int 0, .long 0])), ((u3 0), .inl (X.2.2.1.2.2.1, 7, .inl (fun _ => 0))), (q5, .inr (5, [.ref (u4 0), .int 0, .int 0, .int 0, .int 0, .int 0, .long 0])), ((u4 0), .inl (X.2.2.1.2.2.1, 7, .inl (fun _ => 0))), (q6, .inr (5, [.ref (u5 0), .int 0, .int 0, .int 0, .int 0, .int 0, .long 0])), ((u5 0), .inl (X.2.2.1.2.2.1, 7, .inl (fun _ => 0))), (q7, .inr (5, [.ref (u6 0), .int 0, .int 0, .int 0, .int 0, .int 0, .long 0])), ((u6 0), .inl (X.2.2.1.2.2.1, 7, .inl (fun _ => 0))), (q8, .inr (5, [.ref (u7 0), .int 0, .int 0, .int 0, .int 0, .int 0, .long 0])), ((u7 0), .inl (X.2.2.1.2.2.1, 7, .inl (fun _ => 0)))]) (As := []) E hA md_Standing_init rfl (c_Standing_init q9 ) hNb (hNx hN) (hN.1 ("BellSchool$Shelf", 25, "BellSchool$Standing") (by decide)) di_Shelf_41 rfl ⟨Nat.le_of_ble_eq_true rfl, Nat.le_of_ble_eq_true rfl⟩ (Nat.le_of_ble_eq_true rfl) ⟨Nat.le_of_ble_eq_true rfl, Nat.le_of_ble_eq_true rfl⟩ [16] [0, 1, 2, 3, 4, 5, 6, 7, 8, 9, 10, 11, 12, 13, 14, 15] rfl rfl rfl rfl (by decide) rfl (fun u8 w1 e1 => ?_)
  subst e1
  refine n_world (ws' := [(h0, .inr (4, [.ref q1, .int 0])), (q1, .inl (X.2.2.1.2.2.2.2.2, 8, .inr (.inr (.inr (.inr (va_up (va_up (va_up (va_up (va_up (va_up (va_up (fun _ => none) (Int32.toNatClampNeg 0) (some q2)) (Int32.toNatClampNeg 1) (some q3)) (Int32.toNatClampNeg 2) (some q4)) (Int32.toNatClampNeg 3) (some q5)) (Int32.toNatClampNeg 4) (some q6)) (Int32.toNatClampNeg 5) (some q7)) (Int32.toNatClampNeg 6) (some q8))))))), (q2, .inr (5, [.ref (u1 0), .int 0, .int 0, .int 0, .int 0, .int 0, .long 0])), ((u1 0), .inl (X.2.2.1.2.2.1, 7, .inl (fun _ => 0))), (q3, .inr (5, [.ref (u2 0), .int 0, .int 0, .int 0, .int 0, .int 0, .long 0])), ((u2 0), .inl (X.2.2.1.2.2.1, 7, .inl (fun _ => 0))), (q4, .inr (5, [.ref (u3 0), .int 0, .int 0, .int 0, .int 0, .int 0, .long 0])), ((u3 0), .inl (X.2.2.1.2.2.1, 7, .inl (fun _ => 0))), (q5, .inr (5, [.ref (u4 0), .int 0, .int 0, .int 0, .int 0, .int 0, .long 0])), ((u4 0), .inl (X.2.2.1.2.2.1, 7, .inl (fun _ => 0))), (q6, .inr (5, [.ref (u5 0), .int 0, .int 0, .int 0, .int 0, .int 0, .long 0])), ((u5 0), .inl (X.2.2.1.2.2.1, 7, .inl (fun _ => 0))), (q7, .inr (5, [.ref (u6 0), .int 0, .int 0, .int 0, .int 0, .int 0, .long 0])), ((u6 0), .inl (X.2.2.1.2.2.1, 7, .inl (fun _ => 0))), (q8, .inr (5, [.ref (u7 0), .int 0, .int 0, .int 0, .int 0, .int 0, .long 0])), ((u7 0), .inl (X.2.2.1.2.2.1, 7, .inl (fun _ => 0))), (q9, .inr (5, [.ref (u8 0), .int 0, .int 0, .int 0, .int 0, .int 0, .long 0])), ((u8 0), .inl (X.2.2.1.2.2.1, 7, .inl (fun _ => 0)))]) rfl ?_
  refine n_aastS E 1 16 rfl rfl (by unfold vp_in; decide) di_Shelf_44 [(h0, .inr (4, [.ref q1, .int 0])), (q1, .inl (X.2.2.1.2.2.2.2.2, 8, .inr (.inr (.inr (.inr (va_up (va_up (va_up (va_up (va_up (va_up (va_up (va_up (fun _ => none) (Int32.toNatClampNeg 0) (some q2)) (Int32.toNatClampNeg 1) (some q3)) (Int32.toNatClampNeg 2) (some q4)) (Int32.toNatClampNeg 3) (some q5)) (Int32.toNatClampNeg 4) (some q6)) (Int32.toNatClampNeg 5) (some q7)) (Int32.toNatClampNeg 6) (some q8)) (Int32.toNatClampNeg 7) (some q9))))))), (q2, .inr (5, [.ref (u1 0), .int 0, .int 0, .int 0, .int 0, .int 0, .long 0])), ((u1 0), .inl (X.2.2.1.2.2.1, 7, .inl (fun _ => 0))), (q3, .inr (5, [.ref (u2 0), .int 0, .int 0, .int 0, .int 0, .int 0, .long 0])), ((u2 0), .inl (X.2.2.1.2.2.1, 7, .inl (fun _ => 0))), (q4, .inr (5, [.ref (u3 0), .int 0, .int 0, .int 0, .int 0, .int 0, .long 0])), ((u3 0), .inl (X.2.2.1.2.2.1, 7, .inl (fun _ => 0))), (q5, .inr (5, [.ref (u4 0), .int 0, .int 0, .int 0, .int 0, .int 0, .long 0])), ((u4 0), .inl (X.2.2.1.2.2.1, 7, .inl (fun _ => 0))), (q6, .inr (5, [.ref (u5 0), .int 0, .int 0, .int 0, .int 0, .int 0, .long 0])), ((u5 0), .inl (X.2.2.1.2.2.1, 7, .inl (fun _ => 0))), (q7, .inr (5, [.ref (u6 0), .int 0, .int 0, .int 0, .int 0, .int 0, .long 0])), ((u6 0), .inl (X.2.2.1.2.2.1, 7, .inl (fun _ => 0))), (q8, .inr (5, [.ref (u7 0), .int 0, .int 0, .int 0, .int 0, .int 0, .long 0])), ((u7 0), .inl (X.2.2.1.2.2.1, 7, .inl (fun _ => 0))), (q9, .inr (5, [.ref (u8 0), .int 0, .int 0, .int 0, .int 0, .int 0, .long 0])), ((u8 0), .inl (X.2.2.1.2.2.1, 7, .inl (fun _ => 0)))] rfl ?_
  refine n_iinc (y := 8) (L' := [(2, .int 8), (0, .ref h0), (1, .int 8)]) E di_Shelf_45 0 rfl (by decide) (by decide) rfl ?_
  refine n_goto E 23 di_Shelf_48 (by decide) ?_
  refine n_iloadn E di_Shelf_23 rfl 0 rfl ?_
  refine n_aloadn E di_Shelf_24 rfl 1 rfl ?_
  refine n_get E cf4 0 rfl 0 (by decide) rfl nw57 rfl di_Shelf_25 ?_
  refine n_alenS (v := 8) E 1 rfl (by decide) di_Shelf_28 ?_
  refine n_icmp_ge E 51 di_Shelf_29 (by decide) (fun _ => ?_) (fun c => absurd (by decide) c)
  refine n_part (ws' := [(h0, .inr (4, [.ref q1, .int 0])), (q1, .inl (X.2.2.1.2.2.2.2.2, 8, .inr (.inr (.inr (.inr (va_up (va_up (va_up (va_up (va_up (va_up (va_up (va_up (fun _ => none) (Int32.toNatClampNeg 0) (some q2)) (Int32.toNatClampNeg 1) (some q3)) (Int32.toNatClampNeg 2) (some q4)) (Int32.toNatClampNeg 3) (some q5)) (Int32.toNatClampNeg 4) (some q6)) (Int32.toNatClampNeg 5) (some q7)) (Int32.toNatClampNeg 6) (some q8)) (Int32.toNatClampNeg 7) (some q9))))))), (q2, .inr (5, [.ref (u1 0), .int 0, .int 0, .int 0, .int 0, .int 0, .long 0])), ((u1 0), .inl (X.2.2.1.2.2.1, 7, .inl (fun _ => 0))), (q3, .inr (5, [.ref (u2 0), .int 0, .int 0, .int 0, .int 0, .int 0, .long 0])), ((u2 0), .inl (X.2.2.1.2.2.1, 7, .inl (fun _ => 0))), (q4, .inr (5, [.ref (u3 0), .int 0, .int 0, .int 0, .int 0, .int 0, .long 0])), ((u3 0), .inl (X.2.2.1.2.2.1, 7, .inl (fun _ => 0))), (q5, .inr (5, [.ref (u4 0), .int 0, .int 0, .int 0, .int 0, .int 0, .long 0])), ((u4 0), .inl (X.2.2.1.2.2.1, 7, .inl (fun _ => 0))), (q6, .inr (5, [.ref (u5 0), .int 0, .int 0, .int 0, .int 0, .int 0, .long 0])), ((u5 0), .inl (X.2.2.1.2.2.1, 7, .inl (fun _ => 0))), (q7, .inr (5, [.ref (u6 0), .int 0, .int 0, .int 0, .int 0, .int 0, .long 0])), ((u6 0), .inl (X.2.2.1.2.2.1, 7, .inl (fun _ => 0))), (q8, .inr (5, [.ref (u7 0), .int 0, .int 0, .int 0, .int 0, .int 0, .long 0])), ((u7 0), .inl (X.2.2.1.2.2.1, 7, .inl (fun _ => 0))), (q9, .inr (5, [.ref (u8 0), .int 0, .int 0, .int 0, .int 0, .int 0, .long 0])), ((u8 0), .inl (X.2.2.1.2.2.1, 7, .inl (fun _ => 0)))]) [0, 1, 2, 3, 4, 5, 6, 7, 8, 9, 10, 11, 12, 13, 14, 15, 16, 17] rfl rfl ?_
  refine n_arrS (g := fun j => some ([q1, q2, (u1 0), q3, (u2 0), q4, (u3 0), q5, (u4 0), q6, (u5 0), q7, (u6 0), q8, (u7 0), q9, (u8 0)].getD (1 + 2 * j) 0)) 1 rfl (fun j hj => match j, hj with | 0, _ => rfl | 1, _ => rfl | 2, _ => rfl | 3, _ => rfl | 4, _ => rfl | 5, _ => rfl | 6, _ => rfl | 7, _ => rfl | n + 8, h => absurd h (by omega)) [(h0, .inr (4, [.ref q1, .int 0])), (q1, .inl (X.2.2.1.2.2.2.2.2, 8, .inr (.inr (.inr (.inr (fun j => some ([q1, q2, (u1 0), q3, (u2 0), q4, (u3 0), q5, (u4 0), q6, (u5 0), q7, (u6 0), q8, (u7 0), q9, (u8 0)].getD (1 + 2 * j) 0))))))), (q2, .inr (5, [.ref (u1 0), .int 0, .int 0, .int 0, .int 0, .int 0, .long 0])), ((u1 0), .inl (X.2.2.1.2.2.1, 7, .inl (fun _ => 0))), (q3, .inr (5, [.ref (u2 0), .int 0, .int 0, .int 0, .int 0, .int 0, .long 0])), ((u2 0), .inl (X.2.2.1.2.2.1, 7, .inl (fun _ => 0))), (q4, .inr (5, [.ref (u3 0), .int 0, .int 0, .int 0, .int 0, .int 0, .long 0])), ((u3 0), .inl (X.2.2.1.2.2.1, 7, .inl (fun _ => 0))), (q5, .inr (5, [.ref (u4 0), .int 0, .int 0, .int 0, .int 0, .int 0, .long 0])), ((u4 0), .inl (X.2.2.1.2.2.1, 7, .inl (fun _ => 0))), (q6, .inr (5, [.ref (u5 0), .int 0, .int 0, .int 0, .int 0, .int 0, .long 0])), ((u5 0), .inl (X.2.2.1.2.2.1, 7, .inl (fun _ => 0))), (q7, .inr (5, [.ref (u6 0), .int 0, .int 0, .int 0, .int 0, .int 0, .long 0])), ((u6 0), .inl (X.2.2.1.2.2.1, 7, .inl (fun _ => 0))), (q8, .inr (5, [.ref (u7 0), .int 0, .int 0, .int 0, .int 0, .int 0, .long 0])), ((u7 0), .inl (X.2.2.1.2.2.1, 7, .inl (fun _ => 0))), (q9, .inr (5, [.ref (u8 0), .int 0, .int 0, .int 0, .int 0, .int 0, .long 0])), ((u8 0), .inl (X.2.2.1.2.2.1, 7, .inl (fun _ => 0)))] rfl ?_
  exact n_vret E hR (fun i => [q1, q2, (u1 0), q3, (u2 0), q4, (u3 0), q5, (u4 0), q6, (u5 0), q7, (u6 0), q8, (u7 0), q9, (u8 0)].getD i 0) rfl rfl rfl di_Shelf_51
def rm_Shelf2 : Room := { frames := 2, cells := 5, slots := 30, locals := 80 }
def P_Shelf2 (h0 : Nat) (w : WDt) (u : Nat → Nat) : va_W := [(h0, .inr (4, [.ref (u 0), .int 0])), ((u 0), .inl (w.2.2.2.2.2, 2, .inr (.inr (.inr (.inr (fun j => some (u (1 + 2 * j)))))))), ((u 1), .inr (5, [.ref (u 2), .int 0, .int 0, .int 0, .int 0, .int 0, .long 0])), ((u 2), .inl (w.2.2.1, 7, .inl (fun _ => 0))), ((u 3), .inr (5, [.ref (u 4), .int 0, .int 0, .int 0, .int 0, .int 0, .long 0])), ((u 4), .inl (w.2.2.1, 7, .inl (fun _ => 0)))]
theorem c_Shelf2_init (h0 : Nat) : CTR ⟨"BellSchool$Shelf", "<init>", "(I)V"⟩ prog_6_method_1_code 3 rm_Shelf2 [.ref h0, .int 2] [(h0, .inr (4, [.null, .int 0]))] (fun _ U => NW U) (fun w u z => z = P_Shelf2 h0 w u) := by
  refine ct_of (by decide) rfl (Nat.le_of_ble_eq_true rfl) (fun A X E hA hR hin hN => ?_)
  replace E : NE X prog_6_method_1_code "BellSchool$Shelf" 3 rm_Shelf2 := E
  show NV A X 0 [(0, .ref h0), (1, .int 2)] [] [(h0, .inr (4, [.null, .int 0]))] 0 0
  refine n_aloadn E di_Shelf_0 rfl 0 rfl ?_
  refine n_objInit E nw50 nw1 nw2 di_Shelf_1 (Nat.le_of_ble_eq_true rfl) (Nat.le_of_ble_eq_true rfl) ?_
  refine n_aloadn E di_Shelf_4 rfl 0 rfl ?_
  refine n_iconst (v := 0) E di_Shelf_5 (by decide) ?_
  refine n_put E cf4 0 rfl 1 (by decide) rfl (Or.inl rfl) nw51 rfl rfl (Nat.le_of_ble_eq_true rfl) di_Shelf_6 [(h0, .inr (4, [.null, .int 0]))] rfl ?_
  refine n_aloadn E di_Shelf_9 rfl 0 rfl ?_
  refine n_iconst (v := 1) E di_Shelf_10 (by decide) ?_
  refine n_iloadn E di_Shelf_11 rfl 1 rfl ?_
  refine n_mmax (v := 2) E nw52 nw53 nw54 nw55 di_Shelf_12 (Nat.le_of_ble_eq_true rfl) (Nat.le_of_ble_eq_true rfl) (Nat.le_of_ble_eq_true rfl) (Nat.le_of_ble_eq_true rfl) (Nat.le_of_ble_eq_true rfl) (by decide) ?_
  refine n_newS E hA hN nw56 2 (by decide) (by decide) (Nat.le_of_ble_eq_true rfl) (Nat.le_of_ble_eq_true rfl) (Nat.le_of_ble_eq_true rfl) di_Shelf_15 (fun q1 => ?_)
  refine n_world (ws' := [(h0, .inr (4, [.null, .int 0])), (q1, .inl (X.2.2.1.2.2.2.2.2, 2, .inr (.inr (.inr (.inr (fun _ => none))))))]) rfl ?_
  refine n_put E cf4 0 rfl 0 (by decide) rfl (Or.inr ⟨hin, rfl⟩) nw57 rfl rfl (Nat.le_of_ble_eq_true rfl) di_Shelf_18 [(h0, .inr (4, [.ref q1, .int 0])), (q1, .inl (X.2.2.1.2.2.2.2.2, 2, .inr (.inr (.inr (.inr (fun _ => none))))))] rfl ?_
  refine n_iconst (v := 0) E di_Shelf_21 (by decide) ?_
  refine n_istoren (L' := [(2, .int 0), (0, .ref h0), (1, .int 2)]) E di_Shelf_22 rfl (by decide) rfl ?_
  refine n_iloadn E di_Shelf_23 rfl 0 rfl ?_
  refine n_aloadn E di_Shelf_24 rfl 1 rfl ?_
  refine n_get E cf4 0 rfl 0 (by decide) rfl nw57 rfl di_Shelf_25 ?_
  refine n_alenS (v := 2) E 1 rfl (by decide) di_Shelf_28 ?_
  refine n_icmp_ge E 51 di_Shelf_29 (by decide) (fun c => absurd c (by decide)) (fun _ => ?_)
  refine n_aloadn E di_Shelf_32 rfl 1 rfl ?_
  refine n_get E cf4 0 rfl 0 (by decide) rfl nw57 rfl di_Shelf_33 ?_
  refine n_iloadn E di_Shelf_36 rfl 0 rfl ?_
  refine n_new E hA cf5 nw56 nw58 nw49 [.null, .int 0, .int 0, .int 0, .int 0, .int 0, .long 0] df5 (Nat.le_of_ble_eq_true rfl) (Nat.le_of_ble_eq_true rfl) di_Shelf_37 (fun q2 => ?_)
  refine n_world (ws' := [(h0, .inr (4, [.ref q1, .int 0])), (q1, .inl (X.2.2.1.2.2.2.2.2, 2, .inr (.inr (.inr (.inr (fun _ => none)))))), (q2, .inr (5, [.null, .int 0, .int 0, .int 0, .int 0, .int 0, .long 0]))]) rfl ?_
  refine n_dup E di_Shelf_40 rfl ?_
  refine n_initN (wr := [(h0, .inr (4, [.ref q1, .int 0])), (q1, .inl (X.2.2.1.2.2.2.2.2, 2, .inr (.inr (.inr (.inr (fun _ => none))))))]) (As := []) E hA md_Standing_init rfl (c_Standing_init q2 ) hNb (hNx hN) (hN.1 ("BellSchool$Shelf", 25, "BellSchool$Standing") (by decide)) di_Shelf_41 rfl ⟨Nat.le_of_ble_eq_true rfl, Nat.le_of_ble_eq_true rfl⟩ (Nat.le_of_ble_eq_true rfl) ⟨Nat.le_of_ble_eq_true rfl, Nat.le_of_ble_eq_true rfl⟩ [2] [0, 1] rfl rfl rfl rfl (by decide) rfl (fun u1 w1 e1 => ?_)
  subst e1
  refine n_world (ws' := [(h0, .inr (4, [.ref q1, .int 0])), (q1, .inl (X.2.2.1.2.2.2.2.2, 2, .inr (.inr (.inr (.inr (fun _ => none)))))), (q2, .inr (5, [.ref (u1 0), .int 0, .int 0, .int 0, .int 0, .int 0, .long 0])), ((u1 0), .inl (X.2.2.1.2.2.1, 7, .inl (fun _ => 0)))]) rfl ?_
  refine n_aastS E 1 2 rfl rfl (by unfold vp_in; decide) di_Shelf_44 [(h0, .inr (4, [.ref q1, .int 0])), (q1, .inl (X.2.2.1.2.2.2.2.2, 2, .inr (.inr (.inr (.inr (va_up (fun _ => none) (Int32.toNatClampNeg 0) (some q2))))))), (q2, .inr (5, [.ref (u1 0), .int 0, .int 0, .int 0, .int 0, .int 0, .long 0])), ((u1 0), .inl (X.2.2.1.2.2.1, 7, .inl (fun _ => 0)))] rfl ?_
  refine n_iinc (y := 1) (L' := [(2, .int 1), (0, .ref h0), (1, .int 2)]) E di_Shelf_45 0 rfl (by decide) (by decide) rfl ?_
  refine n_goto E 23 di_Shelf_48 (by decide) ?_
  refine n_iloadn E di_Shelf_23 rfl 0 rfl ?_
  refine n_aloadn E di_Shelf_24 rfl 1 rfl ?_
  refine n_get E cf4 0 rfl 0 (by decide) rfl nw57 rfl di_Shelf_25 ?_
  refine n_alenS (v := 2) E 1 rfl (by decide) di_Shelf_28 ?_
  refine n_icmp_ge E 51 di_Shelf_29 (by decide) (fun c => absurd c (by decide)) (fun _ => ?_)
  refine n_aloadn E di_Shelf_32 rfl 1 rfl ?_
  refine n_get E cf4 0 rfl 0 (by decide) rfl nw57 rfl di_Shelf_33 ?_
  refine n_iloadn E di_Shelf_36 rfl 0 rfl ?_
  refine n_new E hA cf5 nw56 nw58 nw49 [.null, .int 0, .int 0, .int 0, .int 0, .int 0, .long 0] df5 (Nat.le_of_ble_eq_true rfl) (Nat.le_of_ble_eq_true rfl) di_Shelf_37 (fun q3 => ?_)
  refine n_world (ws' := [(h0, .inr (4, [.ref q1, .int 0])), (q1, .inl (X.2.2.1.2.2.2.2.2, 2, .inr (.inr (.inr (.inr (va_up (fun _ => none) (Int32.toNatClampNeg 0) (some q2))))))), (q2, .inr (5, [.ref (u1 0), .int 0, .int 0, .int 0, .int 0, .int 0, .long 0])), ((u1 0), .inl (X.2.2.1.2.2.1, 7, .inl (fun _ => 0))), (q3, .inr (5, [.null, .int 0, .int 0, .int 0, .int 0, .int 0, .long 0]))]) rfl ?_
  refine n_dup E di_Shelf_40 rfl ?_
  refine n_initN (wr := [(h0, .inr (4, [.ref q1, .int 0])), (q1, .inl (X.2.2.1.2.2.2.2.2, 2, .inr (.inr (.inr (.inr (va_up (fun _ => none) (Int32.toNatClampNeg 0) (some q2))))))), (q2, .inr (5, [.ref (u1 0), .int 0, .int 0, .int 0, .int 0, .int 0, .long 0])), ((u1 0), .inl (X.2.2.1.2.2.1, 7, .inl (fun _ => 0)))]) (As := []) E hA md_Standing_init rfl (c_Standing_init q3 ) hNb (hNx hN) (hN.1 ("BellSchool$Shelf", 25, "BellSchool$Standing") (by decide)) di_Shelf_41 rfl ⟨Nat.le_of_ble_eq_true rfl, Nat.le_of_ble_eq_true rfl⟩ (Nat.le_of_ble_eq_true rfl) ⟨Nat.le_of_ble_eq_true rfl, Nat.le_of_ble_eq_true rfl⟩ [4] [0, 1, 2, 3] rfl rfl rfl rfl (by decide) rfl (fun u2 w1 e1 => ?_)
  subst e1
  refine n_world (ws' := [(h0, .inr (4, [.ref q1, .int 0])), (q1, .inl (X.2.2.1.2.2.2.2.2, 2, .inr (.inr (.inr (.inr (va_up (fun _ => none) (Int32.toNatClampNeg 0) (some q2))))))), (q2, .inr (5, [.ref (u1 0), .int 0, .int 0, .int 0, .int 0, .int 0, .long 0])), ((u1 0), .inl (X.2.2.1.2.2.1, 7, .inl (fun _ => 0))), (q3, .inr (5, [.ref (u2 0), .int 0, .int 0, .int 0, .int 0, .int 0, .long 0])), ((u2 0), .inl (X.2.2.1.2.2.1, 7, .inl (fun _ => 0)))]) rfl ?_
  refine n_aastS E 1 4 rfl rfl (by unfold vp_in; decide) di_Shelf_44 [(h0, .inr (4, [.ref q1, .int 0])), (q1, .inl (X.2.2.1.2.2.2.2.2, 2, .inr (.inr (.inr (.inr (va_up (va_up (fun _ => none) (Int32.toNatClampNeg 0) (some q2)) (Int32.toNatClampNeg 1) (some q3))))))), (q2, .inr (5, [.ref (u1 0), .int 0, .int 0, .int 0, .int 0, .int 0, .long 0])), ((u1 0), .inl (X.2.2.1.2.2.1, 7, .inl (fun _ => 0))), (q3, .inr (5, [.ref (u2 0), .int 0, .int 0, .int 0, .int 0, .int 0, .long 0])), ((u2 0), .inl (X.2.2.1.2.2.1, 7, .inl (fun _ => 0)))] rfl ?_
  refine n_iinc (y := 2) (L' := [(2, .int 2), (0, .ref h0), (1, .int 2)]) E di_Shelf_45 0 rfl (by decide) (by decide) rfl ?_
  refine n_goto E 23 di_Shelf_48 (by decide) ?_
  refine n_iloadn E di_Shelf_23 rfl 0 rfl ?_
  refine n_aloadn E di_Shelf_24 rfl 1 rfl ?_
  refine n_get E cf4 0 rfl 0 (by decide) rfl nw57 rfl di_Shelf_25 ?_
  refine n_alenS (v := 2) E 1 rfl (by decide) di_Shelf_28 ?_
  refine n_icmp_ge E 51 di_Shelf_29 (by decide) (fun _ => ?_) (fun c => absurd (by decide) c)
  refine n_part (ws' := [(h0, .inr (4, [.ref q1, .int 0])), (q1, .inl (X.2.2.1.2.2.2.2.2, 2, .inr (.inr (.inr (.inr (va_up (va_up (fun _ => none) (Int32.toNatClampNeg 0) (some q2)) (Int32.toNatClampNeg 1) (some q3))))))), (q2, .inr (5, [.ref (u1 0), .int 0, .int 0, .int 0, .int 0, .int 0, .long 0])), ((u1 0), .inl (X.2.2.1.2.2.1, 7, .inl (fun _ => 0))), (q3, .inr (5, [.ref (u2 0), .int 0, .int 0, .int 0, .int 0, .int 0, .long 0])), ((u2 0), .inl (X.2.2.1.2.2.1, 7, .inl (fun _ => 0)))]) [0, 1, 2, 3, 4, 5] rfl rfl ?_
  refine n_arrS (g := fun j => some ([q1, q2, (u1 0), q3, (u2 0)].getD (1 + 2 * j) 0)) 1 rfl (fun j hj => match j, hj with | 0, _ => rfl | 1, _ => rfl | n + 2, h => absurd h (by omega)) [(h0, .inr (4, [.ref q1, .int 0])), (q1, .inl (X.2.2.1.2.2.2.2.2, 2, .inr (.inr (.inr (.inr (fun j => some ([q1, q2, (u1 0), q3, (u2 0)].getD (1 + 2 * j) 0))))))), (q2, .inr (5, [.ref (u1 0), .int 0, .int 0, .int 0, .int 0, .int 0, .long 0])), ((u1 0), .inl (X.2.2.1.2.2.1, 7, .inl (fun _ => 0))), (q3, .inr (5, [.ref (u2 0), .int 0, .int 0, .int 0, .int 0, .int 0, .long 0])), ((u2 0), .inl (X.2.2.1.2.2.1, 7, .inl (fun _ => 0)))] rfl ?_
  exact n_vret E hR (fun i => [q1, q2, (u1 0), q3, (u2 0)].getD i 0) rfl rfl rfl di_Shelf_51
def rm_Search : Room := { frames := 2, cells := 9, slots := 2037, locals := 80 }
def P_Search (h0 : Nat) (w : WDt) (u : Nat → Nat) : va_W := [(h0, .inr (3, [.ref (u 0), .ref (u 1), .ref (u 2), .ref (u 3), .ref (u 4), .ref (u 6), .int 0, .int 0, .ref (u 8), .int (-4), .int 0])), ((u 0), .inl (w.2.2.2.1, 203, .inr (.inl (fun _ => 0)))), ((u 1), .inl (w.2.2.2.1, 203, .inr (.inl (fun _ => 0)))), ((u 2), .inl (w.2.2.1, 1568, .inl (fun _ => 0))), ((u 3), .inl (w.2.2.1, 7, .inl (fun _ => 0))), ((u 4), .inr (5, [.ref (u 5), .int 0, .int 0, .int 0, .int 0, .int 0, .long 0])), ((u 5), .inl (w.2.2.1, 7, .inl (fun _ => 0))), ((u 6), .inr (5, [.ref (u 7), .int 0, .int 0, .int 0, .int 0, .int 0, .long 0])), ((u 7), .inl (w.2.2.1, 7, .inl (fun _ => 0))), ((u 8), .inl (w.2.2.1, 28, .inl (fun _ => 0)))]
theorem md_Search_init : MDi ⟨"BellSchool$Search", "<init>", "()V"⟩ prog_5_method_1_code 1 0 := ⟨nw75, nw76, nw77, by decide, by decide, by decide +kernel⟩
theorem c_Search_init (h0 : Nat) : CTR ⟨"BellSchool$Search", "<init>", "()V"⟩ prog_5_method_1_code 1 rm_Search [.ref h0] [(h0, .inr (3, [.null, .null, .null, .null, .null, .null, .int 0, .int 0, .null, .int 0, .int 0]))] (fun _ U => NW U) (fun w u z => z = P_Search h0 w u) := by
  refine ct_of (by decide) rfl (Nat.le_of_ble_eq_true rfl) (fun A X E hA hR hin hN => ?_)
  replace E : NE X prog_5_method_1_code "BellSchool$Search" 1 rm_Search := E
  show NV A X 0 [(0, .ref h0)] [] [(h0, .inr (3, [.null, .null, .null, .null, .null, .null, .int 0, .int 0, .null, .int 0, .int 0]))] 0 0
  refine n_aloadn E di_Search_0 rfl 0 rfl ?_
  refine n_objInit E nw62 nw1 nw2 di_Search_1 (Nat.le_of_ble_eq_true rfl) (Nat.le_of_ble_eq_true rfl) ?_
  refine n_aloadn E di_Search_4 rfl 0 rfl ?_
  refine n_sipush (v := 203) E di_Search_5 (by decide) ?_
  refine n_newL E hA nw30 203 (by decide) (by decide) (Nat.le_of_ble_eq_true rfl) (Nat.le_of_ble_eq_true rfl) (Nat.le_of_ble_eq_true rfl) di_Search_8 (fun q1 => ?_)
  refine n_world (ws' := [(h0, .inr (3, [.null, .null, .null, .null, .null, .null, .int 0, .int 0, .null, .int 0, .int 0])), (q1, .inl (X.2.2.1.2.2.2.1, 203, .inr (.inl (fun _ => 0))))]) rfl ?_
  refine n_put E cf3 0 rfl 0 (by decide) rfl (Or.inr ⟨hin, rfl⟩) nw63 rfl rfl (Nat.le_of_ble_eq_true rfl) di_Search_10 [(h0, .inr (3, [.ref q1, .null, .null, .null, .null, .null, .int 0, .int 0, .null, .int 0, .int 0])), (q1, .inl (X.2.2.1.2.2.2.1, 203, .inr (.inl (fun _ => 0))))] rfl ?_
  refine n_aloadn E di_Search_13 rfl 0 rfl ?_
  refine n_sipush (v := 203) E di_Search_14 (by decide) ?_
  refine n_newL E hA nw30 203 (by decide) (by decide) (Nat.le_of_ble_eq_true rfl) (Nat.le_of_ble_eq_true rfl) (Nat.le_of_ble_eq_true rfl) di_Search_17 (fun q2 => ?_)
  refine n_world (ws' := [(h0, .inr (3, [.ref q1, .null, .null, .null, .null, .null, .int 0, .int 0, .null, .int 0, .int 0])), (q1, .inl (X.2.2.1.2.2.2.1, 203, .inr (.inl (fun _ => 0)))), (q2, .inl (X.2.2.1.2.2.2.1, 203, .inr (.inl (fun _ => 0))))]) rfl ?_
  refine n_put E cf3 0 rfl 1 (by decide) rfl (Or.inr ⟨hin, rfl⟩) nw64 rfl rfl (Nat.le_of_ble_eq_true rfl) di_Search_19 [(h0, .inr (3, [.ref q1, .ref q2, .null, .null, .null, .null, .int 0, .int 0, .null, .int 0, .int 0])), (q1, .inl (X.2.2.1.2.2.2.1, 203, .inr (.inl (fun _ => 0)))), (q2, .inl (X.2.2.1.2.2.2.1, 203, .inr (.inl (fun _ => 0))))] rfl ?_
  refine n_aloadn E di_Search_22 rfl 0 rfl ?_
  refine n_sipush (v := 1568) E di_Search_23 (by decide) ?_
  refine n_newI E hA nw3 1568 (by decide) (by decide) (Nat.le_of_ble_eq_true rfl) (Nat.le_of_ble_eq_true rfl) (Nat.le_of_ble_eq_true rfl) di_Search_26 (fun q3 => ?_)
  refine n_world (ws' := [(h0, .inr (3, [.ref q1, .ref q2, .null, .null, .null, .null, .int 0, .int 0, .null, .int 0, .int 0])), (q1, .inl (X.2.2.1.2.2.2.1, 203, .inr (.inl (fun _ => 0)))), (q2, .inl (X.2.2.1.2.2.2.1, 203, .inr (.inl (fun _ => 0)))), (q3, .inl (X.2.2.1.2.2.1, 1568, .inl (fun _ => 0)))]) rfl ?_
  refine n_put E cf3 0 rfl 2 (by decide) rfl (Or.inr ⟨hin, rfl⟩) nw65 rfl rfl (Nat.le_of_ble_eq_true rfl) di_Search_28 [(h0, .inr (3, [.ref q1, .ref q2, .ref q3, .null, .null, .null, .int 0, .int 0, .null, .int 0, .int 0])), (q1, .inl (X.2.2.1.2.2.2.1, 203, .inr (.inl (fun _ => 0)))), (q2, .inl (X.2.2.1.2.2.2.1, 203, .inr (.inl (fun _ => 0)))), (q3, .inl (X.2.2.1.2.2.1, 1568, .inl (fun _ => 0)))] rfl ?_
  refine n_aloadn E di_Search_31 rfl 0 rfl ?_
  refine n_bipush (v := 7) E di_Search_32 (by decide) ?_
  refine n_newI E hA nw3 7 (by decide) (by decide) (Nat.le_of_ble_eq_true rfl) (Nat.le_of_ble_eq_true rfl) (Nat.le_of_ble_eq_true rfl) di_Search_34 (fun q4 => ?_)
  refine n_world (ws' := [(h0, .inr (3, [.ref q1, .ref q2, .ref q3, .null, .null, .null, .int 0, .int 0, .null, .int 0, .int 0])), (q1, .inl (X.2.2.1.2.2.2.1, 203, .inr (.inl (fun _ => 0)))), (q2, .inl (X.2.2.1.2.2.2.1, 203, .inr (.inl (fun _ => 0)))), (q3, .inl (X.2.2.1.2.2.1, 1568, .inl (fun _ => 0))), (q4, .inl (X.2.2.1.2.2.1, 7, .inl (fun _ => 0)))]) rfl ?_
  refine n_put E cf3 0 rfl 3 (by decide) rfl (Or.inr ⟨hin, rfl⟩) nw66 rfl rfl (Nat.le_of_ble_eq_true rfl) di_Search_36 [(h0, .inr (3, [.ref q1, .ref q2, .ref q3, .ref q4, .null, .null, .int 0, .int 0, .null, .int 0, .int 0])), (q1, .inl (X.2.2.1.2.2.2.1, 203, .inr (.inl (fun _ => 0)))), (q2, .inl (X.2.2.1.2.2.2.1, 203, .inr (.inl (fun _ => 0)))), (q3, .inl (X.2.2.1.2.2.1, 1568, .inl (fun _ => 0))), (q4, .inl (X.2.2.1.2.2.1, 7, .inl (fun _ => 0)))] rfl ?_
  refine n_aloadn E di_Search_39 rfl 0 rfl ?_
  refine n_new E hA cf5 nw67 nw58 nw49 [.null, .int 0, .int 0, .int 0, .int 0, .int 0, .long 0] df5 (Nat.le_of_ble_eq_true rfl) (Nat.le_of_ble_eq_true rfl) di_Search_40 (fun q5 => ?_)
  refine n_world (ws' := [(h0, .inr (3, [.ref q1, .ref q2, .ref q3, .ref q4, .null, .null, .int 0, .int 0, .null, .int 0, .int 0])), (q1, .inl (X.2.2.1.2.2.2.1, 203, .inr (.inl (fun _ => 0)))), (q2, .inl (X.2.2.1.2.2.2.1, 203, .inr (.inl (fun _ => 0)))), (q3, .inl (X.2.2.1.2.2.1, 1568, .inl (fun _ => 0))), (q4, .inl (X.2.2.1.2.2.1, 7, .inl (fun _ => 0))), (q5, .inr (5, [.null, .int 0, .int 0, .int 0, .int 0, .int 0, .long 0]))]) rfl ?_
  refine n_dup E di_Search_43 rfl ?_
  refine n_initN (wr := [(h0, .inr (3, [.ref q1, .ref q2, .ref q3, .ref q4, .null, .null, .int 0, .int 0, .null, .int 0, .int 0])), (q1, .inl (X.2.2.1.2.2.2.1, 203, .inr (.inl (fun _ => 0)))), (q2, .inl (X.2.2.1.2.2.2.1, 203, .inr (.inl (fun _ => 0)))), (q3, .inl (X.2.2.1.2.2.1, 1568, .inl (fun _ => 0))), (q4, .inl (X.2.2.1.2.2.1, 7, .inl (fun _ => 0)))]) (As := []) E hA md_Standing_init rfl (c_Standing_init q5 ) hNb (hNx hN) (hN.1 ("BellSchool$Search", 27, "BellSchool$Standing") (by decide)) di_Search_44 rfl ⟨Nat.le_of_ble_eq_true rfl, Nat.le_of_ble_eq_true rfl⟩ (Nat.le_of_ble_eq_true rfl) ⟨Nat.le_of_ble_eq_true rfl, Nat.le_of_ble_eq_true rfl⟩ [5] [0, 1, 2, 3, 4] rfl rfl rfl rfl (by decide) rfl (fun u1 w1 e1 => ?_)
  subst e1
  refine n_world (ws' := [(h0, .inr (3, [.ref q1, .ref q2, .ref q3, .ref q4, .null, .null, .int 0, .int 0, .null, .int 0, .int 0])), (q1, .inl (X.2.2.1.2.2.2.1, 203, .inr (.inl (fun _ => 0)))), (q2, .inl (X.2.2.1.2.2.2.1, 203, .inr (.inl (fun _ => 0)))), (q3, .inl (X.2.2.1.2.2.1, 1568, .inl (fun _ => 0))), (q4, .inl (X.2.2.1.2.2.1, 7, .inl (fun _ => 0))), (q5, .inr (5, [.ref (u1 0), .int 0, .int 0, .int 0, .int 0, .int 0, .long 0])), ((u1 0), .inl (X.2.2.1.2.2.1, 7, .inl (fun _ => 0)))]) rfl ?_
  refine n_put E cf3 0 rfl 4 (by decide) rfl (Or.inr ⟨hin, rfl⟩) nw68 rfl rfl (Nat.le_of_ble_eq_true rfl) di_Search_47 [(h0, .inr (3, [.ref q1, .ref q2, .ref q3, .ref q4, .ref q5, .null, .int 0, .int 0, .null, .int 0, .int 0])), (q1, .inl (X.2.2.1.2.2.2.1, 203, .inr (.inl (fun _ => 0)))), (q2, .inl (X.2.2.1.2.2.2.1, 203, .inr (.inl (fun _ => 0)))), (q3, .inl (X.2.2.1.2.2.1, 1568, .inl (fun _ => 0))), (q4, .inl (X.2.2.1.2.2.1, 7, .inl (fun _ => 0))), (q5, .inr (5, [.ref (u1 0), .int 0, .int 0, .int 0, .int 0, .int 0, .long 0])), ((u1 0), .inl (X.2.2.1.2.2.1, 7, .inl (fun _ => 0)))] rfl ?_
  refine n_aloadn E di_Search_50 rfl 0 rfl ?_
  refine n_new E hA cf5 nw67 nw58 nw49 [.null, .int 0, .int 0, .int 0, .int 0, .int 0, .long 0] df5 (Nat.le_of_ble_eq_true rfl) (Nat.le_of_ble_eq_true rfl) di_Search_51 (fun q6 => ?_)
  refine n_world (ws' := [(h0, .inr (3, [.ref q1, .ref q2, .ref q3, .ref q4, .ref q5, .null, .int 0, .int 0, .null, .int 0, .int 0])), (q1, .inl (X.2.2.1.2.2.2.1, 203, .inr (.inl (fun _ => 0)))), (q2, .inl (X.2.2.1.2.2.2.1, 203, .inr (.inl (fun _ => 0)))), (q3, .inl (X.2.2.1.2.2.1, 1568, .inl (fun _ => 0))), (q4, .inl (X.2.2.1.2.2.1, 7, .inl (fun _ => 0))), (q5, .inr (5, [.ref (u1 0), .int 0, .int 0, .int 0, .int 0, .int 0, .long 0])), ((u1 0), .inl (X.2.2.1.2.2.1, 7, .inl (fun _ => 0))), (q6, .inr (5, [.null, .int 0, .int 0, .int 0, .int 0, .int 0, .long 0]))]) rfl ?_
  refine n_dup E di_Search_54 rfl ?_
  refine n_initN (wr := [(h0, .inr (3, [.ref q1, .ref q2, .ref q3, .ref q4, .ref q5, .null, .int 0, .int 0, .null, .int 0, .int 0])), (q1, .inl (X.2.2.1.2.2.2.1, 203, .inr (.inl (fun _ => 0)))), (q2, .inl (X.2.2.1.2.2.2.1, 203, .inr (.inl (fun _ => 0)))), (q3, .inl (X.2.2.1.2.2.1, 1568, .inl (fun _ => 0))), (q4, .inl (X.2.2.1.2.2.1, 7, .inl (fun _ => 0))), (q5, .inr (5, [.ref (u1 0), .int 0, .int 0, .int 0, .int 0, .int 0, .long 0])), ((u1 0), .inl (X.2.2.1.2.2.1, 7, .inl (fun _ => 0)))]) (As := []) E hA md_Standing_init rfl (c_Standing_init q6 ) hNb (hNx hN) (hN.1 ("BellSchool$Search", 27, "BellSchool$Standing") (by decide)) di_Search_55 rfl ⟨Nat.le_of_ble_eq_true rfl, Nat.le_of_ble_eq_true rfl⟩ (Nat.le_of_ble_eq_true rfl) ⟨Nat.le_of_ble_eq_true rfl, Nat.le_of_ble_eq_true rfl⟩ [7] [0, 1, 2, 3, 4, 5, 6] rfl rfl rfl rfl (by decide) rfl (fun u2 w1 e1 => ?_)
  subst e1
  refine n_world (ws' := [(h0, .inr (3, [.ref q1, .ref q2, .ref q3, .ref q4, .ref q5, .null, .int 0, .int 0, .null, .int 0, .int 0])), (q1, .inl (X.2.2.1.2.2.2.1, 203, .inr (.inl (fun _ => 0)))), (q2, .inl (X.2.2.1.2.2.2.1, 203, .inr (.inl (fun _ => 0)))), (q3, .inl (X.2.2.1.2.2.1, 1568, .inl (fun _ => 0))), (q4, .inl (X.2.2.1.2.2.1, 7, .inl (fun _ => 0))), (q5, .inr (5, [.ref (u1 0), .int 0, .int 0, .int 0, .int 0, .int 0, .long 0])), ((u1 0), .inl (X.2.2.1.2.2.1, 7, .inl (fun _ => 0))), (q6, .inr (5, [.ref (u2 0), .int 0, .int 0, .int 0, .int 0, .int 0, .long 0])), ((u2 0), .inl (X.2.2.1.2.2.1, 7, .inl (fun _ => 0)))]) rfl ?_
  refine n_put E cf3 0 rfl 5 (by decide) rfl (Or.inr ⟨hin, rfl⟩) nw69 rfl rfl (Nat.le_of_ble_eq_true rfl) di_Search_58 [(h0, .inr (3, [.ref q1, .ref q2, .ref q3, .ref q4, .ref q5, .ref q6, .int 0, .int 0, .null, .int 0, .int 0])), (q1, .inl (X.2.2.1.2.2.2.1, 203, .inr (.inl (fun _ => 0)))), (q2, .inl (X.2.2.1.2.2.2.1, 203, .inr (.inl (fun _ => 0)))), (q3, .inl (X.2.2.1.2.2.1, 1568, .inl (fun _ => 0))), (q4, .inl (X.2.2.1.2.2.1, 7, .inl (fun _ => 0))), (q5, .inr (5, [.ref (u1 0), .int 0, .int 0, .int 0, .int 0, .int 0, .long 0])), ((u1 0), .inl (X.2.2.1.2.2.1, 7, .inl (fun _ => 0))), (q6, .inr (5, [.ref (u2 0), .int 0, .int 0, .int 0, .int 0, .int 0, .long 0])), ((u2 0), .inl (X.2.2.1.2.2.1, 7, .inl (fun _ => 0)))] rfl ?_
  refine n_aloadn E di_Search_61 rfl 0 rfl ?_
  refine n_iconst (v := 0) E di_Search_62 (by decide) ?_
  refine n_put E cf3 0 rfl 6 (by decide) rfl (Or.inl rfl) nw70 rfl rfl (Nat.le_of_ble_eq_true rfl) di_Search_63 [(h0, .inr (3, [.ref q1, .ref q2, .ref q3, .ref q4, .ref q5, .ref q6, .int 0, .int 0, .null, .int 0, .int 0])), (q1, .inl (X.2.2.1.2.2.2.1, 203, .inr (.inl (fun _ => 0)))), (q2, .inl (X.2.2.1.2.2.2.1, 203, .inr (.inl (fun _ => 0)))), (q3, .inl (X.2.2.1.2.2.1, 1568, .inl (fun _ => 0))), (q4, .inl (X.2.2.1.2.2.1, 7, .inl (fun _ => 0))), (q5, .inr (5, [.ref (u1 0), .int 0, .int 0, .int 0, .int 0, .int 0, .long 0])), ((u1 0), .inl (X.2.2.1.2.2.1, 7, .inl (fun _ => 0))), (q6, .inr (5, [.ref (u2 0), .int 0, .int 0, .int 0, .int 0, .int 0, .long 0])), ((u2 0), .inl (X.2.2.1.2.2.1, 7, .inl (fun _ => 0)))] rfl ?_
  refine n_aloadn E di_Search_66 rfl 0 rfl ?_
  refine n_iconst (v := 0) E di_Search_67 (by decide) ?_
  refine n_put E cf3 0 rfl 7 (by decide) rfl (Or.inl rfl) nw71 rfl rfl (Nat.le_of_ble_eq_true rfl) di_Search_68 [(h0, .inr (3, [.ref q1, .ref q2, .ref q3, .ref q4, .ref q5, .ref q6, .int 0, .int 0, .null, .int 0, .int 0])), (q1, .inl (X.2.2.1.2.2.2.1, 203, .inr (.inl (fun _ => 0)))), (q2, .inl (X.2.2.1.2.2.2.1, 203, .inr (.inl (fun _ => 0)))), (q3, .inl (X.2.2.1.2.2.1, 1568, .inl (fun _ => 0))), (q4, .inl (X.2.2.1.2.2.1, 7, .inl (fun _ => 0))), (q5, .inr (5, [.ref (u1 0), .int 0, .int 0, .int 0, .int 0, .int 0, .long 0])), ((u1 0), .inl (X.2.2.1.2.2.1, 7, .inl (fun _ => 0))), (q6, .inr (5, [.ref (u2 0), .int 0, .int 0, .int 0, .int 0, .int 0, .long 0])), ((u2 0), .inl (X.2.2.1.2.2.1, 7, .inl (fun _ => 0)))] rfl ?_
  refine n_aloadn E di_Search_71 rfl 0 rfl ?_
  refine n_bipush (v := 28) E di_Search_72 (by decide) ?_
  refine n_newI E hA nw3 28 (by decide) (by decide) (Nat.le_of_ble_eq_true rfl) (Nat.le_of_ble_eq_true rfl) (Nat.le_of_ble_eq_true rfl) di_Search_74 (fun q7 => ?_)
  refine n_world (ws' := [(h0, .inr (3, [.ref q1, .ref q2, .ref q3, .ref q4, .ref q5, .ref q6, .int 0, .int 0, .null, .int 0, .int 0])), (q1, .inl (X.2.2.1.2.2.2.1, 203, .inr (.inl (fun _ => 0)))), (q2, .inl (X.2.2.1.2.2.2.1, 203, .inr (.inl (fun _ => 0)))), (q3, .inl (X.2.2.1.2.2.1, 1568, .inl (fun _ => 0))), (q4, .inl (X.2.2.1.2.2.1, 7, .inl (fun _ => 0))), (q5, .inr (5, [.ref (u1 0), .int 0, .int 0, .int 0, .int 0, .int 0, .long 0])), ((u1 0), .inl (X.2.2.1.2.2.1, 7, .inl (fun _ => 0))), (q6, .inr (5, [.ref (u2 0), .int 0, .int 0, .int 0, .int 0, .int 0, .long 0])), ((u2 0), .inl (X.2.2.1.2.2.1, 7, .inl (fun _ => 0))), (q7, .inl (X.2.2.1.2.2.1, 28, .inl (fun _ => 0)))]) rfl ?_
  refine n_put E cf3 0 rfl 8 (by decide) rfl (Or.inr ⟨hin, rfl⟩) nw72 rfl rfl (Nat.le_of_ble_eq_true rfl) di_Search_76 [(h0, .inr (3, [.ref q1, .ref q2, .ref q3, .ref q4, .ref q5, .ref q6, .int 0, .int 0, .ref q7, .int 0, .int 0])), (q1, .inl (X.2.2.1.2.2.2.1, 203, .inr (.inl (fun _ => 0)))), (q2, .inl (X.2.2.1.2.2.2.1, 203, .inr (.inl (fun _ => 0)))), (q3, .inl (X.2.2.1.2.2.1, 1568, .inl (fun _ => 0))), (q4, .inl (X.2.2.1.2.2.1, 7, .inl (fun _ => 0))), (q5, .inr (5, [.ref (u1 0), .int 0, .int 0, .int 0, .int 0, .int 0, .long 0])), ((u1 0), .inl (X.2.2.1.2.2.1, 7, .inl (fun _ => 0))), (q6, .inr (5, [.ref (u2 0), .int 0, .int 0, .int 0, .int 0, .int 0, .long 0])), ((u2 0), .inl (X.2.2.1.2.2.1, 7, .inl (fun _ => 0))), (q7, .inl (X.2.2.1.2.2.1, 28, .inl (fun _ => 0)))] rfl ?_
  refine n_aloadn E di_Search_79 rfl 0 rfl ?_
  refine n_bipush (v := (-4)) E di_Search_80 (by decide) ?_
  refine n_put E cf3 0 rfl 9 (by decide) rfl (Or.inl rfl) nw73 rfl rfl (Nat.le_of_ble_eq_true rfl) di_Search_82 [(h0, .inr (3, [.ref q1, .ref q2, .ref q3, .ref q4, .ref q5, .ref q6, .int 0, .int 0, .ref q7, .int (-4), .int 0])), (q1, .inl (X.2.2.1.2.2.2.1, 203, .inr (.inl (fun _ => 0)))), (q2, .inl (X.2.2.1.2.2.2.1, 203, .inr (.inl (fun _ => 0)))), (q3, .inl (X.2.2.1.2.2.1, 1568, .inl (fun _ => 0))), (q4, .inl (X.2.2.1.2.2.1, 7, .inl (fun _ => 0))), (q5, .inr (5, [.ref (u1 0), .int 0, .int 0, .int 0, .int 0, .int 0, .long 0])), ((u1 0), .inl (X.2.2.1.2.2.1, 7, .inl (fun _ => 0))), (q6, .inr (5, [.ref (u2 0), .int 0, .int 0, .int 0, .int 0, .int 0, .long 0])), ((u2 0), .inl (X.2.2.1.2.2.1, 7, .inl (fun _ => 0))), (q7, .inl (X.2.2.1.2.2.1, 28, .inl (fun _ => 0)))] rfl ?_
  refine n_aloadn E di_Search_85 rfl 0 rfl ?_
  refine n_iconst (v := 0) E di_Search_86 (by decide) ?_
  refine n_put E cf3 0 rfl 10 (by decide) rfl (Or.inl rfl) nw74 rfl rfl (Nat.le_of_ble_eq_true rfl) di_Search_87 [(h0, .inr (3, [.ref q1, .ref q2, .ref q3, .ref q4, .ref q5, .ref q6, .int 0, .int 0, .ref q7, .int (-4), .int 0])), (q1, .inl (X.2.2.1.2.2.2.1, 203, .inr (.inl (fun _ => 0)))), (q2, .inl (X.2.2.1.2.2.2.1, 203, .inr (.inl (fun _ => 0)))), (q3, .inl (X.2.2.1.2.2.1, 1568, .inl (fun _ => 0))), (q4, .inl (X.2.2.1.2.2.1, 7, .inl (fun _ => 0))), (q5, .inr (5, [.ref (u1 0), .int 0, .int 0, .int 0, .int 0, .int 0, .long 0])), ((u1 0), .inl (X.2.2.1.2.2.1, 7, .inl (fun _ => 0))), (q6, .inr (5, [.ref (u2 0), .int 0, .int 0, .int 0, .int 0, .int 0, .long 0])), ((u2 0), .inl (X.2.2.1.2.2.1, 7, .inl (fun _ => 0))), (q7, .inl (X.2.2.1.2.2.1, 28, .inl (fun _ => 0)))] rfl ?_
  refine n_part (ws' := [(h0, .inr (3, [.ref q1, .ref q2, .ref q3, .ref q4, .ref q5, .ref q6, .int 0, .int 0, .ref q7, .int (-4), .int 0])), (q1, .inl (X.2.2.1.2.2.2.1, 203, .inr (.inl (fun _ => 0)))), (q2, .inl (X.2.2.1.2.2.2.1, 203, .inr (.inl (fun _ => 0)))), (q3, .inl (X.2.2.1.2.2.1, 1568, .inl (fun _ => 0))), (q4, .inl (X.2.2.1.2.2.1, 7, .inl (fun _ => 0))), (q5, .inr (5, [.ref (u1 0), .int 0, .int 0, .int 0, .int 0, .int 0, .long 0])), ((u1 0), .inl (X.2.2.1.2.2.1, 7, .inl (fun _ => 0))), (q6, .inr (5, [.ref (u2 0), .int 0, .int 0, .int 0, .int 0, .int 0, .long 0])), ((u2 0), .inl (X.2.2.1.2.2.1, 7, .inl (fun _ => 0))), (q7, .inl (X.2.2.1.2.2.1, 28, .inl (fun _ => 0)))]) [0, 1, 2, 3, 4, 5, 6, 7, 8, 9] rfl rfl ?_
  exact n_vret E hR (fun i => [q1, q2, q3, q4, q5, (u1 0), q6, (u2 0), q7].getD i 0) rfl rfl rfl di_Search_90
def rm_Measles : Room := { frames := 1, cells := 2, slots := 14, locals := 40 }
def P_Measles (h0 : Nat) (w : WDt) (u : Nat → Nat) : va_W := [(h0, .inr (0, [.ref (u 0), .ref (u 1), .long 1])), ((u 0), .inl (w.2.2.2.1, 7, .inr (.inl (fun _ => 0)))), ((u 1), .inl (w.2.2.2.1, 7, .inr (.inl (fun _ => 0))))]
theorem md_Measles_init : MDi ⟨"BellSchool$Measles", "<init>", "()V"⟩ prog_2_method_1_code 1 0 := ⟨nw82, nw83, nw84, by decide, by decide, by decide +kernel⟩
theorem c_Measles_init (h0 : Nat) : CTR ⟨"BellSchool$Measles", "<init>", "()V"⟩ prog_2_method_1_code 1 rm_Measles [.ref h0] [(h0, .inr (0, [.null, .null, .long 0]))] (fun _ U => NW U) (fun w u z => z = P_Measles h0 w u) := by
  refine ct_of (by decide) rfl (Nat.le_of_ble_eq_true rfl) (fun A X E hA hR hin hN => ?_)
  replace E : NE X prog_2_method_1_code "BellSchool$Measles" 1 rm_Measles := E
  show NV A X 0 [(0, .ref h0)] [] [(h0, .inr (0, [.null, .null, .long 0]))] 0 0
  refine n_aloadn E di_Measles_0 rfl 0 rfl ?_
  refine n_objInit E nw78 nw1 nw2 di_Measles_1 (Nat.le_of_ble_eq_true rfl) (Nat.le_of_ble_eq_true rfl) ?_
  refine n_aloadn E di_Measles_4 rfl 0 rfl ?_
  refine n_bipush (v := 7) E di_Measles_5 (by decide) ?_
  refine n_newL E hA nw30 7 (by decide) (by decide) (Nat.le_of_ble_eq_true rfl) (Nat.le_of_ble_eq_true rfl) (Nat.le_of_ble_eq_true rfl) di_Measles_7 (fun q1 => ?_)
  refine n_world (ws' := [(h0, .inr (0, [.null, .null, .long 0])), (q1, .inl (X.2.2.1.2.2.2.1, 7, .inr (.inl (fun _ => 0))))]) rfl ?_
  refine n_put E cf0 0 rfl 0 (by decide) rfl (Or.inr ⟨hin, rfl⟩) nw79 rfl rfl (Nat.le_of_ble_eq_true rfl) di_Measles_9 [(h0, .inr (0, [.ref q1, .null, .long 0])), (q1, .inl (X.2.2.1.2.2.2.1, 7, .inr (.inl (fun _ => 0))))] rfl ?_
  refine n_aloadn E di_Measles_12 rfl 0 rfl ?_
  refine n_bipush (v := 7) E di_Measles_13 (by decide) ?_
  refine n_newL E hA nw30 7 (by decide) (by decide) (Nat.le_of_ble_eq_true rfl) (Nat.le_of_ble_eq_true rfl) (Nat.le_of_ble_eq_true rfl) di_Measles_15 (fun q2 => ?_)
  refine n_world (ws' := [(h0, .inr (0, [.ref q1, .null, .long 0])), (q1, .inl (X.2.2.1.2.2.2.1, 7, .inr (.inl (fun _ => 0)))), (q2, .inl (X.2.2.1.2.2.2.1, 7, .inr (.inl (fun _ => 0))))]) rfl ?_
  refine n_put E cf0 0 rfl 1 (by decide) rfl (Or.inr ⟨hin, rfl⟩) nw80 rfl rfl (Nat.le_of_ble_eq_true rfl) di_Measles_17 [(h0, .inr (0, [.ref q1, .ref q2, .long 0])), (q1, .inl (X.2.2.1.2.2.2.1, 7, .inr (.inl (fun _ => 0)))), (q2, .inl (X.2.2.1.2.2.2.1, 7, .inr (.inl (fun _ => 0))))] rfl ?_
  refine n_aloadn E di_Measles_20 rfl 0 rfl ?_
  refine n_lconst (v := 1) E di_Measles_21 (by decide) ?_
  refine n_put E cf0 0 rfl 2 (by decide) rfl (Or.inl rfl) nw81 rfl rfl (Nat.le_of_ble_eq_true rfl) di_Measles_22 [(h0, .inr (0, [.ref q1, .ref q2, .long 1])), (q1, .inl (X.2.2.1.2.2.2.1, 7, .inr (.inl (fun _ => 0)))), (q2, .inl (X.2.2.1.2.2.2.1, 7, .inr (.inl (fun _ => 0))))] rfl ?_
  refine n_part (ws' := [(h0, .inr (0, [.ref q1, .ref q2, .long 1])), (q1, .inl (X.2.2.1.2.2.2.1, 7, .inr (.inl (fun _ => 0)))), (q2, .inl (X.2.2.1.2.2.2.1, 7, .inr (.inl (fun _ => 0))))]) [0, 1, 2] rfl rfl ?_
  exact n_vret E hR (fun i => [q1, q2].getD i 0) rfl rfl rfl di_Measles_25
