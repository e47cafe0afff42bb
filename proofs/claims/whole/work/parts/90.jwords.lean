/-! ===== printed by wip/whole/gen3.py: words and rows of the JDK's own methods ===== -/
abbrev yj_len : MethodName := ⟨"java/lang/String", "length", "()I"⟩
abbrev yj_cod : MethodName := ⟨"java/lang/String", "coder", "()B"⟩
abbrev yj_cha : MethodName := ⟨"java/lang/String", "charAt", "(I)C"⟩
abbrev yj_isl : MethodName := ⟨"java/lang/String", "isLatin1", "()Z"⟩
abbrev yj_chk : MethodName := ⟨"java/lang/String", "checkIndex", "(II)V"⟩
abbrev yj_lch : MethodName := ⟨"java/lang/StringLatin1", "charAt", "([BI)C"⟩
abbrev yj_pch : MethodName := ⟨"jdk/internal/util/Preconditions", "checkIndex", "(IILjava/util/function/BiFunction;)I"⟩
-- ('java/lang/String', 'length', '()I') prog_15_method_54_code maxl 1 (some .int)
theorem jc_len : Cond.code yj_len prog_15_method_54_code 1 (some .int) ∈ TB := tb_in (lw_i2 25 rfl) rfl
theorem jm_len : Cond.instanceMethod yj_len ∈ TB := tb_in (lw_i2 23 rfl) rfl
theorem jx_len : Cond.selects "java/lang/String" yj_len yj_len ∈ TB := tb_in (lw_i2 24 rfl) rfl
theorem ji_len : Cond.initialized "java/lang/String" ∈ TB := tb_in (lw_i1 11 rfl) rfl
theorem jd_len : MDv yj_len prog_15_method_54_code 1 (some .int) 0 := ⟨jc_len, jm_len, jx_len, ji_len, by decide, by decide, by decide +kernel⟩
theorem dj_len_0 : decode prog_15_method_54_code 0 = .ok (.aload_n 0, 1) := by decide +kernel
theorem dj_len_1 : decode prog_15_method_54_code 1 = .ok (.getfield 9, 3) := by decide +kernel
theorem jf_len_1 : Cond.fieldLink "java/lang/String" 9 "java/lang/String" "value" "[B" ∈ TB := tb_in (lw_i5 145 rfl) rfl
theorem dj_len_4 : decode prog_15_method_54_code 4 = .ok (.arraylength, 1) := by decide +kernel
theorem dj_len_5 : decode prog_15_method_54_code 5 = .ok (.aload_n 0, 1) := by decide +kernel
theorem dj_len_6 : decode prog_15_method_54_code 6 = .ok (.invokevirtual 335, 3) := by decide +kernel
theorem jl_len_cod : Cond.methodLink "java/lang/String" 335 yj_cod ∈ TB := tb_in (lw_i2 26 rfl) rfl
theorem dj_len_9 : decode prog_15_method_54_code 9 = .ok (.ishr, 1) := by decide +kernel
theorem dj_len_10 : decode prog_15_method_54_code 10 = .ok (.ireturn, 1) := by decide +kernel
-- ('java/lang/String', 'coder', '()B') prog_15_method_152_code maxl 1 (some .byte)
theorem jc_cod : Cond.code yj_cod prog_15_method_152_code 1 (some .byte) ∈ TB := tb_in (lw_i2 29 rfl) rfl
theorem jm_cod : Cond.instanceMethod yj_cod ∈ TB := tb_in (lw_i2 27 rfl) rfl
theorem jx_cod : Cond.selects "java/lang/String" yj_cod yj_cod ∈ TB := tb_in (lw_i2 28 rfl) rfl
theorem ji_cod : Cond.initialized "java/lang/String" ∈ TB := tb_in (lw_i1 11 rfl) rfl
theorem jd_cod : MDv yj_cod prog_15_method_152_code 1 (some .byte) 0 := ⟨jc_cod, jm_cod, jx_cod, ji_cod, by decide, by decide, by decide +kernel⟩
theorem dj_cod_0 : decode prog_15_method_152_code 0 = .ok (.getstatic 38, 3) := by decide +kernel
theorem jf_cod_0 : Cond.fieldLink "java/lang/String" 38 "java/lang/String" "COMPACT_STRINGS" "Z" ∈ TB := tb_in (lw_i2 30 rfl) rfl
theorem dj_cod_3 : decode prog_15_method_152_code 3 = .ok (.ifCond .eq 10, 3) := by decide +kernel
theorem dj_cod_6 : decode prog_15_method_152_code 6 = .ok (.aload_n 0, 1) := by decide +kernel
theorem dj_cod_7 : decode prog_15_method_152_code 7 = .ok (.getfield 15, 3) := by decide +kernel
theorem jf_cod_7 : Cond.fieldLink "java/lang/String" 15 "java/lang/String" "coder" "B" ∈ TB := tb_in (lw_i5 146 rfl) rfl
theorem dj_cod_10 : decode prog_15_method_152_code 10 = .ok (.goto 4, 3) := by decide +kernel
theorem dj_cod_13 : decode prog_15_method_152_code 13 = .ok (.iconst 1, 1) := by decide +kernel
theorem dj_cod_14 : decode prog_15_method_152_code 14 = .ok (.ireturn, 1) := by decide +kernel
-- ('java/lang/String', 'charAt', '(I)C') prog_15_method_56_code maxl 2 (some .char)
theorem jc_cha : Cond.code yj_cha prog_15_method_56_code 2 (some .char) ∈ TB := tb_in (lw_i2 35 rfl) rfl
theorem jm_cha : Cond.instanceMethod yj_cha ∈ TB := tb_in (lw_i2 33 rfl) rfl
theorem jx_cha : Cond.selects "java/lang/String" yj_cha yj_cha ∈ TB := tb_in (lw_i2 34 rfl) rfl
theorem ji_cha : Cond.initialized "java/lang/String" ∈ TB := tb_in (lw_i1 11 rfl) rfl
theorem jd_cha : MDv yj_cha prog_15_method_56_code 2 (some .char) 1 := ⟨jc_cha, jm_cha, jx_cha, ji_cha, by decide, by decide, by decide +kernel⟩
theorem dj_cha_0 : decode prog_15_method_56_code 0 = .ok (.aload_n 0, 1) := by decide +kernel
theorem dj_cha_1 : decode prog_15_method_56_code 1 = .ok (.invokevirtual 492, 3) := by decide +kernel
theorem jl_cha_isl : Cond.methodLink "java/lang/String" 492 yj_isl ∈ TB := tb_in (lw_i2 36 rfl) rfl
theorem dj_cha_4 : decode prog_15_method_56_code 4 = .ok (.ifCond .eq 12, 3) := by decide +kernel
theorem dj_cha_7 : decode prog_15_method_56_code 7 = .ok (.aload_n 0, 1) := by decide +kernel
theorem dj_cha_8 : decode prog_15_method_56_code 8 = .ok (.getfield 9, 3) := by decide +kernel
theorem jf_cha_8 : Cond.fieldLink "java/lang/String" 9 "java/lang/String" "value" "[B" ∈ TB := tb_in (lw_i5 145 rfl) rfl
theorem dj_cha_11 : decode prog_15_method_56_code 11 = .ok (.iload_n 1, 1) := by decide +kernel
theorem dj_cha_12 : decode prog_15_method_56_code 12 = .ok (.invokestatic 495, 3) := by decide +kernel
theorem jl_cha_lch : Cond.methodLink "java/lang/String" 495 yj_lch ∈ TB := tb_in (lw_i2 40 rfl) rfl
theorem dj_cha_15 : decode prog_15_method_56_code 15 = .ok (.ireturn, 1) := by decide +kernel
-- ('java/lang/String', 'isLatin1', '()Z') prog_15_method_154_code maxl 1 (some .boolean)
theorem jc_isl : Cond.code yj_isl prog_15_method_154_code 1 (some .boolean) ∈ TB := tb_in (lw_i2 39 rfl) rfl
theorem jm_isl : Cond.instanceMethod yj_isl ∈ TB := tb_in (lw_i2 37 rfl) rfl
theorem jx_isl : Cond.selects "java/lang/String" yj_isl yj_isl ∈ TB := tb_in (lw_i2 38 rfl) rfl
theorem ji_isl : Cond.initialized "java/lang/String" ∈ TB := tb_in (lw_i1 11 rfl) rfl
theorem jd_isl : MDv yj_isl prog_15_method_154_code 1 (some .boolean) 0 := ⟨jc_isl, jm_isl, jx_isl, ji_isl, by decide, by decide, by decide +kernel⟩
theorem dj_isl_0 : decode prog_15_method_154_code 0 = .ok (.getstatic 38, 3) := by decide +kernel
theorem jf_isl_0 : Cond.fieldLink "java/lang/String" 38 "java/lang/String" "COMPACT_STRINGS" "Z" ∈ TB := tb_in (lw_i2 30 rfl) rfl
theorem dj_isl_3 : decode prog_15_method_154_code 3 = .ok (.ifCond .eq 14, 3) := by decide +kernel
theorem dj_isl_6 : decode prog_15_method_154_code 6 = .ok (.aload_n 0, 1) := by decide +kernel
theorem dj_isl_7 : decode prog_15_method_154_code 7 = .ok (.getfield 15, 3) := by decide +kernel
theorem jf_isl_7 : Cond.fieldLink "java/lang/String" 15 "java/lang/String" "coder" "B" ∈ TB := tb_in (lw_i5 146 rfl) rfl
theorem dj_isl_10 : decode prog_15_method_154_code 10 = .ok (.ifCond .ne 7, 3) := by decide +kernel
theorem dj_isl_13 : decode prog_15_method_154_code 13 = .ok (.iconst 1, 1) := by decide +kernel
theorem dj_isl_14 : decode prog_15_method_154_code 14 = .ok (.goto 4, 3) := by decide +kernel
theorem dj_isl_17 : decode prog_15_method_154_code 17 = .ok (.iconst 0, 1) := by decide +kernel
theorem dj_isl_18 : decode prog_15_method_154_code 18 = .ok (.ireturn, 1) := by decide +kernel
-- ('java/lang/String', 'checkIndex', '(II)V') prog_15_method_155_code maxl 2 none
theorem jc_chk : Cond.code yj_chk prog_15_method_155_code 2 none ∈ TB := tb_in (lw_i2 45 rfl) rfl
theorem js_chk : Cond.static yj_chk ∈ TB := tb_in (lw_i2 44 rfl) rfl
theorem ji_chk : Cond.initialized "java/lang/String" ∈ TB := tb_in (lw_i1 11 rfl) rfl
theorem jd_chk : MDs yj_chk prog_15_method_155_code 2 none 2 := ⟨jc_chk, js_chk, ji_chk, by decide, by decide, by decide +kernel⟩
theorem dj_chk_0 : decode prog_15_method_155_code 0 = .ok (.iload_n 0, 1) := by decide +kernel
theorem dj_chk_1 : decode prog_15_method_155_code 1 = .ok (.iload_n 1, 1) := by decide +kernel
theorem dj_chk_2 : decode prog_15_method_155_code 2 = .ok (.getstatic 1053, 3) := by decide +kernel
theorem jf_chk_2 : Cond.fieldLink "java/lang/String" 1053 "jdk/internal/util/Preconditions" "SIOOBE_FORMATTER" "Ljava/util/function/BiFunction;" ∈ TB := tb_in (lw_i2 46 rfl) rfl
theorem dj_chk_5 : decode prog_15_method_155_code 5 = .ok (.invokestatic 1059, 3) := by decide +kernel
theorem jl_chk_pch : Cond.methodLink "java/lang/String" 1059 yj_pch ∈ TB := tb_in (lw_i2 48 rfl) rfl
theorem dj_chk_8 : decode prog_15_method_155_code 8 = .ok (.pop, 1) := by decide +kernel
theorem dj_chk_9 : decode prog_15_method_155_code 9 = .ok (.return_, 1) := by decide +kernel
-- ('java/lang/StringLatin1', 'charAt', '([BI)C') prog_16_method_2_code maxl 2 (some .char)
theorem jc_lch : Cond.code yj_lch prog_16_method_2_code 2 (some .char) ∈ TB := tb_in (lw_i2 42 rfl) rfl
theorem js_lch : Cond.static yj_lch ∈ TB := tb_in (lw_i2 41 rfl) rfl
theorem ji_lch : Cond.initialized "java/lang/StringLatin1" ∈ TB := tb_in (lw_i1 12 rfl) rfl
theorem jd_lch : MDs yj_lch prog_16_method_2_code 2 (some .char) 2 := ⟨jc_lch, js_lch, ji_lch, by decide, by decide, by decide +kernel⟩
theorem dj_lch_0 : decode prog_16_method_2_code 0 = .ok (.iload_n 1, 1) := by decide +kernel
theorem dj_lch_1 : decode prog_16_method_2_code 1 = .ok (.aload_n 0, 1) := by decide +kernel
theorem dj_lch_2 : decode prog_16_method_2_code 2 = .ok (.arraylength, 1) := by decide +kernel
theorem dj_lch_3 : decode prog_16_method_2_code 3 = .ok (.invokestatic 9, 3) := by decide +kernel
theorem jl_lch_chk : Cond.methodLink "java/lang/StringLatin1" 9 yj_chk ∈ TB := tb_in (lw_i2 43 rfl) rfl
theorem dj_lch_6 : decode prog_16_method_2_code 6 = .ok (.aload_n 0, 1) := by decide +kernel
theorem dj_lch_7 : decode prog_16_method_2_code 7 = .ok (.iload_n 1, 1) := by decide +kernel
theorem dj_lch_8 : decode prog_16_method_2_code 8 = .ok (.baload, 1) := by decide +kernel
theorem dj_lch_9 : decode prog_16_method_2_code 9 = .ok (.sipush 255, 3) := by decide +kernel
theorem dj_lch_12 : decode prog_16_method_2_code 12 = .ok (.iand, 1) := by decide +kernel
theorem dj_lch_13 : decode prog_16_method_2_code 13 = .ok (.i2c, 1) := by decide +kernel
theorem dj_lch_14 : decode prog_16_method_2_code 14 = .ok (.ireturn, 1) := by decide +kernel
-- ('jdk/internal/util/Preconditions', 'checkIndex', '(IILjava/util/function/BiFunction;)I') prog_18_method_11_code maxl 3 (some .int)
theorem jc_pch : Cond.code yj_pch prog_18_method_11_code 3 (some .int) ∈ TB := tb_in (lw_i2 50 rfl) rfl
theorem js_pch : Cond.static yj_pch ∈ TB := tb_in (lw_i2 49 rfl) rfl
theorem ji_pch : Cond.initialized "jdk/internal/util/Preconditions" ∈ TB := tb_in (lw_i1 13 rfl) rfl
theorem jd_pch : MDs yj_pch prog_18_method_11_code 3 (some .int) 3 := ⟨jc_pch, js_pch, ji_pch, by decide, by decide, by decide +kernel⟩
theorem dj_pch_0 : decode prog_18_method_11_code 0 = .ok (.iload_n 0, 1) := by decide +kernel
theorem dj_pch_1 : decode prog_18_method_11_code 1 = .ok (.ifCond .lt 8, 3) := by decide +kernel
theorem dj_pch_4 : decode prog_18_method_11_code 4 = .ok (.iload_n 0, 1) := by decide +kernel
theorem dj_pch_5 : decode prog_18_method_11_code 5 = .ok (.iload_n 1, 1) := by decide +kernel
theorem dj_pch_6 : decode prog_18_method_11_code 6 = .ok (.if_icmp .lt 10, 3) := by decide +kernel
theorem dj_pch_16 : decode prog_18_method_11_code 16 = .ok (.iload_n 0, 1) := by decide +kernel
theorem dj_pch_17 : decode prog_18_method_11_code 17 = .ok (.ireturn, 1) := by decide +kernel
theorem dB_153 : decode prog_1_method_1_code 153 = .ok (.iconst 0, 1) := by decide +kernel
theorem dB_154 : decode prog_1_method_1_code 154 = .ok (.istore_n 1, 1) := by decide +kernel
theorem dB_155 : decode prog_1_method_1_code 155 = .ok (.iload_n 1, 1) := by decide +kernel
theorem dB_156 : decode prog_1_method_1_code 156 = .ok (.ldc 89, 2) := by decide +kernel
theorem dB_158 : decode prog_1_method_1_code 158 = .ok (.invokevirtual 91, 3) := by decide +kernel
-- ('java/lang/String', 'length', '()I')
theorem lB_158 : Cond.methodLink "BellSchool" 91 yj_len ∈ TB := tb_in (lw_i2 22 rfl) rfl
theorem dB_161 : decode prog_1_method_1_code 161 = .ok (.if_icmp .ge 23, 3) := by decide +kernel
theorem dB_164 : decode prog_1_method_1_code 164 = .ok (.aload_n 0, 1) := by decide +kernel
theorem dB_165 : decode prog_1_method_1_code 165 = .ok (.getfield 22, 3) := by decide +kernel
theorem lB_165 : Cond.fieldLink "BellSchool" 22 "BellSchool" "text" "LBellSchool$Text;" ∈ TB := tb_in (lw_i2 151 rfl) rfl
theorem dB_168 : decode prog_1_method_1_code 168 = .ok (.ldc 89, 2) := by decide +kernel
theorem dB_170 : decode prog_1_method_1_code 170 = .ok (.iload_n 1, 1) := by decide +kernel
theorem dB_171 : decode prog_1_method_1_code 171 = .ok (.invokevirtual 97, 3) := by decide +kernel
-- ('java/lang/String', 'charAt', '(I)C')
theorem lB_171 : Cond.methodLink "BellSchool" 97 yj_cha ∈ TB := tb_in (lw_i2 32 rfl) rfl
theorem dB_174 : decode prog_1_method_1_code 174 = .ok (.invokevirtual 101, 3) := by decide +kernel
-- ('BellSchool$Text', 'add', '(C)Z')
theorem lB_174 : Cond.methodLink "BellSchool" 101 ⟨"BellSchool$Text", "add", "(C)Z"⟩ ∈ TB := tb_in (lw_i2 70 rfl) rfl
theorem dB_177 : decode prog_1_method_1_code 177 = .ok (.pop, 1) := by decide +kernel
theorem dB_178 : decode prog_1_method_1_code 178 = .ok (.iinc 1 1, 3) := by decide +kernel
theorem dB_181 : decode prog_1_method_1_code 181 = .ok (.goto (-26), 3) := by decide +kernel
theorem dB_184 : decode prog_1_method_1_code 184 = .ok (.aload_n 0, 1) := by decide +kernel
theorem dB_185 : decode prog_1_method_1_code 185 = .ok (.invokevirtual 105, 3) := by decide +kernel
-- ('BellSchool', 'layText', '()Z')
theorem lB_185 : Cond.methodLink "BellSchool" 105 ⟨"BellSchool", "layText", "()Z"⟩ ∈ TB := tb_in (lw_i2 74 rfl) rfl
theorem dB_188 : decode prog_1_method_1_code 188 = .ok (.pop, 1) := by decide +kernel
theorem dB_189 : decode prog_1_method_1_code 189 = .ok (.aload_n 0, 1) := by decide +kernel
theorem dB_190 : decode prog_1_method_1_code 190 = .ok (.getfield 22, 3) := by decide +kernel
theorem lB_190 : Cond.fieldLink "BellSchool" 22 "BellSchool" "text" "LBellSchool$Text;" ∈ TB := tb_in (lw_i2 151 rfl) rfl
theorem dB_193 : decode prog_1_method_1_code 193 = .ok (.iconst 0, 1) := by decide +kernel
theorem dB_194 : decode prog_1_method_1_code 194 = .ok (.putfield 109, 3) := by decide +kernel
theorem lB_194 : Cond.fieldLink "BellSchool" 109 "BellSchool$Text" "length" "I" ∈ TB := tb_in (lw_i1 77 rfl) rfl
theorem dB_197 : decode prog_1_method_1_code 197 = .ok (.return_, 1) := by decide +kernel
