/-! ===== printed by wip/whole/gen5.py: the law's rows ===== -/
theorem dL_0 : decode code 0 = .ok (.new 7, 3) := by decide +kernel
theorem dL_3 : decode code 3 = .ok (.dup, 1) := by decide +kernel
theorem dL_4 : decode code 4 = .ok (.invokespecial 9, 3) := by decide +kernel
theorem dL_7 : decode code 7 = .ok (.astore_n 1, 1) := by decide +kernel
theorem dL_8 : decode code 8 = .ok (.new 10, 3) := by decide +kernel
theorem dL_11 : decode code 11 = .ok (.dup, 1) := by decide +kernel
theorem dL_12 : decode code 12 = .ok (.invokespecial 12, 3) := by decide +kernel
theorem dL_15 : decode code 15 = .ok (.astore_n 2, 1) := by decide +kernel
theorem dL_16 : decode code 16 = .ok (.iconst 0, 1) := by decide +kernel
theorem dL_17 : decode code 17 = .ok (.istore_n 3, 1) := by decide +kernel
theorem dL_18 : decode code 18 = .ok (.iload_n 3, 1) := by decide +kernel
theorem dL_19 : decode code 19 = .ok (.aload_n 0, 1) := by decide +kernel
theorem dL_20 : decode code 20 = .ok (.arraylength, 1) := by decide +kernel
theorem dL_21 : decode code 21 = .ok (.iconst 5, 1) := by decide +kernel
theorem dL_22 : decode code 22 = .ok (.isub, 1) := by decide +kernel
theorem dL_23 : decode code 23 = .ok (.if_icmp .gt 768, 3) := by decide +kernel
theorem dL_26 : decode code 26 = .ok (.aload_n 0, 1) := by decide +kernel
theorem dL_27 : decode code 27 = .ok (.iload_n 3, 1) := by decide +kernel
theorem dL_28 : decode code 28 = .ok (.iaload, 1) := by decide +kernel
theorem dL_29 : decode code 29 = .ok (.bipush 31, 2) := by decide +kernel
theorem dL_31 : decode code 31 = .ok (.iand, 1) := by decide +kernel
theorem dL_32 : decode code 32 = .ok (.tableswitch 753 0 27 #[128, 151, 164, 177, 190, 223, 266, 299, 322, 335, 358, 381, 404, 437, 450, 473, 486, 509, 522, 535, 568, 581, 594, 607, 661, 704, 717, 730], 128) := by decide +kernel
theorem dL_160 : decode code 160 = .ok (.aload_n 1, 1) := by decide +kernel
theorem dL_161 : decode code 161 = .ok (.aload_n 0, 1) := by decide +kernel
theorem dL_162 : decode code 162 = .ok (.iload_n 3, 1) := by decide +kernel
theorem dL_163 : decode code 163 = .ok (.iconst 1, 1) := by decide +kernel
theorem dL_164 : decode code 164 = .ok (.iadd, 1) := by decide +kernel
theorem dL_165 : decode code 165 = .ok (.iaload, 1) := by decide +kernel
theorem dL_166 : decode code 166 = .ok (.invokevirtual 13, 3) := by decide +kernel
theorem dL_169 : decode code 169 = .ok (.aload_n 2, 1) := by decide +kernel
theorem dL_170 : decode code 170 = .ok (.aload_n 0, 1) := by decide +kernel
theorem dL_171 : decode code 171 = .ok (.iload_n 3, 1) := by decide +kernel
theorem dL_172 : decode code 172 = .ok (.iconst 1, 1) := by decide +kernel
theorem dL_173 : decode code 173 = .ok (.iadd, 1) := by decide +kernel
theorem dL_174 : decode code 174 = .ok (.iaload, 1) := by decide +kernel
theorem dL_175 : decode code 175 = .ok (.invokevirtual 17, 3) := by decide +kernel
theorem dL_178 : decode code 178 = .ok (.if_icmp .eq 607, 3) := by decide +kernel
theorem dL_183 : decode code 183 = .ok (.aload_n 1, 1) := by decide +kernel
theorem dL_184 : decode code 184 = .ok (.invokevirtual 18, 3) := by decide +kernel
theorem dL_187 : decode code 187 = .ok (.aload_n 2, 1) := by decide +kernel
theorem dL_188 : decode code 188 = .ok (.invokevirtual 22, 3) := by decide +kernel
theorem dL_191 : decode code 191 = .ok (.if_icmp .eq 594, 3) := by decide +kernel
theorem dL_196 : decode code 196 = .ok (.aload_n 1, 1) := by decide +kernel
theorem dL_197 : decode code 197 = .ok (.invokevirtual 23, 3) := by decide +kernel
theorem dL_200 : decode code 200 = .ok (.aload_n 2, 1) := by decide +kernel
theorem dL_201 : decode code 201 = .ok (.invokevirtual 26, 3) := by decide +kernel
theorem dL_204 : decode code 204 = .ok (.if_icmp .eq 581, 3) := by decide +kernel
theorem dL_209 : decode code 209 = .ok (.aload_n 1, 1) := by decide +kernel
theorem dL_210 : decode code 210 = .ok (.invokevirtual 27, 3) := by decide +kernel
theorem dL_213 : decode code 213 = .ok (.aload_n 2, 1) := by decide +kernel
theorem dL_214 : decode code 214 = .ok (.invokevirtual 30, 3) := by decide +kernel
theorem dL_217 : decode code 217 = .ok (.if_icmp .eq 568, 3) := by decide +kernel
theorem dL_222 : decode code 222 = .ok (.aload_n 1, 1) := by decide +kernel
theorem dL_223 : decode code 223 = .ok (.aload_n 0, 1) := by decide +kernel
theorem dL_224 : decode code 224 = .ok (.iload_n 3, 1) := by decide +kernel
theorem dL_225 : decode code 225 = .ok (.iconst 1, 1) := by decide +kernel
theorem dL_226 : decode code 226 = .ok (.iadd, 1) := by decide +kernel
theorem dL_227 : decode code 227 = .ok (.iaload, 1) := by decide +kernel
theorem dL_228 : decode code 228 = .ok (.aload_n 0, 1) := by decide +kernel
theorem dL_229 : decode code 229 = .ok (.iload_n 3, 1) := by decide +kernel
