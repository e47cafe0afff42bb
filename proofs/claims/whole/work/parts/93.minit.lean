/-! ===== printed by wip/whole/gen4.py: the reference begins ===== -/
theorem dM0_182 : decode prog_11_method_1_code 182 = .ok (.aload_n 0, 1) := by decide +kernel
theorem dM0_183 : decode prog_11_method_1_code 183 = .ok (.invokevirtual 77, 3) := by decide +kernel
theorem lM0_anew : Cond.methodLink "BellSchoolModel" 77 ⟨"BellSchoolModel", "anew", "()V"⟩ ∈ TB := tb_in (lw_i4 26 rfl) rfl
theorem dM0_186 : decode prog_11_method_1_code 186 = .ok (.aload_n 0, 1) := by decide +kernel
theorem dM0_187 : decode prog_11_method_1_code 187 = .ok (.iconst 0, 1) := by decide +kernel
theorem dM0_188 : decode prog_11_method_1_code 188 = .ok (.iconst 5, 1) := by decide +kernel
theorem dM0_189 : decode prog_11_method_1_code 189 = .ok (.invokevirtual 80, 3) := by decide +kernel
theorem lM0_comesHome : Cond.methodLink "BellSchoolModel" 80 ⟨"BellSchoolModel", "comesHome", "(II)V"⟩ ∈ TB := tb_in (lw_i4 30 rfl) rfl
theorem dM0_192 : decode prog_11_method_1_code 192 = .ok (.aload_n 0, 1) := by decide +kernel
theorem dM0_193 : decode prog_11_method_1_code 193 = .ok (.iconst 1, 1) := by decide +kernel
theorem dM0_194 : decode prog_11_method_1_code 194 = .ok (.bipush 10, 2) := by decide +kernel
theorem dM0_196 : decode prog_11_method_1_code 196 = .ok (.invokevirtual 80, 3) := by decide +kernel
theorem dM0_199 : decode prog_11_method_1_code 199 = .ok (.aload_n 0, 1) := by decide +kernel
theorem dM0_200 : decode prog_11_method_1_code 200 = .ok (.iconst 2, 1) := by decide +kernel
theorem dM0_201 : decode prog_11_method_1_code 201 = .ok (.bipush 8, 2) := by decide +kernel
theorem dM0_203 : decode prog_11_method_1_code 203 = .ok (.invokevirtual 80, 3) := by decide +kernel
theorem dM0_206 : decode prog_11_method_1_code 206 = .ok (.aload_n 0, 1) := by decide +kernel
theorem dM0_207 : decode prog_11_method_1_code 207 = .ok (.iconst 0, 1) := by decide +kernel
theorem dM0_208 : decode prog_11_method_1_code 208 = .ok (.bipush 20, 2) := by decide +kernel
theorem dM0_210 : decode prog_11_method_1_code 210 = .ok (.invokevirtual 80, 3) := by decide +kernel
theorem dM0_213 : decode prog_11_method_1_code 213 = .ok (.aload_n 0, 1) := by decide +kernel
theorem dM0_214 : decode prog_11_method_1_code 214 = .ok (.iconst 3, 1) := by decide +kernel
theorem dM0_215 : decode prog_11_method_1_code 215 = .ok (.iconst 0, 1) := by decide +kernel
theorem dM0_216 : decode prog_11_method_1_code 216 = .ok (.invokevirtual 80, 3) := by decide +kernel
theorem dM0_219 : decode prog_11_method_1_code 219 = .ok (.aload_n 0, 1) := by decide +kernel
theorem dM0_220 : decode prog_11_method_1_code 220 = .ok (.iconst 0, 1) := by decide +kernel
theorem dM0_221 : decode prog_11_method_1_code 221 = .ok (.bipush 12, 2) := by decide +kernel
theorem dM0_223 : decode prog_11_method_1_code 223 = .ok (.invokevirtual 80, 3) := by decide +kernel
theorem dM0_226 : decode prog_11_method_1_code 226 = .ok (.aload_n 0, 1) := by decide +kernel
theorem dM0_227 : decode prog_11_method_1_code 227 = .ok (.iconst 0, 1) := by decide +kernel
theorem dM0_228 : decode prog_11_method_1_code 228 = .ok (.iconst 1, 1) := by decide +kernel
theorem dM0_229 : decode prog_11_method_1_code 229 = .ok (.bipush 10, 2) := by decide +kernel
theorem dM0_231 : decode prog_11_method_1_code 231 = .ok (.invokevirtual 84, 3) := by decide +kernel
theorem lM0_joins : Cond.methodLink "BellSchoolModel" 84 ⟨"BellSchoolModel", "joins", "(III)V"⟩ ∈ TB := tb_in (lw_i4 34 rfl) rfl
theorem dM0_234 : decode prog_11_method_1_code 234 = .ok (.aload_n 0, 1) := by decide +kernel
theorem dM0_235 : decode prog_11_method_1_code 235 = .ok (.iconst 1, 1) := by decide +kernel
theorem dM0_236 : decode prog_11_method_1_code 236 = .ok (.iconst 2, 1) := by decide +kernel
theorem dM0_237 : decode prog_11_method_1_code 237 = .ok (.bipush 15, 2) := by decide +kernel
theorem dM0_239 : decode prog_11_method_1_code 239 = .ok (.invokevirtual 84, 3) := by decide +kernel
theorem dM0_242 : decode prog_11_method_1_code 242 = .ok (.aload_n 0, 1) := by decide +kernel
theorem dM0_243 : decode prog_11_method_1_code 243 = .ok (.iconst 2, 1) := by decide +kernel
theorem dM0_244 : decode prog_11_method_1_code 244 = .ok (.iconst 3, 1) := by decide +kernel
theorem dM0_245 : decode prog_11_method_1_code 245 = .ok (.bipush 20, 2) := by decide +kernel
theorem dM0_247 : decode prog_11_method_1_code 247 = .ok (.invokevirtual 84, 3) := by decide +kernel
theorem dM0_250 : decode prog_11_method_1_code 250 = .ok (.aload_n 0, 1) := by decide +kernel
theorem dM0_251 : decode prog_11_method_1_code 251 = .ok (.iconst 3, 1) := by decide +kernel
theorem dM0_252 : decode prog_11_method_1_code 252 = .ok (.iconst 4, 1) := by decide +kernel
theorem dM0_253 : decode prog_11_method_1_code 253 = .ok (.bipush 10, 2) := by decide +kernel
theorem dM0_255 : decode prog_11_method_1_code 255 = .ok (.invokevirtual 84, 3) := by decide +kernel
theorem dM0_258 : decode prog_11_method_1_code 258 = .ok (.aload_n 0, 1) := by decide +kernel
theorem dM0_259 : decode prog_11_method_1_code 259 = .ok (.iconst 4, 1) := by decide +kernel
theorem dM0_260 : decode prog_11_method_1_code 260 = .ok (.iconst 0, 1) := by decide +kernel
theorem dM0_261 : decode prog_11_method_1_code 261 = .ok (.bipush 25, 2) := by decide +kernel
theorem dM0_263 : decode prog_11_method_1_code 263 = .ok (.invokevirtual 84, 3) := by decide +kernel
theorem dM0_266 : decode prog_11_method_1_code 266 = .ok (.aload_n 0, 1) := by decide +kernel
theorem dM0_267 : decode prog_11_method_1_code 267 = .ok (.iconst 4, 1) := by decide +kernel
theorem dM0_268 : decode prog_11_method_1_code 268 = .ok (.iconst 5, 1) := by decide +kernel
theorem dM0_269 : decode prog_11_method_1_code 269 = .ok (.bipush 8, 2) := by decide +kernel
theorem dM0_271 : decode prog_11_method_1_code 271 = .ok (.invokevirtual 84, 3) := by decide +kernel
theorem dM0_274 : decode prog_11_method_1_code 274 = .ok (.aload_n 0, 1) := by decide +kernel
theorem dM0_275 : decode prog_11_method_1_code 275 = .ok (.iconst 2, 1) := by decide +kernel
theorem dM0_276 : decode prog_11_method_1_code 276 = .ok (.iconst 5, 1) := by decide +kernel
theorem dM0_277 : decode prog_11_method_1_code 277 = .ok (.bipush 30, 2) := by decide +kernel
theorem dM0_279 : decode prog_11_method_1_code 279 = .ok (.invokevirtual 84, 3) := by decide +kernel
theorem dM0_282 : decode prog_11_method_1_code 282 = .ok (.aload_n 0, 1) := by decide +kernel
theorem dM0_283 : decode prog_11_method_1_code 283 = .ok (.iconst 0, 1) := by decide +kernel
theorem dM0_284 : decode prog_11_method_1_code 284 = .ok (.iconst 1, 1) := by decide +kernel
theorem dM0_285 : decode prog_11_method_1_code 285 = .ok (.iconst 3, 1) := by decide +kernel
theorem dM0_286 : decode prog_11_method_1_code 286 = .ok (.bipush 9, 2) := by decide +kernel
theorem dM0_288 : decode prog_11_method_1_code 288 = .ok (.invokevirtual 88, 3) := by decide +kernel
theorem lM0_snows : Cond.methodLink "BellSchoolModel" 88 ⟨"BellSchoolModel", "snows", "(IIII)V"⟩ ∈ TB := tb_in (lw_i4 38 rfl) rfl
theorem dM0_291 : decode prog_11_method_1_code 291 = .ok (.aload_n 0, 1) := by decide +kernel
theorem dM0_292 : decode prog_11_method_1_code 292 = .ok (.iconst 4, 1) := by decide +kernel
theorem dM0_293 : decode prog_11_method_1_code 293 = .ok (.iconst 5, 1) := by decide +kernel
theorem dM0_294 : decode prog_11_method_1_code 294 = .ok (.iconst 5, 1) := by decide +kernel
theorem dM0_295 : decode prog_11_method_1_code 295 = .ok (.bipush 6, 2) := by decide +kernel
theorem dM0_297 : decode prog_11_method_1_code 297 = .ok (.invokevirtual 88, 3) := by decide +kernel
theorem dM0_300 : decode prog_11_method_1_code 300 = .ok (.aload_n 0, 1) := by decide +kernel
theorem dM0_301 : decode prog_11_method_1_code 301 = .ok (.bipush 55, 2) := by decide +kernel
theorem dM0_303 : decode prog_11_method_1_code 303 = .ok (.putfield 92, 3) := by decide +kernel
theorem lM0_put : Cond.fieldLink "BellSchoolModel" 92 "BellSchoolModel" "readMost" "I" ∈ TB := tb_in (lw_i4 51 rfl) rfl
theorem dM0_306 : decode prog_11_method_1_code 306 = .ok (.aload_n 0, 1) := by decide +kernel
theorem dM0_307 : decode prog_11_method_1_code 307 = .ok (.invokevirtual 96, 3) := by decide +kernel
theorem lM0_laid : Cond.methodLink "BellSchoolModel" 96 ⟨"BellSchoolModel", "laid", "()V"⟩ ∈ TB := tb_in (lw_i4 42 rfl) rfl
theorem dM0_310 : decode prog_11_method_1_code 310 = .ok (.return_, 1) := by decide +kernel
def dm0 : DT := dt0
def dm1 : DT := dHome dm0 0 5
def dm2 : DT := dHome dm1 1 10
def dm3 : DT := dHome dm2 2 8
def dm4 : DT := dHome dm3 0 20
def dm5 : DT := dHome dm4 3 0
def dm6 : DT := dHome dm5 0 12
def dm7 : DT := dWay dm6 0 1 10
def dm8 : DT := dWay dm7 1 2 15
def dm9 : DT := dWay dm8 2 3 20
def dm10 : DT := dWay dm9 3 4 10
def dm11 : DT := dWay dm10 4 0 25
def dm12 : DT := dWay dm11 4 5 8
def dm13 : DT := dWay dm12 2 5 30
def dm14 : DT := dSnow dm13 0 1 3 9
def dm15 : DT := dSnow dm14 4 5 5 6
theorem dm_X : dMost dm15 55 = dX := rfl
theorem DM_most {σ : MS} {d : DT} (h : DM σ d ∧ gI σ 0 0 = 0 ∧ gI σ 0 23 = 0) : DM (sI σ 0 5 55) (dMost d 55) ∧ gI (sI σ 0 5 55) 0 0 = 0 ∧ gI (sI σ 0 5 55) 0 23 = 0 := by
  obtain ⟨⟨⟨d1, d2, d3⟩, d4, d5⟩, h0, h23⟩ := h
  refine ⟨⟨⟨?_, ?_, ?_⟩, fun i i1 i2 => ?_, fun a b a1 a2 b1 b2 => ?_⟩, by rw [gI_nj (by decide)]; exact h0, by rw [gI_nj (by decide)]; exact h23⟩
  · rw [gI_nj (by decide)]; exact d1
  · rw [gI_nj (by decide)]; exact d2
  · rw [gI_eq]; rfl
  · rw [gI_nk (by decide), gI_nk (by decide)]; exact d4 i i1 i2
  · rw [gI_nk (by decide), gI_nk (by decide), gI_nk (by decide)]; exact d5 a b a1 a2 b1 b2
theorem s0M_WT : WT dscM s0M := ⟨fun _ _ => (by decide : Rng 0), fun k j d h => by
  have e : ∀ k : Fin 23, noR dscM[k.val]? = true := by decide +kernel
  by_cases hk : k < 23
  · rw [rreq_no (e ⟨k, hk⟩) j] at h
    cases h
  · have : rreq dscM k j = none := rreq_no (by rw [show dscM[k]? = none from List.getElem?_eq_none (by show 23 ≤ k; omega)]; rfl) j
    rw [this] at h
    cases h⟩
def EM (A : Nat → Prop) (U : State) : Prop := SZ A U U.heap
def w1M (h0 : Nat) (w : WDt) (u : Nat → Nat) (z : va_W) : Prop := u 0 = h0 ∧ ∃ σ, z = wl dscM (w.1, u, w.2.2) σ ∧ WT dscM σ ∧ MI σ A0
theorem M_tail {A : Nat → Prop} {X : XC} {ad : Nat → Nat} {h0 : Nat} (E : NE X prog_11_method_1_code "BellSchoolModel" 1 rm_M) (hZ : EM A X.1.2.2.2.2.1) (hR : NR A X (w1M h0) rm_M) (h : ad 0 = h0) : NV A X 182 [(0, .ref (ad 0))] [] (wl dscM (wX X ad) s0M) 22 28267 := by
  have hW0 := s0M_WT
  refine n_aloadn E dM0_182 rfl 0 rfl ?_
  refine n_callV (wf := []) (wr := []) (b0 := 0) (As := fun _ => []) E hZ hW0 md_M_anew (c_M_anew  s0M (fun z => DM z dt0 ∧ gI z 0 0 = 0 ∧ gI z 0 23 = 0) (sp_anew (fun z hR hD => ⟨hD, (hR.2 0 (by decide)).trans rfl, (hR.2 23 (by decide)).trans rfl⟩))) dM_0 rfl ⟨Nat.le_of_ble_eq_true rfl, Nat.le_of_ble_eq_true rfl⟩ lM0_anew dM0_183 (fun _ => rfl) rfl (Nat.le_of_ble_eq_true rfl) ⟨Nat.le_of_ble_eq_true rfl, Nat.le_of_ble_eq_true rfl⟩ (by simp) (fun σ1 hD1 hW1 => ?_)
  refine n_world (ws' := wl dscM (wX X ad) σ1) (by simp) ?_
  replace hD1 : DM σ1 dm0 ∧ gI σ1 0 0 = 0 ∧ gI σ1 0 23 = 0 := hD1
  refine n_aloadn E dM0_186 rfl 0 rfl ?_
  refine n_iconst (v := iI 0) E dM0_187 (by decide) ?_
  refine n_iconst (v := iI 5) E dM0_188 (by decide) ?_
  refine n_callV (wf := []) (wr := []) (b0 := 0) (As := fun _ => [.int (iI 0), .int (iI 5)]) E hZ hW1 md_M_comesHome (c_M_comesHome 0 (by decide) 5 (by decide) σ1 (fun z => DM z (dHome dm0 0 5) ∧ gI z 0 0 = 0 ∧ gI z 0 23 = 0) (sp_comesHome hD1.1 (by decide +kernel) (fun z hR hD => ⟨hD, (hR.2 0 (by decide)).trans hD1.2.1, (hR.2 23 (by decide)).trans hD1.2.2⟩))) dM_0 rfl ⟨Nat.le_of_ble_eq_true rfl, Nat.le_of_ble_eq_true rfl⟩ lM0_comesHome dM0_189 (fun _ => rfl) rfl (Nat.le_of_ble_eq_true rfl) ⟨Nat.le_of_ble_eq_true rfl, Nat.le_of_ble_eq_true rfl⟩ (by simp) (fun σ2 hD2 hW2 => ?_)
  refine n_world (ws' := wl dscM (wX X ad) σ2) (by simp) ?_
  replace hD2 : DM σ2 dm1 ∧ gI σ2 0 0 = 0 ∧ gI σ2 0 23 = 0 := hD2
  refine n_aloadn E dM0_192 rfl 0 rfl ?_
  refine n_iconst (v := iI 1) E dM0_193 (by decide) ?_
  refine n_bipush (v := iI 10) E dM0_194 (by decide) ?_
  refine n_callV (wf := []) (wr := []) (b0 := 0) (As := fun _ => [.int (iI 1), .int (iI 10)]) E hZ hW2 md_M_comesHome (c_M_comesHome 1 (by decide) 10 (by decide) σ2 (fun z => DM z (dHome dm1 1 10) ∧ gI z 0 0 = 0 ∧ gI z 0 23 = 0) (sp_comesHome hD2.1 (by decide +kernel) (fun z hR hD => ⟨hD, (hR.2 0 (by decide)).trans hD2.2.1, (hR.2 23 (by decide)).trans hD2.2.2⟩))) dM_0 rfl ⟨Nat.le_of_ble_eq_true rfl, Nat.le_of_ble_eq_true rfl⟩ lM0_comesHome dM0_196 (fun _ => rfl) rfl (Nat.le_of_ble_eq_true rfl) ⟨Nat.le_of_ble_eq_true rfl, Nat.le_of_ble_eq_true rfl⟩ (by simp) (fun σ3 hD3 hW3 => ?_)
  refine n_world (ws' := wl dscM (wX X ad) σ3) (by simp) ?_
  replace hD3 : DM σ3 dm2 ∧ gI σ3 0 0 = 0 ∧ gI σ3 0 23 = 0 := hD3
  refine n_aloadn E dM0_199 rfl 0 rfl ?_
  refine n_iconst (v := iI 2) E dM0_200 (by decide) ?_
  refine n_bipush (v := iI 8) E dM0_201 (by decide) ?_
  refine n_callV (wf := []) (wr := []) (b0 := 0) (As := fun _ => [.int (iI 2), .int (iI 8)]) E hZ hW3 md_M_comesHome (c_M_comesHome 2 (by decide) 8 (by decide) σ3 (fun z => DM z (dHome dm2 2 8) ∧ gI z 0 0 = 0 ∧ gI z 0 23 = 0) (sp_comesHome hD3.1 (by decide +kernel) (fun z hR hD => ⟨hD, (hR.2 0 (by decide)).trans hD3.2.1, (hR.2 23 (by decide)).trans hD3.2.2⟩))) dM_0 rfl ⟨Nat.le_of_ble_eq_true rfl, Nat.le_of_ble_eq_true rfl⟩ lM0_comesHome dM0_203 (fun _ => rfl) rfl (Nat.le_of_ble_eq_true rfl) ⟨Nat.le_of_ble_eq_true rfl, Nat.le_of_ble_eq_true rfl⟩ (by simp) (fun σ4 hD4 hW4 => ?_)
  refine n_world (ws' := wl dscM (wX X ad) σ4) (by simp) ?_
  replace hD4 : DM σ4 dm3 ∧ gI σ4 0 0 = 0 ∧ gI σ4 0 23 = 0 := hD4
  refine n_aloadn E dM0_206 rfl 0 rfl ?_
  refine n_iconst (v := iI 0) E dM0_207 (by decide) ?_
  refine n_bipush (v := iI 20) E dM0_208 (by decide) ?_
  refine n_callV (wf := []) (wr := []) (b0 := 0) (As := fun _ => [.int (iI 0), .int (iI 20)]) E hZ hW4 md_M_comesHome (c_M_comesHome 0 (by decide) 20 (by decide) σ4 (fun z => DM z (dHome dm3 0 20) ∧ gI z 0 0 = 0 ∧ gI z 0 23 = 0) (sp_comesHome hD4.1 (by decide +kernel) (fun z hR hD => ⟨hD, (hR.2 0 (by decide)).trans hD4.2.1, (hR.2 23 (by decide)).trans hD4.2.2⟩))) dM_0 rfl ⟨Nat.le_of_ble_eq_true rfl, Nat.le_of_ble_eq_true rfl⟩ lM0_comesHome dM0_210 (fun _ => rfl) rfl (Nat.le_of_ble_eq_true rfl) ⟨Nat.le_of_ble_eq_true rfl, Nat.le_of_ble_eq_true rfl⟩ (by simp) (fun σ5 hD5 hW5 => ?_)
  refine n_world (ws' := wl dscM (wX X ad) σ5) (by simp) ?_
  replace hD5 : DM σ5 dm4 ∧ gI σ5 0 0 = 0 ∧ gI σ5 0 23 = 0 := hD5
  refine n_aloadn E dM0_213 rfl 0 rfl ?_
  refine n_iconst (v := iI 3) E dM0_214 (by decide) ?_
  refine n_iconst (v := iI 0) E dM0_215 (by decide) ?_
  refine n_callV (wf := []) (wr := []) (b0 := 0) (As := fun _ => [.int (iI 3), .int (iI 0)]) E hZ hW5 md_M_comesHome (c_M_comesHome 3 (by decide) 0 (by decide) σ5 (fun z => DM z (dHome dm4 3 0) ∧ gI z 0 0 = 0 ∧ gI z 0 23 = 0) (sp_comesHome hD5.1 (by decide +kernel) (fun z hR hD => ⟨hD, (hR.2 0 (by decide)).trans hD5.2.1, (hR.2 23 (by decide)).trans hD5.2.2⟩))) dM_0 rfl ⟨Nat.le_of_ble_eq_true rfl, Nat.le_of_ble_eq_true rfl⟩ lM0_comesHome dM0_216 (fun _ => rfl) rfl (Nat.le_of_ble_eq_true rfl) ⟨Nat.le_of_ble_eq_true rfl, Nat.le_of_ble_eq_true rfl⟩ (by simp) (fun σ6 hD6 hW6 => ?_)
  refine n_world (ws' := wl dscM (wX X ad) σ6) (by simp) ?_
  replace hD6 : DM σ6 dm5 ∧ gI σ6 0 0 = 0 ∧ gI σ6 0 23 = 0 := hD6
  refine n_aloadn E dM0_219 rfl 0 rfl ?_
  refine n_iconst (v := iI 0) E dM0_220 (by decide) ?_
  refine n_bipush (v := iI 12) E dM0_221 (by decide) ?_
  refine n_callV (wf := []) (wr := []) (b0 := 0) (As := fun _ => [.int (iI 0), .int (iI 12)]) E hZ hW6 md_M_comesHome (c_M_comesHome 0 (by decide) 12 (by decide) σ6 (fun z => DM z (dHome dm5 0 12) ∧ gI z 0 0 = 0 ∧ gI z 0 23 = 0) (sp_comesHome hD6.1 (by decide +kernel) (fun z hR hD => ⟨hD, (hR.2 0 (by decide)).trans hD6.2.1, (hR.2 23 (by decide)).trans hD6.2.2⟩))) dM_0 rfl ⟨Nat.le_of_ble_eq_true rfl, Nat.le_of_ble_eq_true rfl⟩ lM0_comesHome dM0_223 (fun _ => rfl) rfl (Nat.le_of_ble_eq_true rfl) ⟨Nat.le_of_ble_eq_true rfl, Nat.le_of_ble_eq_true rfl⟩ (by simp) (fun σ7 hD7 hW7 => ?_)
  refine n_world (ws' := wl dscM (wX X ad) σ7) (by simp) ?_
  replace hD7 : DM σ7 dm6 ∧ gI σ7 0 0 = 0 ∧ gI σ7 0 23 = 0 := hD7
  refine n_aloadn E dM0_226 rfl 0 rfl ?_
  refine n_iconst (v := iI 0) E dM0_227 (by decide) ?_
  refine n_iconst (v := iI 1) E dM0_228 (by decide) ?_
  refine n_bipush (v := iI 10) E dM0_229 (by decide) ?_
  refine n_callV (wf := []) (wr := []) (b0 := 0) (As := fun _ => [.int (iI 0), .int (iI 1), .int (iI 10)]) E hZ hW7 md_M_joins (c_M_joins 0 (by decide) 1 (by decide) 10 (by decide) σ7 (fun z => DM z (dWay dm6 0 1 10) ∧ gI z 0 0 = 0 ∧ gI z 0 23 = 0) (sp_joins hD7.1 (by decide) (fun z hR hD => ⟨hD, (hR.2 0 (by decide)).trans hD7.2.1, (hR.2 23 (by decide)).trans hD7.2.2⟩))) dM_0 rfl ⟨Nat.le_of_ble_eq_true rfl, Nat.le_of_ble_eq_true rfl⟩ lM0_joins dM0_231 (fun _ => rfl) rfl (Nat.le_of_ble_eq_true rfl) ⟨Nat.le_of_ble_eq_true rfl, Nat.le_of_ble_eq_true rfl⟩ (by simp) (fun σ8 hD8 hW8 => ?_)
  refine n_world (ws' := wl dscM (wX X ad) σ8) (by simp) ?_
  replace hD8 : DM σ8 dm7 ∧ gI σ8 0 0 = 0 ∧ gI σ8 0 23 = 0 := hD8
  refine n_aloadn E dM0_234 rfl 0 rfl ?_
  refine n_iconst (v := iI 1) E dM0_235 (by decide) ?_
  refine n_iconst (v := iI 2) E dM0_236 (by decide) ?_
  refine n_bipush (v := iI 15) E dM0_237 (by decide) ?_
  refine n_callV (wf := []) (wr := []) (b0 := 0) (As := fun _ => [.int (iI 1), .int (iI 2), .int (iI 15)]) E hZ hW8 md_M_joins (c_M_joins 1 (by decide) 2 (by decide) 15 (by decide) σ8 (fun z => DM z (dWay dm7 1 2 15) ∧ gI z 0 0 = 0 ∧ gI z 0 23 = 0) (sp_joins hD8.1 (by decide) (fun z hR hD => ⟨hD, (hR.2 0 (by decide)).trans hD8.2.1, (hR.2 23 (by decide)).trans hD8.2.2⟩))) dM_0 rfl ⟨Nat.le_of_ble_eq_true rfl, Nat.le_of_ble_eq_true rfl⟩ lM0_joins dM0_239 (fun _ => rfl) rfl (Nat.le_of_ble_eq_true rfl) ⟨Nat.le_of_ble_eq_true rfl, Nat.le_of_ble_eq_true rfl⟩ (by simp) (fun σ9 hD9 hW9 => ?_)
  refine n_world (ws' := wl dscM (wX X ad) σ9) (by simp) ?_
  replace hD9 : DM σ9 dm8 ∧ gI σ9 0 0 = 0 ∧ gI σ9 0 23 = 0 := hD9
  refine n_aloadn E dM0_242 rfl 0 rfl ?_
  refine n_iconst (v := iI 2) E dM0_243 (by decide) ?_
  refine n_iconst (v := iI 3) E dM0_244 (by decide) ?_
  refine n_bipush (v := iI 20) E dM0_245 (by decide) ?_
  refine n_callV (wf := []) (wr := []) (b0 := 0) (As := fun _ => [.int (iI 2), .int (iI 3), .int (iI 20)]) E hZ hW9 md_M_joins (c_M_joins 2 (by decide) 3 (by decide) 20 (by decide) σ9 (fun z => DM z (dWay dm8 2 3 20) ∧ gI z 0 0 = 0 ∧ gI z 0 23 = 0) (sp_joins hD9.1 (by decide) (fun z hR hD => ⟨hD, (hR.2 0 (by decide)).trans hD9.2.1, (hR.2 23 (by decide)).trans hD9.2.2⟩))) dM_0 rfl ⟨Nat.le_of_ble_eq_true rfl, Nat.le_of_ble_eq_true rfl⟩ lM0_joins dM0_247 (fun _ => rfl) rfl (Nat.le_of_ble_eq_true rfl) ⟨Nat.le_of_ble_eq_true rfl, Nat.le_of_ble_eq_true rfl⟩ (by simp) (fun σ10 hD10 hW10 => ?_)
  refine n_world (ws' := wl dscM (wX X ad) σ10) (by simp) ?_
  replace hD10 : DM σ10 dm9 ∧ gI σ10 0 0 = 0 ∧ gI σ10 0 23 = 0 := hD10
  refine n_aloadn E dM0_250 rfl 0 rfl ?_
  refine n_iconst (v := iI 3) E dM0_251 (by decide) ?_
  refine n_iconst (v := iI 4) E dM0_252 (by decide) ?_
  refine n_bipush (v := iI 10) E dM0_253 (by decide) ?_
  refine n_callV (wf := []) (wr := []) (b0 := 0) (As := fun _ => [.int (iI 3), .int (iI 4), .int (iI 10)]) E hZ hW10 md_M_joins (c_M_joins 3 (by decide) 4 (by decide) 10 (by decide) σ10 (fun z => DM z (dWay dm9 3 4 10) ∧ gI z 0 0 = 0 ∧ gI z 0 23 = 0) (sp_joins hD10.1 (by decide) (fun z hR hD => ⟨hD, (hR.2 0 (by decide)).trans hD10.2.1, (hR.2 23 (by decide)).trans hD10.2.2⟩))) dM_0 rfl ⟨Nat.le_of_ble_eq_true rfl, Nat.le_of_ble_eq_true rfl⟩ lM0_joins dM0_255 (fun _ => rfl) rfl (Nat.le_of_ble_eq_true rfl) ⟨Nat.le_of_ble_eq_true rfl, Nat.le_of_ble_eq_true rfl⟩ (by simp) (fun σ11 hD11 hW11 => ?_)
  refine n_world (ws' := wl dscM (wX X ad) σ11) (by simp) ?_
  replace hD11 : DM σ11 dm10 ∧ gI σ11 0 0 = 0 ∧ gI σ11 0 23 = 0 := hD11
  refine n_aloadn E dM0_258 rfl 0 rfl ?_
  refine n_iconst (v := iI 4) E dM0_259 (by decide) ?_
  refine n_iconst (v := iI 0) E dM0_260 (by decide) ?_
  refine n_bipush (v := iI 25) E dM0_261 (by decide) ?_
  refine n_callV (wf := []) (wr := []) (b0 := 0) (As := fun _ => [.int (iI 4), .int (iI 0), .int (iI 25)]) E hZ hW11 md_M_joins (c_M_joins 4 (by decide) 0 (by decide) 25 (by decide) σ11 (fun z => DM z (dWay dm10 4 0 25) ∧ gI z 0 0 = 0 ∧ gI z 0 23 = 0) (sp_joins hD11.1 (by decide) (fun z hR hD => ⟨hD, (hR.2 0 (by decide)).trans hD11.2.1, (hR.2 23 (by decide)).trans hD11.2.2⟩))) dM_0 rfl ⟨Nat.le_of_ble_eq_true rfl, Nat.le_of_ble_eq_true rfl⟩ lM0_joins dM0_263 (fun _ => rfl) rfl (Nat.le_of_ble_eq_true rfl) ⟨Nat.le_of_ble_eq_true rfl, Nat.le_of_ble_eq_true rfl⟩ (by simp) (fun σ12 hD12 hW12 => ?_)
  refine n_world (ws' := wl dscM (wX X ad) σ12) (by simp) ?_
  replace hD12 : DM σ12 dm11 ∧ gI σ12 0 0 = 0 ∧ gI σ12 0 23 = 0 := hD12
  refine n_aloadn E dM0_266 rfl 0 rfl ?_
  refine n_iconst (v := iI 4) E dM0_267 (by decide) ?_
  refine n_iconst (v := iI 5) E dM0_268 (by decide) ?_
  refine n_bipush (v := iI 8) E dM0_269 (by decide) ?_
  refine n_callV (wf := []) (wr := []) (b0 := 0) (As := fun _ => [.int (iI 4), .int (iI 5), .int (iI 8)]) E hZ hW12 md_M_joins (c_M_joins 4 (by decide) 5 (by decide) 8 (by decide) σ12 (fun z => DM z (dWay dm11 4 5 8) ∧ gI z 0 0 = 0 ∧ gI z 0 23 = 0) (sp_joins hD12.1 (by decide) (fun z hR hD => ⟨hD, (hR.2 0 (by decide)).trans hD12.2.1, (hR.2 23 (by decide)).trans hD12.2.2⟩))) dM_0 rfl ⟨Nat.le_of_ble_eq_true rfl, Nat.le_of_ble_eq_true rfl⟩ lM0_joins dM0_271 (fun _ => rfl) rfl (Nat.le_of_ble_eq_true rfl) ⟨Nat.le_of_ble_eq_true rfl, Nat.le_of_ble_eq_true rfl⟩ (by simp) (fun σ13 hD13 hW13 => ?_)
  refine n_world (ws' := wl dscM (wX X ad) σ13) (by simp) ?_
  replace hD13 : DM σ13 dm12 ∧ gI σ13 0 0 = 0 ∧ gI σ13 0 23 = 0 := hD13
  refine n_aloadn E dM0_274 rfl 0 rfl ?_
  refine n_iconst (v := iI 2) E dM0_275 (by decide) ?_
  refine n_iconst (v := iI 5) E dM0_276 (by decide) ?_
  refine n_bipush (v := iI 30) E dM0_277 (by decide) ?_
  refine n_callV (wf := []) (wr := []) (b0 := 0) (As := fun _ => [.int (iI 2), .int (iI 5), .int (iI 30)]) E hZ hW13 md_M_joins (c_M_joins 2 (by decide) 5 (by decide) 30 (by decide) σ13 (fun z => DM z (dWay dm12 2 5 30) ∧ gI z 0 0 = 0 ∧ gI z 0 23 = 0) (sp_joins hD13.1 (by decide) (fun z hR hD => ⟨hD, (hR.2 0 (by decide)).trans hD13.2.1, (hR.2 23 (by decide)).trans hD13.2.2⟩))) dM_0 rfl ⟨Nat.le_of_ble_eq_true rfl, Nat.le_of_ble_eq_true rfl⟩ lM0_joins dM0_279 (fun _ => rfl) rfl (Nat.le_of_ble_eq_true rfl) ⟨Nat.le_of_ble_eq_true rfl, Nat.le_of_ble_eq_true rfl⟩ (by simp) (fun σ14 hD14 hW14 => ?_)
  refine n_world (ws' := wl dscM (wX X ad) σ14) (by simp) ?_
  replace hD14 : DM σ14 dm13 ∧ gI σ14 0 0 = 0 ∧ gI σ14 0 23 = 0 := hD14
  refine n_aloadn E dM0_282 rfl 0 rfl ?_
  refine n_iconst (v := iI 0) E dM0_283 (by decide) ?_
  refine n_iconst (v := iI 1) E dM0_284 (by decide) ?_
  refine n_iconst (v := iI 3) E dM0_285 (by decide) ?_
  refine n_bipush (v := iI 9) E dM0_286 (by decide) ?_
  refine n_callV (wf := []) (wr := []) (b0 := 0) (As := fun _ => [.int (iI 0), .int (iI 1), .int (iI 3), .int (iI 9)]) E hZ hW14 md_M_snows (c_M_snows 0 (by decide) 1 (by decide) 3 (by decide) 9 (by decide) σ14 (fun z => DM z (dSnow dm13 0 1 3 9) ∧ gI z 0 0 = 0 ∧ gI z 0 23 = 0) (sp_snows hD14.1 (by decide) (fun z hR hD => ⟨hD, (hR.2 0 (by decide)).trans hD14.2.1, (hR.2 23 (by decide)).trans hD14.2.2⟩))) dM_0 rfl ⟨Nat.le_of_ble_eq_true rfl, Nat.le_of_ble_eq_true rfl⟩ lM0_snows dM0_288 (fun _ => rfl) rfl (Nat.le_of_ble_eq_true rfl) ⟨Nat.le_of_ble_eq_true rfl, Nat.le_of_ble_eq_true rfl⟩ (by simp) (fun σ15 hD15 hW15 => ?_)
  refine n_world (ws' := wl dscM (wX X ad) σ15) (by simp) ?_
  replace hD15 : DM σ15 dm14 ∧ gI σ15 0 0 = 0 ∧ gI σ15 0 23 = 0 := hD15
  refine n_aloadn E dM0_291 rfl 0 rfl ?_
  refine n_iconst (v := iI 4) E dM0_292 (by decide) ?_
  refine n_iconst (v := iI 5) E dM0_293 (by decide) ?_
  refine n_iconst (v := iI 5) E dM0_294 (by decide) ?_
  refine n_bipush (v := iI 6) E dM0_295 (by decide) ?_
  refine n_callV (wf := []) (wr := []) (b0 := 0) (As := fun _ => [.int (iI 4), .int (iI 5), .int (iI 5), .int (iI 6)]) E hZ hW15 md_M_snows (c_M_snows 4 (by decide) 5 (by decide) 5 (by decide) 6 (by decide) σ15 (fun z => DM z (dSnow dm14 4 5 5 6) ∧ gI z 0 0 = 0 ∧ gI z 0 23 = 0) (sp_snows hD15.1 (by decide) (fun z hR hD => ⟨hD, (hR.2 0 (by decide)).trans hD15.2.1, (hR.2 23 (by decide)).trans hD15.2.2⟩))) dM_0 rfl ⟨Nat.le_of_ble_eq_true rfl, Nat.le_of_ble_eq_true rfl⟩ lM0_snows dM0_297 (fun _ => rfl) rfl (Nat.le_of_ble_eq_true rfl) ⟨Nat.le_of_ble_eq_true rfl, Nat.le_of_ble_eq_true rfl⟩ (by simp) (fun σ16 hD16 hW16 => ?_)
  refine n_world (ws' := wl dscM (wX X ad) σ16) (by simp) ?_
  replace hD16 : DM σ16 dm15 ∧ gI σ16 0 0 = 0 ∧ gI σ16 0 23 = 0 := hD16
  refine n_aloadn E dM0_300 rfl 0 rfl ?_
  refine n_bipush (v := iI 55) E dM0_301 (by decide) ?_
  refine n_putW (x := 55) E cf9 dM_0 5 (by decide) rfl rfl lM0_put dM0_303 rfl rfl rfl rfl ?_
  have hW17 := WT_sI hW16 0 5 (show Rng 55 by decide)
  have hD17 := DM_most hD16
  rw [dm_X] at hD17
  generalize sI σ16 0 5 55 = σ17 at hW17 hD17 ⊢
  refine n_aloadn E dM0_306 rfl 0 rfl ?_
  have hF := DM_first hD17.1
  refine n_callV (wf := []) (wr := []) (b0 := 0) (As := fun _ => []) E hZ hW17 md_M_laid (c_M_laid  σ17 (fun z => MI z A0) (sp_laid hF ft_WFD (by rw [ft_1.2.1, ft_1.2.2.1]; decide) (f := fun _ => 0) ⟨hD17.2.1, ⟨by decide, by decide⟩, fun i i1 i2 => absurd i2 (by omega)⟩ (by rw [hD17.2.2]; decide) (fun z hz => hz _ _ _ _))) dM_0 rfl ⟨Nat.le_of_ble_eq_true rfl, Nat.le_of_ble_eq_true rfl⟩ lM0_laid dM0_307 (fun _ => rfl) rfl (Nat.le_of_ble_eq_true rfl) ⟨Nat.le_of_ble_eq_true rfl, Nat.le_of_ble_eq_true rfl⟩ (by simp) (fun σ18 hD18 hW18 => ?_)
  refine n_world (ws' := wl dscM (wX X ad) σ18) (by simp) ?_
  exact n_vret E hR ad ⟨h, _, rfl, hW18, hD18⟩ rfl rfl dM0_310
theorem c_BellSchoolModel_init (h0 : Nat) : CTR ⟨"BellSchoolModel", "<init>", "()V"⟩ prog_11_method_1_code 1 rm_M [.ref h0] [(h0, .inr (9, [.int 0, .null, .int 0, .int 0, .int 0, .int 0, .null, .null, .null, .null, .null, .null, .int 0, .int 0, .null, .null, .null, .null, .null, .null, .null, .null, .int 0, .int 0, .null, .null, .null, .int 0, .null, .null, .null, .int 0, .null]))] EM (w1M h0) := by
  refine ct_of (by decide) rfl (Nat.le_of_ble_eq_true rfl) (fun A X E hA hR hin hEx => ?_)
  exact w0_M A X h0 E hA hin (fun ad had => M_tail E hEx hR had)
