/-! ===== printed by wip/whole/gen5.py: each case of the law ===== -/
theorem ws1 (x : va_W) : x = [] ++ x := rfl
theorem ws2 (x y : va_W) : [] ++ (x ++ y) = x ++ (y ++ []) := by simp
theorem ws3 (x y : va_W) : x ++ (y ++ []) = x ++ y := by simp
section LC
variable {X : XC} {bS Ls : Nat} {xs : Nat → Int32} {adC adM : Nat → Nat} {a b : Nat} {i B : Int} {σ τ : MS} {AA : AT}
theorem law_write (E : NE X code "BellSchoolLaw" 4 room_1) (hZ : SZ (lA X) X.1.2.2.2.2.1 X.1.2.2.2.2.1.heap) (hX : va_X bS Ls xs X.1.2.2.2.2.1 X.1.2.2.2.2.1.heap) (hbl : bS < X.1.2.2.2.2.1.heap.size) (hbA : ¬ lA X bS) (ha : a ≤ 600000) (hb : b ≤ 7302250) (i0 : 0 ≤ i) (i1 : i + 5 ≤ Ls) (i2 : Ls ≤ 320) (IV : LI i B σ τ AA) (G : LG X adC adM a b bS i) : NV (lA X) X 160 (lL bS adC adM i) [] (wl dscC (wX X adC) σ ++ wl dscM (wX X adM) τ) a b := by
  obtain ⟨w1, w2, hC, hM, hW, b0, b1⟩ := IV
  refine n_aloadn E dL_160 rfl 2 rfl ?_
  refine n_arg E hX hbl hbA 1 (by omega) (by omega) dL_161 dL_162 dL_163 dL_164 dL_165 ?_
  refine n_callI (dsc := dscC) (ad := adC) (σ := σ) (wf := []) (wr := wl dscM (wX X adM) τ) (b0 := 0) (As := fun _ => [.int (iI (prm xs (i + 1)))]) E hZ w1 md_B_write (k_C_write (prm xs (i + 1)) (prm_R xs (i + 1)) hC hW ⟨by omega, by omega⟩) dC_0 rfl ⟨Nat.le_of_ble_eq_true rfl, Nat.le_of_ble_eq_true rfl⟩ lL_166 dL_166 (fun _ => rfl) rfl (Nat.le_of_ble_eq_true rfl) ⟨ha, hb⟩ (ws1 _) (fun r1 σ1 hr1 hq1 w3 => ?_)
  obtain ⟨e1, hC2⟩ := hq1
  refine n_aloadn E dL_169 rfl 1 rfl ?_
  refine n_arg E hX hbl hbA 1 (by omega) (by omega) dL_170 dL_171 dL_172 dL_173 dL_174 ?_
  refine n_callI (dsc := dscM) (ad := adM) (σ := τ) (wf := wl dscC (wX X adC) σ1) (wr := []) (b0 := 0) (As := fun _ => [.int (iI (prm xs (i + 1)))]) E hZ w2 md_M_write (k_M_write (prm xs (i + 1)) (prm_R xs (i + 1)) hM hW ⟨by omega, by omega⟩) dM_0 rfl ⟨Nat.le_of_ble_eq_true rfl, Nat.le_of_ble_eq_true rfl⟩ lL_175 dL_175 (fun _ => rfl) rfl (Nat.le_of_ble_eq_true rfl) ⟨ha, hb⟩ (ws2 _ _) (fun r2 τ1 hr2 hq2 w4 => ?_)
  obtain ⟨e2, hM2⟩ := hq2
  refine n_world (ws' := wl dscC (wX X adC) σ1 ++ wl dscM (wX X adM) τ1) (ws3 _ _) ?_
  have e : r1 = r2 := e1.trans e2.symm
  refine n_icmp_eq E 785 dL_178 (by decide) (fun _ => ?_) (fun c => absurd (congrArg iI e) c)
  exact G σ1 τ1 (nWrite AA (prm xs (i + 1))) B ⟨w3, w4, hC2, hM2, WK_write hW, by omega, by omega⟩
theorem law_wipe (E : NE X code "BellSchoolLaw" 4 room_1) (hZ : SZ (lA X) X.1.2.2.2.2.1 X.1.2.2.2.2.1.heap) (hX : va_X bS Ls xs X.1.2.2.2.2.1 X.1.2.2.2.2.1.heap) (hbl : bS < X.1.2.2.2.2.1.heap.size) (hbA : ¬ lA X bS) (ha : a ≤ 600000) (hb : b ≤ 7302250) (i0 : 0 ≤ i) (i1 : i + 5 ≤ Ls) (i2 : Ls ≤ 320) (IV : LI i B σ τ AA) (G : LG X adC adM a b bS i) : NV (lA X) X 183 (lL bS adC adM i) [] (wl dscC (wX X adC) σ ++ wl dscM (wX X adM) τ) a b := by
  obtain ⟨w1, w2, hC, hM, hW, b0, b1⟩ := IV
  refine n_aloadn E dL_183 rfl 2 rfl ?_
  refine n_callI (dsc := dscC) (ad := adC) (σ := σ) (wf := []) (wr := wl dscM (wX X adM) τ) (b0 := 0) (As := fun _ => []) E hZ w1 md_B_wipe (k_C_wipe  hC hW ⟨by omega, by omega⟩) dC_0 rfl ⟨Nat.le_of_ble_eq_true rfl, Nat.le_of_ble_eq_true rfl⟩ lL_184 dL_184 (fun _ => rfl) rfl (Nat.le_of_ble_eq_true rfl) ⟨ha, hb⟩ (ws1 _) (fun r1 σ1 hr1 hq1 w3 => ?_)
  obtain ⟨e1, hC2⟩ := hq1
  refine n_aloadn E dL_187 rfl 1 rfl ?_
  refine n_callI (dsc := dscM) (ad := adM) (σ := τ) (wf := wl dscC (wX X adC) σ1) (wr := []) (b0 := 0) (As := fun _ => []) E hZ w2 md_M_wipe (k_M_wipe  hM hW ⟨by omega, by omega⟩) dM_0 rfl ⟨Nat.le_of_ble_eq_true rfl, Nat.le_of_ble_eq_true rfl⟩ lL_188 dL_188 (fun _ => rfl) rfl (Nat.le_of_ble_eq_true rfl) ⟨ha, hb⟩ (ws2 _ _) (fun r2 τ1 hr2 hq2 w4 => ?_)
  obtain ⟨e2, hM2⟩ := hq2
  refine n_world (ws' := wl dscC (wX X adC) σ1 ++ wl dscM (wX X adM) τ1) (ws3 _ _) ?_
  have e : r1 = r2 := e1.trans e2.symm
  refine n_icmp_eq E 785 dL_191 (by decide) (fun _ => ?_) (fun c => absurd (congrArg iI e) c)
  exact G σ1 τ1 (nWipe AA) B ⟨w3, w4, hC2, hM2, WK_wipe hW, by omega, by omega⟩
theorem law_fault (E : NE X code "BellSchoolLaw" 4 room_1) (hZ : SZ (lA X) X.1.2.2.2.2.1 X.1.2.2.2.2.1.heap) (hX : va_X bS Ls xs X.1.2.2.2.2.1 X.1.2.2.2.2.1.heap) (hbl : bS < X.1.2.2.2.2.1.heap.size) (hbA : ¬ lA X bS) (ha : a ≤ 600000) (hb : b ≤ 7302250) (i0 : 0 ≤ i) (i1 : i + 5 ≤ Ls) (i2 : Ls ≤ 320) (IV : LI i B σ τ AA) (G : LG X adC adM a b bS i) : NV (lA X) X 196 (lL bS adC adM i) [] (wl dscC (wX X adC) σ ++ wl dscM (wX X adM) τ) a b := by
  obtain ⟨w1, w2, hC, hM, hW, b0, b1⟩ := IV
  refine n_aloadn E dL_196 rfl 2 rfl ?_
  refine n_callI (dsc := dscC) (ad := adC) (σ := σ) (wf := []) (wr := wl dscM (wX X adM) τ) (b0 := 0) (As := fun _ => []) E hZ w1 md_B_fault (k_C_fault  hC hW ⟨by omega, by omega⟩) dC_0 rfl ⟨Nat.le_of_ble_eq_true rfl, Nat.le_of_ble_eq_true rfl⟩ lL_197 dL_197 (fun _ => rfl) rfl (Nat.le_of_ble_eq_true rfl) ⟨ha, hb⟩ (ws1 _) (fun r1 σ1 hr1 hq1 w3 => ?_)
  obtain ⟨e1, hC2⟩ := hq1
  refine n_aloadn E dL_200 rfl 1 rfl ?_
  refine n_callI (dsc := dscM) (ad := adM) (σ := τ) (wf := wl dscC (wX X adC) σ1) (wr := []) (b0 := 0) (As := fun _ => []) E hZ w2 md_M_fault (k_M_fault  hM hW ⟨by omega, by omega⟩) dM_0 rfl ⟨Nat.le_of_ble_eq_true rfl, Nat.le_of_ble_eq_true rfl⟩ lL_201 dL_201 (fun _ => rfl) rfl (Nat.le_of_ble_eq_true rfl) ⟨ha, hb⟩ (ws2 _ _) (fun r2 τ1 hr2 hq2 w4 => ?_)
  obtain ⟨e2, hM2⟩ := hq2
  refine n_world (ws' := wl dscC (wX X adC) σ1 ++ wl dscM (wX X adM) τ1) (ws3 _ _) ?_
  have e : r1 = r2 := e1.trans e2.symm
  refine n_icmp_eq E 785 dL_204 (by decide) (fun _ => ?_) (fun c => absurd (congrArg iI e) c)
  exact G σ1 τ1 (AA) B ⟨w3, w4, hC2, hM2, hW, by omega, by omega⟩
theorem law_lay (E : NE X code "BellSchoolLaw" 4 room_1) (hZ : SZ (lA X) X.1.2.2.2.2.1 X.1.2.2.2.2.1.heap) (hX : va_X bS Ls xs X.1.2.2.2.2.1 X.1.2.2.2.2.1.heap) (hbl : bS < X.1.2.2.2.2.1.heap.size) (hbA : ¬ lA X bS) (ha : a ≤ 600000) (hb : b ≤ 7302250) (i0 : 0 ≤ i) (i1 : i + 5 ≤ Ls) (i2 : Ls ≤ 320) (IV : LI i B σ τ AA) (G : LG X adC adM a b bS i) : NV (lA X) X 209 (lL bS adC adM i) [] (wl dscC (wX X adC) σ ++ wl dscM (wX X adM) τ) a b := by
  obtain ⟨w1, w2, hC, hM, hW, b0, b1⟩ := IV
  refine n_aloadn E dL_209 rfl 2 rfl ?_
  refine n_callI (dsc := dscC) (ad := adC) (σ := σ) (wf := []) (wr := wl dscM (wX X adM) τ) (b0 := 0) (As := fun _ => []) E hZ w1 md_B_lay (k_C_lay  hC hW ⟨by omega, by omega⟩) dC_0 rfl ⟨Nat.le_of_ble_eq_true rfl, Nat.le_of_ble_eq_true rfl⟩ lL_210 dL_210 (fun _ => rfl) rfl (Nat.le_of_ble_eq_true rfl) ⟨ha, hb⟩ (ws1 _) (fun r1 σ1 hr1 hq1 w3 => ?_)
  obtain ⟨e1, hC2⟩ := hq1
  refine n_aloadn E dL_213 rfl 1 rfl ?_
  refine n_callI (dsc := dscM) (ad := adM) (σ := τ) (wf := wl dscC (wX X adC) σ1) (wr := []) (b0 := 0) (As := fun _ => []) E hZ w2 md_M_lay (k_M_lay  hM hW ⟨by omega, by omega⟩) dM_0 rfl ⟨Nat.le_of_ble_eq_true rfl, Nat.le_of_ble_eq_true rfl⟩ lL_214 dL_214 (fun _ => rfl) rfl (Nat.le_of_ble_eq_true rfl) ⟨ha, hb⟩ (ws2 _ _) (fun r2 τ1 hr2 hq2 w4 => ?_)
  obtain ⟨e2, hM2⟩ := hq2
  refine n_world (ws' := wl dscC (wX X adC) σ1 ++ wl dscM (wX X adM) τ1) (ws3 _ _) ?_
  have e : r1 = r2 := e1.trans e2.symm
  refine n_icmp_eq E 785 dL_217 (by decide) (fun _ => ?_) (fun c => absurd (congrArg iI e) c)
  exact G σ1 τ1 (nLay AA) B ⟨w3, w4, hC2, hM2, WK_lay hW b0, by omega, by omega⟩
theorem law_home (E : NE X code "BellSchoolLaw" 4 room_1) (hZ : SZ (lA X) X.1.2.2.2.2.1 X.1.2.2.2.2.1.heap) (hX : va_X bS Ls xs X.1.2.2.2.2.1 X.1.2.2.2.2.1.heap) (hbl : bS < X.1.2.2.2.2.1.heap.size) (hbA : ¬ lA X bS) (ha : a ≤ 600000) (hb : b ≤ 7302250) (i0 : 0 ≤ i) (i1 : i + 5 ≤ Ls) (i2 : Ls ≤ 320) (IV : LI i B σ τ AA) (G : LG X adC adM a b bS i) : NV (lA X) X 222 (lL bS adC adM i) [] (wl dscC (wX X adC) σ ++ wl dscM (wX X adM) τ) a b := by
  obtain ⟨w1, w2, hC, hM, hW, b0, b1⟩ := IV
  refine n_aloadn E dL_222 rfl 2 rfl ?_
  refine n_arg E hX hbl hbA 1 (by omega) (by omega) dL_223 dL_224 dL_225 dL_226 dL_227 ?_
  refine n_arg E hX hbl hbA 2 (by omega) (by omega) dL_228 dL_229 dL_230 dL_231 dL_232 ?_
  refine n_callI (dsc := dscC) (ad := adC) (σ := σ) (wf := []) (wr := wl dscM (wX X adM) τ) (b0 := 0) (As := fun _ => [.int (iI (prm xs (i + 1))), .int (iI (prm xs (i + 2)))]) E hZ w1 md_B_home (k_C_home (prm xs (i + 1)) (prm_R xs (i + 1)) (prm xs (i + 2)) (prm_R xs (i + 2)) hC hW ⟨by omega, by omega⟩) dC_0 rfl ⟨Nat.le_of_ble_eq_true rfl, Nat.le_of_ble_eq_true rfl⟩ lL_233 dL_233 (fun _ => rfl) rfl (Nat.le_of_ble_eq_true rfl) ⟨ha, hb⟩ (ws1 _) (fun r1 σ1 hr1 hq1 w3 => ?_)
  obtain ⟨e0, e1⟩ := hq1
  subst e0
  refine n_aloadn E dL_236 rfl 1 rfl ?_
  refine n_arg E hX hbl hbA 1 (by omega) (by omega) dL_237 dL_238 dL_239 dL_240 dL_241 ?_
  refine n_arg E hX hbl hbA 2 (by omega) (by omega) dL_242 dL_243 dL_244 dL_245 dL_246 ?_
  refine n_callI (dsc := dscM) (ad := adM) (σ := τ) (wf := wl dscC (wX X adC) σ1) (wr := []) (b0 := 0) (As := fun _ => [.int (iI (prm xs (i + 1))), .int (iI (prm xs (i + 2)))]) E hZ w2 md_M_home (k_M_home (prm xs (i + 1)) (prm_R xs (i + 1)) (prm xs (i + 2)) (prm_R xs (i + 2)) hM hW ⟨by omega, by omega⟩) dM_0 rfl ⟨Nat.le_of_ble_eq_true rfl, Nat.le_of_ble_eq_true rfl⟩ lL_247 dL_247 (fun _ => rfl) rfl (Nat.le_of_ble_eq_true rfl) ⟨ha, hb⟩ (ws2 _ _) (fun r2 τ1 hr2 hq2 w4 => ?_)
  obtain ⟨e0, e2⟩ := hq2
  subst e0
  refine n_world (ws' := wl dscC (wX X adC) σ1 ++ wl dscM (wX X adM) τ1) (ws3 _ _) ?_
  have e : r1 = r2 := e1.trans e2.symm
  refine n_icmp_eq E 785 dL_250 (by decide) (fun _ => ?_) (fun c => absurd (congrArg iI e) c)
  exact G σ1 τ1 (AA) B ⟨w3, w4, hC, hM, hW, by omega, by omega⟩
theorem law_way (E : NE X code "BellSchoolLaw" 4 room_1) (hZ : SZ (lA X) X.1.2.2.2.2.1 X.1.2.2.2.2.1.heap) (hX : va_X bS Ls xs X.1.2.2.2.2.1 X.1.2.2.2.2.1.heap) (hbl : bS < X.1.2.2.2.2.1.heap.size) (hbA : ¬ lA X bS) (ha : a ≤ 600000) (hb : b ≤ 7302250) (i0 : 0 ≤ i) (i1 : i + 5 ≤ Ls) (i2 : Ls ≤ 320) (IV : LI i B σ τ AA) (G : LG X adC adM a b bS i) : NV (lA X) X 255 (lL bS adC adM i) [] (wl dscC (wX X adC) σ ++ wl dscM (wX X adM) τ) a b := by
  obtain ⟨w1, w2, hC, hM, hW, b0, b1⟩ := IV
  refine n_aloadn E dL_255 rfl 2 rfl ?_
  refine n_arg E hX hbl hbA 1 (by omega) (by omega) dL_256 dL_257 dL_258 dL_259 dL_260 ?_
  refine n_arg E hX hbl hbA 2 (by omega) (by omega) dL_261 dL_262 dL_263 dL_264 dL_265 ?_
  refine n_arg E hX hbl hbA 3 (by omega) (by omega) dL_266 dL_267 dL_268 dL_269 dL_270 ?_
  refine n_callI (dsc := dscC) (ad := adC) (σ := σ) (wf := []) (wr := wl dscM (wX X adM) τ) (b0 := 0) (As := fun _ => [.int (iI (prm xs (i + 1))), .int (iI (prm xs (i + 2))), .int (iI (prm xs (i + 3)))]) E hZ w1 md_B_way (k_C_way (prm xs (i + 1)) (prm_R xs (i + 1)) (prm xs (i + 2)) (prm_R xs (i + 2)) (prm xs (i + 3)) (prm_R xs (i + 3)) hC hW ⟨by omega, by omega⟩) dC_0 rfl ⟨Nat.le_of_ble_eq_true rfl, Nat.le_of_ble_eq_true rfl⟩ lL_271 dL_271 (fun _ => rfl) rfl (Nat.le_of_ble_eq_true rfl) ⟨ha, hb⟩ (ws1 _) (fun r1 σ1 hr1 hq1 w3 => ?_)
  obtain ⟨e0, e1⟩ := hq1
  subst e0
  refine n_aloadn E dL_274 rfl 1 rfl ?_
  refine n_arg E hX hbl hbA 1 (by omega) (by omega) dL_275 dL_276 dL_277 dL_278 dL_279 ?_
  refine n_arg E hX hbl hbA 2 (by omega) (by omega) dL_280 dL_281 dL_282 dL_283 dL_284 ?_
  refine n_arg E hX hbl hbA 3 (by omega) (by omega) dL_285 dL_286 dL_287 dL_288 dL_289 ?_
  refine n_callI (dsc := dscM) (ad := adM) (σ := τ) (wf := wl dscC (wX X adC) σ1) (wr := []) (b0 := 0) (As := fun _ => [.int (iI (prm xs (i + 1))), .int (iI (prm xs (i + 2))), .int (iI (prm xs (i + 3)))]) E hZ w2 md_M_way (k_M_way (prm xs (i + 1)) (prm_R xs (i + 1)) (prm xs (i + 2)) (prm_R xs (i + 2)) (prm xs (i + 3)) (prm_R xs (i + 3)) hM hW ⟨by omega, by omega⟩) dM_0 rfl ⟨Nat.le_of_ble_eq_true rfl, Nat.le_of_ble_eq_true rfl⟩ lL_290 dL_290 (fun _ => rfl) rfl (Nat.le_of_ble_eq_true rfl) ⟨ha, hb⟩ (ws2 _ _) (fun r2 τ1 hr2 hq2 w4 => ?_)
  obtain ⟨e0, e2⟩ := hq2
  subst e0
  refine n_world (ws' := wl dscC (wX X adC) σ1 ++ wl dscM (wX X adM) τ1) (ws3 _ _) ?_
  have e : r1 = r2 := e1.trans e2.symm
  refine n_icmp_eq E 785 dL_293 (by decide) (fun _ => ?_) (fun c => absurd (congrArg iI e) c)
  exact G σ1 τ1 (AA) B ⟨w3, w4, hC, hM, hW, by omega, by omega⟩
theorem law_far (E : NE X code "BellSchoolLaw" 4 room_1) (hZ : SZ (lA X) X.1.2.2.2.2.1 X.1.2.2.2.2.1.heap) (hX : va_X bS Ls xs X.1.2.2.2.2.1 X.1.2.2.2.2.1.heap) (hbl : bS < X.1.2.2.2.2.1.heap.size) (hbA : ¬ lA X bS) (ha : a ≤ 600000) (hb : b ≤ 7302250) (i0 : 0 ≤ i) (i1 : i + 5 ≤ Ls) (i2 : Ls ≤ 320) (IV : LI i B σ τ AA) (G : LG X adC adM a b bS i) : NV (lA X) X 298 (lL bS adC adM i) [] (wl dscC (wX X adC) σ ++ wl dscM (wX X adM) τ) a b := by
  obtain ⟨w1, w2, hC, hM, hW, b0, b1⟩ := IV
  refine n_aloadn E dL_298 rfl 2 rfl ?_
  refine n_arg E hX hbl hbA 1 (by omega) (by omega) dL_299 dL_300 dL_301 dL_302 dL_303 ?_
  refine n_arg E hX hbl hbA 2 (by omega) (by omega) dL_304 dL_305 dL_306 dL_307 dL_308 ?_
  refine n_callI (dsc := dscC) (ad := adC) (σ := σ) (wf := []) (wr := wl dscM (wX X adM) τ) (b0 := 0) (As := fun _ => [.int (iI (prm xs (i + 1))), .int (iI (prm xs (i + 2)))]) E hZ w1 md_B_far (k_C_far (prm xs (i + 1)) (prm_R xs (i + 1)) (prm xs (i + 2)) (prm_R xs (i + 2)) hC hW ⟨by omega, by omega⟩) dC_0 rfl ⟨Nat.le_of_ble_eq_true rfl, Nat.le_of_ble_eq_true rfl⟩ lL_309 dL_309 (fun _ => rfl) rfl (Nat.le_of_ble_eq_true rfl) ⟨ha, hb⟩ (ws1 _) (fun r1 σ1 hr1 hq1 w3 => ?_)
  obtain ⟨e1, hC2⟩ := hq1
  refine n_aloadn E dL_312 rfl 1 rfl ?_
  refine n_arg E hX hbl hbA 1 (by omega) (by omega) dL_313 dL_314 dL_315 dL_316 dL_317 ?_
  refine n_arg E hX hbl hbA 2 (by omega) (by omega) dL_318 dL_319 dL_320 dL_321 dL_322 ?_
  refine n_callI (dsc := dscM) (ad := adM) (σ := τ) (wf := wl dscC (wX X adC) σ1) (wr := []) (b0 := 0) (As := fun _ => [.int (iI (prm xs (i + 1))), .int (iI (prm xs (i + 2)))]) E hZ w2 md_M_far (k_M_far (prm xs (i + 1)) (prm_R xs (i + 1)) (prm xs (i + 2)) (prm_R xs (i + 2)) hM hW ⟨by omega, by omega⟩) dM_0 rfl ⟨Nat.le_of_ble_eq_true rfl, Nat.le_of_ble_eq_true rfl⟩ lL_323 dL_323 (fun _ => rfl) rfl (Nat.le_of_ble_eq_true rfl) ⟨ha, hb⟩ (ws2 _ _) (fun r2 τ1 hr2 hq2 w4 => ?_)
  obtain ⟨e2, hM2⟩ := hq2
  refine n_world (ws' := wl dscC (wX X adC) σ1 ++ wl dscM (wX X adM) τ1) (ws3 _ _) ?_
  have e : r1 = r2 := e1.trans e2.symm
  refine n_icmp_eq E 785 dL_326 (by decide) (fun _ => ?_) (fun c => absurd (congrArg iI e) c)
  exact G σ1 τ1 (AA) B ⟨w3, w4, hC2, hM2, hW, by omega, by omega⟩
theorem law_comes (E : NE X code "BellSchoolLaw" 4 room_1) (hZ : SZ (lA X) X.1.2.2.2.2.1 X.1.2.2.2.2.1.heap) (hX : va_X bS Ls xs X.1.2.2.2.2.1 X.1.2.2.2.2.1.heap) (hbl : bS < X.1.2.2.2.2.1.heap.size) (hbA : ¬ lA X bS) (ha : a ≤ 600000) (hb : b ≤ 7302250) (i0 : 0 ≤ i) (i1 : i + 5 ≤ Ls) (i2 : Ls ≤ 320) (IV : LI i B σ τ AA) (G : LG X adC adM a b bS i) : NV (lA X) X 331 (lL bS adC adM i) [] (wl dscC (wX X adC) σ ++ wl dscM (wX X adM) τ) a b := by
  obtain ⟨w1, w2, hC, hM, hW, b0, b1⟩ := IV
  refine n_aloadn E dL_331 rfl 2 rfl ?_
  refine n_arg E hX hbl hbA 1 (by omega) (by omega) dL_332 dL_333 dL_334 dL_335 dL_336 ?_
  refine n_callI (dsc := dscC) (ad := adC) (σ := σ) (wf := []) (wr := wl dscM (wX X adM) τ) (b0 := 0) (As := fun _ => [.int (iI (prm xs (i + 1)))]) E hZ w1 md_B_comes (k_C_comes (prm xs (i + 1)) (prm_R xs (i + 1)) hC hW ⟨by omega, by omega⟩) dC_0 rfl ⟨Nat.le_of_ble_eq_true rfl, Nat.le_of_ble_eq_true rfl⟩ lL_337 dL_337 (fun _ => rfl) rfl (Nat.le_of_ble_eq_true rfl) ⟨ha, hb⟩ (ws1 _) (fun r1 σ1 hr1 hq1 w3 => ?_)
  obtain ⟨e1, hC2⟩ := hq1
  refine n_aloadn E dL_340 rfl 1 rfl ?_
  refine n_arg E hX hbl hbA 1 (by omega) (by omega) dL_341 dL_342 dL_343 dL_344 dL_345 ?_
  refine n_callI (dsc := dscM) (ad := adM) (σ := τ) (wf := wl dscC (wX X adC) σ1) (wr := []) (b0 := 0) (As := fun _ => [.int (iI (prm xs (i + 1)))]) E hZ w2 md_M_comes (k_M_comes (prm xs (i + 1)) (prm_R xs (i + 1)) hM hW ⟨by omega, by omega⟩) dM_0 rfl ⟨Nat.le_of_ble_eq_true rfl, Nat.le_of_ble_eq_true rfl⟩ lL_346 dL_346 (fun _ => rfl) rfl (Nat.le_of_ble_eq_true rfl) ⟨ha, hb⟩ (ws2 _ _) (fun r2 τ1 hr2 hq2 w4 => ?_)
  obtain ⟨e2, hM2⟩ := hq2
  refine n_world (ws' := wl dscC (wX X adC) σ1 ++ wl dscM (wX X adM) τ1) (ws3 _ _) ?_
  have e : r1 = r2 := e1.trans e2.symm
  refine n_icmp_eq E 785 dL_349 (by decide) (fun _ => ?_) (fun c => absurd (congrArg iI e) c)
  exact G σ1 τ1 (AA) B ⟨w3, w4, hC2, hM2, hW, by omega, by omega⟩
theorem law_last (E : NE X code "BellSchoolLaw" 4 room_1) (hZ : SZ (lA X) X.1.2.2.2.2.1 X.1.2.2.2.2.1.heap) (hX : va_X bS Ls xs X.1.2.2.2.2.1 X.1.2.2.2.2.1.heap) (hbl : bS < X.1.2.2.2.2.1.heap.size) (hbA : ¬ lA X bS) (ha : a ≤ 600000) (hb : b ≤ 7302250) (i0 : 0 ≤ i) (i1 : i + 5 ≤ Ls) (i2 : Ls ≤ 320) (IV : LI i B σ τ AA) (G : LG X adC adM a b bS i) : NV (lA X) X 354 (lL bS adC adM i) [] (wl dscC (wX X adC) σ ++ wl dscM (wX X adM) τ) a b := by
  obtain ⟨w1, w2, hC, hM, hW, b0, b1⟩ := IV
  refine n_aloadn E dL_354 rfl 2 rfl ?_
  refine n_callI (dsc := dscC) (ad := adC) (σ := σ) (wf := []) (wr := wl dscM (wX X adM) τ) (b0 := 0) (As := fun _ => []) E hZ w1 md_B_last (k_C_last  hC hW ⟨by omega, by omega⟩) dC_0 rfl ⟨Nat.le_of_ble_eq_true rfl, Nat.le_of_ble_eq_true rfl⟩ lL_355 dL_355 (fun _ => rfl) rfl (Nat.le_of_ble_eq_true rfl) ⟨ha, hb⟩ (ws1 _) (fun r1 σ1 hr1 hq1 w3 => ?_)
  obtain ⟨e1, hC2⟩ := hq1
  refine n_aloadn E dL_358 rfl 1 rfl ?_
  refine n_callI (dsc := dscM) (ad := adM) (σ := τ) (wf := wl dscC (wX X adC) σ1) (wr := []) (b0 := 0) (As := fun _ => []) E hZ w2 md_M_last (k_M_last  hM hW ⟨by omega, by omega⟩) dM_0 rfl ⟨Nat.le_of_ble_eq_true rfl, Nat.le_of_ble_eq_true rfl⟩ lL_359 dL_359 (fun _ => rfl) rfl (Nat.le_of_ble_eq_true rfl) ⟨ha, hb⟩ (ws2 _ _) (fun r2 τ1 hr2 hq2 w4 => ?_)
  obtain ⟨e2, hM2⟩ := hq2
  refine n_world (ws' := wl dscC (wX X adC) σ1 ++ wl dscM (wX X adM) τ1) (ws3 _ _) ?_
  have e : r1 = r2 := e1.trans e2.symm
  refine n_icmp_eq E 785 dL_362 (by decide) (fun _ => ?_) (fun c => absurd (congrArg iI e) c)
  exact G σ1 τ1 (AA) B ⟨w3, w4, hC2, hM2, hW, by omega, by omega⟩
theorem law_pass (E : NE X code "BellSchoolLaw" 4 room_1) (hZ : SZ (lA X) X.1.2.2.2.2.1 X.1.2.2.2.2.1.heap) (hX : va_X bS Ls xs X.1.2.2.2.2.1 X.1.2.2.2.2.1.heap) (hbl : bS < X.1.2.2.2.2.1.heap.size) (hbA : ¬ lA X bS) (ha : a ≤ 600000) (hb : b ≤ 7302250) (i0 : 0 ≤ i) (i1 : i + 5 ≤ Ls) (i2 : Ls ≤ 320) (IV : LI i B σ τ AA) (G : LG X adC adM a b bS i) : NV (lA X) X 367 (lL bS adC adM i) [] (wl dscC (wX X adC) σ ++ wl dscM (wX X adM) τ) a b := by
  obtain ⟨w1, w2, hC, hM, hW, b0, b1⟩ := IV
  refine n_aloadn E dL_367 rfl 2 rfl ?_
  refine n_arg E hX hbl hbA 1 (by omega) (by omega) dL_368 dL_369 dL_370 dL_371 dL_372 ?_
  refine n_callI (dsc := dscC) (ad := adC) (σ := σ) (wf := []) (wr := wl dscM (wX X adM) τ) (b0 := 0) (As := fun _ => [.int (iI (prm xs (i + 1)))]) E hZ w1 md_B_pass (k_C_pass (prm xs (i + 1)) (prm_R xs (i + 1)) hC hW ⟨by omega, by omega⟩) dC_0 rfl ⟨Nat.le_of_ble_eq_true rfl, Nat.le_of_ble_eq_true rfl⟩ lL_373 dL_373 (fun _ => rfl) rfl (Nat.le_of_ble_eq_true rfl) ⟨ha, hb⟩ (ws1 _) (fun r1 σ1 hr1 hq1 w3 => ?_)
  obtain ⟨e1, hC2⟩ := hq1
  refine n_aloadn E dL_376 rfl 1 rfl ?_
  refine n_arg E hX hbl hbA 1 (by omega) (by omega) dL_377 dL_378 dL_379 dL_380 dL_381 ?_
  refine n_callI (dsc := dscM) (ad := adM) (σ := τ) (wf := wl dscC (wX X adC) σ1) (wr := []) (b0 := 0) (As := fun _ => [.int (iI (prm xs (i + 1)))]) E hZ w2 md_M_pass (k_M_pass (prm xs (i + 1)) (prm_R xs (i + 1)) hM hW ⟨by omega, by omega⟩) dM_0 rfl ⟨Nat.le_of_ble_eq_true rfl, Nat.le_of_ble_eq_true rfl⟩ lL_382 dL_382 (fun _ => rfl) rfl (Nat.le_of_ble_eq_true rfl) ⟨ha, hb⟩ (ws2 _ _) (fun r2 τ1 hr2 hq2 w4 => ?_)
  obtain ⟨e2, hM2⟩ := hq2
  refine n_world (ws' := wl dscC (wX X adC) σ1 ++ wl dscM (wX X adM) τ1) (ws3 _ _) ?_
  have e : r1 = r2 := e1.trans e2.symm
  refine n_icmp_eq E 785 dL_385 (by decide) (fun _ => ?_) (fun c => absurd (congrArg iI e) c)
  exact G σ1 τ1 (nPass AA (prm xs (i + 1))) (B + 28) ⟨w3, w4, hC2, hM2, WK_pass hW, by omega, by omega⟩
theorem law_keepBack (E : NE X code "BellSchoolLaw" 4 room_1) (hZ : SZ (lA X) X.1.2.2.2.2.1 X.1.2.2.2.2.1.heap) (hX : va_X bS Ls xs X.1.2.2.2.2.1 X.1.2.2.2.2.1.heap) (hbl : bS < X.1.2.2.2.2.1.heap.size) (hbA : ¬ lA X bS) (ha : a ≤ 600000) (hb : b ≤ 7302250) (i0 : 0 ≤ i) (i1 : i + 5 ≤ Ls) (i2 : Ls ≤ 320) (IV : LI i B σ τ AA) (G : LG X adC adM a b bS i) : NV (lA X) X 390 (lL bS adC adM i) [] (wl dscC (wX X adC) σ ++ wl dscM (wX X adM) τ) a b := by
  obtain ⟨w1, w2, hC, hM, hW, b0, b1⟩ := IV
  refine n_aloadn E dL_390 rfl 2 rfl ?_
  refine n_arg E hX hbl hbA 1 (by omega) (by omega) dL_391 dL_392 dL_393 dL_394 dL_395 ?_
  refine n_callI (dsc := dscC) (ad := adC) (σ := σ) (wf := []) (wr := wl dscM (wX X adM) τ) (b0 := 0) (As := fun _ => [.int (iI (prm xs (i + 1)))]) E hZ w1 md_B_keepBack (k_C_keepBack (prm xs (i + 1)) (prm_R xs (i + 1)) hC hW ⟨by omega, by omega⟩) dC_0 rfl ⟨Nat.le_of_ble_eq_true rfl, Nat.le_of_ble_eq_true rfl⟩ lL_396 dL_396 (fun _ => rfl) rfl (Nat.le_of_ble_eq_true rfl) ⟨ha, hb⟩ (ws1 _) (fun r1 σ1 hr1 hq1 w3 => ?_)
  obtain ⟨e1, hC2⟩ := hq1
  refine n_aloadn E dL_399 rfl 1 rfl ?_
  refine n_arg E hX hbl hbA 1 (by omega) (by omega) dL_400 dL_401 dL_402 dL_403 dL_404 ?_
  refine n_callI (dsc := dscM) (ad := adM) (σ := τ) (wf := wl dscC (wX X adC) σ1) (wr := []) (b0 := 0) (As := fun _ => [.int (iI (prm xs (i + 1)))]) E hZ w2 md_M_keepBack (k_M_keepBack (prm xs (i + 1)) (prm_R xs (i + 1)) hM hW ⟨by omega, by omega⟩) dM_0 rfl ⟨Nat.le_of_ble_eq_true rfl, Nat.le_of_ble_eq_true rfl⟩ lL_405 dL_405 (fun _ => rfl) rfl (Nat.le_of_ble_eq_true rfl) ⟨ha, hb⟩ (ws2 _ _) (fun r2 τ1 hr2 hq2 w4 => ?_)
  obtain ⟨e2, hM2⟩ := hq2
  refine n_world (ws' := wl dscC (wX X adC) σ1 ++ wl dscM (wX X adM) τ1) (ws3 _ _) ?_
  have e : r1 = r2 := e1.trans e2.symm
  refine n_icmp_eq E 785 dL_408 (by decide) (fun _ => ?_) (fun c => absurd (congrArg iI e) c)
  exact G σ1 τ1 (nKeepBack AA (prm xs (i + 1))) B ⟨w3, w4, hC2, hM2, WK_keepBack hW, by omega, by omega⟩
theorem law_sick (E : NE X code "BellSchoolLaw" 4 room_1) (hZ : SZ (lA X) X.1.2.2.2.2.1 X.1.2.2.2.2.1.heap) (hX : va_X bS Ls xs X.1.2.2.2.2.1 X.1.2.2.2.2.1.heap) (hbl : bS < X.1.2.2.2.2.1.heap.size) (hbA : ¬ lA X bS) (ha : a ≤ 600000) (hb : b ≤ 7302250) (i0 : 0 ≤ i) (i1 : i + 5 ≤ Ls) (i2 : Ls ≤ 320) (IV : LI i B σ τ AA) (G : LG X adC adM a b bS i) : NV (lA X) X 413 (lL bS adC adM i) [] (wl dscC (wX X adC) σ ++ wl dscM (wX X adM) τ) a b := by
  obtain ⟨w1, w2, hC, hM, hW, b0, b1⟩ := IV
  refine n_aloadn E dL_413 rfl 2 rfl ?_
  refine n_arg E hX hbl hbA 1 (by omega) (by omega) dL_414 dL_415 dL_416 dL_417 dL_418 ?_
  refine n_callI (dsc := dscC) (ad := adC) (σ := σ) (wf := []) (wr := wl dscM (wX X adM) τ) (b0 := 0) (As := fun _ => [.int (iI (prm xs (i + 1)))]) E hZ w1 md_B_sick (k_C_sick (prm xs (i + 1)) (prm_R xs (i + 1)) hC hW ⟨by omega, by omega⟩) dC_0 rfl ⟨Nat.le_of_ble_eq_true rfl, Nat.le_of_ble_eq_true rfl⟩ lL_419 dL_419 (fun _ => rfl) rfl (Nat.le_of_ble_eq_true rfl) ⟨ha, hb⟩ (ws1 _) (fun r1 σ1 hr1 hq1 w3 => ?_)
  obtain ⟨e1, hC2⟩ := hq1
  refine n_aloadn E dL_422 rfl 1 rfl ?_
  refine n_arg E hX hbl hbA 1 (by omega) (by omega) dL_423 dL_424 dL_425 dL_426 dL_427 ?_
  refine n_callI (dsc := dscM) (ad := adM) (σ := τ) (wf := wl dscC (wX X adC) σ1) (wr := []) (b0 := 0) (As := fun _ => [.int (iI (prm xs (i + 1)))]) E hZ w2 md_M_sick (k_M_sick (prm xs (i + 1)) (prm_R xs (i + 1)) hM hW ⟨by omega, by omega⟩) dM_0 rfl ⟨Nat.le_of_ble_eq_true rfl, Nat.le_of_ble_eq_true rfl⟩ lL_428 dL_428 (fun _ => rfl) rfl (Nat.le_of_ble_eq_true rfl) ⟨ha, hb⟩ (ws2 _ _) (fun r2 τ1 hr2 hq2 w4 => ?_)
  obtain ⟨e2, hM2⟩ := hq2
  refine n_world (ws' := wl dscC (wX X adC) σ1 ++ wl dscM (wX X adM) τ1) (ws3 _ _) ?_
  have e : r1 = r2 := e1.trans e2.symm
  refine n_icmp_eq E 785 dL_431 (by decide) (fun _ => ?_) (fun c => absurd (congrArg iI e) c)
  exact G σ1 τ1 (nSick AA (prm xs (i + 1))) B ⟨w3, w4, hC2, hM2, WK_sick hW, by omega, by omega⟩
theorem law_shut (E : NE X code "BellSchoolLaw" 4 room_1) (hZ : SZ (lA X) X.1.2.2.2.2.1 X.1.2.2.2.2.1.heap) (hX : va_X bS Ls xs X.1.2.2.2.2.1 X.1.2.2.2.2.1.heap) (hbl : bS < X.1.2.2.2.2.1.heap.size) (hbA : ¬ lA X bS) (ha : a ≤ 600000) (hb : b ≤ 7302250) (i0 : 0 ≤ i) (i1 : i + 5 ≤ Ls) (i2 : Ls ≤ 320) (IV : LI i B σ τ AA) (G : LG X adC adM a b bS i) : NV (lA X) X 436 (lL bS adC adM i) [] (wl dscC (wX X adC) σ ++ wl dscM (wX X adM) τ) a b := by
  obtain ⟨w1, w2, hC, hM, hW, b0, b1⟩ := IV
  refine n_aloadn E dL_436 rfl 2 rfl ?_
  refine n_arg E hX hbl hbA 1 (by omega) (by omega) dL_437 dL_438 dL_439 dL_440 dL_441 ?_
  refine n_arg E hX hbl hbA 2 (by omega) (by omega) dL_442 dL_443 dL_444 dL_445 dL_446 ?_
  refine n_callI (dsc := dscC) (ad := adC) (σ := σ) (wf := []) (wr := wl dscM (wX X adM) τ) (b0 := 0) (As := fun _ => [.int (iI (prm xs (i + 1))), .int (iI (prm xs (i + 2)))]) E hZ w1 md_B_shut (k_C_shut (prm xs (i + 1)) (prm_R xs (i + 1)) (prm xs (i + 2)) (prm_R xs (i + 2)) hC hW ⟨by omega, by omega⟩) dC_0 rfl ⟨Nat.le_of_ble_eq_true rfl, Nat.le_of_ble_eq_true rfl⟩ lL_447 dL_447 (fun _ => rfl) rfl (Nat.le_of_ble_eq_true rfl) ⟨ha, hb⟩ (ws1 _) (fun r1 σ1 hr1 hq1 w3 => ?_)
  obtain ⟨e1, hC2⟩ := hq1
  refine n_aloadn E dL_450 rfl 1 rfl ?_
  refine n_arg E hX hbl hbA 1 (by omega) (by omega) dL_451 dL_452 dL_453 dL_454 dL_455 ?_
  refine n_arg E hX hbl hbA 2 (by omega) (by omega) dL_456 dL_457 dL_458 dL_459 dL_460 ?_
  refine n_callI (dsc := dscM) (ad := adM) (σ := τ) (wf := wl dscC (wX X adC) σ1) (wr := []) (b0 := 0) (As := fun _ => [.int (iI (prm xs (i + 1))), .int (iI (prm xs (i + 2)))]) E hZ w2 md_M_shut (k_M_shut (prm xs (i + 1)) (prm_R xs (i + 1)) (prm xs (i + 2)) (prm_R xs (i + 2)) hM hW ⟨by omega, by omega⟩) dM_0 rfl ⟨Nat.le_of_ble_eq_true rfl, Nat.le_of_ble_eq_true rfl⟩ lL_461 dL_461 (fun _ => rfl) rfl (Nat.le_of_ble_eq_true rfl) ⟨ha, hb⟩ (ws2 _ _) (fun r2 τ1 hr2 hq2 w4 => ?_)
  obtain ⟨e2, hM2⟩ := hq2
  refine n_world (ws' := wl dscC (wX X adC) σ1 ++ wl dscM (wX X adM) τ1) (ws3 _ _) ?_
  have e : r1 = r2 := e1.trans e2.symm
  refine n_icmp_eq E 785 dL_464 (by decide) (fun _ => ?_) (fun c => absurd (congrArg iI e) c)
  exact G σ1 τ1 (nShut AA (prm xs (i + 1)) (prm xs (i + 2))) B ⟨w3, w4, hC2, hM2, WK_shut hW, by omega, by omega⟩
theorem law_undo (E : NE X code "BellSchoolLaw" 4 room_1) (hZ : SZ (lA X) X.1.2.2.2.2.1 X.1.2.2.2.2.1.heap) (hX : va_X bS Ls xs X.1.2.2.2.2.1 X.1.2.2.2.2.1.heap) (hbl : bS < X.1.2.2.2.2.1.heap.size) (hbA : ¬ lA X bS) (ha : a ≤ 600000) (hb : b ≤ 7302250) (i0 : 0 ≤ i) (i1 : i + 5 ≤ Ls) (i2 : Ls ≤ 320) (IV : LI i B σ τ AA) (G : LG X adC adM a b bS i) : NV (lA X) X 469 (lL bS adC adM i) [] (wl dscC (wX X adC) σ ++ wl dscM (wX X adM) τ) a b := by
  obtain ⟨w1, w2, hC, hM, hW, b0, b1⟩ := IV
  refine n_aloadn E dL_469 rfl 2 rfl ?_
  refine n_callI (dsc := dscC) (ad := adC) (σ := σ) (wf := []) (wr := wl dscM (wX X adM) τ) (b0 := 0) (As := fun _ => []) E hZ w1 md_B_undo (k_C_undo  hC hW ⟨by omega, by omega⟩) dC_0 rfl ⟨Nat.le_of_ble_eq_true rfl, Nat.le_of_ble_eq_true rfl⟩ lL_470 dL_470 (fun _ => rfl) rfl (Nat.le_of_ble_eq_true rfl) ⟨ha, hb⟩ (ws1 _) (fun r1 σ1 hr1 hq1 w3 => ?_)
  obtain ⟨e1, hC2⟩ := hq1
  refine n_aloadn E dL_473 rfl 1 rfl ?_
  refine n_callI (dsc := dscM) (ad := adM) (σ := τ) (wf := wl dscC (wX X adC) σ1) (wr := []) (b0 := 0) (As := fun _ => []) E hZ w2 md_M_undo (k_M_undo  hM hW ⟨by omega, by omega⟩) dM_0 rfl ⟨Nat.le_of_ble_eq_true rfl, Nat.le_of_ble_eq_true rfl⟩ lL_474 dL_474 (fun _ => rfl) rfl (Nat.le_of_ble_eq_true rfl) ⟨ha, hb⟩ (ws2 _ _) (fun r2 τ1 hr2 hq2 w4 => ?_)
  obtain ⟨e2, hM2⟩ := hq2
  refine n_world (ws' := wl dscC (wX X adC) σ1 ++ wl dscM (wX X adM) τ1) (ws3 _ _) ?_
  have e : r1 = r2 := e1.trans e2.symm
  refine n_icmp_eq E 785 dL_477 (by decide) (fun _ => ?_) (fun c => absurd (congrArg iI e) c)
  exact G σ1 τ1 (nUndo AA) B ⟨w3, w4, hC2, hM2, WK_undo hW, by omega, by omega⟩
theorem law_behind (E : NE X code "BellSchoolLaw" 4 room_1) (hZ : SZ (lA X) X.1.2.2.2.2.1 X.1.2.2.2.2.1.heap) (hX : va_X bS Ls xs X.1.2.2.2.2.1 X.1.2.2.2.2.1.heap) (hbl : bS < X.1.2.2.2.2.1.heap.size) (hbA : ¬ lA X bS) (ha : a ≤ 600000) (hb : b ≤ 7302250) (i0 : 0 ≤ i) (i1 : i + 5 ≤ Ls) (i2 : Ls ≤ 320) (IV : LI i B σ τ AA) (G : LG X adC adM a b bS i) : NV (lA X) X 482 (lL bS adC adM i) [] (wl dscC (wX X adC) σ ++ wl dscM (wX X adM) τ) a b := by
  obtain ⟨w1, w2, hC, hM, hW, b0, b1⟩ := IV
  refine n_aloadn E dL_482 rfl 2 rfl ?_
  refine n_arg E hX hbl hbA 1 (by omega) (by omega) dL_483 dL_484 dL_485 dL_486 dL_487 ?_
  refine n_callI (dsc := dscC) (ad := adC) (σ := σ) (wf := []) (wr := wl dscM (wX X adM) τ) (b0 := 0) (As := fun _ => [.int (iI (prm xs (i + 1)))]) E hZ w1 md_B_behind (k_C_behind (prm xs (i + 1)) (prm_R xs (i + 1)) hC hW ⟨by omega, by omega⟩) dC_0 rfl ⟨Nat.le_of_ble_eq_true rfl, Nat.le_of_ble_eq_true rfl⟩ lL_488 dL_488 (fun _ => rfl) rfl (Nat.le_of_ble_eq_true rfl) ⟨ha, hb⟩ (ws1 _) (fun r1 σ1 hr1 hq1 w3 => ?_)
  obtain ⟨e1, hC2⟩ := hq1
  refine n_aloadn E dL_491 rfl 1 rfl ?_
  refine n_arg E hX hbl hbA 1 (by omega) (by omega) dL_492 dL_493 dL_494 dL_495 dL_496 ?_
  refine n_callI (dsc := dscM) (ad := adM) (σ := τ) (wf := wl dscC (wX X adC) σ1) (wr := []) (b0 := 0) (As := fun _ => [.int (iI (prm xs (i + 1)))]) E hZ w2 md_M_behind (k_M_behind (prm xs (i + 1)) (prm_R xs (i + 1)) hM hW ⟨by omega, by omega⟩) dM_0 rfl ⟨Nat.le_of_ble_eq_true rfl, Nat.le_of_ble_eq_true rfl⟩ lL_497 dL_497 (fun _ => rfl) rfl (Nat.le_of_ble_eq_true rfl) ⟨ha, hb⟩ (ws2 _ _) (fun r2 τ1 hr2 hq2 w4 => ?_)
  obtain ⟨e2, hM2⟩ := hq2
  refine n_world (ws' := wl dscC (wX X adC) σ1 ++ wl dscM (wX X adM) τ1) (ws3 _ _) ?_
  have e : r1 = r2 := e1.trans e2.symm
  refine n_icmp_eq E 785 dL_500 (by decide) (fun _ => ?_) (fun c => absurd (congrArg iI e) c)
  exact G σ1 τ1 (AA) B ⟨w3, w4, hC2, hM2, hW, by omega, by omega⟩
theorem law_again (E : NE X code "BellSchoolLaw" 4 room_1) (hZ : SZ (lA X) X.1.2.2.2.2.1 X.1.2.2.2.2.1.heap) (hX : va_X bS Ls xs X.1.2.2.2.2.1 X.1.2.2.2.2.1.heap) (hbl : bS < X.1.2.2.2.2.1.heap.size) (hbA : ¬ lA X bS) (ha : a ≤ 600000) (hb : b ≤ 7302250) (i0 : 0 ≤ i) (i1 : i + 5 ≤ Ls) (i2 : Ls ≤ 320) (IV : LI i B σ τ AA) (G : LG X adC adM a b bS i) : NV (lA X) X 505 (lL bS adC adM i) [] (wl dscC (wX X adC) σ ++ wl dscM (wX X adM) τ) a b := by
  obtain ⟨w1, w2, hC, hM, hW, b0, b1⟩ := IV
  refine n_aloadn E dL_505 rfl 2 rfl ?_
  refine n_callI (dsc := dscC) (ad := adC) (σ := σ) (wf := []) (wr := wl dscM (wX X adM) τ) (b0 := 0) (As := fun _ => []) E hZ w1 md_B_again (k_C_again  hC hW ⟨by omega, by omega⟩) dC_0 rfl ⟨Nat.le_of_ble_eq_true rfl, Nat.le_of_ble_eq_true rfl⟩ lL_506 dL_506 (fun _ => rfl) rfl (Nat.le_of_ble_eq_true rfl) ⟨ha, hb⟩ (ws1 _) (fun r1 σ1 hr1 hq1 w3 => ?_)
  obtain ⟨e1, hC2⟩ := hq1
  refine n_aloadn E dL_509 rfl 1 rfl ?_
  refine n_callI (dsc := dscM) (ad := adM) (σ := τ) (wf := wl dscC (wX X adC) σ1) (wr := []) (b0 := 0) (As := fun _ => []) E hZ w2 md_M_again (k_M_again  hM hW ⟨by omega, by omega⟩) dM_0 rfl ⟨Nat.le_of_ble_eq_true rfl, Nat.le_of_ble_eq_true rfl⟩ lL_510 dL_510 (fun _ => rfl) rfl (Nat.le_of_ble_eq_true rfl) ⟨ha, hb⟩ (ws2 _ _) (fun r2 τ1 hr2 hq2 w4 => ?_)
  obtain ⟨e2, hM2⟩ := hq2
  refine n_world (ws' := wl dscC (wX X adC) σ1 ++ wl dscM (wX X adM) τ1) (ws3 _ _) ?_
  have e : r1 = r2 := e1.trans e2.symm
  refine n_icmp_eq E 785 dL_513 (by decide) (fun _ => ?_) (fun c => absurd (congrArg iI e) c)
  exact G σ1 τ1 (AA) B ⟨w3, w4, hC2, hM2, hW, by omega, by omega⟩
theorem law_each (E : NE X code "BellSchoolLaw" 4 room_1) (hZ : SZ (lA X) X.1.2.2.2.2.1 X.1.2.2.2.2.1.heap) (hX : va_X bS Ls xs X.1.2.2.2.2.1 X.1.2.2.2.2.1.heap) (hbl : bS < X.1.2.2.2.2.1.heap.size) (hbA : ¬ lA X bS) (ha : a ≤ 600000) (hb : b ≤ 7302250) (i0 : 0 ≤ i) (i1 : i + 5 ≤ Ls) (i2 : Ls ≤ 320) (IV : LI i B σ τ AA) (G : LG X adC adM a b bS i) : NV (lA X) X 518 (lL bS adC adM i) [] (wl dscC (wX X adC) σ ++ wl dscM (wX X adM) τ) a b := by
  obtain ⟨w1, w2, hC, hM, hW, b0, b1⟩ := IV
  refine n_aloadn E dL_518 rfl 2 rfl ?_
  refine n_arg E hX hbl hbA 1 (by omega) (by omega) dL_519 dL_520 dL_521 dL_522 dL_523 ?_
  refine n_callI (dsc := dscC) (ad := adC) (σ := σ) (wf := []) (wr := wl dscM (wX X adM) τ) (b0 := 0) (As := fun _ => [.int (iI (prm xs (i + 1)))]) E hZ w1 md_B_each (k_C_each (prm xs (i + 1)) (prm_R xs (i + 1)) hC hW ⟨by omega, by omega⟩) dC_0 rfl ⟨Nat.le_of_ble_eq_true rfl, Nat.le_of_ble_eq_true rfl⟩ lL_524 dL_524 (fun _ => rfl) rfl (Nat.le_of_ble_eq_true rfl) ⟨ha, hb⟩ (ws1 _) (fun r1 σ1 hr1 hq1 w3 => ?_)
  obtain ⟨e1, hC2⟩ := hq1
  refine n_aloadn E dL_527 rfl 1 rfl ?_
  refine n_arg E hX hbl hbA 1 (by omega) (by omega) dL_528 dL_529 dL_530 dL_531 dL_532 ?_
  refine n_callI (dsc := dscM) (ad := adM) (σ := τ) (wf := wl dscC (wX X adC) σ1) (wr := []) (b0 := 0) (As := fun _ => [.int (iI (prm xs (i + 1)))]) E hZ w2 md_M_each (k_M_each (prm xs (i + 1)) (prm_R xs (i + 1)) hM hW ⟨by omega, by omega⟩) dM_0 rfl ⟨Nat.le_of_ble_eq_true rfl, Nat.le_of_ble_eq_true rfl⟩ lL_533 dL_533 (fun _ => rfl) rfl (Nat.le_of_ble_eq_true rfl) ⟨ha, hb⟩ (ws2 _ _) (fun r2 τ1 hr2 hq2 w4 => ?_)
  obtain ⟨e2, hM2⟩ := hq2
  refine n_world (ws' := wl dscC (wX X adC) σ1 ++ wl dscM (wX X adM) τ1) (ws3 _ _) ?_
  have e : r1 = r2 := rEach.uniq e1 e2
  refine n_icmp_eq E 785 dL_536 (by decide) (fun _ => ?_) (fun c => absurd (congrArg iI e) c)
  exact G σ1 τ1 (AA) B ⟨w3, w4, hC2, hM2, hW, by omega, by omega⟩
theorem law_always (E : NE X code "BellSchoolLaw" 4 room_1) (hZ : SZ (lA X) X.1.2.2.2.2.1 X.1.2.2.2.2.1.heap) (hX : va_X bS Ls xs X.1.2.2.2.2.1 X.1.2.2.2.2.1.heap) (hbl : bS < X.1.2.2.2.2.1.heap.size) (hbA : ¬ lA X bS) (ha : a ≤ 600000) (hb : b ≤ 7302250) (i0 : 0 ≤ i) (i1 : i + 5 ≤ Ls) (i2 : Ls ≤ 320) (IV : LI i B σ τ AA) (G : LG X adC adM a b bS i) : NV (lA X) X 541 (lL bS adC adM i) [] (wl dscC (wX X adC) σ ++ wl dscM (wX X adM) τ) a b := by
  obtain ⟨w1, w2, hC, hM, hW, b0, b1⟩ := IV
  refine n_aloadn E dL_541 rfl 2 rfl ?_
  refine n_callI (dsc := dscC) (ad := adC) (σ := σ) (wf := []) (wr := wl dscM (wX X adM) τ) (b0 := 0) (As := fun _ => []) E hZ w1 md_B_always (k_C_always  hC hW ⟨by omega, by omega⟩) dC_0 rfl ⟨Nat.le_of_ble_eq_true rfl, Nat.le_of_ble_eq_true rfl⟩ lL_542 dL_542 (fun _ => rfl) rfl (Nat.le_of_ble_eq_true rfl) ⟨ha, hb⟩ (ws1 _) (fun r1 σ1 hr1 hq1 w3 => ?_)
  obtain ⟨e1, hC2⟩ := hq1
  refine n_aloadn E dL_545 rfl 1 rfl ?_
  refine n_callI (dsc := dscM) (ad := adM) (σ := τ) (wf := wl dscC (wX X adC) σ1) (wr := []) (b0 := 0) (As := fun _ => []) E hZ w2 md_M_always (k_M_always  hM hW ⟨by omega, by omega⟩) dM_0 rfl ⟨Nat.le_of_ble_eq_true rfl, Nat.le_of_ble_eq_true rfl⟩ lL_546 dL_546 (fun _ => rfl) rfl (Nat.le_of_ble_eq_true rfl) ⟨ha, hb⟩ (ws2 _ _) (fun r2 τ1 hr2 hq2 w4 => ?_)
  obtain ⟨e2, hM2⟩ := hq2
  refine n_world (ws' := wl dscC (wX X adC) σ1 ++ wl dscM (wX X adM) τ1) (ws3 _ _) ?_
  have e : r1 = r2 := e1.trans e2.symm
  refine n_icmp_eq E 785 dL_549 (by decide) (fun _ => ?_) (fun c => absurd (congrArg iI e) c)
  exact G σ1 τ1 (AA) B ⟨w3, w4, hC2, hM2, hW, by omega, by omega⟩
theorem law_never (E : NE X code "BellSchoolLaw" 4 room_1) (hZ : SZ (lA X) X.1.2.2.2.2.1 X.1.2.2.2.2.1.heap) (hX : va_X bS Ls xs X.1.2.2.2.2.1 X.1.2.2.2.2.1.heap) (hbl : bS < X.1.2.2.2.2.1.heap.size) (hbA : ¬ lA X bS) (ha : a ≤ 600000) (hb : b ≤ 7302250) (i0 : 0 ≤ i) (i1 : i + 5 ≤ Ls) (i2 : Ls ≤ 320) (IV : LI i B σ τ AA) (G : LG X adC adM a b bS i) : NV (lA X) X 554 (lL bS adC adM i) [] (wl dscC (wX X adC) σ ++ wl dscM (wX X adM) τ) a b := by
  obtain ⟨w1, w2, hC, hM, hW, b0, b1⟩ := IV
  refine n_aloadn E dL_554 rfl 2 rfl ?_
  refine n_callI (dsc := dscC) (ad := adC) (σ := σ) (wf := []) (wr := wl dscM (wX X adM) τ) (b0 := 0) (As := fun _ => []) E hZ w1 md_B_never (k_C_never  hC hW ⟨by omega, by omega⟩) dC_0 rfl ⟨Nat.le_of_ble_eq_true rfl, Nat.le_of_ble_eq_true rfl⟩ lL_555 dL_555 (fun _ => rfl) rfl (Nat.le_of_ble_eq_true rfl) ⟨ha, hb⟩ (ws1 _) (fun r1 σ1 hr1 hq1 w3 => ?_)
  obtain ⟨e1, hC2⟩ := hq1
  refine n_aloadn E dL_558 rfl 1 rfl ?_
  refine n_callI (dsc := dscM) (ad := adM) (σ := τ) (wf := wl dscC (wX X adC) σ1) (wr := []) (b0 := 0) (As := fun _ => []) E hZ w2 md_M_never (k_M_never  hM hW ⟨by omega, by omega⟩) dM_0 rfl ⟨Nat.le_of_ble_eq_true rfl, Nat.le_of_ble_eq_true rfl⟩ lL_559 dL_559 (fun _ => rfl) rfl (Nat.le_of_ble_eq_true rfl) ⟨ha, hb⟩ (ws2 _ _) (fun r2 τ1 hr2 hq2 w4 => ?_)
  obtain ⟨e2, hM2⟩ := hq2
  refine n_world (ws' := wl dscC (wX X adC) σ1 ++ wl dscM (wX X adM) τ1) (ws3 _ _) ?_
  have e : r1 = r2 := e1.trans e2.symm
  refine n_icmp_eq E 785 dL_562 (by decide) (fun _ => ?_) (fun c => absurd (congrArg iI e) c)
  exact G σ1 τ1 (AA) B ⟨w3, w4, hC2, hM2, hW, by omega, by omega⟩
theorem law_see (E : NE X code "BellSchoolLaw" 4 room_1) (hZ : SZ (lA X) X.1.2.2.2.2.1 X.1.2.2.2.2.1.heap) (hX : va_X bS Ls xs X.1.2.2.2.2.1 X.1.2.2.2.2.1.heap) (hbl : bS < X.1.2.2.2.2.1.heap.size) (hbA : ¬ lA X bS) (ha : a ≤ 600000) (hb : b ≤ 7302250) (i0 : 0 ≤ i) (i1 : i + 5 ≤ Ls) (i2 : Ls ≤ 320) (IV : LI i B σ τ AA) (G : LG X adC adM a b bS i) : NV (lA X) X 567 (lL bS adC adM i) [] (wl dscC (wX X adC) σ ++ wl dscM (wX X adM) τ) a b := by
  obtain ⟨w1, w2, hC, hM, hW, b0, b1⟩ := IV
  refine n_aloadn E dL_567 rfl 2 rfl ?_
  refine n_arg E hX hbl hbA 1 (by omega) (by omega) dL_568 dL_569 dL_570 dL_571 dL_572 ?_
  refine n_arg E hX hbl hbA 2 (by omega) (by omega) dL_573 dL_574 dL_575 dL_576 dL_577 ?_
  refine n_callI (dsc := dscC) (ad := adC) (σ := σ) (wf := []) (wr := wl dscM (wX X adM) τ) (b0 := 0) (As := fun _ => [.int (iI (prm xs (i + 1))), .int (iI (prm xs (i + 2)))]) E hZ w1 md_B_see (k_C_see (prm xs (i + 1)) (prm_R xs (i + 1)) (prm xs (i + 2)) (prm_R xs (i + 2)) hC hW ⟨by omega, by omega⟩) dC_0 rfl ⟨Nat.le_of_ble_eq_true rfl, Nat.le_of_ble_eq_true rfl⟩ lL_578 dL_578 (fun _ => rfl) rfl (Nat.le_of_ble_eq_true rfl) ⟨ha, hb⟩ (ws1 _) (fun r1 σ1 hr1 hq1 w3 => ?_)
  obtain ⟨e1, hC2⟩ := hq1
  refine n_aloadn E dL_581 rfl 1 rfl ?_
  refine n_arg E hX hbl hbA 1 (by omega) (by omega) dL_582 dL_583 dL_584 dL_585 dL_586 ?_
  refine n_arg E hX hbl hbA 2 (by omega) (by omega) dL_587 dL_588 dL_589 dL_590 dL_591 ?_
  refine n_callI (dsc := dscM) (ad := adM) (σ := τ) (wf := wl dscC (wX X adC) σ1) (wr := []) (b0 := 0) (As := fun _ => [.int (iI (prm xs (i + 1))), .int (iI (prm xs (i + 2)))]) E hZ w2 md_M_see (k_M_see (prm xs (i + 1)) (prm_R xs (i + 1)) (prm xs (i + 2)) (prm_R xs (i + 2)) hM hW ⟨by omega, by omega⟩) dM_0 rfl ⟨Nat.le_of_ble_eq_true rfl, Nat.le_of_ble_eq_true rfl⟩ lL_592 dL_592 (fun _ => rfl) rfl (Nat.le_of_ble_eq_true rfl) ⟨ha, hb⟩ (ws2 _ _) (fun r2 τ1 hr2 hq2 w4 => ?_)
  obtain ⟨e2, hM2⟩ := hq2
  refine n_world (ws' := wl dscC (wX X adC) σ1 ++ wl dscM (wX X adM) τ1) (ws3 _ _) ?_
  have e : r1 = r2 := e1.trans e2.symm
  refine n_icmp_eq E 785 dL_595 (by decide) (fun _ => ?_) (fun c => absurd (congrArg iI e) c)
  exact G σ1 τ1 (nSee AA (prm xs (i + 1)) (prm xs (i + 2))) B ⟨w3, w4, hC2, hM2, WK_see hW, by omega, by omega⟩
theorem law_forget (E : NE X code "BellSchoolLaw" 4 room_1) (hZ : SZ (lA X) X.1.2.2.2.2.1 X.1.2.2.2.2.1.heap) (hX : va_X bS Ls xs X.1.2.2.2.2.1 X.1.2.2.2.2.1.heap) (hbl : bS < X.1.2.2.2.2.1.heap.size) (hbA : ¬ lA X bS) (ha : a ≤ 600000) (hb : b ≤ 7302250) (i0 : 0 ≤ i) (i1 : i + 5 ≤ Ls) (i2 : Ls ≤ 320) (IV : LI i B σ τ AA) (G : LG X adC adM a b bS i) : NV (lA X) X 600 (lL bS adC adM i) [] (wl dscC (wX X adC) σ ++ wl dscM (wX X adM) τ) a b := by
  obtain ⟨w1, w2, hC, hM, hW, b0, b1⟩ := IV
  refine n_aloadn E dL_600 rfl 2 rfl ?_
  refine n_callI (dsc := dscC) (ad := adC) (σ := σ) (wf := []) (wr := wl dscM (wX X adM) τ) (b0 := 0) (As := fun _ => []) E hZ w1 md_B_forget (k_C_forget  hC hW ⟨by omega, by omega⟩) dC_0 rfl ⟨Nat.le_of_ble_eq_true rfl, Nat.le_of_ble_eq_true rfl⟩ lL_601 dL_601 (fun _ => rfl) rfl (Nat.le_of_ble_eq_true rfl) ⟨ha, hb⟩ (ws1 _) (fun r1 σ1 hr1 hq1 w3 => ?_)
  obtain ⟨e1, hC2⟩ := hq1
  refine n_aloadn E dL_604 rfl 1 rfl ?_
  refine n_callI (dsc := dscM) (ad := adM) (σ := τ) (wf := wl dscC (wX X adC) σ1) (wr := []) (b0 := 0) (As := fun _ => []) E hZ w2 md_M_forget (k_M_forget  hM hW ⟨by omega, by omega⟩) dM_0 rfl ⟨Nat.le_of_ble_eq_true rfl, Nat.le_of_ble_eq_true rfl⟩ lL_605 dL_605 (fun _ => rfl) rfl (Nat.le_of_ble_eq_true rfl) ⟨ha, hb⟩ (ws2 _ _) (fun r2 τ1 hr2 hq2 w4 => ?_)
  obtain ⟨e2, hM2⟩ := hq2
  refine n_world (ws' := wl dscC (wX X adC) σ1 ++ wl dscM (wX X adM) τ1) (ws3 _ _) ?_
  have e : r1 = r2 := e1.trans e2.symm
  refine n_icmp_eq E 785 dL_608 (by decide) (fun _ => ?_) (fun c => absurd (congrArg iI e) c)
  exact G σ1 τ1 (nForget AA) B ⟨w3, w4, hC2, hM2, WK_forget hW, by omega, by omega⟩
theorem law_fog (E : NE X code "BellSchoolLaw" 4 room_1) (hZ : SZ (lA X) X.1.2.2.2.2.1 X.1.2.2.2.2.1.heap) (hX : va_X bS Ls xs X.1.2.2.2.2.1 X.1.2.2.2.2.1.heap) (hbl : bS < X.1.2.2.2.2.1.heap.size) (hbA : ¬ lA X bS) (ha : a ≤ 600000) (hb : b ≤ 7302250) (i0 : 0 ≤ i) (i1 : i + 5 ≤ Ls) (i2 : Ls ≤ 320) (IV : LI i B σ τ AA) (G : LG X adC adM a b bS i) : NV (lA X) X 613 (lL bS adC adM i) [] (wl dscC (wX X adC) σ ++ wl dscM (wX X adM) τ) a b := by
  obtain ⟨w1, w2, hC, hM, hW, b0, b1⟩ := IV
  refine n_aloadn E dL_613 rfl 2 rfl ?_
  refine n_callI (dsc := dscC) (ad := adC) (σ := σ) (wf := []) (wr := wl dscM (wX X adM) τ) (b0 := 0) (As := fun _ => []) E hZ w1 md_B_fog (k_C_fog  hC hW ⟨by omega, by omega⟩) dC_0 rfl ⟨Nat.le_of_ble_eq_true rfl, Nat.le_of_ble_eq_true rfl⟩ lL_614 dL_614 (fun _ => rfl) rfl (Nat.le_of_ble_eq_true rfl) ⟨ha, hb⟩ (ws1 _) (fun r1 σ1 hr1 hq1 w3 => ?_)
  obtain ⟨e1, hC2⟩ := hq1
  refine n_aloadn E dL_617 rfl 1 rfl ?_
  refine n_callI (dsc := dscM) (ad := adM) (σ := τ) (wf := wl dscC (wX X adC) σ1) (wr := []) (b0 := 0) (As := fun _ => []) E hZ w2 md_M_fog (k_M_fog  hM hW ⟨by omega, by omega⟩) dM_0 rfl ⟨Nat.le_of_ble_eq_true rfl, Nat.le_of_ble_eq_true rfl⟩ lL_618 dL_618 (fun _ => rfl) rfl (Nat.le_of_ble_eq_true rfl) ⟨ha, hb⟩ (ws2 _ _) (fun r2 τ1 hr2 hq2 w4 => ?_)
  obtain ⟨e2, hM2⟩ := hq2
  refine n_world (ws' := wl dscC (wX X adC) σ1 ++ wl dscM (wX X adM) τ1) (ws3 _ _) ?_
  have e : r1 = r2 := e1.trans e2.symm
  refine n_icmp_eq E 785 dL_621 (by decide) (fun _ => ?_) (fun c => absurd (congrArg iI e) c)
  exact G σ1 τ1 (AA) B ⟨w3, w4, hC2, hM2, hW, by omega, by omega⟩
theorem law_tripped (E : NE X code "BellSchoolLaw" 4 room_1) (hZ : SZ (lA X) X.1.2.2.2.2.1 X.1.2.2.2.2.1.heap) (hX : va_X bS Ls xs X.1.2.2.2.2.1 X.1.2.2.2.2.1.heap) (hbl : bS < X.1.2.2.2.2.1.heap.size) (hbA : ¬ lA X bS) (ha : a ≤ 600000) (hb : b ≤ 7302250) (i0 : 0 ≤ i) (i1 : i + 5 ≤ Ls) (i2 : Ls ≤ 320) (IV : LI i B σ τ AA) (G : LG X adC adM a b bS i) : NV (lA X) X 626 (lL bS adC adM i) [] (wl dscC (wX X adC) σ ++ wl dscM (wX X adM) τ) a b := by
  obtain ⟨w1, w2, hC, hM, hW, b0, b1⟩ := IV
  refine n_aloadn E dL_626 rfl 2 rfl ?_
  refine n_callI (dsc := dscC) (ad := adC) (σ := σ) (wf := []) (wr := wl dscM (wX X adM) τ) (b0 := 0) (As := fun _ => []) E hZ w1 md_B_tripped (k_C_tripped  hC hW ⟨by omega, by omega⟩) dC_0 rfl ⟨Nat.le_of_ble_eq_true rfl, Nat.le_of_ble_eq_true rfl⟩ lL_627 dL_627 (fun _ => rfl) rfl (Nat.le_of_ble_eq_true rfl) ⟨ha, hb⟩ (ws1 _) (fun r1 σ1 hr1 hq1 w3 => ?_)
  obtain ⟨e1, hC2⟩ := hq1
  refine n_aloadn E dL_630 rfl 1 rfl ?_
  refine n_callI (dsc := dscM) (ad := adM) (σ := τ) (wf := wl dscC (wX X adC) σ1) (wr := []) (b0 := 0) (As := fun _ => []) E hZ w2 md_M_tripped (k_M_tripped  hM hW ⟨by omega, by omega⟩) dM_0 rfl ⟨Nat.le_of_ble_eq_true rfl, Nat.le_of_ble_eq_true rfl⟩ lL_631 dL_631 (fun _ => rfl) rfl (Nat.le_of_ble_eq_true rfl) ⟨ha, hb⟩ (ws2 _ _) (fun r2 τ1 hr2 hq2 w4 => ?_)
  obtain ⟨e2, hM2⟩ := hq2
  refine n_world (ws' := wl dscC (wX X adC) σ1 ++ wl dscM (wX X adM) τ1) (ws3 _ _) ?_
  have e : r1 = r2 := e1.trans e2.symm
  refine n_icmp_eq E 785 dL_634 (by decide) (fun _ => ?_) (fun c => absurd (congrArg iI e) c)
  exact G σ1 τ1 (AA) B ⟨w3, w4, hC2, hM2, hW, by omega, by omega⟩
theorem law_measles (E : NE X code "BellSchoolLaw" 4 room_1) (hZ : SZ (lA X) X.1.2.2.2.2.1 X.1.2.2.2.2.1.heap) (hX : va_X bS Ls xs X.1.2.2.2.2.1 X.1.2.2.2.2.1.heap) (hbl : bS < X.1.2.2.2.2.1.heap.size) (hbA : ¬ lA X bS) (ha : a ≤ 600000) (hb : b ≤ 7302250) (i0 : 0 ≤ i) (i1 : i + 5 ≤ Ls) (i2 : Ls ≤ 320) (IV : LI i B σ τ AA) (G : LG X adC adM a b bS i) : NV (lA X) X 639 (lL bS adC adM i) [] (wl dscC (wX X adC) σ ++ wl dscM (wX X adM) τ) a b := by
  obtain ⟨w1, w2, hC, hM, hW, b0, b1⟩ := IV
  refine n_aloadn E dL_639 rfl 2 rfl ?_
  refine n_arg E hX hbl hbA 1 (by omega) (by omega) dL_640 dL_641 dL_642 dL_643 dL_644 ?_
  refine n_arg E hX hbl hbA 2 (by omega) (by omega) dL_645 dL_646 dL_647 dL_648 dL_649 ?_
  refine n_arg E hX hbl hbA 3 (by omega) (by omega) dL_650 dL_651 dL_652 dL_653 dL_654 ?_
  refine n_arg E hX hbl hbA 4 (by omega) (by omega) dL_655 dL_656 dL_657 dL_658 dL_659 ?_
  refine n_callL (dsc := dscC) (ad := adC) (σ := σ) (wf := []) (wr := wl dscM (wX X adM) τ) (b0 := 0) (As := fun _ => [.int (iI (prm xs (i + 1))), .int (iI (prm xs (i + 2))), .int (iI (prm xs (i + 3))), .int (iI (prm xs (i + 4)))]) E hZ w1 md_B_measles (k_C_measles (prm xs (i + 1)) (prm_R xs (i + 1)) (prm xs (i + 2)) (prm_R xs (i + 2)) (prm xs (i + 3)) (prm_R xs (i + 3)) (prm xs (i + 4)) (prm_R xs (i + 4)) hC hW ⟨by omega, by omega⟩) dC_0 rfl ⟨Nat.le_of_ble_eq_true rfl, Nat.le_of_ble_eq_true rfl⟩ lL_660 dL_660 (fun _ => rfl) rfl (Nat.le_of_ble_eq_true rfl) ⟨ha, hb⟩ (ws1 _) (fun r1 σ1 hq1 w3 => ?_)
  obtain ⟨e1, hC2⟩ := hq1
  refine n_aloadn E dL_663 rfl 1 rfl ?_
  refine n_arg E hX hbl hbA 1 (by omega) (by omega) dL_664 dL_665 dL_666 dL_667 dL_668 ?_
  refine n_arg E hX hbl hbA 2 (by omega) (by omega) dL_669 dL_670 dL_671 dL_672 dL_673 ?_
  refine n_arg E hX hbl hbA 3 (by omega) (by omega) dL_674 dL_675 dL_676 dL_677 dL_678 ?_
  refine n_arg E hX hbl hbA 4 (by omega) (by omega) dL_679 dL_680 dL_681 dL_682 dL_683 ?_
  refine n_callL (dsc := dscM) (ad := adM) (σ := τ) (wf := wl dscC (wX X adC) σ1) (wr := []) (b0 := 0) (As := fun _ => [.int (iI (prm xs (i + 1))), .int (iI (prm xs (i + 2))), .int (iI (prm xs (i + 3))), .int (iI (prm xs (i + 4)))]) E hZ w2 md_M_measles (k_M_measles (prm xs (i + 1)) (prm_R xs (i + 1)) (prm xs (i + 2)) (prm_R xs (i + 2)) (prm xs (i + 3)) (prm_R xs (i + 3)) (prm xs (i + 4)) (prm_R xs (i + 4)) hM hW ⟨by omega, by omega⟩) dM_0 rfl ⟨Nat.le_of_ble_eq_true rfl, Nat.le_of_ble_eq_true rfl⟩ lL_684 dL_684 (fun _ => rfl) rfl (Nat.le_of_ble_eq_true rfl) ⟨ha, hb⟩ (ws2 _ _) (fun r2 τ1 hq2 w4 => ?_)
  obtain ⟨e2, hM2⟩ := hq2
  refine n_world (ws' := wl dscC (wX X adC) σ1 ++ wl dscM (wX X adM) τ1) (ws3 _ _) ?_
  have e : r1 = r2 := Int64.toInt_inj.mp (e1.trans e2.symm)
  refine n_lcmp E dL_687 ?_
  refine n_if_eq E 785 dL_688 (by decide) (fun _ => ?_) (fun c => absurd ((lg_cmp_eq r1 r2).mpr e) c)
  exact G σ1 τ1 (AA) B ⟨w3, w4, hC2, hM2, hW, by omega, by omega⟩
theorem law_year (E : NE X code "BellSchoolLaw" 4 room_1) (hZ : SZ (lA X) X.1.2.2.2.2.1 X.1.2.2.2.2.1.heap) (hX : va_X bS Ls xs X.1.2.2.2.2.1 X.1.2.2.2.2.1.heap) (hbl : bS < X.1.2.2.2.2.1.heap.size) (hbA : ¬ lA X bS) (ha : a ≤ 600000) (hb : b ≤ 7302250) (i0 : 0 ≤ i) (i1 : i + 5 ≤ Ls) (i2 : Ls ≤ 320) (IV : LI i B σ τ AA) (G : LG X adC adM a b bS i) : NV (lA X) X 693 (lL bS adC adM i) [] (wl dscC (wX X adC) σ ++ wl dscM (wX X adM) τ) a b := by
  obtain ⟨w1, w2, hC, hM, hW, b0, b1⟩ := IV
  refine n_aloadn E dL_693 rfl 2 rfl ?_
  refine n_arg E hX hbl hbA 1 (by omega) (by omega) dL_694 dL_695 dL_696 dL_697 dL_698 ?_
  refine n_arg E hX hbl hbA 2 (by omega) (by omega) dL_699 dL_700 dL_701 dL_702 dL_703 ?_
  refine n_arg E hX hbl hbA 3 (by omega) (by omega) dL_704 dL_705 dL_706 dL_707 dL_708 ?_
  refine n_callI (dsc := dscC) (ad := adC) (σ := σ) (wf := []) (wr := wl dscM (wX X adM) τ) (b0 := 0) (As := fun _ => [.int (iI (prm xs (i + 1))), .int (iI (prm xs (i + 2))), .int (iI (prm xs (i + 3)))]) E hZ w1 md_B_year (k_C_year (prm xs (i + 1)) (prm_R xs (i + 1)) (prm xs (i + 2)) (prm_R xs (i + 2)) (prm xs (i + 3)) (prm_R xs (i + 3)) hC hW ⟨by omega, by omega⟩) dC_0 rfl ⟨Nat.le_of_ble_eq_true rfl, Nat.le_of_ble_eq_true rfl⟩ lL_709 dL_709 (fun _ => rfl) rfl (Nat.le_of_ble_eq_true rfl) ⟨ha, hb⟩ (ws1 _) (fun r1 σ1 hr1 hq1 w3 => ?_)
  obtain ⟨e1, hC2⟩ := hq1
  refine n_aloadn E dL_712 rfl 1 rfl ?_
  refine n_arg E hX hbl hbA 1 (by omega) (by omega) dL_713 dL_714 dL_715 dL_716 dL_717 ?_
  refine n_arg E hX hbl hbA 2 (by omega) (by omega) dL_718 dL_719 dL_720 dL_721 dL_722 ?_
  refine n_arg E hX hbl hbA 3 (by omega) (by omega) dL_723 dL_724 dL_725 dL_726 dL_727 ?_
  refine n_callI (dsc := dscM) (ad := adM) (σ := τ) (wf := wl dscC (wX X adC) σ1) (wr := []) (b0 := 0) (As := fun _ => [.int (iI (prm xs (i + 1))), .int (iI (prm xs (i + 2))), .int (iI (prm xs (i + 3)))]) E hZ w2 md_M_year (k_M_year (prm xs (i + 1)) (prm_R xs (i + 1)) (prm xs (i + 2)) (prm_R xs (i + 2)) (prm xs (i + 3)) (prm_R xs (i + 3)) hM hW ⟨by omega, by omega⟩) dM_0 rfl ⟨Nat.le_of_ble_eq_true rfl, Nat.le_of_ble_eq_true rfl⟩ lL_728 dL_728 (fun _ => rfl) rfl (Nat.le_of_ble_eq_true rfl) ⟨ha, hb⟩ (ws2 _ _) (fun r2 τ1 hr2 hq2 w4 => ?_)
  obtain ⟨e2, hM2⟩ := hq2
  refine n_world (ws' := wl dscC (wX X adC) σ1 ++ wl dscM (wX X adM) τ1) (ws3 _ _) ?_
  have e : r1 = r2 := e1.trans e2.symm
  refine n_icmp_eq E 785 dL_731 (by decide) (fun _ => ?_) (fun c => absurd (congrArg iI e) c)
  exact G σ1 τ1 (AA) B ⟨w3, w4, hC2, hM2, hW, by omega, by omega⟩
theorem law_keep (E : NE X code "BellSchoolLaw" 4 room_1) (hZ : SZ (lA X) X.1.2.2.2.2.1 X.1.2.2.2.2.1.heap) (hX : va_X bS Ls xs X.1.2.2.2.2.1 X.1.2.2.2.2.1.heap) (hbl : bS < X.1.2.2.2.2.1.heap.size) (hbA : ¬ lA X bS) (ha : a ≤ 600000) (hb : b ≤ 7302250) (i0 : 0 ≤ i) (i1 : i + 5 ≤ Ls) (i2 : Ls ≤ 320) (IV : LI i B σ τ AA) (G : LG X adC adM a b bS i) : NV (lA X) X 736 (lL bS adC adM i) [] (wl dscC (wX X adC) σ ++ wl dscM (wX X adM) τ) a b := by
  obtain ⟨w1, w2, hC, hM, hW, b0, b1⟩ := IV
  refine n_aloadn E dL_736 rfl 2 rfl ?_
  refine n_callI (dsc := dscC) (ad := adC) (σ := σ) (wf := []) (wr := wl dscM (wX X adM) τ) (b0 := 0) (As := fun _ => []) E hZ w1 md_B_keep (k_C_keep  hC hW ⟨by omega, by omega⟩) dC_0 rfl ⟨Nat.le_of_ble_eq_true rfl, Nat.le_of_ble_eq_true rfl⟩ lL_737 dL_737 (fun _ => rfl) rfl (Nat.le_of_ble_eq_true rfl) ⟨ha, hb⟩ (ws1 _) (fun r1 σ1 hr1 hq1 w3 => ?_)
  obtain ⟨e1, hC2⟩ := hq1
  refine n_aloadn E dL_740 rfl 1 rfl ?_
  refine n_callI (dsc := dscM) (ad := adM) (σ := τ) (wf := wl dscC (wX X adC) σ1) (wr := []) (b0 := 0) (As := fun _ => []) E hZ w2 md_M_keep (k_M_keep  hM hW ⟨by omega, by omega⟩) dM_0 rfl ⟨Nat.le_of_ble_eq_true rfl, Nat.le_of_ble_eq_true rfl⟩ lL_741 dL_741 (fun _ => rfl) rfl (Nat.le_of_ble_eq_true rfl) ⟨ha, hb⟩ (ws2 _ _) (fun r2 τ1 hr2 hq2 w4 => ?_)
  obtain ⟨e2, hM2⟩ := hq2
  refine n_world (ws' := wl dscC (wX X adC) σ1 ++ wl dscM (wX X adM) τ1) (ws3 _ _) ?_
  have e : r1 = r2 := e1.trans e2.symm
  refine n_icmp_eq E 785 dL_744 (by decide) (fun _ => ?_) (fun c => absurd (congrArg iI e) c)
  exact G σ1 τ1 (nKeep AA) B ⟨w3, w4, hC2, hM2, WK_keep hW, by omega, by omega⟩
theorem law_back (E : NE X code "BellSchoolLaw" 4 room_1) (hZ : SZ (lA X) X.1.2.2.2.2.1 X.1.2.2.2.2.1.heap) (hX : va_X bS Ls xs X.1.2.2.2.2.1 X.1.2.2.2.2.1.heap) (hbl : bS < X.1.2.2.2.2.1.heap.size) (hbA : ¬ lA X bS) (ha : a ≤ 600000) (hb : b ≤ 7302250) (i0 : 0 ≤ i) (i1 : i + 5 ≤ Ls) (i2 : Ls ≤ 320) (IV : LI i B σ τ AA) (G : LG X adC adM a b bS i) : NV (lA X) X 749 (lL bS adC adM i) [] (wl dscC (wX X adC) σ ++ wl dscM (wX X adM) τ) a b := by
  obtain ⟨w1, w2, hC, hM, hW, b0, b1⟩ := IV
  refine n_aloadn E dL_749 rfl 2 rfl ?_
  refine n_callI (dsc := dscC) (ad := adC) (σ := σ) (wf := []) (wr := wl dscM (wX X adM) τ) (b0 := 0) (As := fun _ => []) E hZ w1 md_B_back (k_C_back  hC hW ⟨by omega, by omega⟩) dC_0 rfl ⟨Nat.le_of_ble_eq_true rfl, Nat.le_of_ble_eq_true rfl⟩ lL_750 dL_750 (fun _ => rfl) rfl (Nat.le_of_ble_eq_true rfl) ⟨ha, hb⟩ (ws1 _) (fun r1 σ1 hr1 hq1 w3 => ?_)
  obtain ⟨e1, hC2⟩ := hq1
  refine n_aloadn E dL_753 rfl 1 rfl ?_
  refine n_callI (dsc := dscM) (ad := adM) (σ := τ) (wf := wl dscC (wX X adC) σ1) (wr := []) (b0 := 0) (As := fun _ => []) E hZ w2 md_M_back (k_M_back  hM hW ⟨by omega, by omega⟩) dM_0 rfl ⟨Nat.le_of_ble_eq_true rfl, Nat.le_of_ble_eq_true rfl⟩ lL_754 dL_754 (fun _ => rfl) rfl (Nat.le_of_ble_eq_true rfl) ⟨ha, hb⟩ (ws2 _ _) (fun r2 τ1 hr2 hq2 w4 => ?_)
  obtain ⟨e2, hM2⟩ := hq2
  refine n_world (ws' := wl dscC (wX X adC) σ1 ++ wl dscM (wX X adM) τ1) (ws3 _ _) ?_
  have e : r1 = r2 := e1.trans e2.symm
  refine n_icmp_eq E 785 dL_757 (by decide) (fun _ => ?_) (fun c => absurd (congrArg iI e) c)
  exact G σ1 τ1 (nBack AA) B ⟨w3, w4, hC2, hM2, WK_back hW, by omega, by omega⟩
theorem law_count (E : NE X code "BellSchoolLaw" 4 room_1) (hZ : SZ (lA X) X.1.2.2.2.2.1 X.1.2.2.2.2.1.heap) (hX : va_X bS Ls xs X.1.2.2.2.2.1 X.1.2.2.2.2.1.heap) (hbl : bS < X.1.2.2.2.2.1.heap.size) (hbA : ¬ lA X bS) (ha : a ≤ 600000) (hb : b ≤ 7302250) (i0 : 0 ≤ i) (i1 : i + 5 ≤ Ls) (i2 : Ls ≤ 320) (IV : LI i B σ τ AA) (G : LG X adC adM a b bS i) : NV (lA X) X 762 (lL bS adC adM i) [] (wl dscC (wX X adC) σ ++ wl dscM (wX X adM) τ) a b := by
  obtain ⟨w1, w2, hC, hM, hW, b0, b1⟩ := IV
  refine n_aloadn E dL_762 rfl 2 rfl ?_
  refine n_arg E hX hbl hbA 1 (by omega) (by omega) dL_763 dL_764 dL_765 dL_766 dL_767 ?_
  refine n_callI (dsc := dscC) (ad := adC) (σ := σ) (wf := []) (wr := wl dscM (wX X adM) τ) (b0 := 0) (As := fun _ => [.int (iI (prm xs (i + 1)))]) E hZ w1 md_B_count (k_C_count (prm xs (i + 1)) (prm_R xs (i + 1)) hC hW ⟨by omega, by omega⟩) dC_0 rfl ⟨Nat.le_of_ble_eq_true rfl, Nat.le_of_ble_eq_true rfl⟩ lL_768 dL_768 (fun _ => rfl) rfl (Nat.le_of_ble_eq_true rfl) ⟨ha, hb⟩ (ws1 _) (fun r1 σ1 hr1 hq1 w3 => ?_)
  obtain ⟨e0, e1⟩ := hq1
  subst e0
  refine n_aloadn E dL_771 rfl 1 rfl ?_
  refine n_arg E hX hbl hbA 1 (by omega) (by omega) dL_772 dL_773 dL_774 dL_775 dL_776 ?_
  refine n_callI (dsc := dscM) (ad := adM) (σ := τ) (wf := wl dscC (wX X adC) σ1) (wr := []) (b0 := 0) (As := fun _ => [.int (iI (prm xs (i + 1)))]) E hZ w2 md_M_count (k_M_count (prm xs (i + 1)) (prm_R xs (i + 1)) hM hW ⟨by omega, by omega⟩) dM_0 rfl ⟨Nat.le_of_ble_eq_true rfl, Nat.le_of_ble_eq_true rfl⟩ lL_777 dL_777 (fun _ => rfl) rfl (Nat.le_of_ble_eq_true rfl) ⟨ha, hb⟩ (ws2 _ _) (fun r2 τ1 hr2 hq2 w4 => ?_)
  obtain ⟨e0, e2⟩ := hq2
  subst e0
  refine n_world (ws' := wl dscC (wX X adC) σ1 ++ wl dscM (wX X adM) τ1) (ws3 _ _) ?_
  have e : r1 = r2 := e1.trans e2.symm
  refine n_icmp_eq E 785 dL_780 (by decide) (fun _ => ?_) (fun c => absurd (congrArg iI e) c)
  exact G σ1 τ1 (AA) B ⟨w3, w4, hC, hM, hW, by omega, by omega⟩
end LC
