/-! ===== the law: its loop ===== -/
section LP
variable {X : XC} {bS Ls : Nat} {xs : Nat → Int32} {adC adM : Nat → Nat} {a b : Nat}
theorem law_switch (E : NE X code "BellSchoolLaw" 4 room_1) (hZ : SZ (lA X) X.1.2.2.2.2.1 X.1.2.2.2.2.1.heap) (hX : va_X bS Ls xs X.1.2.2.2.2.1 X.1.2.2.2.2.1.heap) (hbl : bS < X.1.2.2.2.2.1.heap.size) (hbA : ¬ lA X bS) (ha : a ≤ 600000) (hb : b ≤ 7302250) {i B : Int} {σ τ : MS} {AA : AT} (i0 : 0 ≤ i) (i1 : i + 5 ≤ Ls) (i2 : Ls ≤ 320) (IV : LI i B σ τ AA) (G : LG X adC adM a b bS i) (j : Nat) (hj : j < 32) : NV (lA X) X 32 (lL bS adC adM i) [.int (nI j)] (wl dscC (wX X adC) σ ++ wl dscM (wX X adM) τ) a b := by
  have go : LI (i + 5) B σ τ AA := ⟨IV.1, IV.2.1, IV.2.2.1, IV.2.2.2.1, IV.2.2.2.2.1, IV.2.2.2.2.2.1, by have := IV.2.2.2.2.2.2; omega⟩
  match j, hj with
  | 0, _ => exact n_tableIn E 160 dL_32 (by decide) (by decide) rfl (by decide) (law_write E hZ hX hbl hbA ha hb i0 i1 i2 IV G)
  | 1, _ => exact n_tableIn E 183 dL_32 (by decide) (by decide) rfl (by decide) (law_wipe E hZ hX hbl hbA ha hb i0 i1 i2 IV G)
  | 2, _ => exact n_tableIn E 196 dL_32 (by decide) (by decide) rfl (by decide) (law_fault E hZ hX hbl hbA ha hb i0 i1 i2 IV G)
  | 3, _ => exact n_tableIn E 209 dL_32 (by decide) (by decide) rfl (by decide) (law_lay E hZ hX hbl hbA ha hb i0 i1 i2 IV G)
  | 4, _ => exact n_tableIn E 222 dL_32 (by decide) (by decide) rfl (by decide) (law_home E hZ hX hbl hbA ha hb i0 i1 i2 IV G)
  | 5, _ => exact n_tableIn E 255 dL_32 (by decide) (by decide) rfl (by decide) (law_way E hZ hX hbl hbA ha hb i0 i1 i2 IV G)
  | 6, _ => exact n_tableIn E 298 dL_32 (by decide) (by decide) rfl (by decide) (law_far E hZ hX hbl hbA ha hb i0 i1 i2 IV G)
  | 7, _ => exact n_tableIn E 331 dL_32 (by decide) (by decide) rfl (by decide) (law_comes E hZ hX hbl hbA ha hb i0 i1 i2 IV G)
  | 8, _ => exact n_tableIn E 354 dL_32 (by decide) (by decide) rfl (by decide) (law_last E hZ hX hbl hbA ha hb i0 i1 i2 IV G)
  | 9, _ => exact n_tableIn E 367 dL_32 (by decide) (by decide) rfl (by decide) (law_pass E hZ hX hbl hbA ha hb i0 i1 i2 IV G)
  | 10, _ => exact n_tableIn E 390 dL_32 (by decide) (by decide) rfl (by decide) (law_keepBack E hZ hX hbl hbA ha hb i0 i1 i2 IV G)
  | 11, _ => exact n_tableIn E 413 dL_32 (by decide) (by decide) rfl (by decide) (law_sick E hZ hX hbl hbA ha hb i0 i1 i2 IV G)
  | 12, _ => exact n_tableIn E 436 dL_32 (by decide) (by decide) rfl (by decide) (law_shut E hZ hX hbl hbA ha hb i0 i1 i2 IV G)
  | 13, _ => exact n_tableIn E 469 dL_32 (by decide) (by decide) rfl (by decide) (law_undo E hZ hX hbl hbA ha hb i0 i1 i2 IV G)
  | 14, _ => exact n_tableIn E 482 dL_32 (by decide) (by decide) rfl (by decide) (law_behind E hZ hX hbl hbA ha hb i0 i1 i2 IV G)
  | 15, _ => exact n_tableIn E 505 dL_32 (by decide) (by decide) rfl (by decide) (law_again E hZ hX hbl hbA ha hb i0 i1 i2 IV G)
  | 16, _ => exact n_tableIn E 518 dL_32 (by decide) (by decide) rfl (by decide) (law_each E hZ hX hbl hbA ha hb i0 i1 i2 IV G)
  | 17, _ => exact n_tableIn E 541 dL_32 (by decide) (by decide) rfl (by decide) (law_always E hZ hX hbl hbA ha hb i0 i1 i2 IV G)
  | 18, _ => exact n_tableIn E 554 dL_32 (by decide) (by decide) rfl (by decide) (law_never E hZ hX hbl hbA ha hb i0 i1 i2 IV G)
  | 19, _ => exact n_tableIn E 567 dL_32 (by decide) (by decide) rfl (by decide) (law_see E hZ hX hbl hbA ha hb i0 i1 i2 IV G)
  | 20, _ => exact n_tableIn E 600 dL_32 (by decide) (by decide) rfl (by decide) (law_forget E hZ hX hbl hbA ha hb i0 i1 i2 IV G)
  | 21, _ => exact n_tableIn E 613 dL_32 (by decide) (by decide) rfl (by decide) (law_fog E hZ hX hbl hbA ha hb i0 i1 i2 IV G)
  | 22, _ => exact n_tableIn E 626 dL_32 (by decide) (by decide) rfl (by decide) (law_tripped E hZ hX hbl hbA ha hb i0 i1 i2 IV G)
  | 23, _ => exact n_tableIn E 639 dL_32 (by decide) (by decide) rfl (by decide) (law_measles E hZ hX hbl hbA ha hb i0 i1 i2 IV G)
  | 24, _ => exact n_tableIn E 693 dL_32 (by decide) (by decide) rfl (by decide) (law_year E hZ hX hbl hbA ha hb i0 i1 i2 IV G)
  | 25, _ => exact n_tableIn E 736 dL_32 (by decide) (by decide) rfl (by decide) (law_keep E hZ hX hbl hbA ha hb i0 i1 i2 IV G)
  | 26, _ => exact n_tableIn E 749 dL_32 (by decide) (by decide) rfl (by decide) (law_back E hZ hX hbl hbA ha hb i0 i1 i2 IV G)
  | 27, _ => exact n_tableIn E 762 dL_32 (by decide) (by decide) rfl (by decide) (law_count E hZ hX hbl hbA ha hb i0 i1 i2 IV G)
  | 28, _ => exact n_tableOut E 785 dL_32 (Or.inr (by decide)) (by decide) (G σ τ AA B go)
  | 29, _ => exact n_tableOut E 785 dL_32 (Or.inr (by decide)) (by decide) (G σ τ AA B go)
  | 30, _ => exact n_tableOut E 785 dL_32 (Or.inr (by decide)) (by decide) (G σ τ AA B go)
  | 31, _ => exact n_tableOut E 785 dL_32 (Or.inr (by decide)) (by decide) (G σ τ AA B go)
  | n + 32, h => exact absurd h (by omega)
theorem law_loop (E : NE X code "BellSchoolLaw" 4 room_1) (hZ : SZ (lA X) X.1.2.2.2.2.1 X.1.2.2.2.2.1.heap) (hX : va_X bS Ls xs X.1.2.2.2.2.1 X.1.2.2.2.2.1.heap) (hbl : bS < X.1.2.2.2.2.1.heap.size) (hbA : ¬ lA X bS) (ha : a ≤ 600000) (hb : b ≤ 7302250) (i2 : Ls ≤ 320) (hend : ∀ L ws, NV (lA X) X 792 L [.int 1] ws a b) :
    ∀ (n : Nat) (i : Int), 0 ≤ i → i ≤ 330 → (Ls : Int) - i ≤ n → ∀ (B : Int) (σ τ : MS) (AA : AT), LI i B σ τ AA → NV (lA X) X 18 (lL bS adC adM i) [] (wl dscC (wX X adC) σ ++ wl dscM (wX X adM) τ) a b := by
  intro n
  induction n with
  | zero =>
    intro i i0 i3 hi B σ τ AA IV
    refine n_iloadn E dL_18 rfl 0 rfl ?_
    refine n_aloadn E dL_19 rfl 3 rfl ?_
    refine n_slen E hX hbl hbA dL_20 ?_
    refine n_iconst (v := iI 5) E dL_21 rfl ?_
    refine n_isub E dL_22 ?_
    refine n_icmp_gt E 791 dL_23 (by decide) (fun _ => ?_) (fun c => ?_)
    · refine n_iconst (v := 1) E dL_791 (by decide) ?_
      exact hend _ _
    · rw [iI_lt ⟨by omega, by omega⟩ ⟨by omega, by omega⟩] at c
      omega
  | succ n ih =>
    intro i i0 i3 hi B σ τ AA IV
    refine n_iloadn E dL_18 rfl 0 rfl ?_
    refine n_aloadn E dL_19 rfl 3 rfl ?_
    refine n_slen E hX hbl hbA dL_20 ?_
    refine n_iconst (v := iI 5) E dL_21 rfl ?_
    refine n_isub E dL_22 ?_
    refine n_icmp_gt E 791 dL_23 (by decide) (fun _ => ?_) (fun c => ?_)
    · refine n_iconst (v := 1) E dL_791 (by decide) ?_
      exact hend _ _
    · rw [iI_lt ⟨by omega, by omega⟩ ⟨by omega, by omega⟩] at c
      have i1 : i + 5 ≤ Ls := by omega
      refine n_aloadn E dL_26 rfl 3 rfl ?_
      refine n_iloadn E dL_27 rfl 0 rfl ?_
      refine n_sld E hX hbl hbA i0 (by omega) i2 dL_28 ?_
      refine n_bipush (v := 31) E dL_29 (by decide) ?_
      obtain ⟨j, hj, ej⟩ := pk_andE (iI (prm xs i)) (m := 31) 5 (by decide)
      refine n_iand E dL_31 ej ?_
      refine law_switch E hZ hX hbl hbA ha hb i0 i1 i2 IV (fun σ' τ' AA' B' IV' => ?_) j hj
      refine n_iinc (y := iI (i + 5)) (L' := lL bS adC adM (i + 5)) E dL_785 0 rfl (by decide) (iI_add i 5) rfl ?_
      refine n_goto E 18 dL_788 (by decide) ?_
      exact ih (i + 5) (by omega) (by omega) (by omega) B' σ' τ' AA' IV'
end LP
/-! ===== the law: how it begins ===== -/
theorem hEBb (A : Nat → Prop) (ar : Array Value) (U : State) (g : JFrame) (mk : MethodId) (h : EB A U) : EB A (U.calling g mk ar) := by
  obtain ⟨h1, h2, k, v, h3, h4⟩ := h
  exact ⟨NW.same (U := U.calling g mk ar) h1 rfl, SZ.same (s := U) (U := U.calling g mk ar) h2 rfl, k, v, vk_R.same (u := U) (U := U.calling g mk ar) rfl h3, JK.moved (u := U) (U := U.calling g mk ar) (Vm.Alike.refl U.vm) h4⟩
theorem hEBx {A : Nat → Prop} {s : State} (h : EB A s) (A' : Nat → Prop) (U : State) (hA : ∀ q, A' q → A q) (hW : s.WarmedH U.vm) (hq : ∀ q : Nat, q < s.heap.size → ¬ A q → U.heap[q]? = s.heap[q]?) : EB A' U := by
  obtain ⟨h1, h2, k, v, h3, h4⟩ := h
  exact ⟨h1.warm hW, (SZ.kept h2 hW hq).narrow hA, k, v, vk_R.warm hW h3, ((h4.moved hW.alike).kept hq).narrow hA⟩
theorem hEMb (A : Nat → Prop) (ar : Array Value) (U : State) (g : JFrame) (mk : MethodId) (h : EM A U) : EM A (U.calling g mk ar) := SZ.same (s := U) (U := U.calling g mk ar) h rfl
theorem hEMx {A : Nat → Prop} {s : State} (h : SZ A s s.heap) (A' : Nat → Prop) (U : State) (hA : ∀ q, A' q → A q) (hW : s.WarmedH U.vm) (hq : ∀ q : Nat, q < s.heap.size → ¬ A q → U.heap[q]? = s.heap[q]?) : EM A' U := (SZ.kept h hW hq).narrow hA
theorem law_begin {X : XC} {bS Ls : Nat} {xs : Nat → Int32} (E : NE X code "BellSchoolLaw" 4 room_1) (hEB : EB (lA X) X.1.2.2.2.2.1) (hX : va_X bS Ls xs X.1.2.2.2.2.1 X.1.2.2.2.2.1.heap) (hbl : bS < X.1.2.2.2.2.1.heap.size) (hbA : ¬ lA X bS) (i2 : Ls ≤ 320) (hend : ∀ L ws, NV (lA X) X 792 L [.int 1] ws 600000 7302250) : NV (lA X) X 0 [(0, .ref bS)] [] [] 0 0 := by
  have hA : NA (lA X) X := fun _ h => h
  refine n_new E hA cf8 lL_0 lI_8 lY_B [.null, .null, .null, .null, .null, .null, .null, .null, .null, .null, .null, .null, .null, .int 0] df8 (Nat.le_of_ble_eq_true rfl) (Nat.le_of_ble_eq_true rfl) dL_0 (fun q1 => ?_)
  refine n_dup E dL_3 rfl ?_
  refine n_initL (As := []) E hA md_B0 rfl (c_BellSchool_init q1) hEBb (hEBx hEB) lL_4 dL_4 rfl ⟨Nat.le_of_ble_eq_true rfl, Nat.le_of_ble_eq_true rfl⟩ (Nat.le_of_ble_eq_true rfl) ⟨Nat.le_of_ble_eq_true rfl, Nat.le_of_ble_eq_true rfl⟩ rfl (fun u w' e => ?_)
  have hu : u 0 = q1 := e.1
  have e2 : ∃ σ, w' = wl dscC (wX X u) σ ∧ WT dscC σ ∧ CI σ A0 := e.2
  clear e
  obtain ⟨σ, e2, w1, hC⟩ := e2
  subst hu
  rw [e2, List.nil_append]
  clear e2
  refine n_astoren (L' := [(1, .ref (u 0)), (0, .ref bS)]) E dL_7 rfl (by decide) rfl ?_
  refine n_new E hA cf9 lL_8 lI_9 lY_M [.int 0, .null, .int 0, .int 0, .int 0, .int 0, .null, .null, .null, .null, .null, .null, .int 0, .int 0, .null, .null, .null, .null, .null, .null, .null, .null, .int 0, .int 0, .null, .null, .null, .int 0, .null, .null, .null, .int 0, .null] df9 (Nat.le_of_ble_eq_true rfl) (Nat.le_of_ble_eq_true rfl) dL_8 (fun q2 => ?_)
  refine n_dup E dL_11 rfl ?_
  refine n_initL (As := []) E hA md_M0 rfl (c_BellSchoolModel_init q2) hEMb (hEMx hEB.2.1) lL_12 dL_12 rfl ⟨Nat.le_of_ble_eq_true rfl, Nat.le_of_ble_eq_true rfl⟩ (Nat.le_of_ble_eq_true rfl) ⟨Nat.le_of_ble_eq_true rfl, Nat.le_of_ble_eq_true rfl⟩ rfl (fun v w' e => ?_)
  have hv : v 0 = q2 := e.1
  have e2 : ∃ τ, w' = wl dscM (wX X v) τ ∧ WT dscM τ ∧ MI τ A0 := e.2
  clear e
  obtain ⟨τ, e2, w2, hM⟩ := e2
  subst hv
  rw [e2]
  clear e2
  refine n_astoren (L' := [(2, .ref (v 0)), (1, .ref (u 0)), (0, .ref bS)]) E dL_15 rfl (by decide) rfl ?_
  refine n_iconst (v := iI 0) E dL_16 rfl ?_
  refine n_istoren (L' := lL bS u v 0) E dL_17 rfl (by decide) rfl ?_
  refine n_wide (a' := 600000) (b' := 7302250) (Nat.le_of_ble_eq_true rfl) (Nat.le_of_ble_eq_true rfl) ?_
  have hI : LI 0 0 σ τ A0 := ⟨w1, w2, hC, hM, A0_WK, Int.le_refl _, Int.le_refl _⟩
  have hl := law_loop (adC := u) (adM := v) E hEB.2.1 hX hbl hbA (a := 600000) (b := 7302250) (Nat.le_refl _) (Nat.le_refl _) i2 hend Ls 0 (by decide) (by decide) (by omega) 0 σ τ A0 hI
  exact hl
