/-! ===== each call, as a contract over what is held ===== -/
theorem k_C_write {σ : MS} {A : AT} {B : Int} (p1 : Int) (hp1 : Rng p1) (hC : CI σ A) (hW : WK B A) (hB : 0 ≤ B ∧ B ≤ 700000) : MT dscC ⟨"BellSchool", "write", "(I)I"⟩ prog_1_method_2_code 2 (some .int) 1 (fun ad => [.ref (ad 0), .int (iI p1)]) σ (po_I dscC (fun r z => r = fWrite A p1 ∧ CI z (nWrite A p1))) :=
  c_B_write p1 hp1 σ _ (sp_B_write hC hW.1 (fun z hz => ⟨rfl, hz⟩))
theorem k_C_wipe {σ : MS} {A : AT} {B : Int}  (hC : CI σ A) (hW : WK B A) (hB : 0 ≤ B ∧ B ≤ 700000) : MT dscC ⟨"BellSchool", "wipe", "()I"⟩ prog_1_method_3_code 2 (some .int) 0 (fun ad => [.ref (ad 0)]) σ (po_I dscC (fun r z => r = fWipe A ∧ CI z (nWipe A))) :=
  c_B_wipe  σ _ (sp_B_wipe hC hW.1 (fun z hz => ⟨rfl, hz⟩))
theorem k_C_fault {σ : MS} {A : AT} {B : Int}  (hC : CI σ A) (hW : WK B A) (hB : 0 ≤ B ∧ B ≤ 700000) : MT dscC ⟨"BellSchool", "fault", "()I"⟩ prog_1_method_4_code 1 (some .int) 5 (fun ad => [.ref (ad 0)]) σ (po_I dscC (fun r z => r = fFault A ∧ CI z (A))) :=
  c_B_fault  σ _ (sp_B_fault hC hW.1 (fun z hz => ⟨rfl, hz⟩))
theorem k_C_lay {σ : MS} {A : AT} {B : Int}  (hC : CI σ A) (hW : WK B A) (hB : 0 ≤ B ∧ B ≤ 700000) : MT dscC ⟨"BellSchool", "lay", "()I"⟩ prog_1_method_5_code 1 (some .int) 6 (fun ad => [.ref (ad 0)]) σ (po_I dscC (fun r z => r = fLay A ∧ CI z (nLay A))) :=
  c_B_lay  σ _ (sp_B_lay hC hW.1 (fun z hz => ⟨rfl, hz⟩))
theorem k_C_home {σ : MS} {A : AT} {B : Int} (p1 : Int) (hp1 : Rng p1) (p2 : Int) (hp2 : Rng p2) (hC : CI σ A) (hW : WK B A) (hB : 0 ≤ B ∧ B ≤ 700000) : MT dscC ⟨"BellSchool", "home", "(II)I"⟩ prog_1_method_6_code 3 (some .int) 1 (fun ad => [.ref (ad 0), .int (iI p1), .int (iI p2)]) σ (po_I dscC (fun r z => z = σ ∧ (fun r => r = fHome A p1 p2) r)) :=
  c_B_home p1 hp1 p2 hp2 σ _ (sp_B_home hC hW.1 rfl)
theorem k_C_way {σ : MS} {A : AT} {B : Int} (p1 : Int) (hp1 : Rng p1) (p2 : Int) (hp2 : Rng p2) (p3 : Int) (hp3 : Rng p3) (hC : CI σ A) (hW : WK B A) (hB : 0 ≤ B ∧ B ≤ 700000) : MT dscC ⟨"BellSchool", "way", "(III)I"⟩ prog_1_method_7_code 5 (some .int) 2 (fun ad => [.ref (ad 0), .int (iI p1), .int (iI p2), .int (iI p3)]) σ (po_I dscC (fun r z => z = σ ∧ (fun r => r = fWay A p1 p2 p3) r)) :=
  c_B_way p1 hp1 p2 hp2 p3 hp3 σ _ (sp_B_way hC hW.1 (by omega) rfl)
theorem k_C_far {σ : MS} {A : AT} {B : Int} (p1 : Int) (hp1 : Rng p1) (p2 : Int) (hp2 : Rng p2) (hC : CI σ A) (hW : WK B A) (hB : 0 ≤ B ∧ B ≤ 700000) : MT dscC ⟨"BellSchool", "far", "(II)I"⟩ prog_1_method_8_code 3 (some .int) 4 (fun ad => [.ref (ad 0), .int (iI p1), .int (iI p2)]) σ (po_I dscC (fun r z => r = fFar A p1 p2 ∧ CI z (A))) :=
  c_B_far p1 hp1 p2 hp2 σ _ (sp_B_far hC hW.1 (by omega) (fun z hz => ⟨rfl, hz⟩))
theorem k_C_comes {σ : MS} {A : AT} {B : Int} (p1 : Int) (hp1 : Rng p1) (hC : CI σ A) (hW : WK B A) (hB : 0 ≤ B ∧ B ≤ 700000) : MT dscC ⟨"BellSchool", "comes", "(I)I"⟩ prog_1_method_9_code 2 (some .int) 4 (fun ad => [.ref (ad 0), .int (iI p1)]) σ (po_I dscC (fun r z => r = fComes A p1 ∧ CI z (A))) :=
  c_B_comes p1 hp1 σ _ (sp_B_comes hC hW.1 (by omega) (fun z hz => ⟨rfl, hz⟩))
theorem k_C_last {σ : MS} {A : AT} {B : Int}  (hC : CI σ A) (hW : WK B A) (hB : 0 ≤ B ∧ B ≤ 700000) : MT dscC ⟨"BellSchool", "last", "()I"⟩ prog_1_method_10_code 1 (some .int) 4 (fun ad => [.ref (ad 0)]) σ (po_I dscC (fun r z => r = fLast A ∧ CI z (A))) :=
  c_B_last  σ _ (sp_B_last hC hW.1 (by omega) (fun z hz => ⟨rfl, hz⟩))
theorem k_C_pass {σ : MS} {A : AT} {B : Int} (p1 : Int) (hp1 : Rng p1) (hC : CI σ A) (hW : WK B A) (hB : 0 ≤ B ∧ B ≤ 700000) : MT dscC ⟨"BellSchool", "pass", "(I)I"⟩ prog_1_method_11_code 2 (some .int) 6 (fun ad => [.ref (ad 0), .int (iI p1)]) σ (po_I dscC (fun r z => r = fPass A p1 ∧ CI z (nPass A p1))) :=
  c_B_pass p1 hp1 σ _ (sp_B_pass hC hW.1 ⟨by omega, by omega⟩ (fun z hz => ⟨rfl, hz⟩))
theorem k_C_keepBack {σ : MS} {A : AT} {B : Int} (p1 : Int) (hp1 : Rng p1) (hC : CI σ A) (hW : WK B A) (hB : 0 ≤ B ∧ B ≤ 700000) : MT dscC ⟨"BellSchool", "keepBack", "(I)I"⟩ prog_1_method_12_code 2 (some .int) 3 (fun ad => [.ref (ad 0), .int (iI p1)]) σ (po_I dscC (fun r z => r = fKeepBack A p1 ∧ CI z (nKeepBack A p1))) :=
  c_B_keepBack p1 hp1 σ _ (sp_B_keepBack hC (fun z hz => ⟨rfl, hz⟩))
theorem k_C_sick {σ : MS} {A : AT} {B : Int} (p1 : Int) (hp1 : Rng p1) (hC : CI σ A) (hW : WK B A) (hB : 0 ≤ B ∧ B ≤ 700000) : MT dscC ⟨"BellSchool", "sick", "(I)I"⟩ prog_1_method_13_code 2 (some .int) 3 (fun ad => [.ref (ad 0), .int (iI p1)]) σ (po_I dscC (fun r z => r = fSick A p1 ∧ CI z (nSick A p1))) :=
  c_B_sick p1 hp1 σ _ (sp_B_sick hC (fun z hz => ⟨rfl, hz⟩))
theorem k_C_shut {σ : MS} {A : AT} {B : Int} (p1 : Int) (hp1 : Rng p1) (p2 : Int) (hp2 : Rng p2) (hC : CI σ A) (hW : WK B A) (hB : 0 ≤ B ∧ B ≤ 700000) : MT dscC ⟨"BellSchool", "shut", "(II)I"⟩ prog_1_method_14_code 4 (some .int) 3 (fun ad => [.ref (ad 0), .int (iI p1), .int (iI p2)]) σ (po_I dscC (fun r z => r = fShut A p1 p2 ∧ CI z (nShut A p1 p2))) :=
  c_B_shut p1 hp1 p2 hp2 σ _ (sp_B_shut hC hW.1 (fun z hz => ⟨rfl, hz⟩))
theorem k_C_undo {σ : MS} {A : AT} {B : Int}  (hC : CI σ A) (hW : WK B A) (hB : 0 ≤ B ∧ B ≤ 700000) : MT dscC ⟨"BellSchool", "undo", "()I"⟩ prog_1_method_15_code 1 (some .int) 2 (fun ad => [.ref (ad 0)]) σ (po_I dscC (fun r z => r = fUndo A ∧ CI z (nUndo A))) :=
  c_B_undo  σ _ (sp_B_undo hC (fun z hz => ⟨rfl, hz⟩))
theorem k_C_behind {σ : MS} {A : AT} {B : Int} (p1 : Int) (hp1 : Rng p1) (hC : CI σ A) (hW : WK B A) (hB : 0 ≤ B ∧ B ≤ 700000) : MT dscC ⟨"BellSchool", "behind", "(I)I"⟩ prog_1_method_16_code 2 (some .int) 6 (fun ad => [.ref (ad 0), .int (iI p1)]) σ (po_I dscC (fun r z => r = fBehind A p1 ∧ CI z (A))) :=
  c_B_behind p1 hp1 σ _ (sp_B_behind hC hW.1 ⟨by omega, by omega⟩ (fun z hz => ⟨rfl, hz⟩))
theorem k_C_again {σ : MS} {A : AT} {B : Int}  (hC : CI σ A) (hW : WK B A) (hB : 0 ≤ B ∧ B ≤ 700000) : MT dscC ⟨"BellSchool", "again", "()I"⟩ prog_1_method_17_code 2 (some .int) 5 (fun ad => [.ref (ad 0)]) σ (po_I dscC (fun r z => r = fAgain A ∧ CI z (A))) :=
  c_B_again  σ _ (sp_B_again hC hW.1 ⟨by omega, by omega⟩ (fun z hz => ⟨rfl, hz⟩))
theorem k_C_each {σ : MS} {A : AT} {B : Int} (p1 : Int) (hp1 : Rng p1) (hC : CI σ A) (hW : WK B A) (hB : 0 ≤ B ∧ B ≤ 700000) : MT dscC ⟨"BellSchool", "each", "(I)I"⟩ prog_1_method_18_code 2 (some .int) 6 (fun ad => [.ref (ad 0), .int (iI p1)]) σ (po_I dscC (fun r z => rEach A p1 r ∧ CI z A)) :=
  c_B_each p1 hp1 σ _ (sp_B_each hC hW.1 (by omega) hW.2.1 (fun z r hz hr => ⟨hr, hz⟩))
theorem k_C_always {σ : MS} {A : AT} {B : Int}  (hC : CI σ A) (hW : WK B A) (hB : 0 ≤ B ∧ B ≤ 700000) : MT dscC ⟨"BellSchool", "always", "()I"⟩ prog_1_method_19_code 3 (some .int) 4 (fun ad => [.ref (ad 0)]) σ (po_I dscC (fun r z => r = fAlways A ∧ CI z (A))) :=
  c_B_always  σ _ (sp_B_always hC hW.1 ⟨by omega, by omega⟩ (fun z hz => ⟨rfl, hz⟩))
theorem k_C_never {σ : MS} {A : AT} {B : Int}  (hC : CI σ A) (hW : WK B A) (hB : 0 ≤ B ∧ B ≤ 700000) : MT dscC ⟨"BellSchool", "never", "()I"⟩ prog_1_method_20_code 3 (some .int) 5 (fun ad => [.ref (ad 0)]) σ (po_I dscC (fun r z => r = fNever A ∧ CI z (A))) :=
  c_B_never  σ _ (sp_B_never hC hW.1 ⟨by omega, by omega⟩ (fun z hz => ⟨rfl, hz⟩))
theorem k_C_see {σ : MS} {A : AT} {B : Int} (p1 : Int) (hp1 : Rng p1) (p2 : Int) (hp2 : Rng p2) (hC : CI σ A) (hW : WK B A) (hB : 0 ≤ B ∧ B ≤ 700000) : MT dscC ⟨"BellSchool", "see", "(II)I"⟩ prog_1_method_21_code 3 (some .int) 1 (fun ad => [.ref (ad 0), .int (iI p1), .int (iI p2)]) σ (po_I dscC (fun r z => r = fSee A p1 p2 ∧ CI z (nSee A p1 p2))) :=
  c_B_see p1 hp1 p2 hp2 σ _ (sp_B_see hC hW.1 (fun z hz => ⟨rfl, hz⟩))
theorem k_C_forget {σ : MS} {A : AT} {B : Int}  (hC : CI σ A) (hW : WK B A) (hB : 0 ≤ B ∧ B ≤ 700000) : MT dscC ⟨"BellSchool", "forget", "()I"⟩ prog_1_method_22_code 2 (some .int) 0 (fun ad => [.ref (ad 0)]) σ (po_I dscC (fun r z => r = fForget A ∧ CI z (nForget A))) :=
  c_B_forget  σ _ (sp_B_forget hC hW.1 (fun z hz => ⟨rfl, hz⟩))
theorem k_C_fog {σ : MS} {A : AT} {B : Int}  (hC : CI σ A) (hW : WK B A) (hB : 0 ≤ B ∧ B ≤ 700000) : MT dscC ⟨"BellSchool", "fog", "()I"⟩ prog_1_method_23_code 3 (some .int) 6 (fun ad => [.ref (ad 0)]) σ (po_I dscC (fun r z => r = fFog A ∧ CI z (A))) :=
  c_B_fog  σ _ (sp_B_fog hC hW.1 ⟨by omega, by omega⟩ (fun z hz => ⟨rfl, hz⟩))
theorem k_C_tripped {σ : MS} {A : AT} {B : Int}  (hC : CI σ A) (hW : WK B A) (hB : 0 ≤ B ∧ B ≤ 700000) : MT dscC ⟨"BellSchool", "tripped", "()I"⟩ prog_1_method_24_code 3 (some .int) 6 (fun ad => [.ref (ad 0)]) σ (po_I dscC (fun r z => r = fTripped A ∧ CI z (A))) :=
  c_B_tripped  σ _ (sp_B_tripped hC hW.1 ⟨by omega, by omega⟩ (fun z hz => ⟨rfl, hz⟩))
theorem k_C_measles {σ : MS} {A : AT} {B : Int} (p1 : Int) (hp1 : Rng p1) (p2 : Int) (hp2 : Rng p2) (p3 : Int) (hp3 : Rng p3) (p4 : Int) (hp4 : Rng p4) (hC : CI σ A) (hW : WK B A) (hB : 0 ≤ B ∧ B ≤ 700000) : MT dscC ⟨"BellSchool", "measles", "(IIII)J"⟩ prog_1_method_25_code 9 (some .long) 6 (fun ad => [.ref (ad 0), .int (iI p1), .int (iI p2), .int (iI p3), .int (iI p4)]) σ (po_L dscC (fun r z => r.toInt = fMeasles A p1 p2 p3 p4 ∧ CI z A)) :=
  c_B_measles p1 hp1 p2 hp2 p3 hp3 p4 hp4 σ _ (sp_B_measles hC hW.1 ⟨by omega, by omega⟩ (fun z y hz hy => ⟨hy, hz⟩))
theorem k_C_year {σ : MS} {A : AT} {B : Int} (p1 : Int) (hp1 : Rng p1) (p2 : Int) (hp2 : Rng p2) (p3 : Int) (hp3 : Rng p3) (hC : CI σ A) (hW : WK B A) (hB : 0 ≤ B ∧ B ≤ 700000) : MT dscC ⟨"BellSchool", "year", "(III)I"⟩ prog_1_method_26_code 5 (some .int) 5 (fun ad => [.ref (ad 0), .int (iI p1), .int (iI p2), .int (iI p3)]) σ (po_I dscC (fun r z => r = fYear A p1 p2 p3 ∧ CI z (A))) :=
  c_B_year p1 hp1 p2 hp2 p3 hp3 σ _ (sp_B_year hC hW.1 ⟨by omega, by omega⟩ (fun z hz => ⟨rfl, hz⟩))
theorem k_C_keep {σ : MS} {A : AT} {B : Int}  (hC : CI σ A) (hW : WK B A) (hB : 0 ≤ B ∧ B ≤ 700000) : MT dscC ⟨"BellSchool", "keep", "()I"⟩ prog_1_method_27_code 1 (some .int) 2 (fun ad => [.ref (ad 0)]) σ (po_I dscC (fun r z => r = fKeep A ∧ CI z (nKeep A))) :=
  c_B_keep  σ _ (sp_B_keep hC (fun z hz => ⟨rfl, hz⟩))
theorem k_C_back {σ : MS} {A : AT} {B : Int}  (hC : CI σ A) (hW : WK B A) (hB : 0 ≤ B ∧ B ≤ 700000) : MT dscC ⟨"BellSchool", "back", "()I"⟩ prog_1_method_28_code 1 (some .int) 2 (fun ad => [.ref (ad 0)]) σ (po_I dscC (fun r z => r = fBack A ∧ CI z (nBack A))) :=
  c_B_back  σ _ (sp_B_back hC (fun z hz => ⟨rfl, hz⟩))
theorem k_C_count {σ : MS} {A : AT} {B : Int} (p1 : Int) (hp1 : Rng p1) (hC : CI σ A) (hW : WK B A) (hB : 0 ≤ B ∧ B ≤ 700000) : MT dscC ⟨"BellSchool", "count", "(I)I"⟩ prog_1_method_29_code 2 (some .int) 1 (fun ad => [.ref (ad 0), .int (iI p1)]) σ (po_I dscC (fun r z => z = σ ∧ (fun r => r = fCount A p1) r)) :=
  c_B_count p1 hp1 σ _ (sp_B_count hC hW.1 ⟨by omega, by omega⟩ rfl)
theorem k_M_write {σ : MS} {A : AT} {B : Int} (p1 : Int) (hp1 : Rng p1) (hC : MI σ A) (hW : WK B A) (hB : 0 ≤ B ∧ B ≤ 700000) : MT dscM ⟨"BellSchoolModel", "write", "(I)I"⟩ prog_11_method_9_code 2 (some .int) 1 (fun ad => [.ref (ad 0), .int (iI p1)]) σ (po_I dscM (fun r z => r = fWrite A p1 ∧ MI z (nWrite A p1))) :=
  c_M_write p1 hp1 σ _ (sp_M_write hC hW.1 (fun z hz => ⟨rfl, hz⟩))
theorem k_M_wipe {σ : MS} {A : AT} {B : Int}  (hC : MI σ A) (hW : WK B A) (hB : 0 ≤ B ∧ B ≤ 700000) : MT dscM ⟨"BellSchoolModel", "wipe", "()I"⟩ prog_11_method_10_code 2 (some .int) 0 (fun ad => [.ref (ad 0)]) σ (po_I dscM (fun r z => r = fWipe A ∧ MI z (nWipe A))) :=
  c_M_wipe  σ _ (sp_M_wipe hC hW.1 (fun z hz => ⟨rfl, hz⟩))
theorem k_M_fault {σ : MS} {A : AT} {B : Int}  (hC : MI σ A) (hW : WK B A) (hB : 0 ≤ B ∧ B ≤ 700000) : MT dscM ⟨"BellSchoolModel", "fault", "()I"⟩ prog_11_method_21_code 1 (some .int) 5 (fun ad => [.ref (ad 0)]) σ (po_I dscM (fun r z => r = fFault A ∧ MI z (A))) :=
  c_M_fault  σ _ (sp_M_fault hC hW.1 (fun z hz => ⟨rfl, hz⟩))
theorem k_M_lay {σ : MS} {A : AT} {B : Int}  (hC : MI σ A) (hW : WK B A) (hB : 0 ≤ B ∧ B ≤ 700000) : MT dscM ⟨"BellSchoolModel", "lay", "()I"⟩ prog_11_method_23_code 1 (some .int) 5 (fun ad => [.ref (ad 0)]) σ (po_I dscM (fun r z => r = fLay A ∧ MI z (nLay A))) :=
  c_M_lay  σ _ (sp_M_lay hC hW.1 (fun z hz => ⟨rfl, hz⟩))
theorem k_M_home {σ : MS} {A : AT} {B : Int} (p1 : Int) (hp1 : Rng p1) (p2 : Int) (hp2 : Rng p2) (hC : MI σ A) (hW : WK B A) (hB : 0 ≤ B ∧ B ≤ 700000) : MT dscM ⟨"BellSchoolModel", "home", "(II)I"⟩ prog_11_method_32_code 3 (some .int) 2 (fun ad => [.ref (ad 0), .int (iI p1), .int (iI p2)]) σ (po_I dscM (fun r z => z = σ ∧ (fun r => r = fHome A p1 p2) r)) :=
  c_M_home p1 hp1 p2 hp2 σ _ (sp_M_home hC hW.1 rfl)
theorem k_M_way {σ : MS} {A : AT} {B : Int} (p1 : Int) (hp1 : Rng p1) (p2 : Int) (hp2 : Rng p2) (p3 : Int) (hp3 : Rng p3) (hC : MI σ A) (hW : WK B A) (hB : 0 ≤ B ∧ B ≤ 700000) : MT dscM ⟨"BellSchoolModel", "way", "(III)I"⟩ prog_11_method_33_code 5 (some .int) 2 (fun ad => [.ref (ad 0), .int (iI p1), .int (iI p2), .int (iI p3)]) σ (po_I dscM (fun r z => z = σ ∧ (fun r => r = fWay A p1 p2 p3) r)) :=
  c_M_way p1 hp1 p2 hp2 p3 hp3 σ _ (sp_M_way hC hW.1 (by omega) rfl)
theorem k_M_far {σ : MS} {A : AT} {B : Int} (p1 : Int) (hp1 : Rng p1) (p2 : Int) (hp2 : Rng p2) (hC : MI σ A) (hW : WK B A) (hB : 0 ≤ B ∧ B ≤ 700000) : MT dscM ⟨"BellSchoolModel", "far", "(II)I"⟩ prog_11_method_34_code 3 (some .int) 3 (fun ad => [.ref (ad 0), .int (iI p1), .int (iI p2)]) σ (po_I dscM (fun r z => r = fFar A p1 p2 ∧ MI z (A))) :=
  c_M_far p1 hp1 p2 hp2 σ _ (sp_M_far hC hW.1 (by omega) (fun z hz => ⟨rfl, hz⟩))
theorem k_M_comes {σ : MS} {A : AT} {B : Int} (p1 : Int) (hp1 : Rng p1) (hC : MI σ A) (hW : WK B A) (hB : 0 ≤ B ∧ B ≤ 700000) : MT dscM ⟨"BellSchoolModel", "comes", "(I)I"⟩ prog_11_method_35_code 3 (some .int) 3 (fun ad => [.ref (ad 0), .int (iI p1)]) σ (po_I dscM (fun r z => r = fComes A p1 ∧ MI z (A))) :=
  c_M_comes p1 hp1 σ _ (sp_M_comes hC hW.1 (by omega) (fun z hz => ⟨rfl, hz⟩))
theorem k_M_last {σ : MS} {A : AT} {B : Int}  (hC : MI σ A) (hW : WK B A) (hB : 0 ≤ B ∧ B ≤ 700000) : MT dscM ⟨"BellSchoolModel", "last", "()I"⟩ prog_11_method_36_code 1 (some .int) 4 (fun ad => [.ref (ad 0)]) σ (po_I dscM (fun r z => r = fLast A ∧ MI z (A))) :=
  c_M_last  σ _ (sp_M_last hC hW.1 (by omega) (fun z hz => ⟨rfl, hz⟩))
theorem k_M_pass {σ : MS} {A : AT} {B : Int} (p1 : Int) (hp1 : Rng p1) (hC : MI σ A) (hW : WK B A) (hB : 0 ≤ B ∧ B ≤ 700000) : MT dscM ⟨"BellSchoolModel", "pass", "(I)I"⟩ prog_11_method_38_code 3 (some .int) 5 (fun ad => [.ref (ad 0), .int (iI p1)]) σ (po_I dscM (fun r z => r = fPass A p1 ∧ MI z (nPass A p1))) :=
  c_M_pass p1 hp1 σ _ (sp_M_pass hC hW.1 ⟨by omega, by omega⟩ (fun z hz => ⟨rfl, hz⟩))
theorem k_M_keepBack {σ : MS} {A : AT} {B : Int} (p1 : Int) (hp1 : Rng p1) (hC : MI σ A) (hW : WK B A) (hB : 0 ≤ B ∧ B ≤ 700000) : MT dscM ⟨"BellSchoolModel", "keepBack", "(I)I"⟩ prog_11_method_39_code 2 (some .int) 2 (fun ad => [.ref (ad 0), .int (iI p1)]) σ (po_I dscM (fun r z => r = fKeepBack A p1 ∧ MI z (nKeepBack A p1))) :=
  c_M_keepBack p1 hp1 σ _ (sp_M_keepBack hC hW.1 (fun z hz => ⟨rfl, hz⟩))
theorem k_M_sick {σ : MS} {A : AT} {B : Int} (p1 : Int) (hp1 : Rng p1) (hC : MI σ A) (hW : WK B A) (hB : 0 ≤ B ∧ B ≤ 700000) : MT dscM ⟨"BellSchoolModel", "sick", "(I)I"⟩ prog_11_method_40_code 2 (some .int) 2 (fun ad => [.ref (ad 0), .int (iI p1)]) σ (po_I dscM (fun r z => r = fSick A p1 ∧ MI z (nSick A p1))) :=
  c_M_sick p1 hp1 σ _ (sp_M_sick hC hW.1 (fun z hz => ⟨rfl, hz⟩))
theorem k_M_shut {σ : MS} {A : AT} {B : Int} (p1 : Int) (hp1 : Rng p1) (p2 : Int) (hp2 : Rng p2) (hC : MI σ A) (hW : WK B A) (hB : 0 ≤ B ∧ B ≤ 700000) : MT dscM ⟨"BellSchoolModel", "shut", "(II)I"⟩ prog_11_method_41_code 3 (some .int) 2 (fun ad => [.ref (ad 0), .int (iI p1), .int (iI p2)]) σ (po_I dscM (fun r z => r = fShut A p1 p2 ∧ MI z (nShut A p1 p2))) :=
  c_M_shut p1 hp1 p2 hp2 σ _ (sp_M_shut hC hW.1 (fun z hz => ⟨rfl, hz⟩))
theorem k_M_undo {σ : MS} {A : AT} {B : Int}  (hC : MI σ A) (hW : WK B A) (hB : 0 ≤ B ∧ B ≤ 700000) : MT dscM ⟨"BellSchoolModel", "undo", "()I"⟩ prog_11_method_42_code 2 (some .int) 0 (fun ad => [.ref (ad 0)]) σ (po_I dscM (fun r z => r = fUndo A ∧ MI z (nUndo A))) :=
  c_M_undo  σ _ (sp_M_undo hC (fun z hz => ⟨rfl, hz⟩))
theorem k_M_behind {σ : MS} {A : AT} {B : Int} (p1 : Int) (hp1 : Rng p1) (hC : MI σ A) (hW : WK B A) (hB : 0 ≤ B ∧ B ≤ 700000) : MT dscM ⟨"BellSchoolModel", "behind", "(I)I"⟩ prog_11_method_43_code 3 (some .int) 5 (fun ad => [.ref (ad 0), .int (iI p1)]) σ (po_I dscM (fun r z => r = fBehind A p1 ∧ MI z (A))) :=
  c_M_behind p1 hp1 σ _ (sp_M_behind hC hW.1 ⟨by omega, by omega⟩ (fun z hz => ⟨rfl, hz⟩))
theorem k_M_again {σ : MS} {A : AT} {B : Int}  (hC : MI σ A) (hW : WK B A) (hB : 0 ≤ B ∧ B ≤ 700000) : MT dscM ⟨"BellSchoolModel", "again", "()I"⟩ prog_11_method_44_code 2 (some .int) 5 (fun ad => [.ref (ad 0)]) σ (po_I dscM (fun r z => r = fAgain A ∧ MI z (A))) :=
  c_M_again  σ _ (sp_M_again hC hW.1 ⟨by omega, by omega⟩ (fun z hz => ⟨rfl, hz⟩))
theorem k_M_each {σ : MS} {A : AT} {B : Int} (p1 : Int) (hp1 : Rng p1) (hC : MI σ A) (hW : WK B A) (hB : 0 ≤ B ∧ B ≤ 700000) : MT dscM ⟨"BellSchoolModel", "each", "(I)I"⟩ prog_11_method_50_code 7 (some .int) 6 (fun ad => [.ref (ad 0), .int (iI p1)]) σ (po_I dscM (fun r z => rEach A p1 r ∧ MI z A)) :=
  c_M_each p1 hp1 σ _ (sp_M_each hC hW.1 ⟨by omega, by omega⟩ (fun z r hz hr => ⟨hr, hz⟩))
theorem k_M_always {σ : MS} {A : AT} {B : Int}  (hC : MI σ A) (hW : WK B A) (hB : 0 ≤ B ∧ B ≤ 700000) : MT dscM ⟨"BellSchoolModel", "always", "()I"⟩ prog_11_method_51_code 4 (some .int) 4 (fun ad => [.ref (ad 0)]) σ (po_I dscM (fun r z => r = fAlways A ∧ MI z (A))) :=
  c_M_always  σ _ (sp_M_always hC hW.1 ⟨by omega, by omega⟩ (fun z hz => ⟨rfl, hz⟩))
theorem k_M_never {σ : MS} {A : AT} {B : Int}  (hC : MI σ A) (hW : WK B A) (hB : 0 ≤ B ∧ B ≤ 700000) : MT dscM ⟨"BellSchoolModel", "never", "()I"⟩ prog_11_method_52_code 3 (some .int) 5 (fun ad => [.ref (ad 0)]) σ (po_I dscM (fun r z => r = fNever A ∧ MI z (A))) :=
  c_M_never  σ _ (sp_M_never hC hW.1 ⟨by omega, by omega⟩ (fun z hz => ⟨rfl, hz⟩))
theorem k_M_see {σ : MS} {A : AT} {B : Int} (p1 : Int) (hp1 : Rng p1) (p2 : Int) (hp2 : Rng p2) (hC : MI σ A) (hW : WK B A) (hB : 0 ≤ B ∧ B ≤ 700000) : MT dscM ⟨"BellSchoolModel", "see", "(II)I"⟩ prog_11_method_53_code 3 (some .int) 2 (fun ad => [.ref (ad 0), .int (iI p1), .int (iI p2)]) σ (po_I dscM (fun r z => r = fSee A p1 p2 ∧ MI z (nSee A p1 p2))) :=
  c_M_see p1 hp1 p2 hp2 σ _ (sp_M_see hC hW.1 (fun z hz => ⟨rfl, hz⟩))
theorem k_M_forget {σ : MS} {A : AT} {B : Int}  (hC : MI σ A) (hW : WK B A) (hB : 0 ≤ B ∧ B ≤ 700000) : MT dscM ⟨"BellSchoolModel", "forget", "()I"⟩ prog_11_method_54_code 2 (some .int) 0 (fun ad => [.ref (ad 0)]) σ (po_I dscM (fun r z => r = fForget A ∧ MI z (nForget A))) :=
  c_M_forget  σ _ (sp_M_forget hC hW.1 (fun z hz => ⟨rfl, hz⟩))
theorem k_M_fog {σ : MS} {A : AT} {B : Int}  (hC : MI σ A) (hW : WK B A) (hB : 0 ≤ B ∧ B ≤ 700000) : MT dscM ⟨"BellSchoolModel", "fog", "()I"⟩ prog_11_method_56_code 3 (some .int) 6 (fun ad => [.ref (ad 0)]) σ (po_I dscM (fun r z => r = fFog A ∧ MI z (A))) :=
  c_M_fog  σ _ (sp_M_fog hC hW.1 ⟨by omega, by omega⟩ (fun z hz => ⟨rfl, hz⟩))
theorem k_M_tripped {σ : MS} {A : AT} {B : Int}  (hC : MI σ A) (hW : WK B A) (hB : 0 ≤ B ∧ B ≤ 700000) : MT dscM ⟨"BellSchoolModel", "tripped", "()I"⟩ prog_11_method_57_code 3 (some .int) 6 (fun ad => [.ref (ad 0)]) σ (po_I dscM (fun r z => r = fTripped A ∧ MI z (A))) :=
  c_M_tripped  σ _ (sp_M_tripped hC hW.1 ⟨by omega, by omega⟩ (fun z hz => ⟨rfl, hz⟩))
theorem k_M_measles {σ : MS} {A : AT} {B : Int} (p1 : Int) (hp1 : Rng p1) (p2 : Int) (hp2 : Rng p2) (p3 : Int) (hp3 : Rng p3) (p4 : Int) (hp4 : Rng p4) (hC : MI σ A) (hW : WK B A) (hB : 0 ≤ B ∧ B ≤ 700000) : MT dscM ⟨"BellSchoolModel", "measles", "(IIII)J"⟩ prog_11_method_60_code 9 (some .long) 5 (fun ad => [.ref (ad 0), .int (iI p1), .int (iI p2), .int (iI p3), .int (iI p4)]) σ (po_L dscM (fun r z => r.toInt = fMeasles A p1 p2 p3 p4 ∧ MI z A)) :=
  c_M_measles p1 hp1 p2 hp2 p3 hp3 p4 hp4 σ _ (sp_M_measles hC hW.1 ⟨by omega, by omega⟩ (fun z y hz hy => ⟨hy, hz⟩))
theorem k_M_year {σ : MS} {A : AT} {B : Int} (p1 : Int) (hp1 : Rng p1) (p2 : Int) (hp2 : Rng p2) (p3 : Int) (hp3 : Rng p3) (hC : MI σ A) (hW : WK B A) (hB : 0 ≤ B ∧ B ≤ 700000) : MT dscM ⟨"BellSchoolModel", "year", "(III)I"⟩ prog_11_method_62_code 8 (some .int) 5 (fun ad => [.ref (ad 0), .int (iI p1), .int (iI p2), .int (iI p3)]) σ (po_I dscM (fun r z => r = fYear A p1 p2 p3 ∧ MI z (A))) :=
  c_M_year p1 hp1 p2 hp2 p3 hp3 σ _ (sp_M_year hC hW.1 ⟨by omega, by omega⟩ (fun z hz => ⟨rfl, hz⟩))
theorem k_M_keep {σ : MS} {A : AT} {B : Int}  (hC : MI σ A) (hW : WK B A) (hB : 0 ≤ B ∧ B ≤ 700000) : MT dscM ⟨"BellSchoolModel", "keep", "()I"⟩ prog_11_method_63_code 2 (some .int) 0 (fun ad => [.ref (ad 0)]) σ (po_I dscM (fun r z => r = fKeep A ∧ MI z (nKeep A))) :=
  c_M_keep  σ _ (sp_M_keep hC (fun z hz => ⟨rfl, hz⟩))
theorem k_M_back {σ : MS} {A : AT} {B : Int}  (hC : MI σ A) (hW : WK B A) (hB : 0 ≤ B ∧ B ≤ 700000) : MT dscM ⟨"BellSchoolModel", "back", "()I"⟩ prog_11_method_64_code 2 (some .int) 0 (fun ad => [.ref (ad 0)]) σ (po_I dscM (fun r z => r = fBack A ∧ MI z (nBack A))) :=
  c_M_back  σ _ (sp_M_back hC (fun z hz => ⟨rfl, hz⟩))
theorem k_M_count {σ : MS} {A : AT} {B : Int} (p1 : Int) (hp1 : Rng p1) (hC : MI σ A) (hW : WK B A) (hB : 0 ≤ B ∧ B ≤ 700000) : MT dscM ⟨"BellSchoolModel", "count", "(I)I"⟩ prog_11_method_66_code 2 (some .int) 1 (fun ad => [.ref (ad 0), .int (iI p1)]) σ (po_I dscM (fun r z => z = σ ∧ (fun r => r = fCount A p1) r)) :=
  c_M_count p1 hp1 σ _ (sp_M_count hC hW.1 ⟨by omega, by omega⟩ rfl)
