/-! ===== what stands at the law's entry ===== -/
section EN
variable {s : State} {args : Array Value}
theorem e_NW (hts : ∀ w ∈ lw_tbl, w.before args s = true) : NW s := by
  refine ⟨fun p hp => ?_, va_AO.of (hts _ lO_S)⟩
  simp only [List.mem_cons, List.not_mem_nil, or_false] at hp
  rcases hp with rfl | rfl | rfl | rfl | rfl | rfl | rfl | rfl
  · exact va_Nw.of rfl (hts _ lT_0)
  · exact va_Nw.of rfl (hts _ lT_1)
  · exact va_Nw.of rfl (hts _ lT_2)
  · exact va_Nw.of rfl (hts _ lT_3)
  · exact va_Nw.of rfl (hts _ lT_4)
  · exact va_Nw.of rfl (hts _ lT_5)
  · exact va_Nw.of rfl (hts _ lT_6)
  · exact va_Nw.of rfl (hts _ lT_7)
def pre0 : Cond := Jvm.Cond.and given_1 narrow_1
theorem e_SZ {A : Nat → Prop} (hts : ∀ w ∈ lw_tbl, w.before args s = true) (hs : ∀ c ∈ flatC pre0, c.before args s = true) (hA : ∀ a : Nat, a < s.heap.size → ¬ A a) : SZ A s s.heap := by
  have hel : ∀ j : Nat, j < 6 → (Term.elem (.static "BellSchool$Search" "HOLDING" "[J") (.int (Int32.ofNat j))).eval args s none [] s = some (.long (HOLD j)) := by
    intro j hj
    match j, hj with
    | 0, _ => exact va_eqtl (hs _ (by decide +kernel))
    | 1, _ => exact va_eqtl (hs _ (by decide +kernel))
    | 2, _ => exact va_eqtl (hs _ (by decide +kernel))
    | 3, _ => exact va_eqtl (hs _ (by decide +kernel))
    | 4, _ => exact va_eqtl (hs _ (by decide +kernel))
    | 5, _ => exact va_eqtl (hs _ (by decide +kernel))
    | n + 6, h => exact absurd h (by omega)
  obtain ⟨t, ht, hT⟩ := va_Tof (tm := .static "BellSchool$Search" "HOLDING" "[J") (ty := .long) (N := 6) (f := fun j => .long (HOLD j)) (A := A) (by decide) (hs _ (by decide +kernel)) (va_eqt (hs _ (by decide +kernel))) hel hA
  exact ⟨va_Nw.of rfl (hts _ lT_8), va_Nw.of rfl (hts _ lT_9), t, va_Zof (hts _ lZ_H) (hts _ lX_H) ht hA, hT⟩
theorem e_el : ∀ j : Fin 113, Cond.eq (.elem (.field (.string "BellSchool" 89) "java/lang/String" "value" "[B") (.int (Int32.ofNat j.val))) (.int (fb.getD j.val 0)) ∈ flatC pre0 := by decide +kernel
theorem e_JK {A : Nat → Prop} (hts : ∀ w ∈ lw_tbl, w.before args s = true) (hs : ∀ c ∈ flatC pre0, c.before args s = true) (hA : ∀ a : Nat, a < s.heap.size → ¬ A a) : ∃ k v, vk_R "BellSchool" 89 FTX k s ∧ JK k v A s s.heap := by
  have h1 : ∀ i : Nat, i < 1 → i = 0 := fun i hi => by omega
  obtain ⟨adK, adV, hS, hev⟩ := vk_Sof (args := args) (s := s) (N := 1) (tm := fun _ => .string "BellSchool" 89) (len := [113]) (byt := [fb]) (A := A)
    (fun i hi => by obtain rfl := h1 i hi; decide)
    (fun i hi => hs _ (by decide +kernel))
    (fun i hi => hs _ (by decide +kernel))
    (fun i hi => hs _ (by decide +kernel))
    (fun i hi => by obtain rfl := h1 i hi; exact hs _ (by decide +kernel))
    (fun i hi j hj => by obtain rfl := h1 i hi; exact hs _ (e_el ⟨j, hj⟩))
    (fun i j hi hj hij => absurd ((h1 i hi).trans (h1 j hj).symm) hij) hA
  obtain ⟨q1, q2, q3, q4⟩ := hS.1 0 (by decide)
  exact ⟨adK 0, adV 0, vk_R.of (hts _ lS_T) (hev 0 (by decide)), q1, q2, q3, q4, va_Zof (hts _ lZ_C) (hts _ lX_C) (va_eqt (hs _ (by decide +kernel))) hA, va_Zqof (hts _ lZ_F) (hts _ lX_F) (hs _ (by decide +kernel)) hA⟩
theorem e_arr {ty : FieldType} (h : (Cond.arrayClass ty).before args s = true) (hty : ∀ C, ty ≠ .object C) : ∃ c : ClassId, ArrOfT s c ty ∧ va_RA s c ty := by
  obtain ⟨c, kA, comp, h1, h2, h3⟩ := Cond.arrayClass_spec h
  refine ⟨c, fun n z => ⟨fun k h => (by cases h), kA, h2, comp, h3⟩, ?_⟩
  cases ty with
  | object C => exact absurd rfl (hty C)
  | _ => exact h1
theorem e_K (hTB : ∀ w ∈ TB, w.before args s = true) (hts : ∀ w ∈ lw_tbl, w.before args s = true) : ∃ w : WDt, va_K w.1 CLS (dTys w) s := by
  have h : ∀ k : Nat, ∃ z : ClassId × (Nat → Nat), ∀ q : vw_C, CLS[k]? = some q → u_Kn s q.1 q.2.1 q.2.2 z.1 z.2 := by
    have one : ∀ {k : Nat} {C : String} {T : u_T} {N : Nat} {ty : Nat → FieldType}, CF k C T N ty → Cond.instantiable C N ∈ TB → ∃ z : ClassId × (Nat → Nat), ∀ q : vw_C, CLS[k]? = some q → u_Kn s q.1 q.2.1 q.2.2 z.1 z.2 := by
      intro k C T N ty cf hi
      obtain ⟨c, iS, hk⟩ := u_known hTB cf.2.1 (hTB _ hi)
      refine ⟨(c, iS), fun q hq => ?_⟩
      rw [cf.1] at hq
      cases hq
      exact hk
    intro k
    match k with
    | 0 => exact one cf0 lI_0
    | 1 => exact one cf1 lI_1
    | 2 => exact one cf2 lI_2
    | 3 => exact one cf3 lI_3
    | 4 => exact one cf4 lI_4
    | 5 => exact one cf5 lI_5
    | 6 => exact one cf6 lI_6
    | 7 => exact one cf7 lI_7
    | 8 => exact one cf8 lI_8
    | 9 => exact one cf9 lI_9
    | n + 10 => exact ⟨(0, fun _ => 0), fun q hq => by
        rw [show CLS[n + 10]? = none from List.getElem?_eq_none (by show 10 ≤ n + 10; omega)] at hq
        cases hq⟩
  obtain ⟨f, hf⟩ := Classical.axiomOfChoice h
  obtain ⟨cI, aI, rI⟩ := e_arr (hTB _ lA_int) (fun C q => by cases q)
  obtain ⟨cJ, aJ, rJ⟩ := e_arr (hTB _ lA_long) (fun C q => by cases q)
  obtain ⟨cC, aC, rC⟩ := e_arr (hTB _ lA_char) (fun C q => by cases q)
  obtain ⟨comp, cS, kS, s1, -, s3, s4, s5⟩ := Cond.arrayOver_spec (hts _ lO_S)
  refine ⟨((fun k => (f k).1, fun k => (f k).2), fun _ => 0, cI, cJ, cC, cS), fun k q hq => hf k q hq, fun k q hq => ?_⟩
  match k, hq with
  | 0, hq => cases hq; exact ⟨aI, rI⟩
  | 1, hq => cases hq; exact ⟨aJ, rJ⟩
  | 2, hq => cases hq; exact ⟨aC, rC⟩
  | 3, hq =>
    cases hq
    exact ⟨fun n z => ⟨fun k h => (by cases h), kS, s3, comp, s4⟩, kS, comp, s3, s4, s1, s5⟩
  | n + 4, hq => exact absurd (List.getElem?_eq_some_iff.mp hq).1 (by show ¬ n + 4 < 4; omega)
end EN
