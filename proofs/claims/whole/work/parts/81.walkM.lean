/-! ===== printed by wip/whole/gen.py: the methods keep their conditions ===== -/
theorem d_M_in_0 : decode prog_11_method_2_code 0 = .ok (.iload_n 0, 1) := by decide +kernel
theorem d_M_in_1 : decode prog_11_method_2_code 1 = .ok (.iload_n 1, 1) := by decide +kernel
theorem d_M_in_2 : decode prog_11_method_2_code 2 = .ok (.if_icmp .lt 12, 3) := by decide +kernel
theorem d_M_in_5 : decode prog_11_method_2_code 5 = .ok (.iload_n 0, 1) := by decide +kernel
theorem d_M_in_6 : decode prog_11_method_2_code 6 = .ok (.iload_n 2, 1) := by decide +kernel
theorem d_M_in_7 : decode prog_11_method_2_code 7 = .ok (.if_icmp .gt 7, 3) := by decide +kernel
theorem d_M_in_10 : decode prog_11_method_2_code 10 = .ok (.iconst 1, 1) := by decide +kernel
theorem d_M_in_11 : decode prog_11_method_2_code 11 = .ok (.goto 4, 3) := by decide +kernel
theorem d_M_in_14 : decode prog_11_method_2_code 14 = .ok (.iconst 0, 1) := by decide +kernel
theorem d_M_in_15 : decode prog_11_method_2_code 15 = .ok (.ireturn, 1) := by decide +kernel
set_option maxHeartbeats 4000000 in
set_option maxRecDepth 20000 in
theorem c_M_in (dsc : List CD) (p1 : Int) (hp1 : Rng p1) (p2 : Int) (hp2 : Rng p2) (p3 : Int) (hp3 : Rng p3) (s0 : MS) (Q : Int → Prop) (h : wp_M_in p1 p2 p3 Q) : MT dsc ⟨"BellSchoolModel", "in", "(III)Z"⟩ prog_11_method_2_code 3 (some .boolean) 0 (fun ad => [.int (iI p1), .int (iI p2), .int (iI p3)]) s0 (po_I dsc (fun r z => (r = 0 ∨ r = 1) ∧ z = s0 ∧ Q r)) := by
  refine met_of (by decide) (fun _ => Nat.le_of_ble_eq_true rfl) (fun X E hR => ?_)
  replace E : EV dsc X prog_11_method_2_code "BellSchoolModel" 3 0 := E
  show VV dsc X 0 [(0, .int (iI p1)), (1, .int (iI p2)), (2, .int (iI p3))] [] s0
  unfold wp_M_in at h
  refine v_iloadn E d_M_in_0 rfl 0 rfl ?_
  refine v_iloadn E d_M_in_1 rfl 1 rfl ?_
  refine v_icmp_lt E 14 d_M_in_2 (by decide) hp1 hp2 (fun c1 => ?_) (fun c1 => ?_)
  · replace h := h.1 c1
    refine v_iconst E d_M_in_14 ?_
    exact v_iret E hR (nar_Z (by decide)) (Rng_Z (by decide)) ⟨(by decide), rfl, h⟩ d_M_in_15
  · replace h := h.2 c1
    refine v_iloadn E d_M_in_5 rfl 0 rfl ?_
    refine v_iloadn E d_M_in_6 rfl 2 rfl ?_
    refine v_icmp_gt E 14 d_M_in_7 (by decide) hp1 hp3 (fun c2 => ?_) (fun c2 => ?_)
    · replace h := h.1 c2
      refine v_iconst E d_M_in_14 ?_
      exact v_iret E hR (nar_Z (by decide)) (Rng_Z (by decide)) ⟨(by decide), rfl, h⟩ d_M_in_15
    · replace h := h.2 c2
      refine v_iconst E d_M_in_10 ?_
      refine v_goto E 15 d_M_in_11 (by decide) ?_
      exact v_iret E hR (nar_Z (by decide)) (Rng_Z (by decide)) ⟨(by decide), rfl, h⟩ d_M_in_15
theorem d_M_has_0 : decode prog_11_method_3_code 0 = .ok (.iload_n 0, 1) := by decide +kernel
theorem d_M_has_1 : decode prog_11_method_3_code 1 = .ok (.iload_n 1, 1) := by decide +kernel
theorem d_M_has_2 : decode prog_11_method_3_code 2 = .ok (.ishr, 1) := by decide +kernel
theorem d_M_has_3 : decode prog_11_method_3_code 3 = .ok (.iconst 1, 1) := by decide +kernel
theorem d_M_has_4 : decode prog_11_method_3_code 4 = .ok (.iand, 1) := by decide +kernel
theorem d_M_has_5 : decode prog_11_method_3_code 5 = .ok (.iconst 1, 1) := by decide +kernel
theorem d_M_has_6 : decode prog_11_method_3_code 6 = .ok (.if_icmp .ne 7, 3) := by decide +kernel
theorem d_M_has_9 : decode prog_11_method_3_code 9 = .ok (.iconst 1, 1) := by decide +kernel
theorem d_M_has_10 : decode prog_11_method_3_code 10 = .ok (.goto 4, 3) := by decide +kernel
theorem d_M_has_13 : decode prog_11_method_3_code 13 = .ok (.iconst 0, 1) := by decide +kernel
theorem d_M_has_14 : decode prog_11_method_3_code 14 = .ok (.ireturn, 1) := by decide +kernel
set_option maxHeartbeats 4000000 in
set_option maxRecDepth 20000 in
theorem c_M_has (dsc : List CD) (p1 : Int) (hp1 : Rng p1) (p2 : Int) (hp2 : Rng p2) (s0 : MS) (Q : Int → Prop) (h : wp_M_has p1 p2 Q) : MT dsc ⟨"BellSchoolModel", "has", "(II)Z"⟩ prog_11_method_3_code 2 (some .boolean) 0 (fun ad => [.int (iI p1), .int (iI p2)]) s0 (po_I dsc (fun r z => (r = 0 ∨ r = 1) ∧ z = s0 ∧ Q r)) := by
  refine met_of (by decide) (fun _ => Nat.le_of_ble_eq_true rfl) (fun X E hR => ?_)
  replace E : EV dsc X prog_11_method_3_code "BellSchoolModel" 2 0 := E
  show VV dsc X 0 [(0, .int (iI p1)), (1, .int (iI p2))] [] s0
  unfold wp_M_has at h
  refine v_iloadn E d_M_has_0 rfl 0 rfl ?_
  refine v_iloadn E d_M_has_1 rfl 1 rfl ?_
  refine v_ishr E d_M_has_2 ?_
  refine v_iconst E d_M_has_3 ?_
  refine v_iand E d_M_has_4 ?_
  refine v_iconst E d_M_has_5 ?_
  refine v_icmp_ne E 13 d_M_has_6 (by decide) (Rng_of _) (by decide) (fun c1 => ?_) (fun c1 => ?_)
  · replace h := h.1 c1
    refine v_iconst E d_M_has_13 ?_
    exact v_iret E hR (nar_Z (by decide)) (Rng_Z (by decide)) ⟨(by decide), rfl, h⟩ d_M_has_14
  · replace h := h.2 c1
    refine v_iconst E d_M_has_9 ?_
    refine v_goto E 14 d_M_has_10 (by decide) ?_
    exact v_iret E hR (nar_Z (by decide)) (Rng_Z (by decide)) ⟨(by decide), rfl, h⟩ d_M_has_14
theorem d_M_bits_0 : decode prog_11_method_4_code 0 = .ok (.iconst 0, 1) := by decide +kernel
theorem d_M_bits_1 : decode prog_11_method_4_code 1 = .ok (.istore_n 1, 1) := by decide +kernel
theorem d_M_bits_2 : decode prog_11_method_4_code 2 = .ok (.iload_n 0, 1) := by decide +kernel
theorem d_M_bits_3 : decode prog_11_method_4_code 3 = .ok (.istore_n 2, 1) := by decide +kernel
theorem d_M_bits_4 : decode prog_11_method_4_code 4 = .ok (.iload_n 2, 1) := by decide +kernel
theorem d_M_bits_5 : decode prog_11_method_4_code 5 = .ok (.ifCond .eq 15, 3) := by decide +kernel
theorem d_M_bits_8 : decode prog_11_method_4_code 8 = .ok (.iinc 1 1, 3) := by decide +kernel
theorem d_M_bits_11 : decode prog_11_method_4_code 11 = .ok (.iload_n 2, 1) := by decide +kernel
theorem d_M_bits_12 : decode prog_11_method_4_code 12 = .ok (.iload_n 2, 1) := by decide +kernel
theorem d_M_bits_13 : decode prog_11_method_4_code 13 = .ok (.iconst 1, 1) := by decide +kernel
theorem d_M_bits_14 : decode prog_11_method_4_code 14 = .ok (.isub, 1) := by decide +kernel
theorem d_M_bits_15 : decode prog_11_method_4_code 15 = .ok (.iand, 1) := by decide +kernel
theorem d_M_bits_16 : decode prog_11_method_4_code 16 = .ok (.istore_n 2, 1) := by decide +kernel
theorem d_M_bits_17 : decode prog_11_method_4_code 17 = .ok (.goto (-13), 3) := by decide +kernel
theorem d_M_bits_20 : decode prog_11_method_4_code 20 = .ok (.iload_n 1, 1) := by decide +kernel
theorem d_M_bits_21 : decode prog_11_method_4_code 21 = .ok (.ireturn, 1) := by decide +kernel
set_option maxHeartbeats 4000000 in
set_option maxRecDepth 20000 in
theorem c_M_bits (dsc : List CD) (p1 : Int) (hp1 : Rng p1) (s0 : MS) (Q : Int → Prop) (h : wp_M_bits p1 Q) : MT dsc ⟨"BellSchoolModel", "bits", "(I)I"⟩ prog_11_method_4_code 3 (some .int) 0 (fun ad => [.int (iI p1)]) s0 (po_I dsc (fun r z => z = s0 ∧ Q r)) := by
  refine met_of (by decide) (fun _ => Nat.le_of_ble_eq_true rfl) (fun X E hR => ?_)
  replace E : EV dsc X prog_11_method_4_code "BellSchoolModel" 3 0 := E
  show VV dsc X 0 [(0, .int (iI p1))] [] s0
  unfold wp_M_bits at h
  refine v_iconst E d_M_bits_0 ?_
  refine v_istoren E d_M_bits_1 rfl (by decide) (L' := [(1, .int (iI 0)), (0, .int (iI p1))]) rfl ?_
  refine v_iloadn E d_M_bits_2 rfl 1 rfl ?_
  refine v_istoren E d_M_bits_3 rfl (by decide) (L' := [(2, .int (iI p1)), (1, .int (iI 0)), (0, .int (iI p1))]) rfl ?_
  refine v_sub [1, 0] (L' := [(1, .int (iI 0)), (2, .int (iI p1))]) rfl ?_
  obtain ⟨I1, μ1, h01, h⟩ := h
  refine v_ploop2 s0 (fun (x1 : Int) (x2 : Int) => [(1, .int (iI x1)), (2, .int (iI x2))]) I1 μ1 (fun x1 x2 hI1 ih1 => ?_) 0 p1 h01
  replace h := h x1 x2  hI1
  refine v_iloadn E d_M_bits_4 rfl 1 rfl ?_
  obtain ⟨q1, h⟩ := h
  refine v_if_eq E 20 d_M_bits_5 (by decide) q1 (fun c1 => ?_) (fun c1 => ?_)
  · replace h := h.1 c1
    refine v_iloadn E d_M_bits_20 rfl 0 rfl ?_
    obtain ⟨q2, h⟩ := h
    exact v_iret E hR rfl q2 ⟨rfl, h⟩ d_M_bits_21
  · replace h := h.2 c1
    refine v_iincN E d_M_bits_8 0 rfl (by decide) (fun y => [(1, .int (iI y)), (2, .int (iI x2))]) (fun _ => rfl) (fun x3 hx3 => ?_)
    replace h := h x3 hx3
    refine v_iloadn E d_M_bits_11 rfl 1 rfl ?_
    refine v_iloadn E d_M_bits_12 rfl 1 rfl ?_
    refine v_iconst E d_M_bits_13 ?_
    refine v_isub E d_M_bits_14 ?_
    refine v_iand E d_M_bits_15 ?_
    refine v_nameI (fun x4 hx4 => ?_)
    replace h := h x4 hx4
    refine v_istoren E d_M_bits_16 rfl (by decide) (L' := [(2, .int (iI x4)), (1, .int (iI x3))]) rfl ?_
    refine v_goto E 4 d_M_bits_17 (by decide) ?_
    obtain ⟨hb, hm⟩ := h
    exact v_sub [1, 0] rfl (ih1 x3 x4 hb hm)
theorem d_M_anew_0 : decode prog_11_method_5_code 0 = .ok (.aload_n 0, 1) := by decide +kernel
theorem d_M_anew_1 : decode prog_11_method_5_code 1 = .ok (.iconst 0, 1) := by decide +kernel
theorem d_M_anew_2 : decode prog_11_method_5_code 2 = .ok (.putfield 99, 3) := by decide +kernel
theorem d_M_anew_5 : decode prog_11_method_5_code 5 = .ok (.aload_n 0, 1) := by decide +kernel
theorem d_M_anew_6 : decode prog_11_method_5_code 6 = .ok (.iconst 0, 1) := by decide +kernel
theorem d_M_anew_7 : decode prog_11_method_5_code 7 = .ok (.putfield 102, 3) := by decide +kernel
theorem d_M_anew_10 : decode prog_11_method_5_code 10 = .ok (.aload_n 0, 1) := by decide +kernel
theorem d_M_anew_11 : decode prog_11_method_5_code 11 = .ok (.bipush 60, 2) := by decide +kernel
theorem d_M_anew_13 : decode prog_11_method_5_code 13 = .ok (.putfield 92, 3) := by decide +kernel
theorem d_M_anew_16 : decode prog_11_method_5_code 16 = .ok (.iconst 0, 1) := by decide +kernel
theorem d_M_anew_17 : decode prog_11_method_5_code 17 = .ok (.istore_n 1, 1) := by decide +kernel
theorem d_M_anew_18 : decode prog_11_method_5_code 18 = .ok (.iload_n 1, 1) := by decide +kernel
theorem d_M_anew_19 : decode prog_11_method_5_code 19 = .ok (.bipush 49, 2) := by decide +kernel
theorem d_M_anew_21 : decode prog_11_method_5_code 21 = .ok (.if_icmp .ge 30, 3) := by decide +kernel
theorem d_M_anew_24 : decode prog_11_method_5_code 24 = .ok (.aload_n 0, 1) := by decide +kernel
theorem d_M_anew_25 : decode prog_11_method_5_code 25 = .ok (.getfield 19, 3) := by decide +kernel
theorem d_M_anew_28 : decode prog_11_method_5_code 28 = .ok (.iload_n 1, 1) := by decide +kernel
theorem d_M_anew_29 : decode prog_11_method_5_code 29 = .ok (.iconst 0, 1) := by decide +kernel
theorem d_M_anew_30 : decode prog_11_method_5_code 30 = .ok (.iastore, 1) := by decide +kernel
theorem d_M_anew_31 : decode prog_11_method_5_code 31 = .ok (.aload_n 0, 1) := by decide +kernel
theorem d_M_anew_32 : decode prog_11_method_5_code 32 = .ok (.getfield 22, 3) := by decide +kernel
theorem d_M_anew_35 : decode prog_11_method_5_code 35 = .ok (.iload_n 1, 1) := by decide +kernel
theorem d_M_anew_36 : decode prog_11_method_5_code 36 = .ok (.iconst 1, 1) := by decide +kernel
theorem d_M_anew_37 : decode prog_11_method_5_code 37 = .ok (.iastore, 1) := by decide +kernel
theorem d_M_anew_38 : decode prog_11_method_5_code 38 = .ok (.aload_n 0, 1) := by decide +kernel
theorem d_M_anew_39 : decode prog_11_method_5_code 39 = .ok (.getfield 25, 3) := by decide +kernel
theorem d_M_anew_42 : decode prog_11_method_5_code 42 = .ok (.iload_n 1, 1) := by decide +kernel
theorem d_M_anew_43 : decode prog_11_method_5_code 43 = .ok (.iconst 0, 1) := by decide +kernel
theorem d_M_anew_44 : decode prog_11_method_5_code 44 = .ok (.iastore, 1) := by decide +kernel
theorem d_M_anew_45 : decode prog_11_method_5_code 45 = .ok (.iinc 1 1, 3) := by decide +kernel
theorem d_M_anew_48 : decode prog_11_method_5_code 48 = .ok (.goto (-30), 3) := by decide +kernel
theorem d_M_anew_51 : decode prog_11_method_5_code 51 = .ok (.return_, 1) := by decide +kernel
set_option maxHeartbeats 4000000 in
set_option maxRecDepth 20000 in
theorem c_M_anew (s0 : MS) (Q : MS → Prop) (h : wp_M_anew s0 Q) : MT dscM ⟨"BellSchoolModel", "anew", "()V"⟩ prog_11_method_5_code 2 none 0 (fun ad => [.ref (ad 0)]) s0 (po_V dscM Q) := by
  refine met_of (by decide) (fun _ => Nat.le_of_ble_eq_true rfl) (fun X E hR => ?_)
  replace E : EV dscM X prog_11_method_5_code "BellSchoolModel" 2 0 := E
  show VV dscM X 0 [(0, .ref (adX X 0))] [] s0
  unfold wp_M_anew at h
  refine v_aloadn E d_M_anew_0 rfl 0 rfl ?_
  refine v_iconst E d_M_anew_1 ?_
  refine v_putI E cf9 dM_0 3 (by decide) rfl rfl mw476 d_M_anew_2 rfl rfl rfl (by decide) ?_
  refine v_nameS (fun s1 hs1 => ?_)
  replace h := h s1 hs1
  refine v_aloadn E d_M_anew_5 rfl 0 rfl ?_
  refine v_iconst E d_M_anew_6 ?_
  refine v_putI E cf9 dM_0 4 (by decide) rfl rfl mw477 d_M_anew_7 rfl rfl rfl (by decide) ?_
  refine v_nameS (fun s2 hs2 => ?_)
  replace h := h s2 hs2
  refine v_aloadn E d_M_anew_10 rfl 0 rfl ?_
  refine v_bipush E d_M_anew_11 rfl ?_
  refine v_putI E cf9 dM_0 5 (by decide) rfl rfl mw478 d_M_anew_13 rfl rfl rfl (by decide) ?_
  refine v_nameS (fun s3 hs3 => ?_)
  replace h := h s3 hs3
  refine v_iconst E d_M_anew_16 ?_
  refine v_istoren E d_M_anew_17 rfl (by decide) (L' := [(1, .int (iI 0)), (0, .ref (adX X 0))]) rfl ?_
  refine v_sub [1, 0] (L' := [(0, .ref (adX X 0)), (1, .int (iI 0))]) rfl ?_
  obtain ⟨I1, μ1, h01, h⟩ := h
  refine v_loop1 (fun (x1 : Int) => [(0, .ref (adX X 0)), (1, .int (iI x1))]) I1 μ1 (fun x1 s4 hI1 ih1 => ?_) 0 s3 h01
  replace h := h x1 s4 hI1
  refine v_iloadn E d_M_anew_18 rfl 1 rfl ?_
  refine v_bipush E d_M_anew_19 rfl ?_
  obtain ⟨q1, h⟩ := h
  refine v_icmp_ge E 51 d_M_anew_21 (by decide) q1 (by decide) (fun c1 => ?_) (fun c1 => ?_)
  · replace h := h.1 c1
    exact v_vret E hR h d_M_anew_51
  · replace h := h.2 c1
    refine v_aloadn E d_M_anew_24 rfl 0 rfl ?_
    refine v_getA E cf9 dM_0 8 (by decide) rfl mw479 d_M_anew_25 rfl ?_
    refine v_iloadn E d_M_anew_28 rfl 1 rfl ?_
    refine v_iconst E d_M_anew_29 ?_
    obtain ⟨q2, h⟩ := h
    refine v_iast E dM_4 (by decide) q2.1 q2.2 (by decide) d_M_anew_30 ?_
    refine v_nameS (fun s5 hs5 => ?_)
    replace h := h s5 hs5
    refine v_aloadn E d_M_anew_31 rfl 0 rfl ?_
    refine v_getA E cf9 dM_0 9 (by decide) rfl mw480 d_M_anew_32 rfl ?_
    refine v_iloadn E d_M_anew_35 rfl 1 rfl ?_
    refine v_iconst E d_M_anew_36 ?_
    refine v_iast E dM_5 (by decide) q2.1 q2.2 (by decide) d_M_anew_37 ?_
    refine v_nameS (fun s6 hs6 => ?_)
    replace h := h s6 hs6
    refine v_aloadn E d_M_anew_38 rfl 0 rfl ?_
    refine v_getA E cf9 dM_0 10 (by decide) rfl mw481 d_M_anew_39 rfl ?_
    refine v_iloadn E d_M_anew_42 rfl 1 rfl ?_
    refine v_iconst E d_M_anew_43 ?_
    refine v_iast E dM_6 (by decide) q2.1 q2.2 (by decide) d_M_anew_44 ?_
    refine v_nameS (fun s7 hs7 => ?_)
    replace h := h s7 hs7
    refine v_iincN E d_M_anew_45 1 rfl (by decide) (fun y => [(1, .int (iI y)), (0, .ref (adX X 0))]) (fun _ => rfl) (fun x2 hx2 => ?_)
    replace h := h x2 hx2
    refine v_goto E 18 d_M_anew_48 (by decide) ?_
    obtain ⟨hb, hm⟩ := h
    exact v_sub [1, 0] rfl (ih1 x2 s7 hb hm)
theorem d_M_comesHome_0 : decode prog_11_method_6_code 0 = .ok (.aload_n 0, 1) := by decide +kernel
theorem d_M_comesHome_1 : decode prog_11_method_6_code 1 = .ok (.getfield 13, 3) := by decide +kernel
theorem d_M_comesHome_4 : decode prog_11_method_6_code 4 = .ok (.aload_n 0, 1) := by decide +kernel
theorem d_M_comesHome_5 : decode prog_11_method_6_code 5 = .ok (.getfield 99, 3) := by decide +kernel
theorem d_M_comesHome_8 : decode prog_11_method_6_code 8 = .ok (.iload_n 1, 1) := by decide +kernel
theorem d_M_comesHome_9 : decode prog_11_method_6_code 9 = .ok (.iastore, 1) := by decide +kernel
theorem d_M_comesHome_10 : decode prog_11_method_6_code 10 = .ok (.aload_n 0, 1) := by decide +kernel
theorem d_M_comesHome_11 : decode prog_11_method_6_code 11 = .ok (.getfield 16, 3) := by decide +kernel
theorem d_M_comesHome_14 : decode prog_11_method_6_code 14 = .ok (.aload_n 0, 1) := by decide +kernel
theorem d_M_comesHome_15 : decode prog_11_method_6_code 15 = .ok (.getfield 99, 3) := by decide +kernel
theorem d_M_comesHome_18 : decode prog_11_method_6_code 18 = .ok (.iload_n 2, 1) := by decide +kernel
theorem d_M_comesHome_19 : decode prog_11_method_6_code 19 = .ok (.iastore, 1) := by decide +kernel
theorem d_M_comesHome_20 : decode prog_11_method_6_code 20 = .ok (.aload_n 0, 1) := by decide +kernel
theorem d_M_comesHome_21 : decode prog_11_method_6_code 21 = .ok (.dup, 1) := by decide +kernel
theorem d_M_comesHome_22 : decode prog_11_method_6_code 22 = .ok (.getfield 99, 3) := by decide +kernel
theorem d_M_comesHome_25 : decode prog_11_method_6_code 25 = .ok (.iconst 1, 1) := by decide +kernel
theorem d_M_comesHome_26 : decode prog_11_method_6_code 26 = .ok (.iadd, 1) := by decide +kernel
theorem d_M_comesHome_27 : decode prog_11_method_6_code 27 = .ok (.putfield 99, 3) := by decide +kernel
theorem d_M_comesHome_30 : decode prog_11_method_6_code 30 = .ok (.return_, 1) := by decide +kernel
set_option maxHeartbeats 4000000 in
set_option maxRecDepth 20000 in
theorem c_M_comesHome (p1 : Int) (hp1 : Rng p1) (p2 : Int) (hp2 : Rng p2) (s0 : MS) (Q : MS → Prop) (h : wp_M_comesHome p1 p2 s0 Q) : MT dscM ⟨"BellSchoolModel", "comesHome", "(II)V"⟩ prog_11_method_6_code 3 none 0 (fun ad => [.ref (ad 0), .int (iI p1), .int (iI p2)]) s0 (po_V dscM Q) := by
  refine met_of (by decide) (fun _ => Nat.le_of_ble_eq_true rfl) (fun X E hR => ?_)
  replace E : EV dscM X prog_11_method_6_code "BellSchoolModel" 3 0 := E
  show VV dscM X 0 [(0, .ref (adX X 0)), (1, .int (iI p1)), (2, .int (iI p2))] [] s0
  unfold wp_M_comesHome at h
  refine v_aloadn E d_M_comesHome_0 rfl 0 rfl ?_
  refine v_getA E cf9 dM_0 6 (by decide) rfl mw485 d_M_comesHome_1 rfl ?_
  refine v_aloadn E d_M_comesHome_4 rfl 0 rfl ?_
  refine v_getI E cf9 dM_0 3 (by decide) rfl mw476 d_M_comesHome_5 rfl ?_
  refine v_iloadn E d_M_comesHome_8 rfl 1 rfl ?_
  obtain ⟨q1, h⟩ := h
  refine v_iast E dM_2 (by decide) q1.1 q1.2 hp1 d_M_comesHome_9 ?_
  refine v_nameS (fun s1 hs1 => ?_)
  replace h := h s1 hs1
  refine v_aloadn E d_M_comesHome_10 rfl 0 rfl ?_
  refine v_getA E cf9 dM_0 7 (by decide) rfl mw486 d_M_comesHome_11 rfl ?_
  refine v_aloadn E d_M_comesHome_14 rfl 0 rfl ?_
  refine v_getI E cf9 dM_0 3 (by decide) rfl mw476 d_M_comesHome_15 rfl ?_
  refine v_iloadn E d_M_comesHome_18 rfl 2 rfl ?_
  obtain ⟨q2, h⟩ := h
  refine v_iast E dM_3 (by decide) q2.1 q2.2 hp2 d_M_comesHome_19 ?_
  refine v_nameS (fun s2 hs2 => ?_)
  replace h := h s2 hs2
  refine v_aloadn E d_M_comesHome_20 rfl 0 rfl ?_
  refine v_dup E d_M_comesHome_21 rfl ?_
  refine v_getI E cf9 dM_0 3 (by decide) rfl mw476 d_M_comesHome_22 rfl ?_
  refine v_iconst E d_M_comesHome_25 ?_
  refine v_iadd E d_M_comesHome_26 ?_
  obtain ⟨q3, h⟩ := h
  refine v_putI E cf9 dM_0 3 (by decide) rfl rfl mw476 d_M_comesHome_27 rfl rfl rfl q3 ?_
  refine v_nameS (fun s3 hs3 => ?_)
  replace h := h s3 hs3
  exact v_vret E hR h d_M_comesHome_30
theorem d_M_joins_0 : decode prog_11_method_7_code 0 = .ok (.aload_n 0, 1) := by decide +kernel
theorem d_M_joins_1 : decode prog_11_method_7_code 1 = .ok (.getfield 19, 3) := by decide +kernel
theorem d_M_joins_4 : decode prog_11_method_7_code 4 = .ok (.bipush 7, 2) := by decide +kernel
theorem d_M_joins_6 : decode prog_11_method_7_code 6 = .ok (.iload_n 1, 1) := by decide +kernel
theorem d_M_joins_7 : decode prog_11_method_7_code 7 = .ok (.imul, 1) := by decide +kernel
theorem d_M_joins_8 : decode prog_11_method_7_code 8 = .ok (.iload_n 2, 1) := by decide +kernel
theorem d_M_joins_9 : decode prog_11_method_7_code 9 = .ok (.iadd, 1) := by decide +kernel
theorem d_M_joins_10 : decode prog_11_method_7_code 10 = .ok (.iload_n 3, 1) := by decide +kernel
theorem d_M_joins_11 : decode prog_11_method_7_code 11 = .ok (.iastore, 1) := by decide +kernel
theorem d_M_joins_12 : decode prog_11_method_7_code 12 = .ok (.aload_n 0, 1) := by decide +kernel
theorem d_M_joins_13 : decode prog_11_method_7_code 13 = .ok (.getfield 19, 3) := by decide +kernel
theorem d_M_joins_16 : decode prog_11_method_7_code 16 = .ok (.bipush 7, 2) := by decide +kernel
theorem d_M_joins_18 : decode prog_11_method_7_code 18 = .ok (.iload_n 2, 1) := by decide +kernel
theorem d_M_joins_19 : decode prog_11_method_7_code 19 = .ok (.imul, 1) := by decide +kernel
theorem d_M_joins_20 : decode prog_11_method_7_code 20 = .ok (.iload_n 1, 1) := by decide +kernel
theorem d_M_joins_21 : decode prog_11_method_7_code 21 = .ok (.iadd, 1) := by decide +kernel
theorem d_M_joins_22 : decode prog_11_method_7_code 22 = .ok (.iload_n 3, 1) := by decide +kernel
theorem d_M_joins_23 : decode prog_11_method_7_code 23 = .ok (.iastore, 1) := by decide +kernel
theorem d_M_joins_24 : decode prog_11_method_7_code 24 = .ok (.return_, 1) := by decide +kernel
set_option maxHeartbeats 4000000 in
set_option maxRecDepth 20000 in
theorem c_M_joins (p1 : Int) (hp1 : Rng p1) (p2 : Int) (hp2 : Rng p2) (p3 : Int) (hp3 : Rng p3) (s0 : MS) (Q : MS → Prop) (h : wp_M_joins p1 p2 p3 s0 Q) : MT dscM ⟨"BellSchoolModel", "joins", "(III)V"⟩ prog_11_method_7_code 4 none 0 (fun ad => [.ref (ad 0), .int (iI p1), .int (iI p2), .int (iI p3)]) s0 (po_V dscM Q) := by
  refine met_of (by decide) (fun _ => Nat.le_of_ble_eq_true rfl) (fun X E hR => ?_)
  replace E : EV dscM X prog_11_method_7_code "BellSchoolModel" 4 0 := E
  show VV dscM X 0 [(0, .ref (adX X 0)), (1, .int (iI p1)), (2, .int (iI p2)), (3, .int (iI p3))] [] s0
  unfold wp_M_joins at h
  refine v_aloadn E d_M_joins_0 rfl 0 rfl ?_
  refine v_getA E cf9 dM_0 8 (by decide) rfl mw479 d_M_joins_1 rfl ?_
  refine v_bipush E d_M_joins_4 rfl ?_
  refine v_iloadn E d_M_joins_6 rfl 1 rfl ?_
  refine v_imul E d_M_joins_7 ?_
  refine v_iloadn E d_M_joins_8 rfl 2 rfl ?_
  refine v_iadd E d_M_joins_9 ?_
  refine v_iloadn E d_M_joins_10 rfl 3 rfl ?_
  obtain ⟨q1, h⟩ := h
  refine v_iast E dM_4 (by decide) q1.1 q1.2 hp3 d_M_joins_11 ?_
  refine v_nameS (fun s1 hs1 => ?_)
  replace h := h s1 hs1
  refine v_aloadn E d_M_joins_12 rfl 0 rfl ?_
  refine v_getA E cf9 dM_0 8 (by decide) rfl mw479 d_M_joins_13 rfl ?_
  refine v_bipush E d_M_joins_16 rfl ?_
  refine v_iloadn E d_M_joins_18 rfl 2 rfl ?_
  refine v_imul E d_M_joins_19 ?_
  refine v_iloadn E d_M_joins_20 rfl 1 rfl ?_
  refine v_iadd E d_M_joins_21 ?_
  refine v_iloadn E d_M_joins_22 rfl 3 rfl ?_
  obtain ⟨q2, h⟩ := h
  refine v_iast E dM_4 (by decide) q2.1 q2.2 hp3 d_M_joins_23 ?_
  refine v_nameS (fun s2 hs2 => ?_)
  replace h := h s2 hs2
  exact v_vret E hR h d_M_joins_24
theorem d_M_snows_0 : decode prog_11_method_8_code 0 = .ok (.aload_n 0, 1) := by decide +kernel
theorem d_M_snows_1 : decode prog_11_method_8_code 1 = .ok (.getfield 22, 3) := by decide +kernel
theorem d_M_snows_4 : decode prog_11_method_8_code 4 = .ok (.bipush 7, 2) := by decide +kernel
theorem d_M_snows_6 : decode prog_11_method_8_code 6 = .ok (.iload_n 1, 1) := by decide +kernel
theorem d_M_snows_7 : decode prog_11_method_8_code 7 = .ok (.imul, 1) := by decide +kernel
theorem d_M_snows_8 : decode prog_11_method_8_code 8 = .ok (.iload_n 2, 1) := by decide +kernel
theorem d_M_snows_9 : decode prog_11_method_8_code 9 = .ok (.iadd, 1) := by decide +kernel
theorem d_M_snows_10 : decode prog_11_method_8_code 10 = .ok (.iload_n 3, 1) := by decide +kernel
theorem d_M_snows_11 : decode prog_11_method_8_code 11 = .ok (.iastore, 1) := by decide +kernel
theorem d_M_snows_12 : decode prog_11_method_8_code 12 = .ok (.aload_n 0, 1) := by decide +kernel
theorem d_M_snows_13 : decode prog_11_method_8_code 13 = .ok (.getfield 22, 3) := by decide +kernel
theorem d_M_snows_16 : decode prog_11_method_8_code 16 = .ok (.bipush 7, 2) := by decide +kernel
theorem d_M_snows_18 : decode prog_11_method_8_code 18 = .ok (.iload_n 2, 1) := by decide +kernel
theorem d_M_snows_19 : decode prog_11_method_8_code 19 = .ok (.imul, 1) := by decide +kernel
theorem d_M_snows_20 : decode prog_11_method_8_code 20 = .ok (.iload_n 1, 1) := by decide +kernel
theorem d_M_snows_21 : decode prog_11_method_8_code 21 = .ok (.iadd, 1) := by decide +kernel
theorem d_M_snows_22 : decode prog_11_method_8_code 22 = .ok (.iload_n 3, 1) := by decide +kernel
theorem d_M_snows_23 : decode prog_11_method_8_code 23 = .ok (.iastore, 1) := by decide +kernel
theorem d_M_snows_24 : decode prog_11_method_8_code 24 = .ok (.aload_n 0, 1) := by decide +kernel
theorem d_M_snows_25 : decode prog_11_method_8_code 25 = .ok (.getfield 25, 3) := by decide +kernel
theorem d_M_snows_28 : decode prog_11_method_8_code 28 = .ok (.bipush 7, 2) := by decide +kernel
theorem d_M_snows_30 : decode prog_11_method_8_code 30 = .ok (.iload_n 1, 1) := by decide +kernel
theorem d_M_snows_31 : decode prog_11_method_8_code 31 = .ok (.imul, 1) := by decide +kernel
theorem d_M_snows_32 : decode prog_11_method_8_code 32 = .ok (.iload_n 2, 1) := by decide +kernel
theorem d_M_snows_33 : decode prog_11_method_8_code 33 = .ok (.iadd, 1) := by decide +kernel
theorem d_M_snows_34 : decode prog_11_method_8_code 34 = .ok (.iload 4, 2) := by decide +kernel
theorem d_M_snows_36 : decode prog_11_method_8_code 36 = .ok (.iastore, 1) := by decide +kernel
theorem d_M_snows_37 : decode prog_11_method_8_code 37 = .ok (.aload_n 0, 1) := by decide +kernel
theorem d_M_snows_38 : decode prog_11_method_8_code 38 = .ok (.getfield 25, 3) := by decide +kernel
theorem d_M_snows_41 : decode prog_11_method_8_code 41 = .ok (.bipush 7, 2) := by decide +kernel
theorem d_M_snows_43 : decode prog_11_method_8_code 43 = .ok (.iload_n 2, 1) := by decide +kernel
theorem d_M_snows_44 : decode prog_11_method_8_code 44 = .ok (.imul, 1) := by decide +kernel
theorem d_M_snows_45 : decode prog_11_method_8_code 45 = .ok (.iload_n 1, 1) := by decide +kernel
theorem d_M_snows_46 : decode prog_11_method_8_code 46 = .ok (.iadd, 1) := by decide +kernel
theorem d_M_snows_47 : decode prog_11_method_8_code 47 = .ok (.iload 4, 2) := by decide +kernel
theorem d_M_snows_49 : decode prog_11_method_8_code 49 = .ok (.iastore, 1) := by decide +kernel
theorem d_M_snows_50 : decode prog_11_method_8_code 50 = .ok (.return_, 1) := by decide +kernel
set_option maxHeartbeats 4000000 in
set_option maxRecDepth 20000 in
theorem c_M_snows (p1 : Int) (hp1 : Rng p1) (p2 : Int) (hp2 : Rng p2) (p3 : Int) (hp3 : Rng p3) (p4 : Int) (hp4 : Rng p4) (s0 : MS) (Q : MS → Prop) (h : wp_M_snows p1 p2 p3 p4 s0 Q) : MT dscM ⟨"BellSchoolModel", "snows", "(IIII)V"⟩ prog_11_method_8_code 5 none 0 (fun ad => [.ref (ad 0), .int (iI p1), .int (iI p2), .int (iI p3), .int (iI p4)]) s0 (po_V dscM Q) := by
  refine met_of (by decide) (fun _ => Nat.le_of_ble_eq_true rfl) (fun X E hR => ?_)
  replace E : EV dscM X prog_11_method_8_code "BellSchoolModel" 5 0 := E
  show VV dscM X 0 [(0, .ref (adX X 0)), (1, .int (iI p1)), (2, .int (iI p2)), (3, .int (iI p3)), (4, .int (iI p4))] [] s0
  unfold wp_M_snows at h
  refine v_aloadn E d_M_snows_0 rfl 0 rfl ?_
  refine v_getA E cf9 dM_0 9 (by decide) rfl mw480 d_M_snows_1 rfl ?_
  refine v_bipush E d_M_snows_4 rfl ?_
  refine v_iloadn E d_M_snows_6 rfl 1 rfl ?_
  refine v_imul E d_M_snows_7 ?_
  refine v_iloadn E d_M_snows_8 rfl 2 rfl ?_
  refine v_iadd E d_M_snows_9 ?_
  refine v_iloadn E d_M_snows_10 rfl 3 rfl ?_
  obtain ⟨q1, h⟩ := h
  refine v_iast E dM_5 (by decide) q1.1 q1.2 hp3 d_M_snows_11 ?_
  refine v_nameS (fun s1 hs1 => ?_)
  replace h := h s1 hs1
  refine v_aloadn E d_M_snows_12 rfl 0 rfl ?_
  refine v_getA E cf9 dM_0 9 (by decide) rfl mw480 d_M_snows_13 rfl ?_
  refine v_bipush E d_M_snows_16 rfl ?_
  refine v_iloadn E d_M_snows_18 rfl 2 rfl ?_
  refine v_imul E d_M_snows_19 ?_
  refine v_iloadn E d_M_snows_20 rfl 1 rfl ?_
  refine v_iadd E d_M_snows_21 ?_
  refine v_iloadn E d_M_snows_22 rfl 3 rfl ?_
  obtain ⟨q2, h⟩ := h
  refine v_iast E dM_5 (by decide) q2.1 q2.2 hp3 d_M_snows_23 ?_
  refine v_nameS (fun s2 hs2 => ?_)
  replace h := h s2 hs2
  refine v_aloadn E d_M_snows_24 rfl 0 rfl ?_
  refine v_getA E cf9 dM_0 10 (by decide) rfl mw481 d_M_snows_25 rfl ?_
  refine v_bipush E d_M_snows_28 rfl ?_
  refine v_iloadn E d_M_snows_30 rfl 1 rfl ?_
  refine v_imul E d_M_snows_31 ?_
  refine v_iloadn E d_M_snows_32 rfl 2 rfl ?_
  refine v_iadd E d_M_snows_33 ?_
  refine v_iload E d_M_snows_34 4 rfl ?_
  refine v_iast E dM_6 (by decide) q1.1 q1.2 hp4 d_M_snows_36 ?_
  refine v_nameS (fun s3 hs3 => ?_)
  replace h := h s3 hs3
  refine v_aloadn E d_M_snows_37 rfl 0 rfl ?_
  refine v_getA E cf9 dM_0 10 (by decide) rfl mw481 d_M_snows_38 rfl ?_
  refine v_bipush E d_M_snows_41 rfl ?_
  refine v_iloadn E d_M_snows_43 rfl 2 rfl ?_
  refine v_imul E d_M_snows_44 ?_
  refine v_iloadn E d_M_snows_45 rfl 1 rfl ?_
  refine v_iadd E d_M_snows_46 ?_
  refine v_iload E d_M_snows_47 4 rfl ?_
  refine v_iast E dM_6 (by decide) q2.1 q2.2 hp4 d_M_snows_49 ?_
  refine v_nameS (fun s4 hs4 => ?_)
  replace h := h s4 hs4
  exact v_vret E hR h d_M_snows_50
theorem d_M_write_0 : decode prog_11_method_9_code 0 = .ok (.iload_n 1, 1) := by decide +kernel
theorem d_M_write_1 : decode prog_11_method_9_code 1 = .ok (.bipush 32, 2) := by decide +kernel
theorem d_M_write_3 : decode prog_11_method_9_code 3 = .ok (.bipush 126, 2) := by decide +kernel
theorem d_M_write_5 : decode prog_11_method_9_code 5 = .ok (.invokestatic 105, 3) := by decide +kernel
theorem d_M_write_8 : decode prog_11_method_9_code 8 = .ok (.ifCond .ne 5, 3) := by decide +kernel
theorem d_M_write_11 : decode prog_11_method_9_code 11 = .ok (.iconst (-1), 1) := by decide +kernel
theorem d_M_write_12 : decode prog_11_method_9_code 12 = .ok (.ireturn, 1) := by decide +kernel
theorem d_M_write_13 : decode prog_11_method_9_code 13 = .ok (.aload_n 0, 1) := by decide +kernel
theorem d_M_write_14 : decode prog_11_method_9_code 14 = .ok (.getfield 109, 3) := by decide +kernel
theorem d_M_write_17 : decode prog_11_method_9_code 17 = .ok (.sipush 200, 3) := by decide +kernel
theorem d_M_write_20 : decode prog_11_method_9_code 20 = .ok (.if_icmp .ne 6, 3) := by decide +kernel
theorem d_M_write_23 : decode prog_11_method_9_code 23 = .ok (.bipush (-3), 2) := by decide +kernel
theorem d_M_write_25 : decode prog_11_method_9_code 25 = .ok (.ireturn, 1) := by decide +kernel
theorem d_M_write_26 : decode prog_11_method_9_code 26 = .ok (.aload_n 0, 1) := by decide +kernel
theorem d_M_write_27 : decode prog_11_method_9_code 27 = .ok (.getfield 7, 3) := by decide +kernel
theorem d_M_write_30 : decode prog_11_method_9_code 30 = .ok (.aload_n 0, 1) := by decide +kernel
theorem d_M_write_31 : decode prog_11_method_9_code 31 = .ok (.getfield 109, 3) := by decide +kernel
theorem d_M_write_34 : decode prog_11_method_9_code 34 = .ok (.iload_n 1, 1) := by decide +kernel
theorem d_M_write_35 : decode prog_11_method_9_code 35 = .ok (.iastore, 1) := by decide +kernel
theorem d_M_write_36 : decode prog_11_method_9_code 36 = .ok (.aload_n 0, 1) := by decide +kernel
theorem d_M_write_37 : decode prog_11_method_9_code 37 = .ok (.dup, 1) := by decide +kernel
theorem d_M_write_38 : decode prog_11_method_9_code 38 = .ok (.getfield 109, 3) := by decide +kernel
theorem d_M_write_41 : decode prog_11_method_9_code 41 = .ok (.iconst 1, 1) := by decide +kernel
theorem d_M_write_42 : decode prog_11_method_9_code 42 = .ok (.iadd, 1) := by decide +kernel
theorem d_M_write_43 : decode prog_11_method_9_code 43 = .ok (.putfield 109, 3) := by decide +kernel
theorem d_M_write_46 : decode prog_11_method_9_code 46 = .ok (.aload_n 0, 1) := by decide +kernel
theorem d_M_write_47 : decode prog_11_method_9_code 47 = .ok (.getfield 109, 3) := by decide +kernel
theorem d_M_write_50 : decode prog_11_method_9_code 50 = .ok (.ireturn, 1) := by decide +kernel
set_option maxHeartbeats 4000000 in
set_option maxRecDepth 20000 in
theorem c_M_write (p1 : Int) (hp1 : Rng p1) (s0 : MS) (Q : Int → MS → Prop) (h : wp_M_write p1 s0 Q) : MT dscM ⟨"BellSchoolModel", "write", "(I)I"⟩ prog_11_method_9_code 2 (some .int) 1 (fun ad => [.ref (ad 0), .int (iI p1)]) s0 (po_I dscM Q) := by
  refine met_of (by decide) (fun _ => Nat.le_of_ble_eq_true rfl) (fun X E hR => ?_)
  replace E : EV dscM X prog_11_method_9_code "BellSchoolModel" 2 1 := E
  show VV dscM X 0 [(0, .ref (adX X 0)), (1, .int (iI p1))] [] s0
  unfold wp_M_write at h
  refine v_iloadn E d_M_write_0 rfl 1 rfl ?_
  refine v_bipush E d_M_write_1 rfl ?_
  refine v_bipush E d_M_write_3 rfl ?_
  refine v_callSIpz E md_M_in (c_M_in dscM p1 hp1 32 (by decide) 126 (by decide) s0 _ h) ⟨by decide, by decide⟩ mw496 d_M_write_5 (fun _ => rfl) (st := []) rfl (Nat.le_of_ble_eq_true rfl) (fun r1 hr1 hz1 h => ?_)
  refine v_if_ne E 13 d_M_write_8 (by decide) hr1 (fun c1 => ?_) (fun c1 => ?_)
  · replace h := h.1 c1
    refine v_aloadn E d_M_write_13 rfl 0 rfl ?_
    refine v_getI E cf9 dM_0 0 (by decide) rfl mw497 d_M_write_14 rfl ?_
    refine v_sipush E d_M_write_17 rfl ?_
    refine v_wt (fun wt1 => ?_)
    refine v_icmp_ne E 26 d_M_write_20 (by decide) (wt1 0 0) (by decide) (fun c2 => ?_) (fun c2 => ?_)
    · replace h := h.1 c2
      refine v_aloadn E d_M_write_26 rfl 0 rfl ?_
      refine v_getA E cf9 dM_0 1 (by decide) rfl mw498 d_M_write_27 rfl ?_
      refine v_aloadn E d_M_write_30 rfl 0 rfl ?_
      refine v_getI E cf9 dM_0 0 (by decide) rfl mw497 d_M_write_31 rfl ?_
      refine v_iloadn E d_M_write_34 rfl 1 rfl ?_
      obtain ⟨q1, h⟩ := h
      refine v_iast E dM_1 (by decide) q1.1 q1.2 hp1 d_M_write_35 ?_
      refine v_nameS (fun s1 hs1 => ?_)
      replace h := h s1 hs1
      refine v_aloadn E d_M_write_36 rfl 0 rfl ?_
      refine v_dup E d_M_write_37 rfl ?_
      refine v_getI E cf9 dM_0 0 (by decide) rfl mw497 d_M_write_38 rfl ?_
      refine v_iconst E d_M_write_41 ?_
      refine v_iadd E d_M_write_42 ?_
      obtain ⟨q2, h⟩ := h
      refine v_putI E cf9 dM_0 0 (by decide) rfl rfl mw497 d_M_write_43 rfl rfl rfl q2 ?_
      refine v_nameS (fun s2 hs2 => ?_)
      replace h := h s2 hs2
      refine v_aloadn E d_M_write_46 rfl 0 rfl ?_
      refine v_getI E cf9 dM_0 0 (by decide) rfl mw497 d_M_write_47 rfl ?_
      refine v_wt (fun wt2 => ?_)
      exact v_iret E hR rfl (wt2 0 0) h d_M_write_50
    · replace h := h.2 c2
      refine v_bipush E d_M_write_23 rfl ?_
      exact v_iret E hR rfl (by decide) h d_M_write_25
  · replace h := h.2 c1
    refine v_iconst E d_M_write_11 ?_
    exact v_iret E hR rfl (by decide) h d_M_write_12
theorem d_M_wipe_0 : decode prog_11_method_10_code 0 = .ok (.aload_n 0, 1) := by decide +kernel
theorem d_M_wipe_1 : decode prog_11_method_10_code 1 = .ok (.getfield 109, 3) := by decide +kernel
theorem d_M_wipe_4 : decode prog_11_method_10_code 4 = .ok (.istore_n 1, 1) := by decide +kernel
theorem d_M_wipe_5 : decode prog_11_method_10_code 5 = .ok (.aload_n 0, 1) := by decide +kernel
theorem d_M_wipe_6 : decode prog_11_method_10_code 6 = .ok (.iconst 0, 1) := by decide +kernel
theorem d_M_wipe_7 : decode prog_11_method_10_code 7 = .ok (.putfield 109, 3) := by decide +kernel
theorem d_M_wipe_10 : decode prog_11_method_10_code 10 = .ok (.iload_n 1, 1) := by decide +kernel
theorem d_M_wipe_11 : decode prog_11_method_10_code 11 = .ok (.ireturn, 1) := by decide +kernel
set_option maxHeartbeats 4000000 in
set_option maxRecDepth 20000 in
theorem c_M_wipe (s0 : MS) (Q : Int → MS → Prop) (h : wp_M_wipe s0 Q) : MT dscM ⟨"BellSchoolModel", "wipe", "()I"⟩ prog_11_method_10_code 2 (some .int) 0 (fun ad => [.ref (ad 0)]) s0 (po_I dscM Q) := by
  refine met_of (by decide) (fun _ => Nat.le_of_ble_eq_true rfl) (fun X E hR => ?_)
  replace E : EV dscM X prog_11_method_10_code "BellSchoolModel" 2 0 := E
  show VV dscM X 0 [(0, .ref (adX X 0))] [] s0
  unfold wp_M_wipe at h
  refine v_aloadn E d_M_wipe_0 rfl 0 rfl ?_
  refine v_getI E cf9 dM_0 0 (by decide) rfl mw497 d_M_wipe_1 rfl ?_
  refine v_istoren E d_M_wipe_4 rfl (by decide) (L' := [(1, .int (iI (gI s0 0 0))), (0, .ref (adX X 0))]) rfl ?_
  refine v_aloadn E d_M_wipe_5 rfl 1 rfl ?_
  refine v_iconst E d_M_wipe_6 ?_
  refine v_putI E cf9 dM_0 0 (by decide) rfl rfl mw497 d_M_wipe_7 rfl rfl rfl (by decide) ?_
  refine v_nameS (fun s1 hs1 => ?_)
  replace h := h s1 hs1
  refine v_iloadn E d_M_wipe_10 rfl 0 rfl ?_
  obtain ⟨q1, h⟩ := h
  exact v_iret E hR rfl q1 h d_M_wipe_11
theorem d_M_here_0 : decode prog_11_method_11_code 0 = .ok (.aload_n 0, 1) := by decide +kernel
theorem d_M_here_1 : decode prog_11_method_11_code 1 = .ok (.getfield 112, 3) := by decide +kernel
theorem d_M_here_4 : decode prog_11_method_11_code 4 = .ok (.aload_n 0, 1) := by decide +kernel
theorem d_M_here_5 : decode prog_11_method_11_code 5 = .ok (.getfield 109, 3) := by decide +kernel
theorem d_M_here_8 : decode prog_11_method_11_code 8 = .ok (.if_icmp .ge 15, 3) := by decide +kernel
theorem d_M_here_11 : decode prog_11_method_11_code 11 = .ok (.aload_n 0, 1) := by decide +kernel
theorem d_M_here_12 : decode prog_11_method_11_code 12 = .ok (.getfield 7, 3) := by decide +kernel
theorem d_M_here_15 : decode prog_11_method_11_code 15 = .ok (.aload_n 0, 1) := by decide +kernel
theorem d_M_here_16 : decode prog_11_method_11_code 16 = .ok (.getfield 112, 3) := by decide +kernel
theorem d_M_here_19 : decode prog_11_method_11_code 19 = .ok (.iaload, 1) := by decide +kernel
theorem d_M_here_20 : decode prog_11_method_11_code 20 = .ok (.goto 4, 3) := by decide +kernel
theorem d_M_here_23 : decode prog_11_method_11_code 23 = .ok (.iconst 0, 1) := by decide +kernel
theorem d_M_here_24 : decode prog_11_method_11_code 24 = .ok (.ireturn, 1) := by decide +kernel
set_option maxHeartbeats 4000000 in
set_option maxRecDepth 20000 in
theorem c_M_here (s0 : MS) (Q : Int → Prop) (h : wp_M_here s0 Q) : MT dscM ⟨"BellSchoolModel", "here", "()I"⟩ prog_11_method_11_code 1 (some .int) 0 (fun ad => [.ref (ad 0)]) s0 (po_I dscM (fun r z => z = s0 ∧ Q r)) := by
  refine met_of (by decide) (fun _ => Nat.le_of_ble_eq_true rfl) (fun X E hR => ?_)
  replace E : EV dscM X prog_11_method_11_code "BellSchoolModel" 1 0 := E
  show VV dscM X 0 [(0, .ref (adX X 0))] [] s0
  unfold wp_M_here at h
  refine v_aloadn E d_M_here_0 rfl 0 rfl ?_
  refine v_getI E cf9 dM_0 2 (by decide) rfl mw505 d_M_here_1 rfl ?_
  refine v_aloadn E d_M_here_4 rfl 0 rfl ?_
  refine v_getI E cf9 dM_0 0 (by decide) rfl mw497 d_M_here_5 rfl ?_
  refine v_wt (fun wt1 => ?_)
  refine v_icmp_ge E 23 d_M_here_8 (by decide) (wt1 0 2) (wt1 0 0) (fun c1 => ?_) (fun c1 => ?_)
  · replace h := h.1 c1
    refine v_iconst E d_M_here_23 ?_
    exact v_iret E hR rfl (by decide) ⟨rfl, h⟩ d_M_here_24
  · replace h := h.2 c1
    refine v_aloadn E d_M_here_11 rfl 0 rfl ?_
    refine v_getA E cf9 dM_0 1 (by decide) rfl mw498 d_M_here_12 rfl ?_
    refine v_aloadn E d_M_here_15 rfl 0 rfl ?_
    refine v_getI E cf9 dM_0 2 (by decide) rfl mw505 d_M_here_16 rfl ?_
    obtain ⟨q1, h⟩ := h
    refine v_iald E dM_1 (by decide) q1.1 q1.2 d_M_here_19 ?_
    refine v_goto E 24 d_M_here_20 (by decide) ?_
    exact v_iret E hR rfl (wt1 1 (gI s0 0 2)) ⟨rfl, h⟩ d_M_here_24
theorem d_M_numbers_0 : decode prog_11_method_12_code 0 = .ok (.iconst 0, 1) := by decide +kernel
theorem d_M_numbers_1 : decode prog_11_method_12_code 1 = .ok (.istore_n 2, 1) := by decide +kernel
theorem d_M_numbers_2 : decode prog_11_method_12_code 2 = .ok (.iload_n 2, 1) := by decide +kernel
theorem d_M_numbers_3 : decode prog_11_method_12_code 3 = .ok (.iload_n 1, 1) := by decide +kernel
theorem d_M_numbers_4 : decode prog_11_method_12_code 4 = .ok (.if_icmp .ge 128, 3) := by decide +kernel
theorem d_M_numbers_7 : decode prog_11_method_12_code 7 = .ok (.aload_n 0, 1) := by decide +kernel
theorem d_M_numbers_8 : decode prog_11_method_12_code 8 = .ok (.invokevirtual 115, 3) := by decide +kernel
theorem d_M_numbers_11 : decode prog_11_method_12_code 11 = .ok (.bipush 48, 2) := by decide +kernel
theorem d_M_numbers_13 : decode prog_11_method_12_code 13 = .ok (.bipush 57, 2) := by decide +kernel
theorem d_M_numbers_15 : decode prog_11_method_12_code 15 = .ok (.invokestatic 105, 3) := by decide +kernel
theorem d_M_numbers_18 : decode prog_11_method_12_code 18 = .ok (.ifCond .ne 5, 3) := by decide +kernel
theorem d_M_numbers_21 : decode prog_11_method_12_code 21 = .ok (.iconst 0, 1) := by decide +kernel
theorem d_M_numbers_22 : decode prog_11_method_12_code 22 = .ok (.ireturn, 1) := by decide +kernel
theorem d_M_numbers_23 : decode prog_11_method_12_code 23 = .ok (.aload_n 0, 1) := by decide +kernel
theorem d_M_numbers_24 : decode prog_11_method_12_code 24 = .ok (.getfield 28, 3) := by decide +kernel
theorem d_M_numbers_27 : decode prog_11_method_12_code 27 = .ok (.iload_n 2, 1) := by decide +kernel
theorem d_M_numbers_28 : decode prog_11_method_12_code 28 = .ok (.aload_n 0, 1) := by decide +kernel
theorem d_M_numbers_29 : decode prog_11_method_12_code 29 = .ok (.invokevirtual 115, 3) := by decide +kernel
theorem d_M_numbers_32 : decode prog_11_method_12_code 32 = .ok (.bipush 48, 2) := by decide +kernel
theorem d_M_numbers_34 : decode prog_11_method_12_code 34 = .ok (.isub, 1) := by decide +kernel
theorem d_M_numbers_35 : decode prog_11_method_12_code 35 = .ok (.iastore, 1) := by decide +kernel
theorem d_M_numbers_36 : decode prog_11_method_12_code 36 = .ok (.aload_n 0, 1) := by decide +kernel
theorem d_M_numbers_37 : decode prog_11_method_12_code 37 = .ok (.dup, 1) := by decide +kernel
theorem d_M_numbers_38 : decode prog_11_method_12_code 38 = .ok (.getfield 112, 3) := by decide +kernel
theorem d_M_numbers_41 : decode prog_11_method_12_code 41 = .ok (.iconst 1, 1) := by decide +kernel
theorem d_M_numbers_42 : decode prog_11_method_12_code 42 = .ok (.iadd, 1) := by decide +kernel
theorem d_M_numbers_43 : decode prog_11_method_12_code 43 = .ok (.putfield 112, 3) := by decide +kernel
theorem d_M_numbers_46 : decode prog_11_method_12_code 46 = .ok (.aload_n 0, 1) := by decide +kernel
theorem d_M_numbers_47 : decode prog_11_method_12_code 47 = .ok (.invokevirtual 115, 3) := by decide +kernel
theorem d_M_numbers_50 : decode prog_11_method_12_code 50 = .ok (.bipush 48, 2) := by decide +kernel
theorem d_M_numbers_52 : decode prog_11_method_12_code 52 = .ok (.bipush 57, 2) := by decide +kernel
theorem d_M_numbers_54 : decode prog_11_method_12_code 54 = .ok (.invokestatic 105, 3) := by decide +kernel
theorem d_M_numbers_57 : decode prog_11_method_12_code 57 = .ok (.ifCond .eq 36, 3) := by decide +kernel
theorem d_M_numbers_60 : decode prog_11_method_12_code 60 = .ok (.aload_n 0, 1) := by decide +kernel
theorem d_M_numbers_61 : decode prog_11_method_12_code 61 = .ok (.getfield 28, 3) := by decide +kernel
theorem d_M_numbers_64 : decode prog_11_method_12_code 64 = .ok (.iload_n 2, 1) := by decide +kernel
theorem d_M_numbers_65 : decode prog_11_method_12_code 65 = .ok (.bipush 10, 2) := by decide +kernel
theorem d_M_numbers_67 : decode prog_11_method_12_code 67 = .ok (.aload_n 0, 1) := by decide +kernel
theorem d_M_numbers_68 : decode prog_11_method_12_code 68 = .ok (.getfield 28, 3) := by decide +kernel
theorem d_M_numbers_71 : decode prog_11_method_12_code 71 = .ok (.iload_n 2, 1) := by decide +kernel
theorem d_M_numbers_72 : decode prog_11_method_12_code 72 = .ok (.iaload, 1) := by decide +kernel
theorem d_M_numbers_73 : decode prog_11_method_12_code 73 = .ok (.imul, 1) := by decide +kernel
theorem d_M_numbers_74 : decode prog_11_method_12_code 74 = .ok (.aload_n 0, 1) := by decide +kernel
theorem d_M_numbers_75 : decode prog_11_method_12_code 75 = .ok (.invokevirtual 115, 3) := by decide +kernel
theorem d_M_numbers_78 : decode prog_11_method_12_code 78 = .ok (.iadd, 1) := by decide +kernel
theorem d_M_numbers_79 : decode prog_11_method_12_code 79 = .ok (.bipush 48, 2) := by decide +kernel
theorem d_M_numbers_81 : decode prog_11_method_12_code 81 = .ok (.isub, 1) := by decide +kernel
theorem d_M_numbers_82 : decode prog_11_method_12_code 82 = .ok (.iastore, 1) := by decide +kernel
theorem d_M_numbers_83 : decode prog_11_method_12_code 83 = .ok (.aload_n 0, 1) := by decide +kernel
theorem d_M_numbers_84 : decode prog_11_method_12_code 84 = .ok (.dup, 1) := by decide +kernel
theorem d_M_numbers_85 : decode prog_11_method_12_code 85 = .ok (.getfield 112, 3) := by decide +kernel
theorem d_M_numbers_88 : decode prog_11_method_12_code 88 = .ok (.iconst 1, 1) := by decide +kernel
theorem d_M_numbers_89 : decode prog_11_method_12_code 89 = .ok (.iadd, 1) := by decide +kernel
theorem d_M_numbers_90 : decode prog_11_method_12_code 90 = .ok (.putfield 112, 3) := by decide +kernel
theorem d_M_numbers_93 : decode prog_11_method_12_code 93 = .ok (.aload_n 0, 1) := by decide +kernel
theorem d_M_numbers_94 : decode prog_11_method_12_code 94 = .ok (.invokevirtual 115, 3) := by decide +kernel
theorem d_M_numbers_97 : decode prog_11_method_12_code 97 = .ok (.iload_n 2, 1) := by decide +kernel
theorem d_M_numbers_98 : decode prog_11_method_12_code 98 = .ok (.iload_n 1, 1) := by decide +kernel
theorem d_M_numbers_99 : decode prog_11_method_12_code 99 = .ok (.iconst 1, 1) := by decide +kernel
theorem d_M_numbers_100 : decode prog_11_method_12_code 100 = .ok (.isub, 1) := by decide +kernel
theorem d_M_numbers_101 : decode prog_11_method_12_code 101 = .ok (.if_icmp .ne 8, 3) := by decide +kernel
theorem d_M_numbers_104 : decode prog_11_method_12_code 104 = .ok (.bipush 59, 2) := by decide +kernel
theorem d_M_numbers_106 : decode prog_11_method_12_code 106 = .ok (.goto 5, 3) := by decide +kernel
theorem d_M_numbers_109 : decode prog_11_method_12_code 109 = .ok (.bipush 44, 2) := by decide +kernel
theorem d_M_numbers_111 : decode prog_11_method_12_code 111 = .ok (.if_icmp .eq 5, 3) := by decide +kernel
theorem d_M_numbers_114 : decode prog_11_method_12_code 114 = .ok (.iconst 0, 1) := by decide +kernel
theorem d_M_numbers_115 : decode prog_11_method_12_code 115 = .ok (.ireturn, 1) := by decide +kernel
theorem d_M_numbers_116 : decode prog_11_method_12_code 116 = .ok (.aload_n 0, 1) := by decide +kernel
theorem d_M_numbers_117 : decode prog_11_method_12_code 117 = .ok (.dup, 1) := by decide +kernel
theorem d_M_numbers_118 : decode prog_11_method_12_code 118 = .ok (.getfield 112, 3) := by decide +kernel
theorem d_M_numbers_121 : decode prog_11_method_12_code 121 = .ok (.iconst 1, 1) := by decide +kernel
theorem d_M_numbers_122 : decode prog_11_method_12_code 122 = .ok (.iadd, 1) := by decide +kernel
theorem d_M_numbers_123 : decode prog_11_method_12_code 123 = .ok (.putfield 112, 3) := by decide +kernel
theorem d_M_numbers_126 : decode prog_11_method_12_code 126 = .ok (.iinc 2 1, 3) := by decide +kernel
theorem d_M_numbers_129 : decode prog_11_method_12_code 129 = .ok (.goto (-127), 3) := by decide +kernel
theorem d_M_numbers_132 : decode prog_11_method_12_code 132 = .ok (.iconst 1, 1) := by decide +kernel
theorem d_M_numbers_133 : decode prog_11_method_12_code 133 = .ok (.ireturn, 1) := by decide +kernel
set_option maxHeartbeats 4000000 in
set_option maxRecDepth 20000 in
theorem c_M_numbers (p1 : Int) (hp1 : Rng p1) (s0 : MS) (Q : Int → MS → Prop) (h : wp_M_numbers p1 s0 Q) : MT dscM ⟨"BellSchoolModel", "numbers", "(I)Z"⟩ prog_11_method_12_code 3 (some .boolean) 1 (fun ad => [.ref (ad 0), .int (iI p1)]) s0 (po_I dscM (fun r z => (r = 0 ∨ r = 1) ∧ Q r z)) := by
  refine met_of (by decide) (fun _ => Nat.le_of_ble_eq_true rfl) (fun X E hR => ?_)
  replace E : EV dscM X prog_11_method_12_code "BellSchoolModel" 3 1 := E
  show VV dscM X 0 [(0, .ref (adX X 0)), (1, .int (iI p1))] [] s0
  unfold wp_M_numbers at h
  refine v_iconst E d_M_numbers_0 ?_
  refine v_istoren E d_M_numbers_1 rfl (by decide) (L' := [(2, .int (iI 0)), (0, .ref (adX X 0)), (1, .int (iI p1))]) rfl ?_
  refine v_sub [1, 2, 0] (L' := [(0, .ref (adX X 0)), (1, .int (iI p1)), (2, .int (iI 0))]) rfl ?_
  obtain ⟨I1, μ1, h01, h⟩ := h
  refine v_loop1 (fun (x1 : Int) => [(0, .ref (adX X 0)), (1, .int (iI p1)), (2, .int (iI x1))]) I1 μ1 (fun x1 s1 hI1 ih1 => ?_) 0 s0 h01
  replace h := h x1 s1 hI1
  refine v_iloadn E d_M_numbers_2 rfl 2 rfl ?_
  refine v_iloadn E d_M_numbers_3 rfl 1 rfl ?_
  obtain ⟨q1, h⟩ := h
  refine v_icmp_ge E 132 d_M_numbers_4 (by decide) q1 hp1 (fun c1 => ?_) (fun c1 => ?_)
  · replace h := h.1 c1
    refine v_iconst E d_M_numbers_132 ?_
    exact v_iret E hR (nar_Z (by decide)) (Rng_Z (by decide)) ⟨(by decide), h⟩ d_M_numbers_133
  · replace h := h.2 c1
    refine v_aloadn E d_M_numbers_7 rfl 0 rfl ?_
    refine v_callVIp E md_M_here (c_M_here s1 _ h) dM_0 rfl ⟨by decide, by decide⟩ mw509 d_M_numbers_8 (fun _ => rfl) (st := []) rfl (Nat.le_of_ble_eq_true rfl) (fun r1 hr1 h => ?_)
    refine v_bipush E d_M_numbers_11 rfl ?_
    refine v_bipush E d_M_numbers_13 rfl ?_
    refine v_callSIpz E md_M_in (c_M_in dscM r1 hr1 48 (by decide) 57 (by decide) s1 _ h) ⟨by decide, by decide⟩ mw496 d_M_numbers_15 (fun _ => rfl) (st := []) rfl (Nat.le_of_ble_eq_true rfl) (fun r2 hr2 hz2 h => ?_)
    refine v_if_ne E 23 d_M_numbers_18 (by decide) hr2 (fun c2 => ?_) (fun c2 => ?_)
    · replace h := h.1 c2
      refine v_aloadn E d_M_numbers_23 rfl 0 rfl ?_
      refine v_getA E cf9 dM_0 11 (by decide) rfl mw510 d_M_numbers_24 rfl ?_
      refine v_iloadn E d_M_numbers_27 rfl 2 rfl ?_
      refine v_aloadn E d_M_numbers_28 rfl 0 rfl ?_
      refine v_callVIp E md_M_here (c_M_here s1 _ h) dM_0 rfl ⟨by decide, by decide⟩ mw509 d_M_numbers_29 (fun _ => rfl) (st := [.int (iI x1), .ref (adX X 7)]) rfl (Nat.le_of_ble_eq_true rfl) (fun r3 hr3 h => ?_)
      refine v_bipush E d_M_numbers_32 rfl ?_
      refine v_isub E d_M_numbers_34 ?_
      obtain ⟨q2, h⟩ := h
      obtain ⟨q3, h⟩ := h
      refine v_iast E dM_7 (by decide) q2.1 q2.2 q3 d_M_numbers_35 ?_
      refine v_nameS (fun s2 hs2 => ?_)
      replace h := h s2 hs2
      refine v_aloadn E d_M_numbers_36 rfl 0 rfl ?_
      refine v_dup E d_M_numbers_37 rfl ?_
      refine v_getI E cf9 dM_0 2 (by decide) rfl mw505 d_M_numbers_38 rfl ?_
      refine v_iconst E d_M_numbers_41 ?_
      refine v_iadd E d_M_numbers_42 ?_
      obtain ⟨q4, h⟩ := h
      refine v_putI E cf9 dM_0 2 (by decide) rfl rfl mw505 d_M_numbers_43 rfl rfl rfl q4 ?_
      refine v_nameS (fun s3 hs3 => ?_)
      replace h := h s3 hs3
      refine v_aloadn E d_M_numbers_46 rfl 0 rfl ?_
      refine v_callVIp E md_M_here (c_M_here s3 _ h) dM_0 rfl ⟨by decide, by decide⟩ mw509 d_M_numbers_47 (fun _ => rfl) (st := []) rfl (Nat.le_of_ble_eq_true rfl) (fun r4 hr4 h => ?_)
      refine v_bipush E d_M_numbers_50 rfl ?_
      refine v_bipush E d_M_numbers_52 rfl ?_
      refine v_callSIpz E md_M_in (c_M_in dscM r4 hr4 48 (by decide) 57 (by decide) s3 _ h) ⟨by decide, by decide⟩ mw496 d_M_numbers_54 (fun _ => rfl) (st := []) rfl (Nat.le_of_ble_eq_true rfl) (fun r5 hr5 hz5 h => ?_)
      refine v_if_eq E 93 d_M_numbers_57 (by decide) hr5 (fun c3 => ?_) (fun c3 => ?_)
      · replace h := h.1 c3
        refine v_aloadn E d_M_numbers_93 rfl 0 rfl ?_
        refine v_callVIp E md_M_here (c_M_here s3 _ h) dM_0 rfl ⟨by decide, by decide⟩ mw509 d_M_numbers_94 (fun _ => rfl) (st := []) rfl (Nat.le_of_ble_eq_true rfl) (fun r6 hr6 h => ?_)
        refine v_iloadn E d_M_numbers_97 rfl 2 rfl ?_
        refine v_iloadn E d_M_numbers_98 rfl 1 rfl ?_
        refine v_iconst E d_M_numbers_99 ?_
        refine v_isub E d_M_numbers_100 ?_
        obtain ⟨q5, h⟩ := h
        refine v_icmp_ne E 109 d_M_numbers_101 (by decide) q1 q5 (fun c4 => ?_) (fun c4 => ?_)
        · replace h := h.1 c4
          refine v_bipush E d_M_numbers_109 rfl ?_
          refine v_icmp_eq E 116 d_M_numbers_111 (by decide) hr6 (by decide) (fun c5 => ?_) (fun c5 => ?_)
          · replace h := h.1 c5
            refine v_aloadn E d_M_numbers_116 rfl 0 rfl ?_
            refine v_dup E d_M_numbers_117 rfl ?_
            refine v_getI E cf9 dM_0 2 (by decide) rfl mw505 d_M_numbers_118 rfl ?_
            refine v_iconst E d_M_numbers_121 ?_
            refine v_iadd E d_M_numbers_122 ?_
            obtain ⟨q6, h⟩ := h
            refine v_putI E cf9 dM_0 2 (by decide) rfl rfl mw505 d_M_numbers_123 rfl rfl rfl q6 ?_
            refine v_nameS (fun s4 hs4 => ?_)
            replace h := h s4 hs4
            refine v_iincN E d_M_numbers_126 2 rfl (by decide) (fun y => [(2, .int (iI y)), (0, .ref (adX X 0)), (1, .int (iI p1))]) (fun _ => rfl) (fun x2 hx2 => ?_)
            replace h := h x2 hx2
            refine v_goto E 2 d_M_numbers_129 (by decide) ?_
            obtain ⟨hb, hm⟩ := h
            exact v_sub [1, 2, 0] rfl (ih1 x2 s4 hb hm)
          · replace h := h.2 c5
            refine v_iconst E d_M_numbers_114 ?_
            exact v_iret E hR (nar_Z (by decide)) (Rng_Z (by decide)) ⟨(by decide), h⟩ d_M_numbers_115
        · replace h := h.2 c4
          refine v_bipush E d_M_numbers_104 rfl ?_
          refine v_goto E 111 d_M_numbers_106 (by decide) ?_
          refine v_icmp_eq E 116 d_M_numbers_111 (by decide) hr6 (by decide) (fun c6 => ?_) (fun c6 => ?_)
          · replace h := h.1 c6
            refine v_aloadn E d_M_numbers_116 rfl 0 rfl ?_
            refine v_dup E d_M_numbers_117 rfl ?_
            refine v_getI E cf9 dM_0 2 (by decide) rfl mw505 d_M_numbers_118 rfl ?_
            refine v_iconst E d_M_numbers_121 ?_
            refine v_iadd E d_M_numbers_122 ?_
            obtain ⟨q7, h⟩ := h
            refine v_putI E cf9 dM_0 2 (by decide) rfl rfl mw505 d_M_numbers_123 rfl rfl rfl q7 ?_
            refine v_nameS (fun s5 hs5 => ?_)
            replace h := h s5 hs5
            refine v_iincN E d_M_numbers_126 2 rfl (by decide) (fun y => [(2, .int (iI y)), (0, .ref (adX X 0)), (1, .int (iI p1))]) (fun _ => rfl) (fun x3 hx3 => ?_)
            replace h := h x3 hx3
            refine v_goto E 2 d_M_numbers_129 (by decide) ?_
            obtain ⟨hb, hm⟩ := h
            exact v_sub [1, 2, 0] rfl (ih1 x3 s5 hb hm)
          · replace h := h.2 c6
            refine v_iconst E d_M_numbers_114 ?_
            exact v_iret E hR (nar_Z (by decide)) (Rng_Z (by decide)) ⟨(by decide), h⟩ d_M_numbers_115
      · replace h := h.2 c3
        refine v_aloadn E d_M_numbers_60 rfl 0 rfl ?_
        refine v_getA E cf9 dM_0 11 (by decide) rfl mw510 d_M_numbers_61 rfl ?_
        refine v_iloadn E d_M_numbers_64 rfl 2 rfl ?_
        refine v_bipush E d_M_numbers_65 rfl ?_
        refine v_aloadn E d_M_numbers_67 rfl 0 rfl ?_
        refine v_getA E cf9 dM_0 11 (by decide) rfl mw510 d_M_numbers_68 rfl ?_
        refine v_iloadn E d_M_numbers_71 rfl 2 rfl ?_
        refine v_iald E dM_7 (by decide) q2.1 q2.2 d_M_numbers_72 ?_
        refine v_imul E d_M_numbers_73 ?_
        refine v_aloadn E d_M_numbers_74 rfl 0 rfl ?_
        refine v_callVIp E md_M_here (c_M_here s3 _ h) dM_0 rfl ⟨by decide, by decide⟩ mw509 d_M_numbers_75 (fun _ => rfl) (st := [.int (iI (10 * (gI s3 7 x1))), .int (iI x1), .ref (adX X 7)]) rfl (Nat.le_of_ble_eq_true rfl) (fun r7 hr7 h => ?_)
        refine v_iadd E d_M_numbers_78 ?_
        refine v_bipush E d_M_numbers_79 rfl ?_
        refine v_isub E d_M_numbers_81 ?_
        obtain ⟨q8, h⟩ := h
        refine v_iast E dM_7 (by decide) q2.1 q2.2 q8 d_M_numbers_82 ?_
        refine v_nameS (fun s6 hs6 => ?_)
        replace h := h s6 hs6
        refine v_aloadn E d_M_numbers_83 rfl 0 rfl ?_
        refine v_dup E d_M_numbers_84 rfl ?_
        refine v_getI E cf9 dM_0 2 (by decide) rfl mw505 d_M_numbers_85 rfl ?_
        refine v_iconst E d_M_numbers_88 ?_
        refine v_iadd E d_M_numbers_89 ?_
        obtain ⟨q9, h⟩ := h
        refine v_putI E cf9 dM_0 2 (by decide) rfl rfl mw505 d_M_numbers_90 rfl rfl rfl q9 ?_
        refine v_nameS (fun s7 hs7 => ?_)
        replace h := h s7 hs7
        refine v_aloadn E d_M_numbers_93 rfl 0 rfl ?_
        refine v_callVIp E md_M_here (c_M_here s7 _ h) dM_0 rfl ⟨by decide, by decide⟩ mw509 d_M_numbers_94 (fun _ => rfl) (st := []) rfl (Nat.le_of_ble_eq_true rfl) (fun r8 hr8 h => ?_)
        refine v_iloadn E d_M_numbers_97 rfl 2 rfl ?_
        refine v_iloadn E d_M_numbers_98 rfl 1 rfl ?_
        refine v_iconst E d_M_numbers_99 ?_
        refine v_isub E d_M_numbers_100 ?_
        obtain ⟨q10, h⟩ := h
        refine v_icmp_ne E 109 d_M_numbers_101 (by decide) q1 q10 (fun c7 => ?_) (fun c7 => ?_)
        · replace h := h.1 c7
          refine v_bipush E d_M_numbers_109 rfl ?_
          refine v_icmp_eq E 116 d_M_numbers_111 (by decide) hr8 (by decide) (fun c8 => ?_) (fun c8 => ?_)
          · replace h := h.1 c8
            refine v_aloadn E d_M_numbers_116 rfl 0 rfl ?_
            refine v_dup E d_M_numbers_117 rfl ?_
            refine v_getI E cf9 dM_0 2 (by decide) rfl mw505 d_M_numbers_118 rfl ?_
            refine v_iconst E d_M_numbers_121 ?_
            refine v_iadd E d_M_numbers_122 ?_
            obtain ⟨q11, h⟩ := h
            refine v_putI E cf9 dM_0 2 (by decide) rfl rfl mw505 d_M_numbers_123 rfl rfl rfl q11 ?_
            refine v_nameS (fun s8 hs8 => ?_)
            replace h := h s8 hs8
            refine v_iincN E d_M_numbers_126 2 rfl (by decide) (fun y => [(2, .int (iI y)), (0, .ref (adX X 0)), (1, .int (iI p1))]) (fun _ => rfl) (fun x4 hx4 => ?_)
            replace h := h x4 hx4
            refine v_goto E 2 d_M_numbers_129 (by decide) ?_
            obtain ⟨hb, hm⟩ := h
            exact v_sub [1, 2, 0] rfl (ih1 x4 s8 hb hm)
          · replace h := h.2 c8
            refine v_iconst E d_M_numbers_114 ?_
            exact v_iret E hR (nar_Z (by decide)) (Rng_Z (by decide)) ⟨(by decide), h⟩ d_M_numbers_115
        · replace h := h.2 c7
          refine v_bipush E d_M_numbers_104 rfl ?_
          refine v_goto E 111 d_M_numbers_106 (by decide) ?_
          refine v_icmp_eq E 116 d_M_numbers_111 (by decide) hr8 (by decide) (fun c9 => ?_) (fun c9 => ?_)
          · replace h := h.1 c9
            refine v_aloadn E d_M_numbers_116 rfl 0 rfl ?_
            refine v_dup E d_M_numbers_117 rfl ?_
            refine v_getI E cf9 dM_0 2 (by decide) rfl mw505 d_M_numbers_118 rfl ?_
            refine v_iconst E d_M_numbers_121 ?_
            refine v_iadd E d_M_numbers_122 ?_
            obtain ⟨q12, h⟩ := h
            refine v_putI E cf9 dM_0 2 (by decide) rfl rfl mw505 d_M_numbers_123 rfl rfl rfl q12 ?_
            refine v_nameS (fun s9 hs9 => ?_)
            replace h := h s9 hs9
            refine v_iincN E d_M_numbers_126 2 rfl (by decide) (fun y => [(2, .int (iI y)), (0, .ref (adX X 0)), (1, .int (iI p1))]) (fun _ => rfl) (fun x5 hx5 => ?_)
            replace h := h x5 hx5
            refine v_goto E 2 d_M_numbers_129 (by decide) ?_
            obtain ⟨hb, hm⟩ := h
            exact v_sub [1, 2, 0] rfl (ih1 x5 s9 hb hm)
          · replace h := h.2 c9
            refine v_iconst E d_M_numbers_114 ?_
            exact v_iret E hR (nar_Z (by decide)) (Rng_Z (by decide)) ⟨(by decide), h⟩ d_M_numbers_115
    · replace h := h.2 c2
      refine v_iconst E d_M_numbers_21 ?_
      exact v_iret E hR (nar_Z (by decide)) (Rng_Z (by decide)) ⟨(by decide), h⟩ d_M_numbers_22
theorem d_M_isTwo_0 : decode prog_11_method_13_code 0 = .ok (.aload_n 0, 1) := by decide +kernel
theorem d_M_isTwo_1 : decode prog_11_method_13_code 1 = .ok (.getfield 28, 3) := by decide +kernel
theorem d_M_isTwo_4 : decode prog_11_method_13_code 4 = .ok (.iconst 0, 1) := by decide +kernel
theorem d_M_isTwo_5 : decode prog_11_method_13_code 5 = .ok (.iaload, 1) := by decide +kernel
theorem d_M_isTwo_6 : decode prog_11_method_13_code 6 = .ok (.aload_n 0, 1) := by decide +kernel
theorem d_M_isTwo_7 : decode prog_11_method_13_code 7 = .ok (.getfield 99, 3) := by decide +kernel
theorem d_M_isTwo_10 : decode prog_11_method_13_code 10 = .ok (.if_icmp .ge 35, 3) := by decide +kernel
theorem d_M_isTwo_13 : decode prog_11_method_13_code 13 = .ok (.aload_n 0, 1) := by decide +kernel
theorem d_M_isTwo_14 : decode prog_11_method_13_code 14 = .ok (.getfield 28, 3) := by decide +kernel
theorem d_M_isTwo_17 : decode prog_11_method_13_code 17 = .ok (.iconst 1, 1) := by decide +kernel
theorem d_M_isTwo_18 : decode prog_11_method_13_code 18 = .ok (.iaload, 1) := by decide +kernel
theorem d_M_isTwo_19 : decode prog_11_method_13_code 19 = .ok (.aload_n 0, 1) := by decide +kernel
theorem d_M_isTwo_20 : decode prog_11_method_13_code 20 = .ok (.getfield 99, 3) := by decide +kernel
theorem d_M_isTwo_23 : decode prog_11_method_13_code 23 = .ok (.if_icmp .ge 22, 3) := by decide +kernel
theorem d_M_isTwo_26 : decode prog_11_method_13_code 26 = .ok (.aload_n 0, 1) := by decide +kernel
theorem d_M_isTwo_27 : decode prog_11_method_13_code 27 = .ok (.getfield 28, 3) := by decide +kernel
theorem d_M_isTwo_30 : decode prog_11_method_13_code 30 = .ok (.iconst 0, 1) := by decide +kernel
theorem d_M_isTwo_31 : decode prog_11_method_13_code 31 = .ok (.iaload, 1) := by decide +kernel
theorem d_M_isTwo_32 : decode prog_11_method_13_code 32 = .ok (.aload_n 0, 1) := by decide +kernel
theorem d_M_isTwo_33 : decode prog_11_method_13_code 33 = .ok (.getfield 28, 3) := by decide +kernel
theorem d_M_isTwo_36 : decode prog_11_method_13_code 36 = .ok (.iconst 1, 1) := by decide +kernel
theorem d_M_isTwo_37 : decode prog_11_method_13_code 37 = .ok (.iaload, 1) := by decide +kernel
theorem d_M_isTwo_38 : decode prog_11_method_13_code 38 = .ok (.if_icmp .eq 7, 3) := by decide +kernel
theorem d_M_isTwo_41 : decode prog_11_method_13_code 41 = .ok (.iconst 1, 1) := by decide +kernel
theorem d_M_isTwo_42 : decode prog_11_method_13_code 42 = .ok (.goto 4, 3) := by decide +kernel
theorem d_M_isTwo_45 : decode prog_11_method_13_code 45 = .ok (.iconst 0, 1) := by decide +kernel
theorem d_M_isTwo_46 : decode prog_11_method_13_code 46 = .ok (.ireturn, 1) := by decide +kernel
set_option maxHeartbeats 4000000 in
set_option maxRecDepth 20000 in
theorem c_M_isTwo (s0 : MS) (Q : Int → Prop) (h : wp_M_isTwo s0 Q) : MT dscM ⟨"BellSchoolModel", "isTwo", "()Z"⟩ prog_11_method_13_code 1 (some .boolean) 0 (fun ad => [.ref (ad 0)]) s0 (po_I dscM (fun r z => (r = 0 ∨ r = 1) ∧ z = s0 ∧ Q r)) := by
  refine met_of (by decide) (fun _ => Nat.le_of_ble_eq_true rfl) (fun X E hR => ?_)
  replace E : EV dscM X prog_11_method_13_code "BellSchoolModel" 1 0 := E
  show VV dscM X 0 [(0, .ref (adX X 0))] [] s0
  unfold wp_M_isTwo at h
  refine v_aloadn E d_M_isTwo_0 rfl 0 rfl ?_
  refine v_getA E cf9 dM_0 11 (by decide) rfl mw510 d_M_isTwo_1 rfl ?_
  refine v_iconst E d_M_isTwo_4 ?_
  refine v_iald E dM_7 (by decide) (by decide) (by decide) d_M_isTwo_5 ?_
  refine v_aloadn E d_M_isTwo_6 rfl 0 rfl ?_
  refine v_getI E cf9 dM_0 3 (by decide) rfl mw476 d_M_isTwo_7 rfl ?_
  refine v_wt (fun wt1 => ?_)
  refine v_icmp_ge E 45 d_M_isTwo_10 (by decide) (wt1 7 0) (wt1 0 3) (fun c1 => ?_) (fun c1 => ?_)
  · replace h := h.1 c1
    refine v_iconst E d_M_isTwo_45 ?_
    exact v_iret E hR (nar_Z (by decide)) (Rng_Z (by decide)) ⟨(by decide), rfl, h⟩ d_M_isTwo_46
  · replace h := h.2 c1
    refine v_aloadn E d_M_isTwo_13 rfl 0 rfl ?_
    refine v_getA E cf9 dM_0 11 (by decide) rfl mw510 d_M_isTwo_14 rfl ?_
    refine v_iconst E d_M_isTwo_17 ?_
    refine v_iald E dM_7 (by decide) (by decide) (by decide) d_M_isTwo_18 ?_
    refine v_aloadn E d_M_isTwo_19 rfl 0 rfl ?_
    refine v_getI E cf9 dM_0 3 (by decide) rfl mw476 d_M_isTwo_20 rfl ?_
    refine v_icmp_ge E 45 d_M_isTwo_23 (by decide) (wt1 7 1) (wt1 0 3) (fun c2 => ?_) (fun c2 => ?_)
    · replace h := h.1 c2
      refine v_iconst E d_M_isTwo_45 ?_
      exact v_iret E hR (nar_Z (by decide)) (Rng_Z (by decide)) ⟨(by decide), rfl, h⟩ d_M_isTwo_46
    · replace h := h.2 c2
      refine v_aloadn E d_M_isTwo_26 rfl 0 rfl ?_
      refine v_getA E cf9 dM_0 11 (by decide) rfl mw510 d_M_isTwo_27 rfl ?_
      refine v_iconst E d_M_isTwo_30 ?_
      refine v_iald E dM_7 (by decide) (by decide) (by decide) d_M_isTwo_31 ?_
      refine v_aloadn E d_M_isTwo_32 rfl 0 rfl ?_
      refine v_getA E cf9 dM_0 11 (by decide) rfl mw510 d_M_isTwo_33 rfl ?_
      refine v_iconst E d_M_isTwo_36 ?_
      refine v_iald E dM_7 (by decide) (by decide) (by decide) d_M_isTwo_37 ?_
      refine v_icmp_eq E 45 d_M_isTwo_38 (by decide) (wt1 7 0) (wt1 7 1) (fun c3 => ?_) (fun c3 => ?_)
      · replace h := h.1 c3
        refine v_iconst E d_M_isTwo_45 ?_
        exact v_iret E hR (nar_Z (by decide)) (Rng_Z (by decide)) ⟨(by decide), rfl, h⟩ d_M_isTwo_46
      · replace h := h.2 c3
        refine v_iconst E d_M_isTwo_41 ?_
        refine v_goto E 46 d_M_isTwo_42 (by decide) ?_
        exact v_iret E hR (nar_Z (by decide)) (Rng_Z (by decide)) ⟨(by decide), rfl, h⟩ d_M_isTwo_46
theorem d_M_readsHome_0 : decode prog_11_method_14_code 0 = .ok (.aload_n 0, 1) := by decide +kernel
theorem d_M_readsHome_1 : decode prog_11_method_14_code 1 = .ok (.iconst 2, 1) := by decide +kernel
theorem d_M_readsHome_2 : decode prog_11_method_14_code 2 = .ok (.invokevirtual 119, 3) := by decide +kernel
theorem d_M_readsHome_5 : decode prog_11_method_14_code 5 = .ok (.ifCond .eq 33, 3) := by decide +kernel
theorem d_M_readsHome_8 : decode prog_11_method_14_code 8 = .ok (.aload_n 0, 1) := by decide +kernel
theorem d_M_readsHome_9 : decode prog_11_method_14_code 9 = .ok (.getfield 28, 3) := by decide +kernel
theorem d_M_readsHome_12 : decode prog_11_method_14_code 12 = .ok (.iconst 0, 1) := by decide +kernel
theorem d_M_readsHome_13 : decode prog_11_method_14_code 13 = .ok (.iaload, 1) := by decide +kernel
theorem d_M_readsHome_14 : decode prog_11_method_14_code 14 = .ok (.iconst 3, 1) := by decide +kernel
theorem d_M_readsHome_15 : decode prog_11_method_14_code 15 = .ok (.if_icmp .gt 23, 3) := by decide +kernel
theorem d_M_readsHome_18 : decode prog_11_method_14_code 18 = .ok (.aload_n 0, 1) := by decide +kernel
theorem d_M_readsHome_19 : decode prog_11_method_14_code 19 = .ok (.getfield 28, 3) := by decide +kernel
theorem d_M_readsHome_22 : decode prog_11_method_14_code 22 = .ok (.iconst 1, 1) := by decide +kernel
theorem d_M_readsHome_23 : decode prog_11_method_14_code 23 = .ok (.iaload, 1) := by decide +kernel
theorem d_M_readsHome_24 : decode prog_11_method_14_code 24 = .ok (.bipush 40, 2) := by decide +kernel
theorem d_M_readsHome_26 : decode prog_11_method_14_code 26 = .ok (.if_icmp .gt 12, 3) := by decide +kernel
theorem d_M_readsHome_29 : decode prog_11_method_14_code 29 = .ok (.aload_n 0, 1) := by decide +kernel
theorem d_M_readsHome_30 : decode prog_11_method_14_code 30 = .ok (.getfield 99, 3) := by decide +kernel
theorem d_M_readsHome_33 : decode prog_11_method_14_code 33 = .ok (.bipush 7, 2) := by decide +kernel
theorem d_M_readsHome_35 : decode prog_11_method_14_code 35 = .ok (.if_icmp .ne 5, 3) := by decide +kernel
theorem d_M_readsHome_38 : decode prog_11_method_14_code 38 = .ok (.iconst 0, 1) := by decide +kernel
theorem d_M_readsHome_39 : decode prog_11_method_14_code 39 = .ok (.ireturn, 1) := by decide +kernel
theorem d_M_readsHome_40 : decode prog_11_method_14_code 40 = .ok (.aload_n 0, 1) := by decide +kernel
theorem d_M_readsHome_41 : decode prog_11_method_14_code 41 = .ok (.aload_n 0, 1) := by decide +kernel
theorem d_M_readsHome_42 : decode prog_11_method_14_code 42 = .ok (.getfield 28, 3) := by decide +kernel
theorem d_M_readsHome_45 : decode prog_11_method_14_code 45 = .ok (.iconst 0, 1) := by decide +kernel
theorem d_M_readsHome_46 : decode prog_11_method_14_code 46 = .ok (.iaload, 1) := by decide +kernel
theorem d_M_readsHome_47 : decode prog_11_method_14_code 47 = .ok (.aload_n 0, 1) := by decide +kernel
theorem d_M_readsHome_48 : decode prog_11_method_14_code 48 = .ok (.getfield 28, 3) := by decide +kernel
theorem d_M_readsHome_51 : decode prog_11_method_14_code 51 = .ok (.iconst 1, 1) := by decide +kernel
theorem d_M_readsHome_52 : decode prog_11_method_14_code 52 = .ok (.iaload, 1) := by decide +kernel
theorem d_M_readsHome_53 : decode prog_11_method_14_code 53 = .ok (.invokevirtual 80, 3) := by decide +kernel
theorem d_M_readsHome_56 : decode prog_11_method_14_code 56 = .ok (.iconst 1, 1) := by decide +kernel
theorem d_M_readsHome_57 : decode prog_11_method_14_code 57 = .ok (.ireturn, 1) := by decide +kernel
set_option maxHeartbeats 4000000 in
set_option maxRecDepth 20000 in
theorem c_M_readsHome (s0 : MS) (Q : Int → MS → Prop) (h : wp_M_readsHome s0 Q) : MT dscM ⟨"BellSchoolModel", "readsHome", "()Z"⟩ prog_11_method_14_code 1 (some .boolean) 2 (fun ad => [.ref (ad 0)]) s0 (po_I dscM (fun r z => (r = 0 ∨ r = 1) ∧ Q r z)) := by
  refine met_of (by decide) (fun _ => Nat.le_of_ble_eq_true rfl) (fun X E hR => ?_)
  replace E : EV dscM X prog_11_method_14_code "BellSchoolModel" 1 2 := E
  show VV dscM X 0 [(0, .ref (adX X 0))] [] s0
  unfold wp_M_readsHome at h
  refine v_aloadn E d_M_readsHome_0 rfl 0 rfl ?_
  refine v_iconst E d_M_readsHome_1 ?_
  refine v_callVI E md_M_numbers (c_M_numbers 2 (by decide) s0 _ h) dM_0 rfl ⟨by decide, by decide⟩ mw517 d_M_readsHome_2 (fun _ => rfl) (st := []) rfl (Nat.le_of_ble_eq_true rfl) (fun r1 s1 hr1 h => ?_)
  obtain ⟨hz1, h⟩ := h
  refine v_if_eq E 38 d_M_readsHome_5 (by decide) hr1 (fun c1 => ?_) (fun c1 => ?_)
  · replace h := h.1 c1
    refine v_iconst E d_M_readsHome_38 ?_
    exact v_iret E hR (nar_Z (by decide)) (Rng_Z (by decide)) ⟨(by decide), h⟩ d_M_readsHome_39
  · replace h := h.2 c1
    refine v_aloadn E d_M_readsHome_8 rfl 0 rfl ?_
    refine v_getA E cf9 dM_0 11 (by decide) rfl mw510 d_M_readsHome_9 rfl ?_
    refine v_iconst E d_M_readsHome_12 ?_
    refine v_iald E dM_7 (by decide) (by decide) (by decide) d_M_readsHome_13 ?_
    refine v_iconst E d_M_readsHome_14 ?_
    refine v_wt (fun wt1 => ?_)
    refine v_icmp_gt E 38 d_M_readsHome_15 (by decide) (wt1 7 0) (by decide) (fun c2 => ?_) (fun c2 => ?_)
    · replace h := h.1 c2
      refine v_iconst E d_M_readsHome_38 ?_
      exact v_iret E hR (nar_Z (by decide)) (Rng_Z (by decide)) ⟨(by decide), h⟩ d_M_readsHome_39
    · replace h := h.2 c2
      refine v_aloadn E d_M_readsHome_18 rfl 0 rfl ?_
      refine v_getA E cf9 dM_0 11 (by decide) rfl mw510 d_M_readsHome_19 rfl ?_
      refine v_iconst E d_M_readsHome_22 ?_
      refine v_iald E dM_7 (by decide) (by decide) (by decide) d_M_readsHome_23 ?_
      refine v_bipush E d_M_readsHome_24 rfl ?_
      refine v_icmp_gt E 38 d_M_readsHome_26 (by decide) (wt1 7 1) (by decide) (fun c3 => ?_) (fun c3 => ?_)
      · replace h := h.1 c3
        refine v_iconst E d_M_readsHome_38 ?_
        exact v_iret E hR (nar_Z (by decide)) (Rng_Z (by decide)) ⟨(by decide), h⟩ d_M_readsHome_39
      · replace h := h.2 c3
        refine v_aloadn E d_M_readsHome_29 rfl 0 rfl ?_
        refine v_getI E cf9 dM_0 3 (by decide) rfl mw476 d_M_readsHome_30 rfl ?_
        refine v_bipush E d_M_readsHome_33 rfl ?_
        refine v_icmp_ne E 40 d_M_readsHome_35 (by decide) (wt1 0 3) (by decide) (fun c4 => ?_) (fun c4 => ?_)
        · replace h := h.1 c4
          refine v_aloadn E d_M_readsHome_40 rfl 0 rfl ?_
          refine v_aloadn E d_M_readsHome_41 rfl 0 rfl ?_
          refine v_getA E cf9 dM_0 11 (by decide) rfl mw510 d_M_readsHome_42 rfl ?_
          refine v_iconst E d_M_readsHome_45 ?_
          refine v_iald E dM_7 (by decide) (by decide) (by decide) d_M_readsHome_46 ?_
          refine v_aloadn E d_M_readsHome_47 rfl 0 rfl ?_
          refine v_getA E cf9 dM_0 11 (by decide) rfl mw510 d_M_readsHome_48 rfl ?_
          refine v_iconst E d_M_readsHome_51 ?_
          refine v_iald E dM_7 (by decide) (by decide) (by decide) d_M_readsHome_52 ?_
          refine v_callVV E md_M_comesHome (c_M_comesHome (gI s1 7 0) (wt1 7 0) (gI s1 7 1) (wt1 7 1) s1 _ h) dM_0 rfl ⟨by decide, by decide⟩ mw518 d_M_readsHome_53 (fun _ => rfl) (st := []) rfl (Nat.le_of_ble_eq_true rfl) (fun s2 h => ?_)
          refine v_iconst E d_M_readsHome_56 ?_
          exact v_iret E hR (nar_Z (by decide)) (Rng_Z (by decide)) ⟨(by decide), h⟩ d_M_readsHome_57
        · replace h := h.2 c4
          refine v_iconst E d_M_readsHome_38 ?_
          exact v_iret E hR (nar_Z (by decide)) (Rng_Z (by decide)) ⟨(by decide), h⟩ d_M_readsHome_39
theorem d_M_readsWay_0 : decode prog_11_method_15_code 0 = .ok (.aload_n 0, 1) := by decide +kernel
theorem d_M_readsWay_1 : decode prog_11_method_15_code 1 = .ok (.iconst 3, 1) := by decide +kernel
theorem d_M_readsWay_2 : decode prog_11_method_15_code 2 = .ok (.invokevirtual 119, 3) := by decide +kernel
theorem d_M_readsWay_5 : decode prog_11_method_15_code 5 = .ok (.ifCond .eq 25, 3) := by decide +kernel
theorem d_M_readsWay_8 : decode prog_11_method_15_code 8 = .ok (.aload_n 0, 1) := by decide +kernel
theorem d_M_readsWay_9 : decode prog_11_method_15_code 9 = .ok (.invokevirtual 123, 3) := by decide +kernel
theorem d_M_readsWay_12 : decode prog_11_method_15_code 12 = .ok (.ifCond .eq 18, 3) := by decide +kernel
theorem d_M_readsWay_15 : decode prog_11_method_15_code 15 = .ok (.aload_n 0, 1) := by decide +kernel
theorem d_M_readsWay_16 : decode prog_11_method_15_code 16 = .ok (.getfield 28, 3) := by decide +kernel
theorem d_M_readsWay_19 : decode prog_11_method_15_code 19 = .ok (.iconst 2, 1) := by decide +kernel
theorem d_M_readsWay_20 : decode prog_11_method_15_code 20 = .ok (.iaload, 1) := by decide +kernel
theorem d_M_readsWay_21 : decode prog_11_method_15_code 21 = .ok (.iconst 1, 1) := by decide +kernel
theorem d_M_readsWay_22 : decode prog_11_method_15_code 22 = .ok (.bipush 60, 2) := by decide +kernel
theorem d_M_readsWay_24 : decode prog_11_method_15_code 24 = .ok (.invokestatic 105, 3) := by decide +kernel
theorem d_M_readsWay_27 : decode prog_11_method_15_code 27 = .ok (.ifCond .ne 5, 3) := by decide +kernel
theorem d_M_readsWay_30 : decode prog_11_method_15_code 30 = .ok (.iconst 0, 1) := by decide +kernel
theorem d_M_readsWay_31 : decode prog_11_method_15_code 31 = .ok (.ireturn, 1) := by decide +kernel
theorem d_M_readsWay_32 : decode prog_11_method_15_code 32 = .ok (.aload_n 0, 1) := by decide +kernel
theorem d_M_readsWay_33 : decode prog_11_method_15_code 33 = .ok (.aload_n 0, 1) := by decide +kernel
theorem d_M_readsWay_34 : decode prog_11_method_15_code 34 = .ok (.getfield 28, 3) := by decide +kernel
theorem d_M_readsWay_37 : decode prog_11_method_15_code 37 = .ok (.iconst 0, 1) := by decide +kernel
theorem d_M_readsWay_38 : decode prog_11_method_15_code 38 = .ok (.iaload, 1) := by decide +kernel
theorem d_M_readsWay_39 : decode prog_11_method_15_code 39 = .ok (.aload_n 0, 1) := by decide +kernel
theorem d_M_readsWay_40 : decode prog_11_method_15_code 40 = .ok (.getfield 28, 3) := by decide +kernel
theorem d_M_readsWay_43 : decode prog_11_method_15_code 43 = .ok (.iconst 1, 1) := by decide +kernel
theorem d_M_readsWay_44 : decode prog_11_method_15_code 44 = .ok (.iaload, 1) := by decide +kernel
theorem d_M_readsWay_45 : decode prog_11_method_15_code 45 = .ok (.aload_n 0, 1) := by decide +kernel
theorem d_M_readsWay_46 : decode prog_11_method_15_code 46 = .ok (.getfield 28, 3) := by decide +kernel
theorem d_M_readsWay_49 : decode prog_11_method_15_code 49 = .ok (.iconst 2, 1) := by decide +kernel
theorem d_M_readsWay_50 : decode prog_11_method_15_code 50 = .ok (.iaload, 1) := by decide +kernel
theorem d_M_readsWay_51 : decode prog_11_method_15_code 51 = .ok (.invokevirtual 84, 3) := by decide +kernel
theorem d_M_readsWay_54 : decode prog_11_method_15_code 54 = .ok (.iconst 1, 1) := by decide +kernel
theorem d_M_readsWay_55 : decode prog_11_method_15_code 55 = .ok (.ireturn, 1) := by decide +kernel
set_option maxHeartbeats 4000000 in
set_option maxRecDepth 20000 in
theorem c_M_readsWay (s0 : MS) (Q : Int → MS → Prop) (h : wp_M_readsWay s0 Q) : MT dscM ⟨"BellSchoolModel", "readsWay", "()Z"⟩ prog_11_method_15_code 1 (some .boolean) 2 (fun ad => [.ref (ad 0)]) s0 (po_I dscM (fun r z => (r = 0 ∨ r = 1) ∧ Q r z)) := by
  refine met_of (by decide) (fun _ => Nat.le_of_ble_eq_true rfl) (fun X E hR => ?_)
  replace E : EV dscM X prog_11_method_15_code "BellSchoolModel" 1 2 := E
  show VV dscM X 0 [(0, .ref (adX X 0))] [] s0
  unfold wp_M_readsWay at h
  refine v_aloadn E d_M_readsWay_0 rfl 0 rfl ?_
  refine v_iconst E d_M_readsWay_1 ?_
  refine v_callVI E md_M_numbers (c_M_numbers 3 (by decide) s0 _ h) dM_0 rfl ⟨by decide, by decide⟩ mw517 d_M_readsWay_2 (fun _ => rfl) (st := []) rfl (Nat.le_of_ble_eq_true rfl) (fun r1 s1 hr1 h => ?_)
  obtain ⟨hz1, h⟩ := h
  refine v_if_eq E 30 d_M_readsWay_5 (by decide) hr1 (fun c1 => ?_) (fun c1 => ?_)
  · replace h := h.1 c1
    refine v_iconst E d_M_readsWay_30 ?_
    exact v_iret E hR (nar_Z (by decide)) (Rng_Z (by decide)) ⟨(by decide), h⟩ d_M_readsWay_31
  · replace h := h.2 c1
    refine v_aloadn E d_M_readsWay_8 rfl 0 rfl ?_
    refine v_callVIpz E md_M_isTwo (c_M_isTwo s1 _ h) dM_0 rfl ⟨by decide, by decide⟩ mw522 d_M_readsWay_9 (fun _ => rfl) (st := []) rfl (Nat.le_of_ble_eq_true rfl) (fun r2 hr2 hz2 h => ?_)
    refine v_if_eq E 30 d_M_readsWay_12 (by decide) hr2 (fun c2 => ?_) (fun c2 => ?_)
    · replace h := h.1 c2
      refine v_iconst E d_M_readsWay_30 ?_
      exact v_iret E hR (nar_Z (by decide)) (Rng_Z (by decide)) ⟨(by decide), h⟩ d_M_readsWay_31
    · replace h := h.2 c2
      refine v_aloadn E d_M_readsWay_15 rfl 0 rfl ?_
      refine v_getA E cf9 dM_0 11 (by decide) rfl mw510 d_M_readsWay_16 rfl ?_
      refine v_iconst E d_M_readsWay_19 ?_
      refine v_iald E dM_7 (by decide) (by decide) (by decide) d_M_readsWay_20 ?_
      refine v_iconst E d_M_readsWay_21 ?_
      refine v_bipush E d_M_readsWay_22 rfl ?_
      refine v_wt (fun wt1 => ?_)
      refine v_callSIpz E md_M_in (c_M_in dscM (gI s1 7 2) (wt1 7 2) 1 (by decide) 60 (by decide) s1 _ h) ⟨by decide, by decide⟩ mw496 d_M_readsWay_24 (fun _ => rfl) (st := []) rfl (Nat.le_of_ble_eq_true rfl) (fun r3 hr3 hz3 h => ?_)
      refine v_if_ne E 32 d_M_readsWay_27 (by decide) hr3 (fun c3 => ?_) (fun c3 => ?_)
      · replace h := h.1 c3
        refine v_aloadn E d_M_readsWay_32 rfl 0 rfl ?_
        refine v_aloadn E d_M_readsWay_33 rfl 0 rfl ?_
        refine v_getA E cf9 dM_0 11 (by decide) rfl mw510 d_M_readsWay_34 rfl ?_
        refine v_iconst E d_M_readsWay_37 ?_
        refine v_iald E dM_7 (by decide) (by decide) (by decide) d_M_readsWay_38 ?_
        refine v_aloadn E d_M_readsWay_39 rfl 0 rfl ?_
        refine v_getA E cf9 dM_0 11 (by decide) rfl mw510 d_M_readsWay_40 rfl ?_
        refine v_iconst E d_M_readsWay_43 ?_
        refine v_iald E dM_7 (by decide) (by decide) (by decide) d_M_readsWay_44 ?_
        refine v_aloadn E d_M_readsWay_45 rfl 0 rfl ?_
        refine v_getA E cf9 dM_0 11 (by decide) rfl mw510 d_M_readsWay_46 rfl ?_
        refine v_iconst E d_M_readsWay_49 ?_
        refine v_iald E dM_7 (by decide) (by decide) (by decide) d_M_readsWay_50 ?_
        refine v_callVV E md_M_joins (c_M_joins (gI s1 7 0) (wt1 7 0) (gI s1 7 1) (wt1 7 1) (gI s1 7 2) (wt1 7 2) s1 _ h) dM_0 rfl ⟨by decide, by decide⟩ mw523 d_M_readsWay_51 (fun _ => rfl) (st := []) rfl (Nat.le_of_ble_eq_true rfl) (fun s2 h => ?_)
        refine v_iconst E d_M_readsWay_54 ?_
        exact v_iret E hR (nar_Z (by decide)) (Rng_Z (by decide)) ⟨(by decide), h⟩ d_M_readsWay_55
      · replace h := h.2 c3
        refine v_iconst E d_M_readsWay_30 ?_
        exact v_iret E hR (nar_Z (by decide)) (Rng_Z (by decide)) ⟨(by decide), h⟩ d_M_readsWay_31
theorem d_M_readsSnow_0 : decode prog_11_method_16_code 0 = .ok (.aload_n 0, 1) := by decide +kernel
theorem d_M_readsSnow_1 : decode prog_11_method_16_code 1 = .ok (.iconst 4, 1) := by decide +kernel
theorem d_M_readsSnow_2 : decode prog_11_method_16_code 2 = .ok (.invokevirtual 119, 3) := by decide +kernel
theorem d_M_readsSnow_5 : decode prog_11_method_16_code 5 = .ok (.ifCond .eq 36, 3) := by decide +kernel
theorem d_M_readsSnow_8 : decode prog_11_method_16_code 8 = .ok (.aload_n 0, 1) := by decide +kernel
theorem d_M_readsSnow_9 : decode prog_11_method_16_code 9 = .ok (.invokevirtual 123, 3) := by decide +kernel
theorem d_M_readsSnow_12 : decode prog_11_method_16_code 12 = .ok (.ifCond .eq 29, 3) := by decide +kernel
theorem d_M_readsSnow_15 : decode prog_11_method_16_code 15 = .ok (.aload_n 0, 1) := by decide +kernel
theorem d_M_readsSnow_16 : decode prog_11_method_16_code 16 = .ok (.getfield 28, 3) := by decide +kernel
theorem d_M_readsSnow_19 : decode prog_11_method_16_code 19 = .ok (.iconst 2, 1) := by decide +kernel
theorem d_M_readsSnow_20 : decode prog_11_method_16_code 20 = .ok (.iaload, 1) := by decide +kernel
theorem d_M_readsSnow_21 : decode prog_11_method_16_code 21 = .ok (.aload_n 0, 1) := by decide +kernel
theorem d_M_readsSnow_22 : decode prog_11_method_16_code 22 = .ok (.getfield 28, 3) := by decide +kernel
theorem d_M_readsSnow_25 : decode prog_11_method_16_code 25 = .ok (.iconst 3, 1) := by decide +kernel
theorem d_M_readsSnow_26 : decode prog_11_method_16_code 26 = .ok (.iaload, 1) := by decide +kernel
theorem d_M_readsSnow_27 : decode prog_11_method_16_code 27 = .ok (.if_icmp .gt 14, 3) := by decide +kernel
theorem d_M_readsSnow_30 : decode prog_11_method_16_code 30 = .ok (.aload_n 0, 1) := by decide +kernel
theorem d_M_readsSnow_31 : decode prog_11_method_16_code 31 = .ok (.getfield 28, 3) := by decide +kernel
theorem d_M_readsSnow_34 : decode prog_11_method_16_code 34 = .ok (.iconst 3, 1) := by decide +kernel
theorem d_M_readsSnow_35 : decode prog_11_method_16_code 35 = .ok (.iaload, 1) := by decide +kernel
theorem d_M_readsSnow_36 : decode prog_11_method_16_code 36 = .ok (.bipush 28, 2) := by decide +kernel
theorem d_M_readsSnow_38 : decode prog_11_method_16_code 38 = .ok (.if_icmp .lt 5, 3) := by decide +kernel
theorem d_M_readsSnow_41 : decode prog_11_method_16_code 41 = .ok (.iconst 0, 1) := by decide +kernel
theorem d_M_readsSnow_42 : decode prog_11_method_16_code 42 = .ok (.ireturn, 1) := by decide +kernel
theorem d_M_readsSnow_43 : decode prog_11_method_16_code 43 = .ok (.aload_n 0, 1) := by decide +kernel
theorem d_M_readsSnow_44 : decode prog_11_method_16_code 44 = .ok (.aload_n 0, 1) := by decide +kernel
theorem d_M_readsSnow_45 : decode prog_11_method_16_code 45 = .ok (.getfield 28, 3) := by decide +kernel
theorem d_M_readsSnow_48 : decode prog_11_method_16_code 48 = .ok (.iconst 0, 1) := by decide +kernel
theorem d_M_readsSnow_49 : decode prog_11_method_16_code 49 = .ok (.iaload, 1) := by decide +kernel
theorem d_M_readsSnow_50 : decode prog_11_method_16_code 50 = .ok (.aload_n 0, 1) := by decide +kernel
theorem d_M_readsSnow_51 : decode prog_11_method_16_code 51 = .ok (.getfield 28, 3) := by decide +kernel
theorem d_M_readsSnow_54 : decode prog_11_method_16_code 54 = .ok (.iconst 1, 1) := by decide +kernel
theorem d_M_readsSnow_55 : decode prog_11_method_16_code 55 = .ok (.iaload, 1) := by decide +kernel
theorem d_M_readsSnow_56 : decode prog_11_method_16_code 56 = .ok (.aload_n 0, 1) := by decide +kernel
theorem d_M_readsSnow_57 : decode prog_11_method_16_code 57 = .ok (.getfield 28, 3) := by decide +kernel
theorem d_M_readsSnow_60 : decode prog_11_method_16_code 60 = .ok (.iconst 2, 1) := by decide +kernel
theorem d_M_readsSnow_61 : decode prog_11_method_16_code 61 = .ok (.iaload, 1) := by decide +kernel
theorem d_M_readsSnow_62 : decode prog_11_method_16_code 62 = .ok (.aload_n 0, 1) := by decide +kernel
theorem d_M_readsSnow_63 : decode prog_11_method_16_code 63 = .ok (.getfield 28, 3) := by decide +kernel
theorem d_M_readsSnow_66 : decode prog_11_method_16_code 66 = .ok (.iconst 3, 1) := by decide +kernel
theorem d_M_readsSnow_67 : decode prog_11_method_16_code 67 = .ok (.iaload, 1) := by decide +kernel
theorem d_M_readsSnow_68 : decode prog_11_method_16_code 68 = .ok (.invokevirtual 88, 3) := by decide +kernel
theorem d_M_readsSnow_71 : decode prog_11_method_16_code 71 = .ok (.iconst 1, 1) := by decide +kernel
theorem d_M_readsSnow_72 : decode prog_11_method_16_code 72 = .ok (.ireturn, 1) := by decide +kernel
set_option maxHeartbeats 4000000 in
set_option maxRecDepth 20000 in
theorem c_M_readsSnow (s0 : MS) (Q : Int → MS → Prop) (h : wp_M_readsSnow s0 Q) : MT dscM ⟨"BellSchoolModel", "readsSnow", "()Z"⟩ prog_11_method_16_code 1 (some .boolean) 2 (fun ad => [.ref (ad 0)]) s0 (po_I dscM (fun r z => (r = 0 ∨ r = 1) ∧ Q r z)) := by
  refine met_of (by decide) (fun _ => Nat.le_of_ble_eq_true rfl) (fun X E hR => ?_)
  replace E : EV dscM X prog_11_method_16_code "BellSchoolModel" 1 2 := E
  show VV dscM X 0 [(0, .ref (adX X 0))] [] s0
  unfold wp_M_readsSnow at h
  refine v_aloadn E d_M_readsSnow_0 rfl 0 rfl ?_
  refine v_iconst E d_M_readsSnow_1 ?_
  refine v_callVI E md_M_numbers (c_M_numbers 4 (by decide) s0 _ h) dM_0 rfl ⟨by decide, by decide⟩ mw517 d_M_readsSnow_2 (fun _ => rfl) (st := []) rfl (Nat.le_of_ble_eq_true rfl) (fun r1 s1 hr1 h => ?_)
  obtain ⟨hz1, h⟩ := h
  refine v_if_eq E 41 d_M_readsSnow_5 (by decide) hr1 (fun c1 => ?_) (fun c1 => ?_)
  · replace h := h.1 c1
    refine v_iconst E d_M_readsSnow_41 ?_
    exact v_iret E hR (nar_Z (by decide)) (Rng_Z (by decide)) ⟨(by decide), h⟩ d_M_readsSnow_42
  · replace h := h.2 c1
    refine v_aloadn E d_M_readsSnow_8 rfl 0 rfl ?_
    refine v_callVIpz E md_M_isTwo (c_M_isTwo s1 _ h) dM_0 rfl ⟨by decide, by decide⟩ mw522 d_M_readsSnow_9 (fun _ => rfl) (st := []) rfl (Nat.le_of_ble_eq_true rfl) (fun r2 hr2 hz2 h => ?_)
    refine v_if_eq E 41 d_M_readsSnow_12 (by decide) hr2 (fun c2 => ?_) (fun c2 => ?_)
    · replace h := h.1 c2
      refine v_iconst E d_M_readsSnow_41 ?_
      exact v_iret E hR (nar_Z (by decide)) (Rng_Z (by decide)) ⟨(by decide), h⟩ d_M_readsSnow_42
    · replace h := h.2 c2
      refine v_aloadn E d_M_readsSnow_15 rfl 0 rfl ?_
      refine v_getA E cf9 dM_0 11 (by decide) rfl mw510 d_M_readsSnow_16 rfl ?_
      refine v_iconst E d_M_readsSnow_19 ?_
      refine v_iald E dM_7 (by decide) (by decide) (by decide) d_M_readsSnow_20 ?_
      refine v_aloadn E d_M_readsSnow_21 rfl 0 rfl ?_
      refine v_getA E cf9 dM_0 11 (by decide) rfl mw510 d_M_readsSnow_22 rfl ?_
      refine v_iconst E d_M_readsSnow_25 ?_
      refine v_iald E dM_7 (by decide) (by decide) (by decide) d_M_readsSnow_26 ?_
      refine v_wt (fun wt1 => ?_)
      refine v_icmp_gt E 41 d_M_readsSnow_27 (by decide) (wt1 7 2) (wt1 7 3) (fun c3 => ?_) (fun c3 => ?_)
      · replace h := h.1 c3
        refine v_iconst E d_M_readsSnow_41 ?_
        exact v_iret E hR (nar_Z (by decide)) (Rng_Z (by decide)) ⟨(by decide), h⟩ d_M_readsSnow_42
      · replace h := h.2 c3
        refine v_aloadn E d_M_readsSnow_30 rfl 0 rfl ?_
        refine v_getA E cf9 dM_0 11 (by decide) rfl mw510 d_M_readsSnow_31 rfl ?_
        refine v_iconst E d_M_readsSnow_34 ?_
        refine v_iald E dM_7 (by decide) (by decide) (by decide) d_M_readsSnow_35 ?_
        refine v_bipush E d_M_readsSnow_36 rfl ?_
        refine v_icmp_lt E 43 d_M_readsSnow_38 (by decide) (wt1 7 3) (by decide) (fun c4 => ?_) (fun c4 => ?_)
        · replace h := h.1 c4
          refine v_aloadn E d_M_readsSnow_43 rfl 0 rfl ?_
          refine v_aloadn E d_M_readsSnow_44 rfl 0 rfl ?_
          refine v_getA E cf9 dM_0 11 (by decide) rfl mw510 d_M_readsSnow_45 rfl ?_
          refine v_iconst E d_M_readsSnow_48 ?_
          refine v_iald E dM_7 (by decide) (by decide) (by decide) d_M_readsSnow_49 ?_
          refine v_aloadn E d_M_readsSnow_50 rfl 0 rfl ?_
          refine v_getA E cf9 dM_0 11 (by decide) rfl mw510 d_M_readsSnow_51 rfl ?_
          refine v_iconst E d_M_readsSnow_54 ?_
          refine v_iald E dM_7 (by decide) (by decide) (by decide) d_M_readsSnow_55 ?_
          refine v_aloadn E d_M_readsSnow_56 rfl 0 rfl ?_
          refine v_getA E cf9 dM_0 11 (by decide) rfl mw510 d_M_readsSnow_57 rfl ?_
          refine v_iconst E d_M_readsSnow_60 ?_
          refine v_iald E dM_7 (by decide) (by decide) (by decide) d_M_readsSnow_61 ?_
          refine v_aloadn E d_M_readsSnow_62 rfl 0 rfl ?_
          refine v_getA E cf9 dM_0 11 (by decide) rfl mw510 d_M_readsSnow_63 rfl ?_
          refine v_iconst E d_M_readsSnow_66 ?_
          refine v_iald E dM_7 (by decide) (by decide) (by decide) d_M_readsSnow_67 ?_
          refine v_callVV E md_M_snows (c_M_snows (gI s1 7 0) (wt1 7 0) (gI s1 7 1) (wt1 7 1) (gI s1 7 2) (wt1 7 2) (gI s1 7 3) (wt1 7 3) s1 _ h) dM_0 rfl ⟨by decide, by decide⟩ mw527 d_M_readsSnow_68 (fun _ => rfl) (st := []) rfl (Nat.le_of_ble_eq_true rfl) (fun s2 h => ?_)
          refine v_iconst E d_M_readsSnow_71 ?_
          exact v_iret E hR (nar_Z (by decide)) (Rng_Z (by decide)) ⟨(by decide), h⟩ d_M_readsSnow_72
        · replace h := h.2 c4
          refine v_iconst E d_M_readsSnow_41 ?_
          exact v_iret E hR (nar_Z (by decide)) (Rng_Z (by decide)) ⟨(by decide), h⟩ d_M_readsSnow_42
theorem d_M_readsBell_0 : decode prog_11_method_17_code 0 = .ok (.aload_n 0, 1) := by decide +kernel
theorem d_M_readsBell_1 : decode prog_11_method_17_code 1 = .ok (.iconst 1, 1) := by decide +kernel
theorem d_M_readsBell_2 : decode prog_11_method_17_code 2 = .ok (.invokevirtual 119, 3) := by decide +kernel
theorem d_M_readsBell_5 : decode prog_11_method_17_code 5 = .ok (.ifCond .eq 14, 3) := by decide +kernel
theorem d_M_readsBell_8 : decode prog_11_method_17_code 8 = .ok (.aload_n 0, 1) := by decide +kernel
theorem d_M_readsBell_9 : decode prog_11_method_17_code 9 = .ok (.getfield 28, 3) := by decide +kernel
theorem d_M_readsBell_12 : decode prog_11_method_17_code 12 = .ok (.iconst 0, 1) := by decide +kernel
theorem d_M_readsBell_13 : decode prog_11_method_17_code 13 = .ok (.iaload, 1) := by decide +kernel
theorem d_M_readsBell_14 : decode prog_11_method_17_code 14 = .ok (.bipush 7, 2) := by decide +kernel
theorem d_M_readsBell_16 : decode prog_11_method_17_code 16 = .ok (.if_icmp .lt 5, 3) := by decide +kernel
theorem d_M_readsBell_19 : decode prog_11_method_17_code 19 = .ok (.iconst 0, 1) := by decide +kernel
theorem d_M_readsBell_20 : decode prog_11_method_17_code 20 = .ok (.ireturn, 1) := by decide +kernel
theorem d_M_readsBell_21 : decode prog_11_method_17_code 21 = .ok (.aload_n 0, 1) := by decide +kernel
theorem d_M_readsBell_22 : decode prog_11_method_17_code 22 = .ok (.aload_n 0, 1) := by decide +kernel
theorem d_M_readsBell_23 : decode prog_11_method_17_code 23 = .ok (.getfield 28, 3) := by decide +kernel
theorem d_M_readsBell_26 : decode prog_11_method_17_code 26 = .ok (.iconst 0, 1) := by decide +kernel
theorem d_M_readsBell_27 : decode prog_11_method_17_code 27 = .ok (.iaload, 1) := by decide +kernel
theorem d_M_readsBell_28 : decode prog_11_method_17_code 28 = .ok (.putfield 102, 3) := by decide +kernel
theorem d_M_readsBell_31 : decode prog_11_method_17_code 31 = .ok (.iconst 1, 1) := by decide +kernel
theorem d_M_readsBell_32 : decode prog_11_method_17_code 32 = .ok (.ireturn, 1) := by decide +kernel
set_option maxHeartbeats 4000000 in
set_option maxRecDepth 20000 in
theorem c_M_readsBell (s0 : MS) (Q : Int → MS → Prop) (h : wp_M_readsBell s0 Q) : MT dscM ⟨"BellSchoolModel", "readsBell", "()Z"⟩ prog_11_method_17_code 1 (some .boolean) 2 (fun ad => [.ref (ad 0)]) s0 (po_I dscM (fun r z => (r = 0 ∨ r = 1) ∧ Q r z)) := by
  refine met_of (by decide) (fun _ => Nat.le_of_ble_eq_true rfl) (fun X E hR => ?_)
  replace E : EV dscM X prog_11_method_17_code "BellSchoolModel" 1 2 := E
  show VV dscM X 0 [(0, .ref (adX X 0))] [] s0
  unfold wp_M_readsBell at h
  refine v_aloadn E d_M_readsBell_0 rfl 0 rfl ?_
  refine v_iconst E d_M_readsBell_1 ?_
  refine v_callVI E md_M_numbers (c_M_numbers 1 (by decide) s0 _ h) dM_0 rfl ⟨by decide, by decide⟩ mw517 d_M_readsBell_2 (fun _ => rfl) (st := []) rfl (Nat.le_of_ble_eq_true rfl) (fun r1 s1 hr1 h => ?_)
  obtain ⟨hz1, h⟩ := h
  refine v_if_eq E 19 d_M_readsBell_5 (by decide) hr1 (fun c1 => ?_) (fun c1 => ?_)
  · replace h := h.1 c1
    refine v_iconst E d_M_readsBell_19 ?_
    exact v_iret E hR (nar_Z (by decide)) (Rng_Z (by decide)) ⟨(by decide), h⟩ d_M_readsBell_20
  · replace h := h.2 c1
    refine v_aloadn E d_M_readsBell_8 rfl 0 rfl ?_
    refine v_getA E cf9 dM_0 11 (by decide) rfl mw510 d_M_readsBell_9 rfl ?_
    refine v_iconst E d_M_readsBell_12 ?_
    refine v_iald E dM_7 (by decide) (by decide) (by decide) d_M_readsBell_13 ?_
    refine v_bipush E d_M_readsBell_14 rfl ?_
    refine v_wt (fun wt1 => ?_)
    refine v_icmp_lt E 21 d_M_readsBell_16 (by decide) (wt1 7 0) (by decide) (fun c2 => ?_) (fun c2 => ?_)
    · replace h := h.1 c2
      refine v_aloadn E d_M_readsBell_21 rfl 0 rfl ?_
      refine v_aloadn E d_M_readsBell_22 rfl 0 rfl ?_
      refine v_getA E cf9 dM_0 11 (by decide) rfl mw510 d_M_readsBell_23 rfl ?_
      refine v_iconst E d_M_readsBell_26 ?_
      refine v_iald E dM_7 (by decide) (by decide) (by decide) d_M_readsBell_27 ?_
      refine v_putI E cf9 dM_0 4 (by decide) rfl rfl mw477 d_M_readsBell_28 rfl rfl rfl (wt1 7 0) ?_
      refine v_nameS (fun s2 hs2 => ?_)
      replace h := h s2 hs2
      refine v_iconst E d_M_readsBell_31 ?_
      exact v_iret E hR (nar_Z (by decide)) (Rng_Z (by decide)) ⟨(by decide), h⟩ d_M_readsBell_32
    · replace h := h.2 c2
      refine v_iconst E d_M_readsBell_19 ?_
      exact v_iret E hR (nar_Z (by decide)) (Rng_Z (by decide)) ⟨(by decide), h⟩ d_M_readsBell_20
theorem d_M_readsMost_0 : decode prog_11_method_18_code 0 = .ok (.aload_n 0, 1) := by decide +kernel
theorem d_M_readsMost_1 : decode prog_11_method_18_code 1 = .ok (.iconst 1, 1) := by decide +kernel
theorem d_M_readsMost_2 : decode prog_11_method_18_code 2 = .ok (.invokevirtual 119, 3) := by decide +kernel
theorem d_M_readsMost_5 : decode prog_11_method_18_code 5 = .ok (.ifCond .eq 13, 3) := by decide +kernel
theorem d_M_readsMost_8 : decode prog_11_method_18_code 8 = .ok (.aload_n 0, 1) := by decide +kernel
theorem d_M_readsMost_9 : decode prog_11_method_18_code 9 = .ok (.getfield 28, 3) := by decide +kernel
theorem d_M_readsMost_12 : decode prog_11_method_18_code 12 = .ok (.iconst 0, 1) := by decide +kernel
theorem d_M_readsMost_13 : decode prog_11_method_18_code 13 = .ok (.iaload, 1) := by decide +kernel
theorem d_M_readsMost_14 : decode prog_11_method_18_code 14 = .ok (.iconst 1, 1) := by decide +kernel
theorem d_M_readsMost_15 : decode prog_11_method_18_code 15 = .ok (.if_icmp .ge 5, 3) := by decide +kernel
theorem d_M_readsMost_18 : decode prog_11_method_18_code 18 = .ok (.iconst 0, 1) := by decide +kernel
theorem d_M_readsMost_19 : decode prog_11_method_18_code 19 = .ok (.ireturn, 1) := by decide +kernel
theorem d_M_readsMost_20 : decode prog_11_method_18_code 20 = .ok (.aload_n 0, 1) := by decide +kernel
theorem d_M_readsMost_21 : decode prog_11_method_18_code 21 = .ok (.aload_n 0, 1) := by decide +kernel
theorem d_M_readsMost_22 : decode prog_11_method_18_code 22 = .ok (.getfield 28, 3) := by decide +kernel
theorem d_M_readsMost_25 : decode prog_11_method_18_code 25 = .ok (.iconst 0, 1) := by decide +kernel
theorem d_M_readsMost_26 : decode prog_11_method_18_code 26 = .ok (.iaload, 1) := by decide +kernel
theorem d_M_readsMost_27 : decode prog_11_method_18_code 27 = .ok (.putfield 92, 3) := by decide +kernel
theorem d_M_readsMost_30 : decode prog_11_method_18_code 30 = .ok (.iconst 1, 1) := by decide +kernel
theorem d_M_readsMost_31 : decode prog_11_method_18_code 31 = .ok (.ireturn, 1) := by decide +kernel
set_option maxHeartbeats 4000000 in
set_option maxRecDepth 20000 in
theorem c_M_readsMost (s0 : MS) (Q : Int → MS → Prop) (h : wp_M_readsMost s0 Q) : MT dscM ⟨"BellSchoolModel", "readsMost", "()Z"⟩ prog_11_method_18_code 1 (some .boolean) 2 (fun ad => [.ref (ad 0)]) s0 (po_I dscM (fun r z => (r = 0 ∨ r = 1) ∧ Q r z)) := by
  refine met_of (by decide) (fun _ => Nat.le_of_ble_eq_true rfl) (fun X E hR => ?_)
  replace E : EV dscM X prog_11_method_18_code "BellSchoolModel" 1 2 := E
  show VV dscM X 0 [(0, .ref (adX X 0))] [] s0
  unfold wp_M_readsMost at h
  refine v_aloadn E d_M_readsMost_0 rfl 0 rfl ?_
  refine v_iconst E d_M_readsMost_1 ?_
  refine v_callVI E md_M_numbers (c_M_numbers 1 (by decide) s0 _ h) dM_0 rfl ⟨by decide, by decide⟩ mw517 d_M_readsMost_2 (fun _ => rfl) (st := []) rfl (Nat.le_of_ble_eq_true rfl) (fun r1 s1 hr1 h => ?_)
  obtain ⟨hz1, h⟩ := h
  refine v_if_eq E 18 d_M_readsMost_5 (by decide) hr1 (fun c1 => ?_) (fun c1 => ?_)
  · replace h := h.1 c1
    refine v_iconst E d_M_readsMost_18 ?_
    exact v_iret E hR (nar_Z (by decide)) (Rng_Z (by decide)) ⟨(by decide), h⟩ d_M_readsMost_19
  · replace h := h.2 c1
    refine v_aloadn E d_M_readsMost_8 rfl 0 rfl ?_
    refine v_getA E cf9 dM_0 11 (by decide) rfl mw510 d_M_readsMost_9 rfl ?_
    refine v_iconst E d_M_readsMost_12 ?_
    refine v_iald E dM_7 (by decide) (by decide) (by decide) d_M_readsMost_13 ?_
    refine v_iconst E d_M_readsMost_14 ?_
    refine v_wt (fun wt1 => ?_)
    refine v_icmp_ge E 20 d_M_readsMost_15 (by decide) (wt1 7 0) (by decide) (fun c2 => ?_) (fun c2 => ?_)
    · replace h := h.1 c2
      refine v_aloadn E d_M_readsMost_20 rfl 0 rfl ?_
      refine v_aloadn E d_M_readsMost_21 rfl 0 rfl ?_
      refine v_getA E cf9 dM_0 11 (by decide) rfl mw510 d_M_readsMost_22 rfl ?_
      refine v_iconst E d_M_readsMost_25 ?_
      refine v_iald E dM_7 (by decide) (by decide) (by decide) d_M_readsMost_26 ?_
      refine v_putI E cf9 dM_0 5 (by decide) rfl rfl mw478 d_M_readsMost_27 rfl rfl rfl (wt1 7 0) ?_
      refine v_nameS (fun s2 hs2 => ?_)
      replace h := h s2 hs2
      refine v_iconst E d_M_readsMost_30 ?_
      exact v_iret E hR (nar_Z (by decide)) (Rng_Z (by decide)) ⟨(by decide), h⟩ d_M_readsMost_31
    · replace h := h.2 c2
      refine v_iconst E d_M_readsMost_18 ?_
      exact v_iret E hR (nar_Z (by decide)) (Rng_Z (by decide)) ⟨(by decide), h⟩ d_M_readsMost_19
theorem d_M_readsItem_0 : decode prog_11_method_19_code 0 = .ok (.aload_n 0, 1) := by decide +kernel
theorem d_M_readsItem_1 : decode prog_11_method_19_code 1 = .ok (.invokevirtual 115, 3) := by decide +kernel
theorem d_M_readsItem_4 : decode prog_11_method_19_code 4 = .ok (.istore_n 1, 1) := by decide +kernel
theorem d_M_readsItem_5 : decode prog_11_method_19_code 5 = .ok (.aload_n 0, 1) := by decide +kernel
theorem d_M_readsItem_6 : decode prog_11_method_19_code 6 = .ok (.dup, 1) := by decide +kernel
theorem d_M_readsItem_7 : decode prog_11_method_19_code 7 = .ok (.getfield 112, 3) := by decide +kernel
theorem d_M_readsItem_10 : decode prog_11_method_19_code 10 = .ok (.iconst 1, 1) := by decide +kernel
theorem d_M_readsItem_11 : decode prog_11_method_19_code 11 = .ok (.iadd, 1) := by decide +kernel
theorem d_M_readsItem_12 : decode prog_11_method_19_code 12 = .ok (.putfield 112, 3) := by decide +kernel
theorem d_M_readsItem_15 : decode prog_11_method_19_code 15 = .ok (.iload_n 1, 1) := by decide +kernel
theorem d_M_readsItem_16 : decode prog_11_method_19_code 16 = .ok (.lookupswitch 77 #[(98, 67), (104, 52), (110, 72), (115, 62), (119, 57)], 52) := by decide +kernel
theorem d_M_readsItem_68 : decode prog_11_method_19_code 68 = .ok (.aload_n 0, 1) := by decide +kernel
theorem d_M_readsItem_69 : decode prog_11_method_19_code 69 = .ok (.invokevirtual 127, 3) := by decide +kernel
theorem d_M_readsItem_72 : decode prog_11_method_19_code 72 = .ok (.ireturn, 1) := by decide +kernel
theorem d_M_readsItem_73 : decode prog_11_method_19_code 73 = .ok (.aload_n 0, 1) := by decide +kernel
theorem d_M_readsItem_74 : decode prog_11_method_19_code 74 = .ok (.invokevirtual 130, 3) := by decide +kernel
theorem d_M_readsItem_77 : decode prog_11_method_19_code 77 = .ok (.ireturn, 1) := by decide +kernel
theorem d_M_readsItem_78 : decode prog_11_method_19_code 78 = .ok (.aload_n 0, 1) := by decide +kernel
theorem d_M_readsItem_79 : decode prog_11_method_19_code 79 = .ok (.invokevirtual 133, 3) := by decide +kernel
theorem d_M_readsItem_82 : decode prog_11_method_19_code 82 = .ok (.ireturn, 1) := by decide +kernel
theorem d_M_readsItem_83 : decode prog_11_method_19_code 83 = .ok (.aload_n 0, 1) := by decide +kernel
theorem d_M_readsItem_84 : decode prog_11_method_19_code 84 = .ok (.invokevirtual 136, 3) := by decide +kernel
theorem d_M_readsItem_87 : decode prog_11_method_19_code 87 = .ok (.ireturn, 1) := by decide +kernel
theorem d_M_readsItem_88 : decode prog_11_method_19_code 88 = .ok (.aload_n 0, 1) := by decide +kernel
theorem d_M_readsItem_89 : decode prog_11_method_19_code 89 = .ok (.invokevirtual 139, 3) := by decide +kernel
theorem d_M_readsItem_92 : decode prog_11_method_19_code 92 = .ok (.ireturn, 1) := by decide +kernel
theorem d_M_readsItem_93 : decode prog_11_method_19_code 93 = .ok (.iconst 0, 1) := by decide +kernel
theorem d_M_readsItem_94 : decode prog_11_method_19_code 94 = .ok (.ireturn, 1) := by decide +kernel
set_option maxHeartbeats 4000000 in
set_option maxRecDepth 20000 in
theorem c_M_readsItem (s0 : MS) (Q : Int → MS → Prop) (h : wp_M_readsItem s0 Q) : MT dscM ⟨"BellSchoolModel", "readsItem", "()Z"⟩ prog_11_method_19_code 2 (some .boolean) 3 (fun ad => [.ref (ad 0)]) s0 (po_I dscM (fun r z => (r = 0 ∨ r = 1) ∧ Q r z)) := by
  refine met_of (by decide) (fun _ => Nat.le_of_ble_eq_true rfl) (fun X E hR => ?_)
  replace E : EV dscM X prog_11_method_19_code "BellSchoolModel" 2 3 := E
  show VV dscM X 0 [(0, .ref (adX X 0))] [] s0
  unfold wp_M_readsItem at h
  refine v_aloadn E d_M_readsItem_0 rfl 0 rfl ?_
  refine v_callVIp E md_M_here (c_M_here s0 _ h) dM_0 rfl ⟨by decide, by decide⟩ mw509 d_M_readsItem_1 (fun _ => rfl) (st := []) rfl (Nat.le_of_ble_eq_true rfl) (fun r1 hr1 h => ?_)
  refine v_istoren E d_M_readsItem_4 rfl (by decide) (L' := [(1, .int (iI r1)), (0, .ref (adX X 0))]) rfl ?_
  refine v_aloadn E d_M_readsItem_5 rfl 1 rfl ?_
  refine v_dup E d_M_readsItem_6 rfl ?_
  refine v_getI E cf9 dM_0 2 (by decide) rfl mw505 d_M_readsItem_7 rfl ?_
  refine v_iconst E d_M_readsItem_10 ?_
  refine v_iadd E d_M_readsItem_11 ?_
  obtain ⟨q1, h⟩ := h
  refine v_putI E cf9 dM_0 2 (by decide) rfl rfl mw505 d_M_readsItem_12 rfl rfl rfl q1 ?_
  refine v_nameS (fun s1 hs1 => ?_)
  replace h := h s1 hs1
  refine v_iloadn E d_M_readsItem_15 rfl 0 rfl ?_
  by_cases c1 : r1 = 98
  · replace h := h.1 c1
    refine v_lookup E (off := 67) d_M_readsItem_16 rfl hr1 83 (by rw [c1] <;> rfl) (by decide) ?_
    refine v_aloadn E d_M_readsItem_83 rfl 1 rfl ?_
    refine v_callVI E md_M_readsBell (c_M_readsBell s1 _ h) dM_0 rfl ⟨by decide, by decide⟩ mw537 d_M_readsItem_84 (fun _ => rfl) (st := []) rfl (Nat.le_of_ble_eq_true rfl) (fun r2 s2 hr2 h => ?_)
    obtain ⟨hz2, h⟩ := h
    exact v_iret E hR (nar_Z hz2) (Rng_Z hz2) ⟨hz2, h⟩ d_M_readsItem_87
  · skip
    by_cases c2 : r1 = 104
    · replace h := h.2.1 c2
      refine v_lookup E (off := 52) d_M_readsItem_16 rfl hr1 68 (by rw [c2] <;> rfl) (by decide) ?_
      refine v_aloadn E d_M_readsItem_68 rfl 1 rfl ?_
      refine v_callVI E md_M_readsHome (c_M_readsHome s1 _ h) dM_0 rfl ⟨by decide, by decide⟩ mw538 d_M_readsItem_69 (fun _ => rfl) (st := []) rfl (Nat.le_of_ble_eq_true rfl) (fun r3 s3 hr3 h => ?_)
      obtain ⟨hz3, h⟩ := h
      exact v_iret E hR (nar_Z hz3) (Rng_Z hz3) ⟨hz3, h⟩ d_M_readsItem_72
    · skip
      by_cases c3 : r1 = 110
      · replace h := h.2.2.1 c3
        refine v_lookup E (off := 72) d_M_readsItem_16 rfl hr1 88 (by rw [c3] <;> rfl) (by decide) ?_
        refine v_aloadn E d_M_readsItem_88 rfl 1 rfl ?_
        refine v_callVI E md_M_readsMost (c_M_readsMost s1 _ h) dM_0 rfl ⟨by decide, by decide⟩ mw539 d_M_readsItem_89 (fun _ => rfl) (st := []) rfl (Nat.le_of_ble_eq_true rfl) (fun r4 s4 hr4 h => ?_)
        obtain ⟨hz4, h⟩ := h
        exact v_iret E hR (nar_Z hz4) (Rng_Z hz4) ⟨hz4, h⟩ d_M_readsItem_92
      · skip
        by_cases c4 : r1 = 115
        · replace h := h.2.2.2.1 c4
          refine v_lookup E (off := 62) d_M_readsItem_16 rfl hr1 78 (by rw [c4] <;> rfl) (by decide) ?_
          refine v_aloadn E d_M_readsItem_78 rfl 1 rfl ?_
          refine v_callVI E md_M_readsSnow (c_M_readsSnow s1 _ h) dM_0 rfl ⟨by decide, by decide⟩ mw540 d_M_readsItem_79 (fun _ => rfl) (st := []) rfl (Nat.le_of_ble_eq_true rfl) (fun r5 s5 hr5 h => ?_)
          obtain ⟨hz5, h⟩ := h
          exact v_iret E hR (nar_Z hz5) (Rng_Z hz5) ⟨hz5, h⟩ d_M_readsItem_82
        · skip
          by_cases c5 : r1 = 119
          · replace h := h.2.2.2.2.1 c5
            refine v_lookup E (off := 57) d_M_readsItem_16 rfl hr1 73 (by rw [c5] <;> rfl) (by decide) ?_
            refine v_aloadn E d_M_readsItem_73 rfl 1 rfl ?_
            refine v_callVI E md_M_readsWay (c_M_readsWay s1 _ h) dM_0 rfl ⟨by decide, by decide⟩ mw541 d_M_readsItem_74 (fun _ => rfl) (st := []) rfl (Nat.le_of_ble_eq_true rfl) (fun r6 s6 hr6 h => ?_)
            obtain ⟨hz6, h⟩ := h
            exact v_iret E hR (nar_Z hz6) (Rng_Z hz6) ⟨hz6, h⟩ d_M_readsItem_77
          · skip
            replace h := h.2.2.2.2.2 c1 c2 c3 c4 c5
            refine v_lookup E (off := 77) d_M_readsItem_16 rfl hr1 93 (by simp [Op.lookupswitch.offset_cons, Op.lookupswitch.offset_nil, Ne.symm c1, Ne.symm c2, Ne.symm c3, Ne.symm c4, Ne.symm c5]) (by decide) ?_
            refine v_iconst E d_M_readsItem_93 ?_
            exact v_iret E hR (nar_Z (by decide)) (Rng_Z (by decide)) ⟨(by decide), h⟩ d_M_readsItem_94
theorem d_M_faultOf_0 : decode prog_11_method_20_code 0 = .ok (.aload_n 0, 1) := by decide +kernel
theorem d_M_faultOf_1 : decode prog_11_method_20_code 1 = .ok (.invokevirtual 77, 3) := by decide +kernel
theorem d_M_faultOf_4 : decode prog_11_method_20_code 4 = .ok (.aload_n 0, 1) := by decide +kernel
theorem d_M_faultOf_5 : decode prog_11_method_20_code 5 = .ok (.iconst 0, 1) := by decide +kernel
theorem d_M_faultOf_6 : decode prog_11_method_20_code 6 = .ok (.putfield 112, 3) := by decide +kernel
theorem d_M_faultOf_9 : decode prog_11_method_20_code 9 = .ok (.aload_n 0, 1) := by decide +kernel
theorem d_M_faultOf_10 : decode prog_11_method_20_code 10 = .ok (.getfield 112, 3) := by decide +kernel
theorem d_M_faultOf_13 : decode prog_11_method_20_code 13 = .ok (.aload_n 0, 1) := by decide +kernel
theorem d_M_faultOf_14 : decode prog_11_method_20_code 14 = .ok (.getfield 109, 3) := by decide +kernel
theorem d_M_faultOf_17 : decode prog_11_method_20_code 17 = .ok (.if_icmp .ge 20, 3) := by decide +kernel
theorem d_M_faultOf_20 : decode prog_11_method_20_code 20 = .ok (.aload_n 0, 1) := by decide +kernel
theorem d_M_faultOf_21 : decode prog_11_method_20_code 21 = .ok (.getfield 112, 3) := by decide +kernel
theorem d_M_faultOf_24 : decode prog_11_method_20_code 24 = .ok (.istore_n 1, 1) := by decide +kernel
theorem d_M_faultOf_25 : decode prog_11_method_20_code 25 = .ok (.aload_n 0, 1) := by decide +kernel
theorem d_M_faultOf_26 : decode prog_11_method_20_code 26 = .ok (.invokevirtual 142, 3) := by decide +kernel
theorem d_M_faultOf_29 : decode prog_11_method_20_code 29 = .ok (.ifCond .ne 5, 3) := by decide +kernel
theorem d_M_faultOf_32 : decode prog_11_method_20_code 32 = .ok (.iload_n 1, 1) := by decide +kernel
theorem d_M_faultOf_33 : decode prog_11_method_20_code 33 = .ok (.ireturn, 1) := by decide +kernel
theorem d_M_faultOf_34 : decode prog_11_method_20_code 34 = .ok (.goto (-25), 3) := by decide +kernel
theorem d_M_faultOf_37 : decode prog_11_method_20_code 37 = .ok (.bipush (-4), 2) := by decide +kernel
theorem d_M_faultOf_39 : decode prog_11_method_20_code 39 = .ok (.ireturn, 1) := by decide +kernel
set_option maxHeartbeats 4000000 in
set_option maxRecDepth 20000 in
theorem c_M_faultOf (s0 : MS) (Q : Int → MS → Prop) (h : wp_M_faultOf s0 Q) : MT dscM ⟨"BellSchoolModel", "faultOf", "()I"⟩ prog_11_method_20_code 2 (some .int) 4 (fun ad => [.ref (ad 0)]) s0 (po_I dscM Q) := by
  refine met_of (by decide) (fun _ => Nat.le_of_ble_eq_true rfl) (fun X E hR => ?_)
  replace E : EV dscM X prog_11_method_20_code "BellSchoolModel" 2 4 := E
  show VV dscM X 0 [(0, .ref (adX X 0))] [] s0
  unfold wp_M_faultOf at h
  refine v_aloadn E d_M_faultOf_0 rfl 0 rfl ?_
  refine v_callVV E md_M_anew (c_M_anew s0 _ h) dM_0 rfl ⟨by decide, by decide⟩ mw545 d_M_faultOf_1 (fun _ => rfl) (st := []) rfl (Nat.le_of_ble_eq_true rfl) (fun s1 h => ?_)
  refine v_aloadn E d_M_faultOf_4 rfl 0 rfl ?_
  refine v_iconst E d_M_faultOf_5 ?_
  refine v_putI E cf9 dM_0 2 (by decide) rfl rfl mw505 d_M_faultOf_6 rfl rfl rfl (by decide) ?_
  refine v_nameS (fun s2 hs2 => ?_)
  replace h := h s2 hs2
  refine v_sub [0] (L' := [(0, .ref (adX X 0))]) rfl ?_
  obtain ⟨I1, μ1, h01, h⟩ := h
  refine v_loop0 [(0, .ref (adX X 0))] I1 μ1 (fun  s3 hI1 ih1 => ?_)  s2 h01
  replace h := h  s3 hI1
  refine v_aloadn E d_M_faultOf_9 rfl 0 rfl ?_
  refine v_getI E cf9 dM_0 2 (by decide) rfl mw505 d_M_faultOf_10 rfl ?_
  refine v_aloadn E d_M_faultOf_13 rfl 0 rfl ?_
  refine v_getI E cf9 dM_0 0 (by decide) rfl mw497 d_M_faultOf_14 rfl ?_
  refine v_wt (fun wt1 => ?_)
  refine v_icmp_ge E 37 d_M_faultOf_17 (by decide) (wt1 0 2) (wt1 0 0) (fun c1 => ?_) (fun c1 => ?_)
  · replace h := h.1 c1
    refine v_bipush E d_M_faultOf_37 rfl ?_
    exact v_iret E hR rfl (by decide) h d_M_faultOf_39
  · replace h := h.2 c1
    refine v_aloadn E d_M_faultOf_20 rfl 0 rfl ?_
    refine v_getI E cf9 dM_0 2 (by decide) rfl mw505 d_M_faultOf_21 rfl ?_
    refine v_istoren E d_M_faultOf_24 rfl (by decide) (L' := [(1, .int (iI (gI s3 0 2))), (0, .ref (adX X 0))]) rfl ?_
    refine v_aloadn E d_M_faultOf_25 rfl 1 rfl ?_
    refine v_callVI E md_M_readsItem (c_M_readsItem s3 _ h) dM_0 rfl ⟨by decide, by decide⟩ mw546 d_M_faultOf_26 (fun _ => rfl) (st := []) rfl (Nat.le_of_ble_eq_true rfl) (fun r2 s4 hr2 h => ?_)
    obtain ⟨hz2, h⟩ := h
    refine v_if_ne E 34 d_M_faultOf_29 (by decide) hr2 (fun c2 => ?_) (fun c2 => ?_)
    · replace h := h.1 c2
      refine v_goto E 9 d_M_faultOf_34 (by decide) ?_
      obtain ⟨hb, hm⟩ := h
      exact v_sub [1] rfl (ih1 s4 hb hm)
    · replace h := h.2 c2
      refine v_iloadn E d_M_faultOf_32 rfl 0 rfl ?_
      exact v_iret E hR rfl (wt1 0 2) h d_M_faultOf_33
theorem d_M_fault_0 : decode prog_11_method_21_code 0 = .ok (.aload_n 0, 1) := by decide +kernel
theorem d_M_fault_1 : decode prog_11_method_21_code 1 = .ok (.invokevirtual 145, 3) := by decide +kernel
theorem d_M_fault_4 : decode prog_11_method_21_code 4 = .ok (.ireturn, 1) := by decide +kernel
set_option maxHeartbeats 4000000 in
set_option maxRecDepth 20000 in
theorem c_M_fault (s0 : MS) (Q : Int → MS → Prop) (h : wp_M_fault s0 Q) : MT dscM ⟨"BellSchoolModel", "fault", "()I"⟩ prog_11_method_21_code 1 (some .int) 5 (fun ad => [.ref (ad 0)]) s0 (po_I dscM Q) := by
  refine met_of (by decide) (fun _ => Nat.le_of_ble_eq_true rfl) (fun X E hR => ?_)
  replace E : EV dscM X prog_11_method_21_code "BellSchoolModel" 1 5 := E
  show VV dscM X 0 [(0, .ref (adX X 0))] [] s0
  unfold wp_M_fault at h
  refine v_aloadn E d_M_fault_0 rfl 0 rfl ?_
  refine v_callVI E md_M_faultOf (c_M_faultOf s0 _ h) dM_0 rfl ⟨by decide, by decide⟩ mw550 d_M_fault_1 (fun _ => rfl) (st := []) rfl (Nat.le_of_ble_eq_true rfl) (fun r1 s1 hr1 h => ?_)
  exact v_iret E hR rfl hr1 h d_M_fault_4
theorem d_M_laid_0 : decode prog_11_method_22_code 0 = .ok (.aload_n 0, 1) := by decide +kernel
theorem d_M_laid_1 : decode prog_11_method_22_code 1 = .ok (.aload_n 0, 1) := by decide +kernel
theorem d_M_laid_2 : decode prog_11_method_22_code 2 = .ok (.getfield 99, 3) := by decide +kernel
theorem d_M_laid_5 : decode prog_11_method_22_code 5 = .ok (.putfield 148, 3) := by decide +kernel
theorem d_M_laid_8 : decode prog_11_method_22_code 8 = .ok (.aload_n 0, 1) := by decide +kernel
theorem d_M_laid_9 : decode prog_11_method_22_code 9 = .ok (.aload_n 0, 1) := by decide +kernel
theorem d_M_laid_10 : decode prog_11_method_22_code 10 = .ok (.getfield 92, 3) := by decide +kernel
theorem d_M_laid_13 : decode prog_11_method_22_code 13 = .ok (.putfield 151, 3) := by decide +kernel
theorem d_M_laid_16 : decode prog_11_method_22_code 16 = .ok (.iconst 0, 1) := by decide +kernel
theorem d_M_laid_17 : decode prog_11_method_22_code 17 = .ok (.istore_n 1, 1) := by decide +kernel
theorem d_M_laid_18 : decode prog_11_method_22_code 18 = .ok (.iload_n 1, 1) := by decide +kernel
theorem d_M_laid_19 : decode prog_11_method_22_code 19 = .ok (.bipush 7, 2) := by decide +kernel
theorem d_M_laid_21 : decode prog_11_method_22_code 21 = .ok (.if_icmp .ge 33, 3) := by decide +kernel
theorem d_M_laid_24 : decode prog_11_method_22_code 24 = .ok (.aload_n 0, 1) := by decide +kernel
theorem d_M_laid_25 : decode prog_11_method_22_code 25 = .ok (.getfield 31, 3) := by decide +kernel
theorem d_M_laid_28 : decode prog_11_method_22_code 28 = .ok (.iload_n 1, 1) := by decide +kernel
theorem d_M_laid_29 : decode prog_11_method_22_code 29 = .ok (.aload_n 0, 1) := by decide +kernel
theorem d_M_laid_30 : decode prog_11_method_22_code 30 = .ok (.getfield 13, 3) := by decide +kernel
theorem d_M_laid_33 : decode prog_11_method_22_code 33 = .ok (.iload_n 1, 1) := by decide +kernel
theorem d_M_laid_34 : decode prog_11_method_22_code 34 = .ok (.iaload, 1) := by decide +kernel
theorem d_M_laid_35 : decode prog_11_method_22_code 35 = .ok (.iastore, 1) := by decide +kernel
theorem d_M_laid_36 : decode prog_11_method_22_code 36 = .ok (.aload_n 0, 1) := by decide +kernel
theorem d_M_laid_37 : decode prog_11_method_22_code 37 = .ok (.getfield 34, 3) := by decide +kernel
theorem d_M_laid_40 : decode prog_11_method_22_code 40 = .ok (.iload_n 1, 1) := by decide +kernel
theorem d_M_laid_41 : decode prog_11_method_22_code 41 = .ok (.aload_n 0, 1) := by decide +kernel
theorem d_M_laid_42 : decode prog_11_method_22_code 42 = .ok (.getfield 16, 3) := by decide +kernel
theorem d_M_laid_45 : decode prog_11_method_22_code 45 = .ok (.iload_n 1, 1) := by decide +kernel
theorem d_M_laid_46 : decode prog_11_method_22_code 46 = .ok (.iaload, 1) := by decide +kernel
theorem d_M_laid_47 : decode prog_11_method_22_code 47 = .ok (.iastore, 1) := by decide +kernel
theorem d_M_laid_48 : decode prog_11_method_22_code 48 = .ok (.iinc 1 1, 3) := by decide +kernel
theorem d_M_laid_51 : decode prog_11_method_22_code 51 = .ok (.goto (-33), 3) := by decide +kernel
theorem d_M_laid_54 : decode prog_11_method_22_code 54 = .ok (.iconst 0, 1) := by decide +kernel
theorem d_M_laid_55 : decode prog_11_method_22_code 55 = .ok (.istore_n 1, 1) := by decide +kernel
theorem d_M_laid_56 : decode prog_11_method_22_code 56 = .ok (.iload_n 1, 1) := by decide +kernel
theorem d_M_laid_57 : decode prog_11_method_22_code 57 = .ok (.bipush 49, 2) := by decide +kernel
theorem d_M_laid_59 : decode prog_11_method_22_code 59 = .ok (.if_icmp .ge 45, 3) := by decide +kernel
theorem d_M_laid_62 : decode prog_11_method_22_code 62 = .ok (.aload_n 0, 1) := by decide +kernel
theorem d_M_laid_63 : decode prog_11_method_22_code 63 = .ok (.getfield 37, 3) := by decide +kernel
theorem d_M_laid_66 : decode prog_11_method_22_code 66 = .ok (.iload_n 1, 1) := by decide +kernel
theorem d_M_laid_67 : decode prog_11_method_22_code 67 = .ok (.aload_n 0, 1) := by decide +kernel
theorem d_M_laid_68 : decode prog_11_method_22_code 68 = .ok (.getfield 19, 3) := by decide +kernel
theorem d_M_laid_71 : decode prog_11_method_22_code 71 = .ok (.iload_n 1, 1) := by decide +kernel
theorem d_M_laid_72 : decode prog_11_method_22_code 72 = .ok (.iaload, 1) := by decide +kernel
theorem d_M_laid_73 : decode prog_11_method_22_code 73 = .ok (.iastore, 1) := by decide +kernel
theorem d_M_laid_74 : decode prog_11_method_22_code 74 = .ok (.aload_n 0, 1) := by decide +kernel
theorem d_M_laid_75 : decode prog_11_method_22_code 75 = .ok (.getfield 40, 3) := by decide +kernel
theorem d_M_laid_78 : decode prog_11_method_22_code 78 = .ok (.iload_n 1, 1) := by decide +kernel
theorem d_M_laid_79 : decode prog_11_method_22_code 79 = .ok (.aload_n 0, 1) := by decide +kernel
theorem d_M_laid_80 : decode prog_11_method_22_code 80 = .ok (.getfield 22, 3) := by decide +kernel
theorem d_M_laid_83 : decode prog_11_method_22_code 83 = .ok (.iload_n 1, 1) := by decide +kernel
theorem d_M_laid_84 : decode prog_11_method_22_code 84 = .ok (.iaload, 1) := by decide +kernel
theorem d_M_laid_85 : decode prog_11_method_22_code 85 = .ok (.iastore, 1) := by decide +kernel
theorem d_M_laid_86 : decode prog_11_method_22_code 86 = .ok (.aload_n 0, 1) := by decide +kernel
theorem d_M_laid_87 : decode prog_11_method_22_code 87 = .ok (.getfield 43, 3) := by decide +kernel
theorem d_M_laid_90 : decode prog_11_method_22_code 90 = .ok (.iload_n 1, 1) := by decide +kernel
theorem d_M_laid_91 : decode prog_11_method_22_code 91 = .ok (.aload_n 0, 1) := by decide +kernel
theorem d_M_laid_92 : decode prog_11_method_22_code 92 = .ok (.getfield 25, 3) := by decide +kernel
theorem d_M_laid_95 : decode prog_11_method_22_code 95 = .ok (.iload_n 1, 1) := by decide +kernel
theorem d_M_laid_96 : decode prog_11_method_22_code 96 = .ok (.iaload, 1) := by decide +kernel
theorem d_M_laid_97 : decode prog_11_method_22_code 97 = .ok (.iastore, 1) := by decide +kernel
theorem d_M_laid_98 : decode prog_11_method_22_code 98 = .ok (.iinc 1 1, 3) := by decide +kernel
theorem d_M_laid_101 : decode prog_11_method_22_code 101 = .ok (.goto (-45), 3) := by decide +kernel
theorem d_M_laid_104 : decode prog_11_method_22_code 104 = .ok (.iconst 0, 1) := by decide +kernel
theorem d_M_laid_105 : decode prog_11_method_22_code 105 = .ok (.istore_n 1, 1) := by decide +kernel
theorem d_M_laid_106 : decode prog_11_method_22_code 106 = .ok (.iload_n 1, 1) := by decide +kernel
theorem d_M_laid_107 : decode prog_11_method_22_code 107 = .ok (.bipush 13, 2) := by decide +kernel
theorem d_M_laid_109 : decode prog_11_method_22_code 109 = .ok (.if_icmp .ge 16, 3) := by decide +kernel
theorem d_M_laid_112 : decode prog_11_method_22_code 112 = .ok (.aload_n 0, 1) := by decide +kernel
theorem d_M_laid_113 : decode prog_11_method_22_code 113 = .ok (.getfield 46, 3) := by decide +kernel
theorem d_M_laid_116 : decode prog_11_method_22_code 116 = .ok (.iload_n 1, 1) := by decide +kernel
theorem d_M_laid_117 : decode prog_11_method_22_code 117 = .ok (.iconst 0, 1) := by decide +kernel
theorem d_M_laid_118 : decode prog_11_method_22_code 118 = .ok (.iastore, 1) := by decide +kernel
theorem d_M_laid_119 : decode prog_11_method_22_code 119 = .ok (.iinc 1 1, 3) := by decide +kernel
theorem d_M_laid_122 : decode prog_11_method_22_code 122 = .ok (.goto (-16), 3) := by decide +kernel
theorem d_M_laid_125 : decode prog_11_method_22_code 125 = .ok (.aload_n 0, 1) := by decide +kernel
theorem d_M_laid_126 : decode prog_11_method_22_code 126 = .ok (.getfield 46, 3) := by decide +kernel
theorem d_M_laid_129 : decode prog_11_method_22_code 129 = .ok (.iconst 0, 1) := by decide +kernel
theorem d_M_laid_130 : decode prog_11_method_22_code 130 = .ok (.aload_n 0, 1) := by decide +kernel
theorem d_M_laid_131 : decode prog_11_method_22_code 131 = .ok (.getfield 102, 3) := by decide +kernel
theorem d_M_laid_134 : decode prog_11_method_22_code 134 = .ok (.iastore, 1) := by decide +kernel
theorem d_M_laid_135 : decode prog_11_method_22_code 135 = .ok (.aload_n 0, 1) := by decide +kernel
theorem d_M_laid_136 : decode prog_11_method_22_code 136 = .ok (.getfield 46, 3) := by decide +kernel
theorem d_M_laid_139 : decode prog_11_method_22_code 139 = .ok (.iconst 5, 1) := by decide +kernel
theorem d_M_laid_140 : decode prog_11_method_22_code 140 = .ok (.iconst 1, 1) := by decide +kernel
theorem d_M_laid_141 : decode prog_11_method_22_code 141 = .ok (.aload_n 0, 1) := by decide +kernel
theorem d_M_laid_142 : decode prog_11_method_22_code 142 = .ok (.getfield 102, 3) := by decide +kernel
theorem d_M_laid_145 : decode prog_11_method_22_code 145 = .ok (.ishl, 1) := by decide +kernel
theorem d_M_laid_146 : decode prog_11_method_22_code 146 = .ok (.iastore, 1) := by decide +kernel
theorem d_M_laid_147 : decode prog_11_method_22_code 147 = .ok (.aload_n 0, 1) := by decide +kernel
theorem d_M_laid_148 : decode prog_11_method_22_code 148 = .ok (.iconst 0, 1) := by decide +kernel
theorem d_M_laid_149 : decode prog_11_method_22_code 149 = .ok (.putfield 154, 3) := by decide +kernel
theorem d_M_laid_152 : decode prog_11_method_22_code 152 = .ok (.aload_n 0, 1) := by decide +kernel
theorem d_M_laid_153 : decode prog_11_method_22_code 153 = .ok (.iconst 0, 1) := by decide +kernel
theorem d_M_laid_154 : decode prog_11_method_22_code 154 = .ok (.putfield 157, 3) := by decide +kernel
theorem d_M_laid_157 : decode prog_11_method_22_code 157 = .ok (.aload_n 0, 1) := by decide +kernel
theorem d_M_laid_158 : decode prog_11_method_22_code 158 = .ok (.iconst 0, 1) := by decide +kernel
theorem d_M_laid_159 : decode prog_11_method_22_code 159 = .ok (.putfield 160, 3) := by decide +kernel
theorem d_M_laid_162 : decode prog_11_method_22_code 162 = .ok (.return_, 1) := by decide +kernel
set_option maxHeartbeats 4000000 in
set_option maxRecDepth 20000 in
theorem c_M_laid (s0 : MS) (Q : MS → Prop) (h : wp_M_laid s0 Q) : MT dscM ⟨"BellSchoolModel", "laid", "()V"⟩ prog_11_method_22_code 2 none 0 (fun ad => [.ref (ad 0)]) s0 (po_V dscM Q) := by
  refine met_of (by decide) (fun _ => Nat.le_of_ble_eq_true rfl) (fun X E hR => ?_)
  replace E : EV dscM X prog_11_method_22_code "BellSchoolModel" 2 0 := E
  show VV dscM X 0 [(0, .ref (adX X 0))] [] s0
  unfold wp_M_laid at h
  refine v_aloadn E d_M_laid_0 rfl 0 rfl ?_
  refine v_aloadn E d_M_laid_1 rfl 0 rfl ?_
  refine v_getI E cf9 dM_0 3 (by decide) rfl mw476 d_M_laid_2 rfl ?_
  refine v_wt (fun wt1 => ?_)
  refine v_putI E cf9 dM_0 12 (by decide) rfl rfl mw554 d_M_laid_5 rfl rfl rfl (wt1 0 3) ?_
  refine v_nameS (fun s1 hs1 => ?_)
  replace h := h s1 hs1
  refine v_aloadn E d_M_laid_8 rfl 0 rfl ?_
  refine v_aloadn E d_M_laid_9 rfl 0 rfl ?_
  refine v_getI E cf9 dM_0 5 (by decide) rfl mw478 d_M_laid_10 rfl ?_
  refine v_wt (fun wt2 => ?_)
  refine v_putI E cf9 dM_0 13 (by decide) rfl rfl mw555 d_M_laid_13 rfl rfl rfl (wt2 0 5) ?_
  refine v_nameS (fun s2 hs2 => ?_)
  replace h := h s2 hs2
  refine v_iconst E d_M_laid_16 ?_
  refine v_istoren E d_M_laid_17 rfl (by decide) (L' := [(1, .int (iI 0)), (0, .ref (adX X 0))]) rfl ?_
  refine v_sub [1, 0] (L' := [(0, .ref (adX X 0)), (1, .int (iI 0))]) rfl ?_
  obtain ⟨I1, μ1, h01, h⟩ := h
  refine v_loop1 (fun (x1 : Int) => [(0, .ref (adX X 0)), (1, .int (iI x1))]) I1 μ1 (fun x1 s3 hI1 ih1 => ?_) 0 s2 h01
  replace h := h x1 s3 hI1
  refine v_iloadn E d_M_laid_18 rfl 1 rfl ?_
  refine v_bipush E d_M_laid_19 rfl ?_
  obtain ⟨q1, h⟩ := h
  refine v_icmp_ge E 54 d_M_laid_21 (by decide) q1 (by decide) (fun c1 => ?_) (fun c1 => ?_)
  · replace h := h.1 c1
    refine v_iconst E d_M_laid_54 ?_
    refine v_istoren E d_M_laid_55 rfl (by decide) (L' := [(1, .int (iI 0)), (0, .ref (adX X 0))]) rfl ?_
    refine v_sub [1, 0] (L' := [(0, .ref (adX X 0)), (1, .int (iI 0))]) rfl ?_
    obtain ⟨I2, μ2, h02, h⟩ := h
    refine v_loop1 (fun (x2 : Int) => [(0, .ref (adX X 0)), (1, .int (iI x2))]) I2 μ2 (fun x2 s4 hI2 ih2 => ?_) 0 s3 h02
    replace h := h x2 s4 hI2
    refine v_iloadn E d_M_laid_56 rfl 1 rfl ?_
    refine v_bipush E d_M_laid_57 rfl ?_
    obtain ⟨q2, h⟩ := h
    refine v_icmp_ge E 104 d_M_laid_59 (by decide) q2 (by decide) (fun c2 => ?_) (fun c2 => ?_)
    · replace h := h.1 c2
      refine v_iconst E d_M_laid_104 ?_
      refine v_istoren E d_M_laid_105 rfl (by decide) (L' := [(1, .int (iI 0)), (0, .ref (adX X 0))]) rfl ?_
      refine v_sub [1, 0] (L' := [(0, .ref (adX X 0)), (1, .int (iI 0))]) rfl ?_
      obtain ⟨I3, μ3, h03, h⟩ := h
      refine v_loop1 (fun (x3 : Int) => [(0, .ref (adX X 0)), (1, .int (iI x3))]) I3 μ3 (fun x3 s5 hI3 ih3 => ?_) 0 s4 h03
      replace h := h x3 s5 hI3
      refine v_iloadn E d_M_laid_106 rfl 1 rfl ?_
      refine v_bipush E d_M_laid_107 rfl ?_
      obtain ⟨q3, h⟩ := h
      refine v_icmp_ge E 125 d_M_laid_109 (by decide) q3 (by decide) (fun c3 => ?_) (fun c3 => ?_)
      · replace h := h.1 c3
        refine v_aloadn E d_M_laid_125 rfl 0 rfl ?_
        refine v_getA E cf9 dM_0 19 (by decide) rfl mw556 d_M_laid_126 rfl ?_
        refine v_iconst E d_M_laid_129 ?_
        refine v_aloadn E d_M_laid_130 rfl 0 rfl ?_
        refine v_getI E cf9 dM_0 4 (by decide) rfl mw477 d_M_laid_131 rfl ?_
        refine v_wt (fun wt3 => ?_)
        refine v_iast E dM_13 (by decide) (by decide) (by decide) (wt3 0 4) d_M_laid_134 ?_
        refine v_nameS (fun s6 hs6 => ?_)
        replace h := h s6 hs6
        refine v_aloadn E d_M_laid_135 rfl 0 rfl ?_
        refine v_getA E cf9 dM_0 19 (by decide) rfl mw556 d_M_laid_136 rfl ?_
        refine v_iconst E d_M_laid_139 ?_
        refine v_iconst E d_M_laid_140 ?_
        refine v_aloadn E d_M_laid_141 rfl 0 rfl ?_
        refine v_getI E cf9 dM_0 4 (by decide) rfl mw477 d_M_laid_142 rfl ?_
        refine v_ishl E d_M_laid_145 ?_
        refine v_iast E dM_13 (by decide) (by decide) (by decide) (Rng_of _) d_M_laid_146 ?_
        refine v_nameS (fun s7 hs7 => ?_)
        replace h := h s7 hs7
        refine v_aloadn E d_M_laid_147 rfl 0 rfl ?_
        refine v_iconst E d_M_laid_148 ?_
        refine v_putI E cf9 dM_0 22 (by decide) rfl rfl mw557 d_M_laid_149 rfl rfl rfl (by decide) ?_
        refine v_nameS (fun s8 hs8 => ?_)
        replace h := h s8 hs8
        refine v_aloadn E d_M_laid_152 rfl 0 rfl ?_
        refine v_iconst E d_M_laid_153 ?_
        refine v_putI E cf9 dM_0 31 (by decide) rfl rfl mw558 d_M_laid_154 rfl rfl rfl (by decide) ?_
        refine v_nameS (fun s9 hs9 => ?_)
        replace h := h s9 hs9
        refine v_aloadn E d_M_laid_157 rfl 0 rfl ?_
        refine v_iconst E d_M_laid_158 ?_
        refine v_putI E cf9 dM_0 27 (by decide) rfl rfl mw559 d_M_laid_159 rfl rfl rfl (by decide) ?_
        refine v_nameS (fun s10 hs10 => ?_)
        replace h := h s10 hs10
        exact v_vret E hR h d_M_laid_162
      · replace h := h.2 c3
        refine v_aloadn E d_M_laid_112 rfl 0 rfl ?_
        refine v_getA E cf9 dM_0 19 (by decide) rfl mw556 d_M_laid_113 rfl ?_
        refine v_iloadn E d_M_laid_116 rfl 1 rfl ?_
        refine v_iconst E d_M_laid_117 ?_
        obtain ⟨q4, h⟩ := h
        refine v_iast E dM_13 (by decide) q4.1 q4.2 (by decide) d_M_laid_118 ?_
        refine v_nameS (fun s11 hs11 => ?_)
        replace h := h s11 hs11
        refine v_iincN E d_M_laid_119 1 rfl (by decide) (fun y => [(1, .int (iI y)), (0, .ref (adX X 0))]) (fun _ => rfl) (fun x4 hx4 => ?_)
        replace h := h x4 hx4
        refine v_goto E 106 d_M_laid_122 (by decide) ?_
        obtain ⟨hb, hm⟩ := h
        exact v_sub [1, 0] rfl (ih3 x4 s11 hb hm)
    · replace h := h.2 c2
      refine v_aloadn E d_M_laid_62 rfl 0 rfl ?_
      refine v_getA E cf9 dM_0 16 (by decide) rfl mw560 d_M_laid_63 rfl ?_
      refine v_iloadn E d_M_laid_66 rfl 1 rfl ?_
      refine v_aloadn E d_M_laid_67 rfl 0 rfl ?_
      refine v_getA E cf9 dM_0 8 (by decide) rfl mw479 d_M_laid_68 rfl ?_
      refine v_iloadn E d_M_laid_71 rfl 1 rfl ?_
      obtain ⟨q5, h⟩ := h
      refine v_iald E dM_4 (by decide) q5.1 q5.2 d_M_laid_72 ?_
      refine v_wt (fun wt4 => ?_)
      refine v_iast E dM_10 (by decide) q5.1 q5.2 (wt4 4 x2) d_M_laid_73 ?_
      refine v_nameS (fun s12 hs12 => ?_)
      replace h := h s12 hs12
      refine v_aloadn E d_M_laid_74 rfl 0 rfl ?_
      refine v_getA E cf9 dM_0 17 (by decide) rfl mw561 d_M_laid_75 rfl ?_
      refine v_iloadn E d_M_laid_78 rfl 1 rfl ?_
      refine v_aloadn E d_M_laid_79 rfl 0 rfl ?_
      refine v_getA E cf9 dM_0 9 (by decide) rfl mw480 d_M_laid_80 rfl ?_
      refine v_iloadn E d_M_laid_83 rfl 1 rfl ?_
      refine v_iald E dM_5 (by decide) q5.1 q5.2 d_M_laid_84 ?_
      refine v_wt (fun wt5 => ?_)
      refine v_iast E dM_11 (by decide) q5.1 q5.2 (wt5 5 x2) d_M_laid_85 ?_
      refine v_nameS (fun s13 hs13 => ?_)
      replace h := h s13 hs13
      refine v_aloadn E d_M_laid_86 rfl 0 rfl ?_
      refine v_getA E cf9 dM_0 18 (by decide) rfl mw562 d_M_laid_87 rfl ?_
      refine v_iloadn E d_M_laid_90 rfl 1 rfl ?_
      refine v_aloadn E d_M_laid_91 rfl 0 rfl ?_
      refine v_getA E cf9 dM_0 10 (by decide) rfl mw481 d_M_laid_92 rfl ?_
      refine v_iloadn E d_M_laid_95 rfl 1 rfl ?_
      refine v_iald E dM_6 (by decide) q5.1 q5.2 d_M_laid_96 ?_
      refine v_wt (fun wt6 => ?_)
      refine v_iast E dM_12 (by decide) q5.1 q5.2 (wt6 6 x2) d_M_laid_97 ?_
      refine v_nameS (fun s14 hs14 => ?_)
      replace h := h s14 hs14
      refine v_iincN E d_M_laid_98 1 rfl (by decide) (fun y => [(1, .int (iI y)), (0, .ref (adX X 0))]) (fun _ => rfl) (fun x5 hx5 => ?_)
      replace h := h x5 hx5
      refine v_goto E 56 d_M_laid_101 (by decide) ?_
      obtain ⟨hb, hm⟩ := h
      exact v_sub [1, 0] rfl (ih2 x5 s14 hb hm)
  · replace h := h.2 c1
    refine v_aloadn E d_M_laid_24 rfl 0 rfl ?_
    refine v_getA E cf9 dM_0 14 (by decide) rfl mw563 d_M_laid_25 rfl ?_
    refine v_iloadn E d_M_laid_28 rfl 1 rfl ?_
    refine v_aloadn E d_M_laid_29 rfl 0 rfl ?_
    refine v_getA E cf9 dM_0 6 (by decide) rfl mw485 d_M_laid_30 rfl ?_
    refine v_iloadn E d_M_laid_33 rfl 1 rfl ?_
    obtain ⟨q6, h⟩ := h
    refine v_iald E dM_2 (by decide) q6.1 q6.2 d_M_laid_34 ?_
    refine v_wt (fun wt7 => ?_)
    refine v_iast E dM_8 (by decide) q6.1 q6.2 (wt7 2 x1) d_M_laid_35 ?_
    refine v_nameS (fun s15 hs15 => ?_)
    replace h := h s15 hs15
    refine v_aloadn E d_M_laid_36 rfl 0 rfl ?_
    refine v_getA E cf9 dM_0 15 (by decide) rfl mw564 d_M_laid_37 rfl ?_
    refine v_iloadn E d_M_laid_40 rfl 1 rfl ?_
    refine v_aloadn E d_M_laid_41 rfl 0 rfl ?_
    refine v_getA E cf9 dM_0 7 (by decide) rfl mw486 d_M_laid_42 rfl ?_
    refine v_iloadn E d_M_laid_45 rfl 1 rfl ?_
    refine v_iald E dM_3 (by decide) q6.1 q6.2 d_M_laid_46 ?_
    refine v_wt (fun wt8 => ?_)
    refine v_iast E dM_9 (by decide) q6.1 q6.2 (wt8 3 x1) d_M_laid_47 ?_
    refine v_nameS (fun s16 hs16 => ?_)
    replace h := h s16 hs16
    refine v_iincN E d_M_laid_48 1 rfl (by decide) (fun y => [(1, .int (iI y)), (0, .ref (adX X 0))]) (fun _ => rfl) (fun x6 hx6 => ?_)
    replace h := h x6 hx6
    refine v_goto E 18 d_M_laid_51 (by decide) ?_
    obtain ⟨hb, hm⟩ := h
    exact v_sub [1, 0] rfl (ih1 x6 s16 hb hm)
theorem d_M_lay_0 : decode prog_11_method_23_code 0 = .ok (.aload_n 0, 1) := by decide +kernel
theorem d_M_lay_1 : decode prog_11_method_23_code 1 = .ok (.invokevirtual 145, 3) := by decide +kernel
theorem d_M_lay_4 : decode prog_11_method_23_code 4 = .ok (.bipush (-4), 2) := by decide +kernel
theorem d_M_lay_6 : decode prog_11_method_23_code 6 = .ok (.if_icmp .ne 14, 3) := by decide +kernel
theorem d_M_lay_9 : decode prog_11_method_23_code 9 = .ok (.aload_n 0, 1) := by decide +kernel
theorem d_M_lay_10 : decode prog_11_method_23_code 10 = .ok (.getfield 102, 3) := by decide +kernel
theorem d_M_lay_13 : decode prog_11_method_23_code 13 = .ok (.aload_n 0, 1) := by decide +kernel
theorem d_M_lay_14 : decode prog_11_method_23_code 14 = .ok (.getfield 99, 3) := by decide +kernel
theorem d_M_lay_17 : decode prog_11_method_23_code 17 = .ok (.if_icmp .lt 6, 3) := by decide +kernel
theorem d_M_lay_20 : decode prog_11_method_23_code 20 = .ok (.bipush (-2), 2) := by decide +kernel
theorem d_M_lay_22 : decode prog_11_method_23_code 22 = .ok (.ireturn, 1) := by decide +kernel
theorem d_M_lay_23 : decode prog_11_method_23_code 23 = .ok (.aload_n 0, 1) := by decide +kernel
theorem d_M_lay_24 : decode prog_11_method_23_code 24 = .ok (.invokevirtual 96, 3) := by decide +kernel
theorem d_M_lay_27 : decode prog_11_method_23_code 27 = .ok (.aload_n 0, 1) := by decide +kernel
theorem d_M_lay_28 : decode prog_11_method_23_code 28 = .ok (.getfield 148, 3) := by decide +kernel
theorem d_M_lay_31 : decode prog_11_method_23_code 31 = .ok (.ireturn, 1) := by decide +kernel
set_option maxHeartbeats 4000000 in
set_option maxRecDepth 20000 in
theorem c_M_lay (s0 : MS) (Q : Int → MS → Prop) (h : wp_M_lay s0 Q) : MT dscM ⟨"BellSchoolModel", "lay", "()I"⟩ prog_11_method_23_code 1 (some .int) 5 (fun ad => [.ref (ad 0)]) s0 (po_I dscM Q) := by
  refine met_of (by decide) (fun _ => Nat.le_of_ble_eq_true rfl) (fun X E hR => ?_)
  replace E : EV dscM X prog_11_method_23_code "BellSchoolModel" 1 5 := E
  show VV dscM X 0 [(0, .ref (adX X 0))] [] s0
  unfold wp_M_lay at h
  refine v_aloadn E d_M_lay_0 rfl 0 rfl ?_
  refine v_callVI E md_M_faultOf (c_M_faultOf s0 _ h) dM_0 rfl ⟨by decide, by decide⟩ mw550 d_M_lay_1 (fun _ => rfl) (st := []) rfl (Nat.le_of_ble_eq_true rfl) (fun r1 s1 hr1 h => ?_)
  refine v_bipush E d_M_lay_4 rfl ?_
  refine v_icmp_ne E 20 d_M_lay_6 (by decide) hr1 (by decide) (fun c1 => ?_) (fun c1 => ?_)
  · replace h := h.1 c1
    refine v_bipush E d_M_lay_20 rfl ?_
    exact v_iret E hR rfl (by decide) h d_M_lay_22
  · replace h := h.2 c1
    refine v_aloadn E d_M_lay_9 rfl 0 rfl ?_
    refine v_getI E cf9 dM_0 4 (by decide) rfl mw477 d_M_lay_10 rfl ?_
    refine v_aloadn E d_M_lay_13 rfl 0 rfl ?_
    refine v_getI E cf9 dM_0 3 (by decide) rfl mw476 d_M_lay_14 rfl ?_
    refine v_wt (fun wt1 => ?_)
    refine v_icmp_lt E 23 d_M_lay_17 (by decide) (wt1 0 4) (wt1 0 3) (fun c2 => ?_) (fun c2 => ?_)
    · replace h := h.1 c2
      refine v_aloadn E d_M_lay_23 rfl 0 rfl ?_
      refine v_callVV E md_M_laid (c_M_laid s1 _ h) dM_0 rfl ⟨by decide, by decide⟩ mw568 d_M_lay_24 (fun _ => rfl) (st := []) rfl (Nat.le_of_ble_eq_true rfl) (fun s2 h => ?_)
      refine v_aloadn E d_M_lay_27 rfl 0 rfl ?_
      refine v_getI E cf9 dM_0 12 (by decide) rfl mw554 d_M_lay_28 rfl ?_
      refine v_wt (fun wt2 => ?_)
      exact v_iret E hR rfl (wt2 0 12) h d_M_lay_31
    · replace h := h.2 c2
      refine v_bipush E d_M_lay_20 rfl ?_
      exact v_iret E hR rfl (by decide) h d_M_lay_22
theorem d_M_isHome_0 : decode prog_11_method_24_code 0 = .ok (.iload_n 1, 1) := by decide +kernel
theorem d_M_isHome_1 : decode prog_11_method_24_code 1 = .ok (.iconst 0, 1) := by decide +kernel
theorem d_M_isHome_2 : decode prog_11_method_24_code 2 = .ok (.aload_n 0, 1) := by decide +kernel
theorem d_M_isHome_3 : decode prog_11_method_24_code 3 = .ok (.getfield 148, 3) := by decide +kernel
theorem d_M_isHome_6 : decode prog_11_method_24_code 6 = .ok (.iconst 1, 1) := by decide +kernel
theorem d_M_isHome_7 : decode prog_11_method_24_code 7 = .ok (.isub, 1) := by decide +kernel
theorem d_M_isHome_8 : decode prog_11_method_24_code 8 = .ok (.invokestatic 105, 3) := by decide +kernel
theorem d_M_isHome_11 : decode prog_11_method_24_code 11 = .ok (.ireturn, 1) := by decide +kernel
set_option maxHeartbeats 4000000 in
set_option maxRecDepth 20000 in
theorem c_M_isHome (p1 : Int) (hp1 : Rng p1) (s0 : MS) (Q : Int → Prop) (h : wp_M_isHome p1 s0 Q) : MT dscM ⟨"BellSchoolModel", "isHome", "(I)Z"⟩ prog_11_method_24_code 2 (some .boolean) 1 (fun ad => [.ref (ad 0), .int (iI p1)]) s0 (po_I dscM (fun r z => (r = 0 ∨ r = 1) ∧ z = s0 ∧ Q r)) := by
  refine met_of (by decide) (fun _ => Nat.le_of_ble_eq_true rfl) (fun X E hR => ?_)
  replace E : EV dscM X prog_11_method_24_code "BellSchoolModel" 2 1 := E
  show VV dscM X 0 [(0, .ref (adX X 0)), (1, .int (iI p1))] [] s0
  unfold wp_M_isHome at h
  refine v_iloadn E d_M_isHome_0 rfl 1 rfl ?_
  refine v_iconst E d_M_isHome_1 ?_
  refine v_aloadn E d_M_isHome_2 rfl 0 rfl ?_
  refine v_getI E cf9 dM_0 12 (by decide) rfl mw554 d_M_isHome_3 rfl ?_
  refine v_iconst E d_M_isHome_6 ?_
  refine v_isub E d_M_isHome_7 ?_
  obtain ⟨q1, h⟩ := h
  refine v_callSIpz E md_M_in (c_M_in dscM p1 hp1 0 (by decide) ((gI s0 0 12) - 1) q1 s0 _ h) ⟨by decide, by decide⟩ mw496 d_M_isHome_8 (fun _ => rfl) (st := []) rfl (Nat.le_of_ble_eq_true rfl) (fun r1 hr1 hz1 h => ?_)
  exact v_iret E hR (nar_Z hz1) (Rng_Z hz1) ⟨hz1, rfl, h⟩ d_M_isHome_11
theorem d_M_pair_0 : decode prog_11_method_25_code 0 = .ok (.iload_n 0, 1) := by decide +kernel
theorem d_M_pair_1 : decode prog_11_method_25_code 1 = .ok (.iload_n 1, 1) := by decide +kernel
theorem d_M_pair_2 : decode prog_11_method_25_code 2 = .ok (.if_icmp .ge 7, 3) := by decide +kernel
theorem d_M_pair_5 : decode prog_11_method_25_code 5 = .ok (.iload_n 0, 1) := by decide +kernel
theorem d_M_pair_6 : decode prog_11_method_25_code 6 = .ok (.goto 4, 3) := by decide +kernel
theorem d_M_pair_9 : decode prog_11_method_25_code 9 = .ok (.iload_n 1, 1) := by decide +kernel
theorem d_M_pair_10 : decode prog_11_method_25_code 10 = .ok (.istore_n 2, 1) := by decide +kernel
theorem d_M_pair_11 : decode prog_11_method_25_code 11 = .ok (.iload_n 0, 1) := by decide +kernel
theorem d_M_pair_12 : decode prog_11_method_25_code 12 = .ok (.iload_n 1, 1) := by decide +kernel
theorem d_M_pair_13 : decode prog_11_method_25_code 13 = .ok (.if_icmp .ge 7, 3) := by decide +kernel
theorem d_M_pair_16 : decode prog_11_method_25_code 16 = .ok (.iload_n 1, 1) := by decide +kernel
theorem d_M_pair_17 : decode prog_11_method_25_code 17 = .ok (.goto 4, 3) := by decide +kernel
theorem d_M_pair_20 : decode prog_11_method_25_code 20 = .ok (.iload_n 0, 1) := by decide +kernel
theorem d_M_pair_21 : decode prog_11_method_25_code 21 = .ok (.istore_n 3, 1) := by decide +kernel
theorem d_M_pair_22 : decode prog_11_method_25_code 22 = .ok (.iload_n 3, 1) := by decide +kernel
theorem d_M_pair_23 : decode prog_11_method_25_code 23 = .ok (.iload_n 3, 1) := by decide +kernel
theorem d_M_pair_24 : decode prog_11_method_25_code 24 = .ok (.iconst 1, 1) := by decide +kernel
theorem d_M_pair_25 : decode prog_11_method_25_code 25 = .ok (.isub, 1) := by decide +kernel
theorem d_M_pair_26 : decode prog_11_method_25_code 26 = .ok (.imul, 1) := by decide +kernel
theorem d_M_pair_27 : decode prog_11_method_25_code 27 = .ok (.iconst 2, 1) := by decide +kernel
theorem d_M_pair_28 : decode prog_11_method_25_code 28 = .ok (.idiv, 1) := by decide +kernel
theorem d_M_pair_29 : decode prog_11_method_25_code 29 = .ok (.iload_n 2, 1) := by decide +kernel
theorem d_M_pair_30 : decode prog_11_method_25_code 30 = .ok (.iadd, 1) := by decide +kernel
theorem d_M_pair_31 : decode prog_11_method_25_code 31 = .ok (.ireturn, 1) := by decide +kernel
set_option maxHeartbeats 4000000 in
set_option maxRecDepth 20000 in
theorem c_M_pair (dsc : List CD) (p1 : Int) (hp1 : Rng p1) (p2 : Int) (hp2 : Rng p2) (s0 : MS) (Q : Int → Prop) (h : wp_M_pair p1 p2 Q) : MT dsc ⟨"BellSchoolModel", "pair", "(II)I"⟩ prog_11_method_25_code 4 (some .int) 0 (fun ad => [.int (iI p1), .int (iI p2)]) s0 (po_I dsc (fun r z => z = s0 ∧ Q r)) := by
  refine met_of (by decide) (fun _ => Nat.le_of_ble_eq_true rfl) (fun X E hR => ?_)
  replace E : EV dsc X prog_11_method_25_code "BellSchoolModel" 4 0 := E
  show VV dsc X 0 [(0, .int (iI p1)), (1, .int (iI p2))] [] s0
  unfold wp_M_pair at h
  refine v_iloadn E d_M_pair_0 rfl 0 rfl ?_
  refine v_iloadn E d_M_pair_1 rfl 1 rfl ?_
  refine v_icmp_ge E 9 d_M_pair_2 (by decide) hp1 hp2 (fun c1 => ?_) (fun c1 => ?_)
  · replace h := h.1 c1
    refine v_iloadn E d_M_pair_9 rfl 1 rfl ?_
    refine v_istoren E d_M_pair_10 rfl (by decide) (L' := [(2, .int (iI p2)), (0, .int (iI p1)), (1, .int (iI p2))]) rfl ?_
    refine v_iloadn E d_M_pair_11 rfl 1 rfl ?_
    refine v_iloadn E d_M_pair_12 rfl 2 rfl ?_
    refine v_icmp_ge E 20 d_M_pair_13 (by decide) hp1 hp2 (fun _ => ?_) (fun hc => absurd c1 (by first | exact hc | exact fun z => hc z | exact fun z => z hc))
    refine v_iloadn E d_M_pair_20 rfl 1 rfl ?_
    refine v_istoren E d_M_pair_21 rfl (by decide) (L' := [(3, .int (iI p1)), (2, .int (iI p2)), (0, .int (iI p1)), (1, .int (iI p2))]) rfl ?_
    refine v_iloadn E d_M_pair_22 rfl 0 rfl ?_
    refine v_iloadn E d_M_pair_23 rfl 0 rfl ?_
    refine v_iconst E d_M_pair_24 ?_
    refine v_isub E d_M_pair_25 ?_
    refine v_imul E d_M_pair_26 ?_
    refine v_iconst E d_M_pair_27 ?_
    obtain ⟨q1, h⟩ := h
    refine v_idiv E d_M_pair_28 q1 (by decide) ?_
    refine v_iloadn E d_M_pair_29 rfl 1 rfl ?_
    refine v_iadd E d_M_pair_30 ?_
    obtain ⟨q2, h⟩ := h
    exact v_iret E hR rfl q2 ⟨rfl, h⟩ d_M_pair_31
  · replace h := h.2 c1
    refine v_iloadn E d_M_pair_5 rfl 0 rfl ?_
    refine v_goto E 10 d_M_pair_6 (by decide) ?_
    refine v_istoren E d_M_pair_10 rfl (by decide) (L' := [(2, .int (iI p1)), (0, .int (iI p1)), (1, .int (iI p2))]) rfl ?_
    refine v_iloadn E d_M_pair_11 rfl 1 rfl ?_
    refine v_iloadn E d_M_pair_12 rfl 2 rfl ?_
    refine v_icmp_ge E 20 d_M_pair_13 (by decide) hp1 hp2 (fun hc => absurd c1 (by first | exact hc | exact fun z => hc z | exact fun z => z hc)) (fun _ => ?_)
    refine v_iloadn E d_M_pair_16 rfl 2 rfl ?_
    refine v_goto E 21 d_M_pair_17 (by decide) ?_
    refine v_istoren E d_M_pair_21 rfl (by decide) (L' := [(3, .int (iI p2)), (2, .int (iI p1)), (0, .int (iI p1)), (1, .int (iI p2))]) rfl ?_
    refine v_iloadn E d_M_pair_22 rfl 0 rfl ?_
    refine v_iloadn E d_M_pair_23 rfl 0 rfl ?_
    refine v_iconst E d_M_pair_24 ?_
    refine v_isub E d_M_pair_25 ?_
    refine v_imul E d_M_pair_26 ?_
    refine v_iconst E d_M_pair_27 ?_
    obtain ⟨q3, h⟩ := h
    refine v_idiv E d_M_pair_28 q3 (by decide) ?_
    refine v_iloadn E d_M_pair_29 rfl 1 rfl ?_
    refine v_iadd E d_M_pair_30 ?_
    obtain ⟨q4, h⟩ := h
    exact v_iret E hR rfl q4 ⟨rfl, h⟩ d_M_pair_31
theorem d_M_isOpen_0 : decode prog_11_method_26_code 0 = .ok (.bipush 7, 2) := by decide +kernel
theorem d_M_isOpen_2 : decode prog_11_method_26_code 2 = .ok (.iload_n 2, 1) := by decide +kernel
theorem d_M_isOpen_3 : decode prog_11_method_26_code 3 = .ok (.imul, 1) := by decide +kernel
theorem d_M_isOpen_4 : decode prog_11_method_26_code 4 = .ok (.iload_n 3, 1) := by decide +kernel
theorem d_M_isOpen_5 : decode prog_11_method_26_code 5 = .ok (.iadd, 1) := by decide +kernel
theorem d_M_isOpen_6 : decode prog_11_method_26_code 6 = .ok (.istore 4, 2) := by decide +kernel
theorem d_M_isOpen_8 : decode prog_11_method_26_code 8 = .ok (.aload_n 0, 1) := by decide +kernel
theorem d_M_isOpen_9 : decode prog_11_method_26_code 9 = .ok (.getfield 37, 3) := by decide +kernel
theorem d_M_isOpen_12 : decode prog_11_method_26_code 12 = .ok (.iload 4, 2) := by decide +kernel
theorem d_M_isOpen_14 : decode prog_11_method_26_code 14 = .ok (.iaload, 1) := by decide +kernel
theorem d_M_isOpen_15 : decode prog_11_method_26_code 15 = .ok (.ifCond .le 47, 3) := by decide +kernel
theorem d_M_isOpen_18 : decode prog_11_method_26_code 18 = .ok (.aload_n 1, 1) := by decide +kernel
theorem d_M_isOpen_19 : decode prog_11_method_26_code 19 = .ok (.iconst 1, 1) := by decide +kernel
theorem d_M_isOpen_20 : decode prog_11_method_26_code 20 = .ok (.iaload, 1) := by decide +kernel
theorem d_M_isOpen_21 : decode prog_11_method_26_code 21 = .ok (.bipush 28, 2) := by decide +kernel
theorem d_M_isOpen_23 : decode prog_11_method_26_code 23 = .ok (.irem, 1) := by decide +kernel
theorem d_M_isOpen_24 : decode prog_11_method_26_code 24 = .ok (.aload_n 0, 1) := by decide +kernel
theorem d_M_isOpen_25 : decode prog_11_method_26_code 25 = .ok (.getfield 40, 3) := by decide +kernel
theorem d_M_isOpen_28 : decode prog_11_method_26_code 28 = .ok (.iload 4, 2) := by decide +kernel
theorem d_M_isOpen_30 : decode prog_11_method_26_code 30 = .ok (.iaload, 1) := by decide +kernel
theorem d_M_isOpen_31 : decode prog_11_method_26_code 31 = .ok (.aload_n 0, 1) := by decide +kernel
theorem d_M_isOpen_32 : decode prog_11_method_26_code 32 = .ok (.getfield 43, 3) := by decide +kernel
theorem d_M_isOpen_35 : decode prog_11_method_26_code 35 = .ok (.iload 4, 2) := by decide +kernel
theorem d_M_isOpen_37 : decode prog_11_method_26_code 37 = .ok (.iaload, 1) := by decide +kernel
theorem d_M_isOpen_38 : decode prog_11_method_26_code 38 = .ok (.invokestatic 105, 3) := by decide +kernel
theorem d_M_isOpen_41 : decode prog_11_method_26_code 41 = .ok (.ifCond .ne 21, 3) := by decide +kernel
theorem d_M_isOpen_44 : decode prog_11_method_26_code 44 = .ok (.aload_n 1, 1) := by decide +kernel
theorem d_M_isOpen_45 : decode prog_11_method_26_code 45 = .ok (.iconst 4, 1) := by decide +kernel
theorem d_M_isOpen_46 : decode prog_11_method_26_code 46 = .ok (.iaload, 1) := by decide +kernel
theorem d_M_isOpen_47 : decode prog_11_method_26_code 47 = .ok (.iload_n 2, 1) := by decide +kernel
theorem d_M_isOpen_48 : decode prog_11_method_26_code 48 = .ok (.iload_n 3, 1) := by decide +kernel
theorem d_M_isOpen_49 : decode prog_11_method_26_code 49 = .ok (.invokestatic 163, 3) := by decide +kernel
theorem d_M_isOpen_52 : decode prog_11_method_26_code 52 = .ok (.invokestatic 167, 3) := by decide +kernel
theorem d_M_isOpen_55 : decode prog_11_method_26_code 55 = .ok (.ifCond .ne 7, 3) := by decide +kernel
theorem d_M_isOpen_58 : decode prog_11_method_26_code 58 = .ok (.iconst 1, 1) := by decide +kernel
theorem d_M_isOpen_59 : decode prog_11_method_26_code 59 = .ok (.goto 4, 3) := by decide +kernel
theorem d_M_isOpen_62 : decode prog_11_method_26_code 62 = .ok (.iconst 0, 1) := by decide +kernel
theorem d_M_isOpen_63 : decode prog_11_method_26_code 63 = .ok (.ireturn, 1) := by decide +kernel
set_option maxHeartbeats 4000000 in
set_option maxRecDepth 20000 in
theorem c_M_isOpen (p1 : Nat) (hp1 : dscM[p1]? = some (.inl (0, 13))) (p2 : Int) (hp2 : Rng p2) (p3 : Int) (hp3 : Rng p3) (s0 : MS) (Q : Int → Prop) (h : wp_M_isOpen p1 p2 p3 s0 Q) : MT dscM ⟨"BellSchoolModel", "isOpen", "([III)Z"⟩ prog_11_method_26_code 5 (some .boolean) 1 (fun ad => [.ref (ad 0), .ref (ad p1), .int (iI p2), .int (iI p3)]) s0 (po_I dscM (fun r z => (r = 0 ∨ r = 1) ∧ z = s0 ∧ Q r)) := by
  refine met_of (by decide) (fun _ => Nat.le_of_ble_eq_true rfl) (fun X E hR => ?_)
  replace E : EV dscM X prog_11_method_26_code "BellSchoolModel" 5 1 := E
  show VV dscM X 0 [(0, .ref (adX X 0)), (1, .ref (adX X p1)), (2, .int (iI p2)), (3, .int (iI p3))] [] s0
  unfold wp_M_isOpen at h
  refine v_bipush E d_M_isOpen_0 rfl ?_
  refine v_iloadn E d_M_isOpen_2 rfl 2 rfl ?_
  refine v_imul E d_M_isOpen_3 ?_
  refine v_iloadn E d_M_isOpen_4 rfl 3 rfl ?_
  refine v_iadd E d_M_isOpen_5 ?_
  refine v_nameI (fun x1 hx1 => ?_)
  replace h := h x1 hx1
  refine v_istore E d_M_isOpen_6 (by decide) (L' := [(4, .int (iI x1)), (0, .ref (adX X 0)), (1, .ref (adX X p1)), (2, .int (iI p2)), (3, .int (iI p3))]) rfl ?_
  refine v_aloadn E d_M_isOpen_8 rfl 1 rfl ?_
  refine v_getA E cf9 dM_0 16 (by decide) rfl mw560 d_M_isOpen_9 rfl ?_
  refine v_iload E d_M_isOpen_12 0 rfl ?_
  obtain ⟨q1, h⟩ := h
  refine v_iald E dM_10 (by decide) q1.1 q1.2 d_M_isOpen_14 ?_
  refine v_wt (fun wt1 => ?_)
  refine v_if_le E 62 d_M_isOpen_15 (by decide) (wt1 10 x1) (fun c1 => ?_) (fun c1 => ?_)
  · replace h := h.1 c1
    refine v_iconst E d_M_isOpen_62 ?_
    exact v_iret E hR (nar_Z (by decide)) (Rng_Z (by decide)) ⟨(by decide), rfl, h⟩ d_M_isOpen_63
  · replace h := h.2 c1
    refine v_aloadn E d_M_isOpen_18 rfl 2 rfl ?_
    refine v_iconst E d_M_isOpen_19 ?_
    refine v_iald E hp1 (by decide) (by decide) (by decide) d_M_isOpen_20 ?_
    refine v_bipush E d_M_isOpen_21 rfl ?_
    obtain ⟨q2, h⟩ := h
    refine v_irem E d_M_isOpen_23 q2 (by decide) ?_
    refine v_aloadn E d_M_isOpen_24 rfl 1 rfl ?_
    refine v_getA E cf9 dM_0 17 (by decide) rfl mw561 d_M_isOpen_25 rfl ?_
    refine v_iload E d_M_isOpen_28 0 rfl ?_
    refine v_iald E dM_11 (by decide) q1.1 q1.2 d_M_isOpen_30 ?_
    refine v_aloadn E d_M_isOpen_31 rfl 1 rfl ?_
    refine v_getA E cf9 dM_0 18 (by decide) rfl mw562 d_M_isOpen_32 rfl ?_
    refine v_iload E d_M_isOpen_35 0 rfl ?_
    refine v_iald E dM_12 (by decide) q1.1 q1.2 d_M_isOpen_37 ?_
    refine v_callSIpz E md_M_in (c_M_in dscM ((gI s0 p1 1) % 28) (Rng_rm q2 (by decide)) (gI s0 11 x1) (wt1 11 x1) (gI s0 12 x1) (wt1 12 x1) s0 _ h) ⟨by decide, by decide⟩ mw496 d_M_isOpen_38 (fun _ => rfl) (st := []) rfl (Nat.le_of_ble_eq_true rfl) (fun r1 hr1 hz1 h => ?_)
    refine v_if_ne E 62 d_M_isOpen_41 (by decide) hr1 (fun c2 => ?_) (fun c2 => ?_)
    · replace h := h.1 c2
      refine v_iconst E d_M_isOpen_62 ?_
      exact v_iret E hR (nar_Z (by decide)) (Rng_Z (by decide)) ⟨(by decide), rfl, h⟩ d_M_isOpen_63
    · replace h := h.2 c2
      refine v_aloadn E d_M_isOpen_44 rfl 2 rfl ?_
      refine v_iconst E d_M_isOpen_45 ?_
      refine v_iald E hp1 (by decide) (by decide) (by decide) d_M_isOpen_46 ?_
      refine v_iloadn E d_M_isOpen_47 rfl 3 rfl ?_
      refine v_iloadn E d_M_isOpen_48 rfl 4 rfl ?_
      refine v_callSIp E md_M_pair (c_M_pair dscM p2 hp2 p3 hp3 s0 _ h) ⟨by decide, by decide⟩ mw577 d_M_isOpen_49 (fun _ => rfl) (st := [.int (iI (gI s0 p1 4))]) rfl (Nat.le_of_ble_eq_true rfl) (fun r2 hr2 h => ?_)
      refine v_callSIpz E md_M_has (c_M_has dscM (gI s0 p1 4) (wt1 p1 4) r2 hr2 s0 _ h) ⟨by decide, by decide⟩ mw578 d_M_isOpen_52 (fun _ => rfl) (st := []) rfl (Nat.le_of_ble_eq_true rfl) (fun r3 hr3 hz3 h => ?_)
      refine v_if_ne E 62 d_M_isOpen_55 (by decide) hr3 (fun c3 => ?_) (fun c3 => ?_)
      · replace h := h.1 c3
        refine v_iconst E d_M_isOpen_62 ?_
        exact v_iret E hR (nar_Z (by decide)) (Rng_Z (by decide)) ⟨(by decide), rfl, h⟩ d_M_isOpen_63
      · replace h := h.2 c3
        refine v_iconst E d_M_isOpen_58 ?_
        refine v_goto E 63 d_M_isOpen_59 (by decide) ?_
        exact v_iret E hR (nar_Z (by decide)) (Rng_Z (by decide)) ⟨(by decide), rfl, h⟩ d_M_isOpen_63
theorem d_M_layMinutes_0 : decode prog_11_method_27_code 0 = .ok (.iconst 0, 1) := by decide +kernel
theorem d_M_layMinutes_1 : decode prog_11_method_27_code 1 = .ok (.istore_n 3, 1) := by decide +kernel
theorem d_M_layMinutes_2 : decode prog_11_method_27_code 2 = .ok (.iload_n 3, 1) := by decide +kernel
theorem d_M_layMinutes_3 : decode prog_11_method_27_code 3 = .ok (.aload_n 0, 1) := by decide +kernel
theorem d_M_layMinutes_4 : decode prog_11_method_27_code 4 = .ok (.getfield 148, 3) := by decide +kernel
theorem d_M_layMinutes_7 : decode prog_11_method_27_code 7 = .ok (.if_icmp .ge 26, 3) := by decide +kernel
theorem d_M_layMinutes_10 : decode prog_11_method_27_code 10 = .ok (.aload_n 0, 1) := by decide +kernel
theorem d_M_layMinutes_11 : decode prog_11_method_27_code 11 = .ok (.getfield 52, 3) := by decide +kernel
theorem d_M_layMinutes_14 : decode prog_11_method_27_code 14 = .ok (.iload_n 3, 1) := by decide +kernel
theorem d_M_layMinutes_15 : decode prog_11_method_27_code 15 = .ok (.iload_n 3, 1) := by decide +kernel
theorem d_M_layMinutes_16 : decode prog_11_method_27_code 16 = .ok (.iload_n 2, 1) := by decide +kernel
theorem d_M_layMinutes_17 : decode prog_11_method_27_code 17 = .ok (.if_icmp .ne 7, 3) := by decide +kernel
theorem d_M_layMinutes_20 : decode prog_11_method_27_code 20 = .ok (.iconst 0, 1) := by decide +kernel
theorem d_M_layMinutes_21 : decode prog_11_method_27_code 21 = .ok (.goto 5, 3) := by decide +kernel
theorem d_M_layMinutes_24 : decode prog_11_method_27_code 24 = .ok (.ldc 171, 2) := by decide +kernel
theorem d_M_layMinutes_26 : decode prog_11_method_27_code 26 = .ok (.iastore, 1) := by decide +kernel
theorem d_M_layMinutes_27 : decode prog_11_method_27_code 27 = .ok (.iinc 3 1, 3) := by decide +kernel
theorem d_M_layMinutes_30 : decode prog_11_method_27_code 30 = .ok (.goto (-28), 3) := by decide +kernel
theorem d_M_layMinutes_33 : decode prog_11_method_27_code 33 = .ok (.iconst 1, 1) := by decide +kernel
theorem d_M_layMinutes_34 : decode prog_11_method_27_code 34 = .ok (.istore_n 3, 1) := by decide +kernel
theorem d_M_layMinutes_35 : decode prog_11_method_27_code 35 = .ok (.iload_n 3, 1) := by decide +kernel
theorem d_M_layMinutes_36 : decode prog_11_method_27_code 36 = .ok (.ifCond .eq 124, 3) := by decide +kernel
theorem d_M_layMinutes_39 : decode prog_11_method_27_code 39 = .ok (.iconst 0, 1) := by decide +kernel
theorem d_M_layMinutes_40 : decode prog_11_method_27_code 40 = .ok (.istore_n 3, 1) := by decide +kernel
theorem d_M_layMinutes_41 : decode prog_11_method_27_code 41 = .ok (.iconst 0, 1) := by decide +kernel
theorem d_M_layMinutes_42 : decode prog_11_method_27_code 42 = .ok (.istore 4, 2) := by decide +kernel
theorem d_M_layMinutes_44 : decode prog_11_method_27_code 44 = .ok (.iload 4, 2) := by decide +kernel
theorem d_M_layMinutes_46 : decode prog_11_method_27_code 46 = .ok (.aload_n 0, 1) := by decide +kernel
theorem d_M_layMinutes_47 : decode prog_11_method_27_code 47 = .ok (.getfield 148, 3) := by decide +kernel
theorem d_M_layMinutes_50 : decode prog_11_method_27_code 50 = .ok (.if_icmp .ge 107, 3) := by decide +kernel
theorem d_M_layMinutes_53 : decode prog_11_method_27_code 53 = .ok (.iconst 0, 1) := by decide +kernel
theorem d_M_layMinutes_54 : decode prog_11_method_27_code 54 = .ok (.istore 5, 2) := by decide +kernel
theorem d_M_layMinutes_56 : decode prog_11_method_27_code 56 = .ok (.iload 5, 2) := by decide +kernel
theorem d_M_layMinutes_58 : decode prog_11_method_27_code 58 = .ok (.aload_n 0, 1) := by decide +kernel
theorem d_M_layMinutes_59 : decode prog_11_method_27_code 59 = .ok (.getfield 148, 3) := by decide +kernel
theorem d_M_layMinutes_62 : decode prog_11_method_27_code 62 = .ok (.if_icmp .ge 89, 3) := by decide +kernel
theorem d_M_layMinutes_65 : decode prog_11_method_27_code 65 = .ok (.iload 4, 2) := by decide +kernel
theorem d_M_layMinutes_67 : decode prog_11_method_27_code 67 = .ok (.iload 5, 2) := by decide +kernel
theorem d_M_layMinutes_69 : decode prog_11_method_27_code 69 = .ok (.if_icmp .eq 76, 3) := by decide +kernel
theorem d_M_layMinutes_72 : decode prog_11_method_27_code 72 = .ok (.aload_n 0, 1) := by decide +kernel
theorem d_M_layMinutes_73 : decode prog_11_method_27_code 73 = .ok (.aload_n 1, 1) := by decide +kernel
theorem d_M_layMinutes_74 : decode prog_11_method_27_code 74 = .ok (.iload 4, 2) := by decide +kernel
theorem d_M_layMinutes_76 : decode prog_11_method_27_code 76 = .ok (.iload 5, 2) := by decide +kernel
theorem d_M_layMinutes_78 : decode prog_11_method_27_code 78 = .ok (.invokevirtual 172, 3) := by decide +kernel
theorem d_M_layMinutes_81 : decode prog_11_method_27_code 81 = .ok (.ifCond .eq 64, 3) := by decide +kernel
theorem d_M_layMinutes_84 : decode prog_11_method_27_code 84 = .ok (.aload_n 0, 1) := by decide +kernel
theorem d_M_layMinutes_85 : decode prog_11_method_27_code 85 = .ok (.getfield 52, 3) := by decide +kernel
theorem d_M_layMinutes_88 : decode prog_11_method_27_code 88 = .ok (.iload 4, 2) := by decide +kernel
theorem d_M_layMinutes_90 : decode prog_11_method_27_code 90 = .ok (.iaload, 1) := by decide +kernel
theorem d_M_layMinutes_91 : decode prog_11_method_27_code 91 = .ok (.aload_n 0, 1) := by decide +kernel
theorem d_M_layMinutes_92 : decode prog_11_method_27_code 92 = .ok (.getfield 37, 3) := by decide +kernel
theorem d_M_layMinutes_95 : decode prog_11_method_27_code 95 = .ok (.bipush 7, 2) := by decide +kernel
theorem d_M_layMinutes_97 : decode prog_11_method_27_code 97 = .ok (.iload 4, 2) := by decide +kernel
theorem d_M_layMinutes_99 : decode prog_11_method_27_code 99 = .ok (.imul, 1) := by decide +kernel
theorem d_M_layMinutes_100 : decode prog_11_method_27_code 100 = .ok (.iload 5, 2) := by decide +kernel
theorem d_M_layMinutes_102 : decode prog_11_method_27_code 102 = .ok (.iadd, 1) := by decide +kernel
theorem d_M_layMinutes_103 : decode prog_11_method_27_code 103 = .ok (.iaload, 1) := by decide +kernel
theorem d_M_layMinutes_104 : decode prog_11_method_27_code 104 = .ok (.iadd, 1) := by decide +kernel
theorem d_M_layMinutes_105 : decode prog_11_method_27_code 105 = .ok (.aload_n 0, 1) := by decide +kernel
theorem d_M_layMinutes_106 : decode prog_11_method_27_code 106 = .ok (.getfield 52, 3) := by decide +kernel
theorem d_M_layMinutes_109 : decode prog_11_method_27_code 109 = .ok (.iload 5, 2) := by decide +kernel
theorem d_M_layMinutes_111 : decode prog_11_method_27_code 111 = .ok (.iaload, 1) := by decide +kernel
theorem d_M_layMinutes_112 : decode prog_11_method_27_code 112 = .ok (.if_icmp .ge 33, 3) := by decide +kernel
theorem d_M_layMinutes_115 : decode prog_11_method_27_code 115 = .ok (.aload_n 0, 1) := by decide +kernel
theorem d_M_layMinutes_116 : decode prog_11_method_27_code 116 = .ok (.getfield 52, 3) := by decide +kernel
theorem d_M_layMinutes_119 : decode prog_11_method_27_code 119 = .ok (.iload 5, 2) := by decide +kernel
theorem d_M_layMinutes_121 : decode prog_11_method_27_code 121 = .ok (.aload_n 0, 1) := by decide +kernel
theorem d_M_layMinutes_122 : decode prog_11_method_27_code 122 = .ok (.getfield 52, 3) := by decide +kernel
theorem d_M_layMinutes_125 : decode prog_11_method_27_code 125 = .ok (.iload 4, 2) := by decide +kernel
theorem d_M_layMinutes_127 : decode prog_11_method_27_code 127 = .ok (.iaload, 1) := by decide +kernel
theorem d_M_layMinutes_128 : decode prog_11_method_27_code 128 = .ok (.aload_n 0, 1) := by decide +kernel
theorem d_M_layMinutes_129 : decode prog_11_method_27_code 129 = .ok (.getfield 37, 3) := by decide +kernel
theorem d_M_layMinutes_132 : decode prog_11_method_27_code 132 = .ok (.bipush 7, 2) := by decide +kernel
theorem d_M_layMinutes_134 : decode prog_11_method_27_code 134 = .ok (.iload 4, 2) := by decide +kernel
theorem d_M_layMinutes_136 : decode prog_11_method_27_code 136 = .ok (.imul, 1) := by decide +kernel
theorem d_M_layMinutes_137 : decode prog_11_method_27_code 137 = .ok (.iload 5, 2) := by decide +kernel
theorem d_M_layMinutes_139 : decode prog_11_method_27_code 139 = .ok (.iadd, 1) := by decide +kernel
theorem d_M_layMinutes_140 : decode prog_11_method_27_code 140 = .ok (.iaload, 1) := by decide +kernel
theorem d_M_layMinutes_141 : decode prog_11_method_27_code 141 = .ok (.iadd, 1) := by decide +kernel
theorem d_M_layMinutes_142 : decode prog_11_method_27_code 142 = .ok (.iastore, 1) := by decide +kernel
theorem d_M_layMinutes_143 : decode prog_11_method_27_code 143 = .ok (.iconst 1, 1) := by decide +kernel
theorem d_M_layMinutes_144 : decode prog_11_method_27_code 144 = .ok (.istore_n 3, 1) := by decide +kernel
theorem d_M_layMinutes_145 : decode prog_11_method_27_code 145 = .ok (.iinc 5 1, 3) := by decide +kernel
theorem d_M_layMinutes_148 : decode prog_11_method_27_code 148 = .ok (.goto (-92), 3) := by decide +kernel
theorem d_M_layMinutes_151 : decode prog_11_method_27_code 151 = .ok (.iinc 4 1, 3) := by decide +kernel
theorem d_M_layMinutes_154 : decode prog_11_method_27_code 154 = .ok (.goto (-110), 3) := by decide +kernel
theorem d_M_layMinutes_157 : decode prog_11_method_27_code 157 = .ok (.goto (-122), 3) := by decide +kernel
theorem d_M_layMinutes_160 : decode prog_11_method_27_code 160 = .ok (.return_, 1) := by decide +kernel
set_option maxHeartbeats 4000000 in
set_option maxRecDepth 20000 in
theorem c_M_layMinutes (p1 : Nat) (hp1 : dscM[p1]? = some (.inl (0, 13))) (p2 : Int) (hp2 : Rng p2) (s0 : MS) (Q : MS → Prop) (h : wp_M_layMinutes p1 p2 s0 Q) : MT dscM ⟨"BellSchoolModel", "layMinutes", "([II)V"⟩ prog_11_method_27_code 6 none 2 (fun ad => [.ref (ad 0), .ref (ad p1), .int (iI p2)]) s0 (po_V dscM Q) := by
  refine met_of (by decide) (fun _ => Nat.le_of_ble_eq_true rfl) (fun X E hR => ?_)
  replace E : EV dscM X prog_11_method_27_code "BellSchoolModel" 6 2 := E
  show VV dscM X 0 [(0, .ref (adX X 0)), (1, .ref (adX X p1)), (2, .int (iI p2))] [] s0
  unfold wp_M_layMinutes at h
  refine v_iconst E d_M_layMinutes_0 ?_
  refine v_istoren E d_M_layMinutes_1 rfl (by decide) (L' := [(3, .int (iI 0)), (0, .ref (adX X 0)), (1, .ref (adX X p1)), (2, .int (iI p2))]) rfl ?_
  refine v_sub [1, 2, 3, 0] (L' := [(0, .ref (adX X 0)), (1, .ref (adX X p1)), (2, .int (iI p2)), (3, .int (iI 0))]) rfl ?_
  obtain ⟨I1, μ1, h01, h⟩ := h
  refine v_loop1 (fun (x1 : Int) => [(0, .ref (adX X 0)), (1, .ref (adX X p1)), (2, .int (iI p2)), (3, .int (iI x1))]) I1 μ1 (fun x1 s1 hI1 ih1 => ?_) 0 s0 h01
  replace h := h x1 s1 hI1
  refine v_iloadn E d_M_layMinutes_2 rfl 3 rfl ?_
  refine v_aloadn E d_M_layMinutes_3 rfl 0 rfl ?_
  refine v_getI E cf9 dM_0 12 (by decide) rfl mw554 d_M_layMinutes_4 rfl ?_
  obtain ⟨q1, h⟩ := h
  refine v_wt (fun wt1 => ?_)
  refine v_icmp_ge E 33 d_M_layMinutes_7 (by decide) q1 (wt1 0 12) (fun c1 => ?_) (fun c1 => ?_)
  · replace h := h.1 c1
    refine v_iconst E d_M_layMinutes_33 ?_
    refine v_istoren E d_M_layMinutes_34 rfl (by decide) (L' := [(3, .int (iI 1)), (0, .ref (adX X 0)), (1, .ref (adX X p1)), (2, .int (iI p2))]) rfl ?_
    refine v_sub [1, 2, 0] (L' := [(0, .ref (adX X 0)), (1, .ref (adX X p1)), (3, .int (iI 1))]) rfl ?_
    obtain ⟨I2, μ2, h02, h⟩ := h
    refine v_loop1 (fun (x2 : Int) => [(0, .ref (adX X 0)), (1, .ref (adX X p1)), (3, .int (iI x2))]) I2 μ2 (fun x2 s2 hI2 ih2 => ?_) 1 s1 h02
    replace h := h x2 s2 hI2
    refine v_iloadn E d_M_layMinutes_35 rfl 2 rfl ?_
    obtain ⟨q2, h⟩ := h
    refine v_if_eq E 160 d_M_layMinutes_36 (by decide) q2 (fun c2 => ?_) (fun c2 => ?_)
    · replace h := h.1 c2
      exact v_vret E hR h d_M_layMinutes_160
    · replace h := h.2 c2
      refine v_iconst E d_M_layMinutes_39 ?_
      refine v_istoren E d_M_layMinutes_40 rfl (by decide) (L' := [(3, .int (iI 0)), (0, .ref (adX X 0)), (1, .ref (adX X p1))]) rfl ?_
      refine v_iconst E d_M_layMinutes_41 ?_
      refine v_istore E d_M_layMinutes_42 (by decide) (L' := [(4, .int (iI 0)), (3, .int (iI 0)), (0, .ref (adX X 0)), (1, .ref (adX X p1))]) rfl ?_
      refine v_sub [2, 3, 1, 0] (L' := [(0, .ref (adX X 0)), (1, .ref (adX X p1)), (3, .int (iI 0)), (4, .int (iI 0))]) rfl ?_
      obtain ⟨I3, μ3, h03, h⟩ := h
      refine v_loop2 (fun (x3 : Int) (x4 : Int) => [(0, .ref (adX X 0)), (1, .ref (adX X p1)), (3, .int (iI x3)), (4, .int (iI x4))]) I3 μ3 (fun x3 x4 s3 hI3 ih3 => ?_) 0 0 s2 h03
      replace h := h x3 x4 s3 hI3
      refine v_iload E d_M_layMinutes_44 3 rfl ?_
      refine v_aloadn E d_M_layMinutes_46 rfl 0 rfl ?_
      refine v_getI E cf9 dM_0 12 (by decide) rfl mw554 d_M_layMinutes_47 rfl ?_
      obtain ⟨q3, h⟩ := h
      refine v_wt (fun wt2 => ?_)
      refine v_icmp_ge E 157 d_M_layMinutes_50 (by decide) q3 (wt2 0 12) (fun c3 => ?_) (fun c3 => ?_)
      · replace h := h.1 c3
        refine v_goto E 35 d_M_layMinutes_157 (by decide) ?_
        obtain ⟨hb, hm⟩ := h
        exact v_sub [0, 1, 2] rfl (ih2 x3 s3 hb hm)
      · replace h := h.2 c3
        refine v_iconst E d_M_layMinutes_53 ?_
        refine v_istore E d_M_layMinutes_54 (by decide) (L' := [(5, .int (iI 0)), (0, .ref (adX X 0)), (1, .ref (adX X p1)), (3, .int (iI x3)), (4, .int (iI x4))]) rfl ?_
        refine v_sub [1, 2, 3, 4, 0] (L' := [(0, .ref (adX X 0)), (1, .ref (adX X p1)), (3, .int (iI x3)), (4, .int (iI x4)), (5, .int (iI 0))]) rfl ?_
        obtain ⟨I4, μ4, h04, h⟩ := h
        refine v_loop2 (fun (x5 : Int) (x6 : Int) => [(0, .ref (adX X 0)), (1, .ref (adX X p1)), (3, .int (iI x5)), (4, .int (iI x4)), (5, .int (iI x6))]) I4 μ4 (fun x5 x6 s4 hI4 ih4 => ?_) x3 0 s3 h04
        replace h := h x5 x6 s4 hI4
        refine v_iload E d_M_layMinutes_56 4 rfl ?_
        refine v_aloadn E d_M_layMinutes_58 rfl 0 rfl ?_
        refine v_getI E cf9 dM_0 12 (by decide) rfl mw554 d_M_layMinutes_59 rfl ?_
        obtain ⟨q4, h⟩ := h
        refine v_wt (fun wt3 => ?_)
        refine v_icmp_ge E 151 d_M_layMinutes_62 (by decide) q4 (wt3 0 12) (fun c4 => ?_) (fun c4 => ?_)
        · replace h := h.1 c4
          refine v_iincN E d_M_layMinutes_151 3 rfl (by decide) (fun y => [(4, .int (iI y)), (0, .ref (adX X 0)), (1, .ref (adX X p1)), (3, .int (iI x5)), (5, .int (iI x6))]) (fun _ => rfl) (fun x7 hx7 => ?_)
          replace h := h x7 hx7
          refine v_goto E 44 d_M_layMinutes_154 (by decide) ?_
          obtain ⟨hb, hm⟩ := h
          exact v_sub [1, 2, 3, 0] rfl (ih3 x5 x7 s4 hb hm)
        · replace h := h.2 c4
          refine v_iload E d_M_layMinutes_65 3 rfl ?_
          refine v_iload E d_M_layMinutes_67 4 rfl ?_
          refine v_icmp_eq E 145 d_M_layMinutes_69 (by decide) q3 q4 (fun c5 => ?_) (fun c5 => ?_)
          · replace h := h.1 c5
            refine v_iincN E d_M_layMinutes_145 4 rfl (by decide) (fun y => [(5, .int (iI y)), (0, .ref (adX X 0)), (1, .ref (adX X p1)), (3, .int (iI x5)), (4, .int (iI x4))]) (fun _ => rfl) (fun x8 hx8 => ?_)
            replace h := h x8 hx8
            refine v_goto E 56 d_M_layMinutes_148 (by decide) ?_
            obtain ⟨hb, hm⟩ := h
            exact v_sub [1, 2, 3, 4, 0] rfl (ih4 x5 x8 s4 hb hm)
          · replace h := h.2 c5
            refine v_aloadn E d_M_layMinutes_72 rfl 0 rfl ?_
            refine v_aloadn E d_M_layMinutes_73 rfl 1 rfl ?_
            refine v_iload E d_M_layMinutes_74 3 rfl ?_
            refine v_iload E d_M_layMinutes_76 4 rfl ?_
            refine v_callVIpz E md_M_isOpen (c_M_isOpen p1 hp1 x4 q3 x6 q4 s4 _ h) dM_0 rfl ⟨by decide, by decide⟩ mw582 d_M_layMinutes_78 (fun _ => rfl) (st := []) rfl (Nat.le_of_ble_eq_true rfl) (fun r1 hr1 hz1 h => ?_)
            refine v_if_eq E 145 d_M_layMinutes_81 (by decide) hr1 (fun c6 => ?_) (fun c6 => ?_)
            · replace h := h.1 c6
              refine v_iincN E d_M_layMinutes_145 4 rfl (by decide) (fun y => [(5, .int (iI y)), (0, .ref (adX X 0)), (1, .ref (adX X p1)), (3, .int (iI x5)), (4, .int (iI x4))]) (fun _ => rfl) (fun x9 hx9 => ?_)
              replace h := h x9 hx9
              refine v_goto E 56 d_M_layMinutes_148 (by decide) ?_
              obtain ⟨hb, hm⟩ := h
              exact v_sub [1, 2, 3, 4, 0] rfl (ih4 x5 x9 s4 hb hm)
            · replace h := h.2 c6
              refine v_aloadn E d_M_layMinutes_84 rfl 0 rfl ?_
              refine v_getA E cf9 dM_0 21 (by decide) rfl mw583 d_M_layMinutes_85 rfl ?_
              refine v_iload E d_M_layMinutes_88 3 rfl ?_
              obtain ⟨q5, h⟩ := h
              refine v_iald E dM_15 (by decide) q5.1 q5.2 d_M_layMinutes_90 ?_
              refine v_aloadn E d_M_layMinutes_91 rfl 0 rfl ?_
              refine v_getA E cf9 dM_0 16 (by decide) rfl mw560 d_M_layMinutes_92 rfl ?_
              refine v_bipush E d_M_layMinutes_95 rfl ?_
              refine v_iload E d_M_layMinutes_97 3 rfl ?_
              refine v_imul E d_M_layMinutes_99 ?_
              refine v_iload E d_M_layMinutes_100 4 rfl ?_
              refine v_iadd E d_M_layMinutes_102 ?_
              obtain ⟨q6, h⟩ := h
              refine v_iald E dM_10 (by decide) q6.1 q6.2 d_M_layMinutes_103 ?_
              refine v_iadd E d_M_layMinutes_104 ?_
              refine v_aloadn E d_M_layMinutes_105 rfl 0 rfl ?_
              refine v_getA E cf9 dM_0 21 (by decide) rfl mw583 d_M_layMinutes_106 rfl ?_
              refine v_iload E d_M_layMinutes_109 4 rfl ?_
              obtain ⟨q7, h⟩ := h
              refine v_iald E dM_15 (by decide) q7.1 q7.2 d_M_layMinutes_111 ?_
              obtain ⟨q8, h⟩ := h
              refine v_icmp_ge E 145 d_M_layMinutes_112 (by decide) q8 (wt3 15 x6) (fun c7 => ?_) (fun c7 => ?_)
              · replace h := h.1 c7
                refine v_iincN E d_M_layMinutes_145 4 rfl (by decide) (fun y => [(5, .int (iI y)), (0, .ref (adX X 0)), (1, .ref (adX X p1)), (3, .int (iI x5)), (4, .int (iI x4))]) (fun _ => rfl) (fun x10 hx10 => ?_)
                replace h := h x10 hx10
                refine v_goto E 56 d_M_layMinutes_148 (by decide) ?_
                obtain ⟨hb, hm⟩ := h
                exact v_sub [1, 2, 3, 4, 0] rfl (ih4 x5 x10 s4 hb hm)
              · replace h := h.2 c7
                refine v_aloadn E d_M_layMinutes_115 rfl 0 rfl ?_
                refine v_getA E cf9 dM_0 21 (by decide) rfl mw583 d_M_layMinutes_116 rfl ?_
                refine v_iload E d_M_layMinutes_119 4 rfl ?_
                refine v_aloadn E d_M_layMinutes_121 rfl 0 rfl ?_
                refine v_getA E cf9 dM_0 21 (by decide) rfl mw583 d_M_layMinutes_122 rfl ?_
                refine v_iload E d_M_layMinutes_125 3 rfl ?_
                refine v_iald E dM_15 (by decide) q5.1 q5.2 d_M_layMinutes_127 ?_
                refine v_aloadn E d_M_layMinutes_128 rfl 0 rfl ?_
                refine v_getA E cf9 dM_0 16 (by decide) rfl mw560 d_M_layMinutes_129 rfl ?_
                refine v_bipush E d_M_layMinutes_132 rfl ?_
                refine v_iload E d_M_layMinutes_134 3 rfl ?_
                refine v_imul E d_M_layMinutes_136 ?_
                refine v_iload E d_M_layMinutes_137 4 rfl ?_
                refine v_iadd E d_M_layMinutes_139 ?_
                refine v_iald E dM_10 (by decide) q6.1 q6.2 d_M_layMinutes_140 ?_
                refine v_iadd E d_M_layMinutes_141 ?_
                refine v_iast E dM_15 (by decide) q7.1 q7.2 q8 d_M_layMinutes_142 ?_
                refine v_nameS (fun s5 hs5 => ?_)
                replace h := h s5 hs5
                refine v_iconst E d_M_layMinutes_143 ?_
                refine v_istoren E d_M_layMinutes_144 rfl (by decide) (L' := [(3, .int (iI 1)), (0, .ref (adX X 0)), (1, .ref (adX X p1)), (4, .int (iI x4)), (5, .int (iI x6))]) rfl ?_
                refine v_iincN E d_M_layMinutes_145 4 rfl (by decide) (fun y => [(5, .int (iI y)), (3, .int (iI 1)), (0, .ref (adX X 0)), (1, .ref (adX X p1)), (4, .int (iI x4))]) (fun _ => rfl) (fun x11 hx11 => ?_)
                replace h := h x11 hx11
                refine v_goto E 56 d_M_layMinutes_148 (by decide) ?_
                obtain ⟨hb, hm⟩ := h
                exact v_sub [2, 3, 1, 4, 0] rfl (ih4 1 x11 s5 hb hm)
  · replace h := h.2 c1
    refine v_aloadn E d_M_layMinutes_10 rfl 0 rfl ?_
    refine v_getA E cf9 dM_0 21 (by decide) rfl mw583 d_M_layMinutes_11 rfl ?_
    refine v_iloadn E d_M_layMinutes_14 rfl 3 rfl ?_
    refine v_iloadn E d_M_layMinutes_15 rfl 3 rfl ?_
    refine v_iloadn E d_M_layMinutes_16 rfl 2 rfl ?_
    refine v_icmp_ne E 24 d_M_layMinutes_17 (by decide) q1 hp2 (fun c8 => ?_) (fun c8 => ?_)
    · replace h := h.1 c8
      refine v_ldc E (n := 1000000) mw584 rfl d_M_layMinutes_24 ?_
      obtain ⟨q9, h⟩ := h
      refine v_iast E dM_15 (by decide) q9.1 q9.2 (by decide) d_M_layMinutes_26 ?_
      refine v_nameS (fun s6 hs6 => ?_)
      replace h := h s6 hs6
      refine v_iincN E d_M_layMinutes_27 3 rfl (by decide) (fun y => [(3, .int (iI y)), (0, .ref (adX X 0)), (1, .ref (adX X p1)), (2, .int (iI p2))]) (fun _ => rfl) (fun x12 hx12 => ?_)
      replace h := h x12 hx12
      refine v_goto E 2 d_M_layMinutes_30 (by decide) ?_
      obtain ⟨hb, hm⟩ := h
      exact v_sub [1, 2, 3, 0] rfl (ih1 x12 s6 hb hm)
    · replace h := h.2 c8
      refine v_iconst E d_M_layMinutes_20 ?_
      refine v_goto E 26 d_M_layMinutes_21 (by decide) ?_
      obtain ⟨q10, h⟩ := h
      refine v_iast E dM_15 (by decide) q10.1 q10.2 (by decide) d_M_layMinutes_26 ?_
      refine v_nameS (fun s7 hs7 => ?_)
      replace h := h s7 hs7
      refine v_iincN E d_M_layMinutes_27 3 rfl (by decide) (fun y => [(3, .int (iI y)), (0, .ref (adX X 0)), (1, .ref (adX X p1)), (2, .int (iI p2))]) (fun _ => rfl) (fun x13 hx13 => ?_)
      replace h := h x13 hx13
      refine v_goto E 2 d_M_layMinutes_30 (by decide) ?_
      obtain ⟨hb, hm⟩ := h
      exact v_sub [1, 2, 3, 0] rfl (ih1 x13 s7 hb hm)
theorem d_M_arrives_0 : decode prog_11_method_28_code 0 = .ok (.aload_n 1, 1) := by decide +kernel
theorem d_M_arrives_1 : decode prog_11_method_28_code 1 = .ok (.iconst 3, 1) := by decide +kernel
theorem d_M_arrives_2 : decode prog_11_method_28_code 2 = .ok (.iaload, 1) := by decide +kernel
theorem d_M_arrives_3 : decode prog_11_method_28_code 3 = .ok (.iload_n 2, 1) := by decide +kernel
theorem d_M_arrives_4 : decode prog_11_method_28_code 4 = .ok (.invokestatic 167, 3) := by decide +kernel
theorem d_M_arrives_7 : decode prog_11_method_28_code 7 = .ok (.ifCond .ne 16, 3) := by decide +kernel
theorem d_M_arrives_10 : decode prog_11_method_28_code 10 = .ok (.aload_n 0, 1) := by decide +kernel
theorem d_M_arrives_11 : decode prog_11_method_28_code 11 = .ok (.getfield 52, 3) := by decide +kernel
theorem d_M_arrives_14 : decode prog_11_method_28_code 14 = .ok (.iload_n 2, 1) := by decide +kernel
theorem d_M_arrives_15 : decode prog_11_method_28_code 15 = .ok (.iaload, 1) := by decide +kernel
theorem d_M_arrives_16 : decode prog_11_method_28_code 16 = .ok (.aload_n 0, 1) := by decide +kernel
theorem d_M_arrives_17 : decode prog_11_method_28_code 17 = .ok (.getfield 151, 3) := by decide +kernel
theorem d_M_arrives_20 : decode prog_11_method_28_code 20 = .ok (.if_icmp .le 5, 3) := by decide +kernel
theorem d_M_arrives_23 : decode prog_11_method_28_code 23 = .ok (.iconst (-1), 1) := by decide +kernel
theorem d_M_arrives_24 : decode prog_11_method_28_code 24 = .ok (.ireturn, 1) := by decide +kernel
theorem d_M_arrives_25 : decode prog_11_method_28_code 25 = .ok (.aload_n 0, 1) := by decide +kernel
theorem d_M_arrives_26 : decode prog_11_method_28_code 26 = .ok (.getfield 52, 3) := by decide +kernel
theorem d_M_arrives_29 : decode prog_11_method_28_code 29 = .ok (.iload_n 2, 1) := by decide +kernel
theorem d_M_arrives_30 : decode prog_11_method_28_code 30 = .ok (.iaload, 1) := by decide +kernel
theorem d_M_arrives_31 : decode prog_11_method_28_code 31 = .ok (.istore_n 3, 1) := by decide +kernel
theorem d_M_arrives_32 : decode prog_11_method_28_code 32 = .ok (.aload_n 0, 1) := by decide +kernel
theorem d_M_arrives_33 : decode prog_11_method_28_code 33 = .ok (.getfield 31, 3) := by decide +kernel
theorem d_M_arrives_36 : decode prog_11_method_28_code 36 = .ok (.iload_n 2, 1) := by decide +kernel
theorem d_M_arrives_37 : decode prog_11_method_28_code 37 = .ok (.iaload, 1) := by decide +kernel
theorem d_M_arrives_38 : decode prog_11_method_28_code 38 = .ok (.iconst 1, 1) := by decide +kernel
theorem d_M_arrives_39 : decode prog_11_method_28_code 39 = .ok (.if_icmp .ne 9, 3) := by decide +kernel
theorem d_M_arrives_42 : decode prog_11_method_28_code 42 = .ok (.iconst 2, 1) := by decide +kernel
theorem d_M_arrives_43 : decode prog_11_method_28_code 43 = .ok (.iload_n 3, 1) := by decide +kernel
theorem d_M_arrives_44 : decode prog_11_method_28_code 44 = .ok (.imul, 1) := by decide +kernel
theorem d_M_arrives_45 : decode prog_11_method_28_code 45 = .ok (.goto 22, 3) := by decide +kernel
theorem d_M_arrives_48 : decode prog_11_method_28_code 48 = .ok (.aload_n 0, 1) := by decide +kernel
theorem d_M_arrives_49 : decode prog_11_method_28_code 49 = .ok (.getfield 31, 3) := by decide +kernel
theorem d_M_arrives_52 : decode prog_11_method_28_code 52 = .ok (.iload_n 2, 1) := by decide +kernel
theorem d_M_arrives_53 : decode prog_11_method_28_code 53 = .ok (.iaload, 1) := by decide +kernel
theorem d_M_arrives_54 : decode prog_11_method_28_code 54 = .ok (.iconst 2, 1) := by decide +kernel
theorem d_M_arrives_55 : decode prog_11_method_28_code 55 = .ok (.if_icmp .ne 11, 3) := by decide +kernel
theorem d_M_arrives_58 : decode prog_11_method_28_code 58 = .ok (.iconst 2, 1) := by decide +kernel
theorem d_M_arrives_59 : decode prog_11_method_28_code 59 = .ok (.iload_n 3, 1) := by decide +kernel
theorem d_M_arrives_60 : decode prog_11_method_28_code 60 = .ok (.imul, 1) := by decide +kernel
theorem d_M_arrives_61 : decode prog_11_method_28_code 61 = .ok (.iconst 3, 1) := by decide +kernel
theorem d_M_arrives_62 : decode prog_11_method_28_code 62 = .ok (.idiv, 1) := by decide +kernel
theorem d_M_arrives_63 : decode prog_11_method_28_code 63 = .ok (.goto 4, 3) := by decide +kernel
theorem d_M_arrives_66 : decode prog_11_method_28_code 66 = .ok (.iload_n 3, 1) := by decide +kernel
theorem d_M_arrives_67 : decode prog_11_method_28_code 67 = .ok (.istore 4, 2) := by decide +kernel
theorem d_M_arrives_69 : decode prog_11_method_28_code 69 = .ok (.iload_n 2, 1) := by decide +kernel
theorem d_M_arrives_70 : decode prog_11_method_28_code 70 = .ok (.aload_n 1, 1) := by decide +kernel
theorem d_M_arrives_71 : decode prog_11_method_28_code 71 = .ok (.iconst 0, 1) := by decide +kernel
theorem d_M_arrives_72 : decode prog_11_method_28_code 72 = .ok (.iaload, 1) := by decide +kernel
theorem d_M_arrives_73 : decode prog_11_method_28_code 73 = .ok (.if_icmp .ne 7, 3) := by decide +kernel
theorem d_M_arrives_76 : decode prog_11_method_28_code 76 = .ok (.iconst 0, 1) := by decide +kernel
theorem d_M_arrives_77 : decode prog_11_method_28_code 77 = .ok (.goto 29, 3) := by decide +kernel
theorem d_M_arrives_80 : decode prog_11_method_28_code 80 = .ok (.iload 4, 2) := by decide +kernel
theorem d_M_arrives_82 : decode prog_11_method_28_code 82 = .ok (.aload_n 0, 1) := by decide +kernel
theorem d_M_arrives_83 : decode prog_11_method_28_code 83 = .ok (.getfield 34, 3) := by decide +kernel
theorem d_M_arrives_86 : decode prog_11_method_28_code 86 = .ok (.iload_n 2, 1) := by decide +kernel
theorem d_M_arrives_87 : decode prog_11_method_28_code 87 = .ok (.iaload, 1) := by decide +kernel
theorem d_M_arrives_88 : decode prog_11_method_28_code 88 = .ok (.iadd, 1) := by decide +kernel
theorem d_M_arrives_89 : decode prog_11_method_28_code 89 = .ok (.aload_n 0, 1) := by decide +kernel
theorem d_M_arrives_90 : decode prog_11_method_28_code 90 = .ok (.getfield 31, 3) := by decide +kernel
theorem d_M_arrives_93 : decode prog_11_method_28_code 93 = .ok (.iload_n 2, 1) := by decide +kernel
theorem d_M_arrives_94 : decode prog_11_method_28_code 94 = .ok (.iaload, 1) := by decide +kernel
theorem d_M_arrives_95 : decode prog_11_method_28_code 95 = .ok (.iconst 3, 1) := by decide +kernel
theorem d_M_arrives_96 : decode prog_11_method_28_code 96 = .ok (.if_icmp .ne 8, 3) := by decide +kernel
theorem d_M_arrives_99 : decode prog_11_method_28_code 99 = .ok (.bipush 15, 2) := by decide +kernel
theorem d_M_arrives_101 : decode prog_11_method_28_code 101 = .ok (.goto 4, 3) := by decide +kernel
theorem d_M_arrives_104 : decode prog_11_method_28_code 104 = .ok (.iconst 0, 1) := by decide +kernel
theorem d_M_arrives_105 : decode prog_11_method_28_code 105 = .ok (.iadd, 1) := by decide +kernel
theorem d_M_arrives_106 : decode prog_11_method_28_code 106 = .ok (.istore 5, 2) := by decide +kernel
theorem d_M_arrives_108 : decode prog_11_method_28_code 108 = .ok (.iload 5, 2) := by decide +kernel
theorem d_M_arrives_110 : decode prog_11_method_28_code 110 = .ok (.aload_n 1, 1) := by decide +kernel
theorem d_M_arrives_111 : decode prog_11_method_28_code 111 = .ok (.iconst 2, 1) := by decide +kernel
theorem d_M_arrives_112 : decode prog_11_method_28_code 112 = .ok (.iaload, 1) := by decide +kernel
theorem d_M_arrives_113 : decode prog_11_method_28_code 113 = .ok (.iload_n 2, 1) := by decide +kernel
theorem d_M_arrives_114 : decode prog_11_method_28_code 114 = .ok (.invokestatic 167, 3) := by decide +kernel
theorem d_M_arrives_117 : decode prog_11_method_28_code 117 = .ok (.ifCond .eq 8, 3) := by decide +kernel
theorem d_M_arrives_120 : decode prog_11_method_28_code 120 = .ok (.bipush 20, 2) := by decide +kernel
theorem d_M_arrives_122 : decode prog_11_method_28_code 122 = .ok (.goto 4, 3) := by decide +kernel
theorem d_M_arrives_125 : decode prog_11_method_28_code 125 = .ok (.iconst 0, 1) := by decide +kernel
theorem d_M_arrives_126 : decode prog_11_method_28_code 126 = .ok (.iadd, 1) := by decide +kernel
theorem d_M_arrives_127 : decode prog_11_method_28_code 127 = .ok (.ireturn, 1) := by decide +kernel
set_option maxHeartbeats 4000000 in
set_option maxRecDepth 20000 in
theorem c_M_arrives (p1 : Nat) (hp1 : dscM[p1]? = some (.inl (0, 13))) (p2 : Int) (hp2 : Rng p2) (s0 : MS) (Q : Int → Prop) (h : wp_M_arrives p1 p2 s0 Q) : MT dscM ⟨"BellSchoolModel", "arrives", "([II)I"⟩ prog_11_method_28_code 6 (some .int) 1 (fun ad => [.ref (ad 0), .ref (ad p1), .int (iI p2)]) s0 (po_I dscM (fun r z => z = s0 ∧ Q r)) := by
  refine met_of (by decide) (fun _ => Nat.le_of_ble_eq_true rfl) (fun X E hR => ?_)
  replace E : EV dscM X prog_11_method_28_code "BellSchoolModel" 6 1 := E
  show VV dscM X 0 [(0, .ref (adX X 0)), (1, .ref (adX X p1)), (2, .int (iI p2))] [] s0
  unfold wp_M_arrives at h
  refine v_aloadn E d_M_arrives_0 rfl 1 rfl ?_
  refine v_iconst E d_M_arrives_1 ?_
  refine v_iald E hp1 (by decide) (by decide) (by decide) d_M_arrives_2 ?_
  refine v_iloadn E d_M_arrives_3 rfl 2 rfl ?_
  refine v_wt (fun wt1 => ?_)
  refine v_callSIpz E md_M_has (c_M_has dscM (gI s0 p1 3) (wt1 p1 3) p2 hp2 s0 _ h) ⟨by decide, by decide⟩ mw578 d_M_arrives_4 (fun _ => rfl) (st := []) rfl (Nat.le_of_ble_eq_true rfl) (fun r1 hr1 hz1 h => ?_)
  refine v_if_ne E 23 d_M_arrives_7 (by decide) hr1 (fun c1 => ?_) (fun c1 => ?_)
  · replace h := h.1 c1
    refine v_iconst E d_M_arrives_23 ?_
    exact v_iret E hR rfl (by decide) ⟨rfl, h⟩ d_M_arrives_24
  · replace h := h.2 c1
    refine v_aloadn E d_M_arrives_10 rfl 0 rfl ?_
    refine v_getA E cf9 dM_0 21 (by decide) rfl mw583 d_M_arrives_11 rfl ?_
    refine v_iloadn E d_M_arrives_14 rfl 2 rfl ?_
    obtain ⟨q1, h⟩ := h
    refine v_iald E dM_15 (by decide) q1.1 q1.2 d_M_arrives_15 ?_
    refine v_aloadn E d_M_arrives_16 rfl 0 rfl ?_
    refine v_getI E cf9 dM_0 13 (by decide) rfl mw555 d_M_arrives_17 rfl ?_
    refine v_icmp_le E 25 d_M_arrives_20 (by decide) (wt1 15 p2) (wt1 0 13) (fun c2 => ?_) (fun c2 => ?_)
    · replace h := h.1 c2
      refine v_aloadn E d_M_arrives_25 rfl 0 rfl ?_
      refine v_getA E cf9 dM_0 21 (by decide) rfl mw583 d_M_arrives_26 rfl ?_
      refine v_iloadn E d_M_arrives_29 rfl 2 rfl ?_
      refine v_iald E dM_15 (by decide) q1.1 q1.2 d_M_arrives_30 ?_
      refine v_istoren E d_M_arrives_31 rfl (by decide) (L' := [(3, .int (iI (gI s0 15 p2))), (0, .ref (adX X 0)), (1, .ref (adX X p1)), (2, .int (iI p2))]) rfl ?_
      refine v_aloadn E d_M_arrives_32 rfl 1 rfl ?_
      refine v_getA E cf9 dM_0 14 (by decide) rfl mw563 d_M_arrives_33 rfl ?_
      refine v_iloadn E d_M_arrives_36 rfl 3 rfl ?_
      refine v_iald E dM_8 (by decide) q1.1 q1.2 d_M_arrives_37 ?_
      refine v_iconst E d_M_arrives_38 ?_
      refine v_icmp_ne E 48 d_M_arrives_39 (by decide) (wt1 8 p2) (by decide) (fun c3 => ?_) (fun c3 => ?_)
      · replace h := h.1 c3
        refine v_aloadn E d_M_arrives_48 rfl 1 rfl ?_
        refine v_getA E cf9 dM_0 14 (by decide) rfl mw563 d_M_arrives_49 rfl ?_
        refine v_iloadn E d_M_arrives_52 rfl 3 rfl ?_
        refine v_iald E dM_8 (by decide) q1.1 q1.2 d_M_arrives_53 ?_
        refine v_iconst E d_M_arrives_54 ?_
        refine v_icmp_ne E 66 d_M_arrives_55 (by decide) (wt1 8 p2) (by decide) (fun c4 => ?_) (fun c4 => ?_)
        · replace h := h.1 c4
          refine v_iloadn E d_M_arrives_66 rfl 0 rfl ?_
          refine v_istore E d_M_arrives_67 (by decide) (L' := [(4, .int (iI (gI s0 15 p2))), (3, .int (iI (gI s0 15 p2))), (0, .ref (adX X 0)), (1, .ref (adX X p1)), (2, .int (iI p2))]) rfl ?_
          refine v_iloadn E d_M_arrives_69 rfl 4 rfl ?_
          refine v_aloadn E d_M_arrives_70 rfl 3 rfl ?_
          refine v_iconst E d_M_arrives_71 ?_
          refine v_iald E hp1 (by decide) (by decide) (by decide) d_M_arrives_72 ?_
          refine v_icmp_ne E 80 d_M_arrives_73 (by decide) hp2 (wt1 p1 0) (fun c5 => ?_) (fun c5 => ?_)
          · replace h := h.1 c5
            refine v_iload E d_M_arrives_80 0 rfl ?_
            refine v_aloadn E d_M_arrives_82 rfl 2 rfl ?_
            refine v_getA E cf9 dM_0 15 (by decide) rfl mw564 d_M_arrives_83 rfl ?_
            refine v_iloadn E d_M_arrives_86 rfl 4 rfl ?_
            refine v_iald E dM_9 (by decide) q1.1 q1.2 d_M_arrives_87 ?_
            refine v_iadd E d_M_arrives_88 ?_
            refine v_aloadn E d_M_arrives_89 rfl 2 rfl ?_
            refine v_getA E cf9 dM_0 14 (by decide) rfl mw563 d_M_arrives_90 rfl ?_
            refine v_iloadn E d_M_arrives_93 rfl 4 rfl ?_
            refine v_iald E dM_8 (by decide) q1.1 q1.2 d_M_arrives_94 ?_
            refine v_iconst E d_M_arrives_95 ?_
            refine v_icmp_ne E 104 d_M_arrives_96 (by decide) (wt1 8 p2) (by decide) (fun c6 => ?_) (fun c6 => ?_)
            · replace h := h.1 c6
              refine v_iconst E d_M_arrives_104 ?_
              refine v_iadd E d_M_arrives_105 ?_
              refine v_nameI (fun x1 hx1 => ?_)
              replace h := h x1 hx1
              refine v_istore E d_M_arrives_106 (by decide) (L' := [(5, .int (iI x1)), (4, .int (iI (gI s0 15 p2))), (3, .int (iI (gI s0 15 p2))), (0, .ref (adX X 0)), (1, .ref (adX X p1)), (2, .int (iI p2))]) rfl ?_
              refine v_iload E d_M_arrives_108 0 rfl ?_
              refine v_aloadn E d_M_arrives_110 rfl 4 rfl ?_
              refine v_iconst E d_M_arrives_111 ?_
              refine v_iald E hp1 (by decide) (by decide) (by decide) d_M_arrives_112 ?_
              refine v_iloadn E d_M_arrives_113 rfl 5 rfl ?_
              refine v_callSIpz E md_M_has (c_M_has dscM (gI s0 p1 2) (wt1 p1 2) p2 hp2 s0 _ h) ⟨by decide, by decide⟩ mw578 d_M_arrives_114 (fun _ => rfl) (st := [.int (iI x1)]) rfl (Nat.le_of_ble_eq_true rfl) (fun r2 hr2 hz2 h => ?_)
              refine v_if_eq E 125 d_M_arrives_117 (by decide) hr2 (fun c7 => ?_) (fun c7 => ?_)
              · replace h := h.1 c7
                refine v_iconst E d_M_arrives_125 ?_
                refine v_iadd E d_M_arrives_126 ?_
                obtain ⟨q2, h⟩ := h
                exact v_iret E hR rfl q2 ⟨rfl, h⟩ d_M_arrives_127
              · replace h := h.2 c7
                refine v_bipush E d_M_arrives_120 rfl ?_
                refine v_goto E 126 d_M_arrives_122 (by decide) ?_
                refine v_iadd E d_M_arrives_126 ?_
                obtain ⟨q3, h⟩ := h
                exact v_iret E hR rfl q3 ⟨rfl, h⟩ d_M_arrives_127
            · replace h := h.2 c6
              refine v_bipush E d_M_arrives_99 rfl ?_
              refine v_goto E 105 d_M_arrives_101 (by decide) ?_
              refine v_iadd E d_M_arrives_105 ?_
              refine v_nameI (fun x2 hx2 => ?_)
              replace h := h x2 hx2
              refine v_istore E d_M_arrives_106 (by decide) (L' := [(5, .int (iI x2)), (4, .int (iI (gI s0 15 p2))), (3, .int (iI (gI s0 15 p2))), (0, .ref (adX X 0)), (1, .ref (adX X p1)), (2, .int (iI p2))]) rfl ?_
              refine v_iload E d_M_arrives_108 0 rfl ?_
              refine v_aloadn E d_M_arrives_110 rfl 4 rfl ?_
              refine v_iconst E d_M_arrives_111 ?_
              refine v_iald E hp1 (by decide) (by decide) (by decide) d_M_arrives_112 ?_
              refine v_iloadn E d_M_arrives_113 rfl 5 rfl ?_
              refine v_callSIpz E md_M_has (c_M_has dscM (gI s0 p1 2) (wt1 p1 2) p2 hp2 s0 _ h) ⟨by decide, by decide⟩ mw578 d_M_arrives_114 (fun _ => rfl) (st := [.int (iI x2)]) rfl (Nat.le_of_ble_eq_true rfl) (fun r3 hr3 hz3 h => ?_)
              refine v_if_eq E 125 d_M_arrives_117 (by decide) hr3 (fun c8 => ?_) (fun c8 => ?_)
              · replace h := h.1 c8
                refine v_iconst E d_M_arrives_125 ?_
                refine v_iadd E d_M_arrives_126 ?_
                obtain ⟨q4, h⟩ := h
                exact v_iret E hR rfl q4 ⟨rfl, h⟩ d_M_arrives_127
              · replace h := h.2 c8
                refine v_bipush E d_M_arrives_120 rfl ?_
                refine v_goto E 126 d_M_arrives_122 (by decide) ?_
                refine v_iadd E d_M_arrives_126 ?_
                obtain ⟨q5, h⟩ := h
                exact v_iret E hR rfl q5 ⟨rfl, h⟩ d_M_arrives_127
          · replace h := h.2 c5
            refine v_iconst E d_M_arrives_76 ?_
            refine v_goto E 106 d_M_arrives_77 (by decide) ?_
            refine v_istore E d_M_arrives_106 (by decide) (L' := [(5, .int (iI 0)), (4, .int (iI (gI s0 15 p2))), (3, .int (iI (gI s0 15 p2))), (0, .ref (adX X 0)), (1, .ref (adX X p1)), (2, .int (iI p2))]) rfl ?_
            refine v_iload E d_M_arrives_108 0 rfl ?_
            refine v_aloadn E d_M_arrives_110 rfl 4 rfl ?_
            refine v_iconst E d_M_arrives_111 ?_
            refine v_iald E hp1 (by decide) (by decide) (by decide) d_M_arrives_112 ?_
            refine v_iloadn E d_M_arrives_113 rfl 5 rfl ?_
            refine v_callSIpz E md_M_has (c_M_has dscM (gI s0 p1 2) (wt1 p1 2) p2 hp2 s0 _ h) ⟨by decide, by decide⟩ mw578 d_M_arrives_114 (fun _ => rfl) (st := [.int (iI 0)]) rfl (Nat.le_of_ble_eq_true rfl) (fun r4 hr4 hz4 h => ?_)
            refine v_if_eq E 125 d_M_arrives_117 (by decide) hr4 (fun c9 => ?_) (fun c9 => ?_)
            · replace h := h.1 c9
              refine v_iconst E d_M_arrives_125 ?_
              refine v_iadd E d_M_arrives_126 ?_
              exact v_iret E hR rfl (by decide) ⟨rfl, h⟩ d_M_arrives_127
            · replace h := h.2 c9
              refine v_bipush E d_M_arrives_120 rfl ?_
              refine v_goto E 126 d_M_arrives_122 (by decide) ?_
              refine v_iadd E d_M_arrives_126 ?_
              exact v_iret E hR rfl (by decide) ⟨rfl, h⟩ d_M_arrives_127
        · replace h := h.2 c4
          refine v_iconst E d_M_arrives_58 ?_
          refine v_iloadn E d_M_arrives_59 rfl 0 rfl ?_
          refine v_imul E d_M_arrives_60 ?_
          refine v_iconst E d_M_arrives_61 ?_
          obtain ⟨q6, h⟩ := h
          refine v_idiv E d_M_arrives_62 q6 (by decide) ?_
          refine v_goto E 67 d_M_arrives_63 (by decide) ?_
          refine v_nameI (fun x3 hx3 => ?_)
          replace h := h x3 hx3
          refine v_istore E d_M_arrives_67 (by decide) (L' := [(4, .int (iI x3)), (3, .int (iI (gI s0 15 p2))), (0, .ref (adX X 0)), (1, .ref (adX X p1)), (2, .int (iI p2))]) rfl ?_
          refine v_iloadn E d_M_arrives_69 rfl 4 rfl ?_
          refine v_aloadn E d_M_arrives_70 rfl 3 rfl ?_
          refine v_iconst E d_M_arrives_71 ?_
          refine v_iald E hp1 (by decide) (by decide) (by decide) d_M_arrives_72 ?_
          refine v_icmp_ne E 80 d_M_arrives_73 (by decide) hp2 (wt1 p1 0) (fun c10 => ?_) (fun c10 => ?_)
          · replace h := h.1 c10
            refine v_iload E d_M_arrives_80 0 rfl ?_
            refine v_aloadn E d_M_arrives_82 rfl 2 rfl ?_
            refine v_getA E cf9 dM_0 15 (by decide) rfl mw564 d_M_arrives_83 rfl ?_
            refine v_iloadn E d_M_arrives_86 rfl 4 rfl ?_
            refine v_iald E dM_9 (by decide) q1.1 q1.2 d_M_arrives_87 ?_
            refine v_iadd E d_M_arrives_88 ?_
            refine v_aloadn E d_M_arrives_89 rfl 2 rfl ?_
            refine v_getA E cf9 dM_0 14 (by decide) rfl mw563 d_M_arrives_90 rfl ?_
            refine v_iloadn E d_M_arrives_93 rfl 4 rfl ?_
            refine v_iald E dM_8 (by decide) q1.1 q1.2 d_M_arrives_94 ?_
            refine v_iconst E d_M_arrives_95 ?_
            refine v_icmp_ne E 104 d_M_arrives_96 (by decide) (wt1 8 p2) (by decide) (fun c11 => ?_) (fun c11 => ?_)
            · replace h := h.1 c11
              refine v_iconst E d_M_arrives_104 ?_
              refine v_iadd E d_M_arrives_105 ?_
              refine v_nameI (fun x4 hx4 => ?_)
              replace h := h x4 hx4
              refine v_istore E d_M_arrives_106 (by decide) (L' := [(5, .int (iI x4)), (4, .int (iI x3)), (3, .int (iI (gI s0 15 p2))), (0, .ref (adX X 0)), (1, .ref (adX X p1)), (2, .int (iI p2))]) rfl ?_
              refine v_iload E d_M_arrives_108 0 rfl ?_
              refine v_aloadn E d_M_arrives_110 rfl 4 rfl ?_
              refine v_iconst E d_M_arrives_111 ?_
              refine v_iald E hp1 (by decide) (by decide) (by decide) d_M_arrives_112 ?_
              refine v_iloadn E d_M_arrives_113 rfl 5 rfl ?_
              refine v_callSIpz E md_M_has (c_M_has dscM (gI s0 p1 2) (wt1 p1 2) p2 hp2 s0 _ h) ⟨by decide, by decide⟩ mw578 d_M_arrives_114 (fun _ => rfl) (st := [.int (iI x4)]) rfl (Nat.le_of_ble_eq_true rfl) (fun r5 hr5 hz5 h => ?_)
              refine v_if_eq E 125 d_M_arrives_117 (by decide) hr5 (fun c12 => ?_) (fun c12 => ?_)
              · replace h := h.1 c12
                refine v_iconst E d_M_arrives_125 ?_
                refine v_iadd E d_M_arrives_126 ?_
                obtain ⟨q7, h⟩ := h
                exact v_iret E hR rfl q7 ⟨rfl, h⟩ d_M_arrives_127
              · replace h := h.2 c12
                refine v_bipush E d_M_arrives_120 rfl ?_
                refine v_goto E 126 d_M_arrives_122 (by decide) ?_
                refine v_iadd E d_M_arrives_126 ?_
                obtain ⟨q8, h⟩ := h
                exact v_iret E hR rfl q8 ⟨rfl, h⟩ d_M_arrives_127
            · replace h := h.2 c11
              refine v_bipush E d_M_arrives_99 rfl ?_
              refine v_goto E 105 d_M_arrives_101 (by decide) ?_
              refine v_iadd E d_M_arrives_105 ?_
              refine v_nameI (fun x5 hx5 => ?_)
              replace h := h x5 hx5
              refine v_istore E d_M_arrives_106 (by decide) (L' := [(5, .int (iI x5)), (4, .int (iI x3)), (3, .int (iI (gI s0 15 p2))), (0, .ref (adX X 0)), (1, .ref (adX X p1)), (2, .int (iI p2))]) rfl ?_
              refine v_iload E d_M_arrives_108 0 rfl ?_
              refine v_aloadn E d_M_arrives_110 rfl 4 rfl ?_
              refine v_iconst E d_M_arrives_111 ?_
              refine v_iald E hp1 (by decide) (by decide) (by decide) d_M_arrives_112 ?_
              refine v_iloadn E d_M_arrives_113 rfl 5 rfl ?_
              refine v_callSIpz E md_M_has (c_M_has dscM (gI s0 p1 2) (wt1 p1 2) p2 hp2 s0 _ h) ⟨by decide, by decide⟩ mw578 d_M_arrives_114 (fun _ => rfl) (st := [.int (iI x5)]) rfl (Nat.le_of_ble_eq_true rfl) (fun r6 hr6 hz6 h => ?_)
              refine v_if_eq E 125 d_M_arrives_117 (by decide) hr6 (fun c13 => ?_) (fun c13 => ?_)
              · replace h := h.1 c13
                refine v_iconst E d_M_arrives_125 ?_
                refine v_iadd E d_M_arrives_126 ?_
                obtain ⟨q9, h⟩ := h
                exact v_iret E hR rfl q9 ⟨rfl, h⟩ d_M_arrives_127
              · replace h := h.2 c13
                refine v_bipush E d_M_arrives_120 rfl ?_
                refine v_goto E 126 d_M_arrives_122 (by decide) ?_
                refine v_iadd E d_M_arrives_126 ?_
                obtain ⟨q10, h⟩ := h
                exact v_iret E hR rfl q10 ⟨rfl, h⟩ d_M_arrives_127
          · replace h := h.2 c10
            refine v_iconst E d_M_arrives_76 ?_
            refine v_goto E 106 d_M_arrives_77 (by decide) ?_
            refine v_istore E d_M_arrives_106 (by decide) (L' := [(5, .int (iI 0)), (4, .int (iI x3)), (3, .int (iI (gI s0 15 p2))), (0, .ref (adX X 0)), (1, .ref (adX X p1)), (2, .int (iI p2))]) rfl ?_
            refine v_iload E d_M_arrives_108 0 rfl ?_
            refine v_aloadn E d_M_arrives_110 rfl 4 rfl ?_
            refine v_iconst E d_M_arrives_111 ?_
            refine v_iald E hp1 (by decide) (by decide) (by decide) d_M_arrives_112 ?_
            refine v_iloadn E d_M_arrives_113 rfl 5 rfl ?_
            refine v_callSIpz E md_M_has (c_M_has dscM (gI s0 p1 2) (wt1 p1 2) p2 hp2 s0 _ h) ⟨by decide, by decide⟩ mw578 d_M_arrives_114 (fun _ => rfl) (st := [.int (iI 0)]) rfl (Nat.le_of_ble_eq_true rfl) (fun r7 hr7 hz7 h => ?_)
            refine v_if_eq E 125 d_M_arrives_117 (by decide) hr7 (fun c14 => ?_) (fun c14 => ?_)
            · replace h := h.1 c14
              refine v_iconst E d_M_arrives_125 ?_
              refine v_iadd E d_M_arrives_126 ?_
              exact v_iret E hR rfl (by decide) ⟨rfl, h⟩ d_M_arrives_127
            · replace h := h.2 c14
              refine v_bipush E d_M_arrives_120 rfl ?_
              refine v_goto E 126 d_M_arrives_122 (by decide) ?_
              refine v_iadd E d_M_arrives_126 ?_
              exact v_iret E hR rfl (by decide) ⟨rfl, h⟩ d_M_arrives_127
      · replace h := h.2 c3
        refine v_iconst E d_M_arrives_42 ?_
        refine v_iloadn E d_M_arrives_43 rfl 0 rfl ?_
        refine v_imul E d_M_arrives_44 ?_
        refine v_goto E 67 d_M_arrives_45 (by decide) ?_
        refine v_nameI (fun x6 hx6 => ?_)
        replace h := h x6 hx6
        refine v_istore E d_M_arrives_67 (by decide) (L' := [(4, .int (iI x6)), (3, .int (iI (gI s0 15 p2))), (0, .ref (adX X 0)), (1, .ref (adX X p1)), (2, .int (iI p2))]) rfl ?_
        refine v_iloadn E d_M_arrives_69 rfl 4 rfl ?_
        refine v_aloadn E d_M_arrives_70 rfl 3 rfl ?_
        refine v_iconst E d_M_arrives_71 ?_
        refine v_iald E hp1 (by decide) (by decide) (by decide) d_M_arrives_72 ?_
        refine v_icmp_ne E 80 d_M_arrives_73 (by decide) hp2 (wt1 p1 0) (fun c15 => ?_) (fun c15 => ?_)
        · replace h := h.1 c15
          refine v_iload E d_M_arrives_80 0 rfl ?_
          refine v_aloadn E d_M_arrives_82 rfl 2 rfl ?_
          refine v_getA E cf9 dM_0 15 (by decide) rfl mw564 d_M_arrives_83 rfl ?_
          refine v_iloadn E d_M_arrives_86 rfl 4 rfl ?_
          refine v_iald E dM_9 (by decide) q1.1 q1.2 d_M_arrives_87 ?_
          refine v_iadd E d_M_arrives_88 ?_
          refine v_aloadn E d_M_arrives_89 rfl 2 rfl ?_
          refine v_getA E cf9 dM_0 14 (by decide) rfl mw563 d_M_arrives_90 rfl ?_
          refine v_iloadn E d_M_arrives_93 rfl 4 rfl ?_
          refine v_iald E dM_8 (by decide) q1.1 q1.2 d_M_arrives_94 ?_
          refine v_iconst E d_M_arrives_95 ?_
          refine v_icmp_ne E 104 d_M_arrives_96 (by decide) (wt1 8 p2) (by decide) (fun c16 => ?_) (fun c16 => ?_)
          · replace h := h.1 c16
            refine v_iconst E d_M_arrives_104 ?_
            refine v_iadd E d_M_arrives_105 ?_
            refine v_nameI (fun x7 hx7 => ?_)
            replace h := h x7 hx7
            refine v_istore E d_M_arrives_106 (by decide) (L' := [(5, .int (iI x7)), (4, .int (iI x6)), (3, .int (iI (gI s0 15 p2))), (0, .ref (adX X 0)), (1, .ref (adX X p1)), (2, .int (iI p2))]) rfl ?_
            refine v_iload E d_M_arrives_108 0 rfl ?_
            refine v_aloadn E d_M_arrives_110 rfl 4 rfl ?_
            refine v_iconst E d_M_arrives_111 ?_
            refine v_iald E hp1 (by decide) (by decide) (by decide) d_M_arrives_112 ?_
            refine v_iloadn E d_M_arrives_113 rfl 5 rfl ?_
            refine v_callSIpz E md_M_has (c_M_has dscM (gI s0 p1 2) (wt1 p1 2) p2 hp2 s0 _ h) ⟨by decide, by decide⟩ mw578 d_M_arrives_114 (fun _ => rfl) (st := [.int (iI x7)]) rfl (Nat.le_of_ble_eq_true rfl) (fun r8 hr8 hz8 h => ?_)
            refine v_if_eq E 125 d_M_arrives_117 (by decide) hr8 (fun c17 => ?_) (fun c17 => ?_)
            · replace h := h.1 c17
              refine v_iconst E d_M_arrives_125 ?_
              refine v_iadd E d_M_arrives_126 ?_
              obtain ⟨q11, h⟩ := h
              exact v_iret E hR rfl q11 ⟨rfl, h⟩ d_M_arrives_127
            · replace h := h.2 c17
              refine v_bipush E d_M_arrives_120 rfl ?_
              refine v_goto E 126 d_M_arrives_122 (by decide) ?_
              refine v_iadd E d_M_arrives_126 ?_
              obtain ⟨q12, h⟩ := h
              exact v_iret E hR rfl q12 ⟨rfl, h⟩ d_M_arrives_127
          · replace h := h.2 c16
            refine v_bipush E d_M_arrives_99 rfl ?_
            refine v_goto E 105 d_M_arrives_101 (by decide) ?_
            refine v_iadd E d_M_arrives_105 ?_
            refine v_nameI (fun x8 hx8 => ?_)
            replace h := h x8 hx8
            refine v_istore E d_M_arrives_106 (by decide) (L' := [(5, .int (iI x8)), (4, .int (iI x6)), (3, .int (iI (gI s0 15 p2))), (0, .ref (adX X 0)), (1, .ref (adX X p1)), (2, .int (iI p2))]) rfl ?_
            refine v_iload E d_M_arrives_108 0 rfl ?_
            refine v_aloadn E d_M_arrives_110 rfl 4 rfl ?_
            refine v_iconst E d_M_arrives_111 ?_
            refine v_iald E hp1 (by decide) (by decide) (by decide) d_M_arrives_112 ?_
            refine v_iloadn E d_M_arrives_113 rfl 5 rfl ?_
            refine v_callSIpz E md_M_has (c_M_has dscM (gI s0 p1 2) (wt1 p1 2) p2 hp2 s0 _ h) ⟨by decide, by decide⟩ mw578 d_M_arrives_114 (fun _ => rfl) (st := [.int (iI x8)]) rfl (Nat.le_of_ble_eq_true rfl) (fun r9 hr9 hz9 h => ?_)
            refine v_if_eq E 125 d_M_arrives_117 (by decide) hr9 (fun c18 => ?_) (fun c18 => ?_)
            · replace h := h.1 c18
              refine v_iconst E d_M_arrives_125 ?_
              refine v_iadd E d_M_arrives_126 ?_
              obtain ⟨q13, h⟩ := h
              exact v_iret E hR rfl q13 ⟨rfl, h⟩ d_M_arrives_127
            · replace h := h.2 c18
              refine v_bipush E d_M_arrives_120 rfl ?_
              refine v_goto E 126 d_M_arrives_122 (by decide) ?_
              refine v_iadd E d_M_arrives_126 ?_
              obtain ⟨q14, h⟩ := h
              exact v_iret E hR rfl q14 ⟨rfl, h⟩ d_M_arrives_127
        · replace h := h.2 c15
          refine v_iconst E d_M_arrives_76 ?_
          refine v_goto E 106 d_M_arrives_77 (by decide) ?_
          refine v_istore E d_M_arrives_106 (by decide) (L' := [(5, .int (iI 0)), (4, .int (iI x6)), (3, .int (iI (gI s0 15 p2))), (0, .ref (adX X 0)), (1, .ref (adX X p1)), (2, .int (iI p2))]) rfl ?_
          refine v_iload E d_M_arrives_108 0 rfl ?_
          refine v_aloadn E d_M_arrives_110 rfl 4 rfl ?_
          refine v_iconst E d_M_arrives_111 ?_
          refine v_iald E hp1 (by decide) (by decide) (by decide) d_M_arrives_112 ?_
          refine v_iloadn E d_M_arrives_113 rfl 5 rfl ?_
          refine v_callSIpz E md_M_has (c_M_has dscM (gI s0 p1 2) (wt1 p1 2) p2 hp2 s0 _ h) ⟨by decide, by decide⟩ mw578 d_M_arrives_114 (fun _ => rfl) (st := [.int (iI 0)]) rfl (Nat.le_of_ble_eq_true rfl) (fun r10 hr10 hz10 h => ?_)
          refine v_if_eq E 125 d_M_arrives_117 (by decide) hr10 (fun c19 => ?_) (fun c19 => ?_)
          · replace h := h.1 c19
            refine v_iconst E d_M_arrives_125 ?_
            refine v_iadd E d_M_arrives_126 ?_
            exact v_iret E hR rfl (by decide) ⟨rfl, h⟩ d_M_arrives_127
          · replace h := h.2 c19
            refine v_bipush E d_M_arrives_120 rfl ?_
            refine v_goto E 126 d_M_arrives_122 (by decide) ?_
            refine v_iadd E d_M_arrives_126 ?_
            exact v_iret E hR rfl (by decide) ⟨rfl, h⟩ d_M_arrives_127
    · replace h := h.2 c2
      refine v_iconst E d_M_arrives_23 ?_
      exact v_iret E hR rfl (by decide) ⟨rfl, h⟩ d_M_arrives_24
theorem d_M_latest_0 : decode prog_11_method_29_code 0 = .ok (.aload_n 0, 1) := by decide +kernel
theorem d_M_latest_1 : decode prog_11_method_29_code 1 = .ok (.aload_n 1, 1) := by decide +kernel
theorem d_M_latest_2 : decode prog_11_method_29_code 2 = .ok (.aload_n 1, 1) := by decide +kernel
theorem d_M_latest_3 : decode prog_11_method_29_code 3 = .ok (.iconst 0, 1) := by decide +kernel
theorem d_M_latest_4 : decode prog_11_method_29_code 4 = .ok (.iaload, 1) := by decide +kernel
theorem d_M_latest_5 : decode prog_11_method_29_code 5 = .ok (.invokevirtual 176, 3) := by decide +kernel
theorem d_M_latest_8 : decode prog_11_method_29_code 8 = .ok (.bipush (-4), 2) := by decide +kernel
theorem d_M_latest_10 : decode prog_11_method_29_code 10 = .ok (.istore_n 3, 1) := by decide +kernel
theorem d_M_latest_11 : decode prog_11_method_29_code 11 = .ok (.iconst (-1), 1) := by decide +kernel
theorem d_M_latest_12 : decode prog_11_method_29_code 12 = .ok (.istore 4, 2) := by decide +kernel
theorem d_M_latest_14 : decode prog_11_method_29_code 14 = .ok (.iconst 0, 1) := by decide +kernel
theorem d_M_latest_15 : decode prog_11_method_29_code 15 = .ok (.istore 5, 2) := by decide +kernel
theorem d_M_latest_17 : decode prog_11_method_29_code 17 = .ok (.iload 5, 2) := by decide +kernel
theorem d_M_latest_19 : decode prog_11_method_29_code 19 = .ok (.aload_n 0, 1) := by decide +kernel
theorem d_M_latest_20 : decode prog_11_method_29_code 20 = .ok (.getfield 148, 3) := by decide +kernel
theorem d_M_latest_23 : decode prog_11_method_29_code 23 = .ok (.if_icmp .ge 66, 3) := by decide +kernel
theorem d_M_latest_26 : decode prog_11_method_29_code 26 = .ok (.iload_n 2, 1) := by decide +kernel
theorem d_M_latest_27 : decode prog_11_method_29_code 27 = .ok (.iload 5, 2) := by decide +kernel
theorem d_M_latest_29 : decode prog_11_method_29_code 29 = .ok (.invokestatic 167, 3) := by decide +kernel
theorem d_M_latest_32 : decode prog_11_method_29_code 32 = .ok (.ifCond .eq 7, 3) := by decide +kernel
theorem d_M_latest_35 : decode prog_11_method_29_code 35 = .ok (.iconst (-1), 1) := by decide +kernel
theorem d_M_latest_36 : decode prog_11_method_29_code 36 = .ok (.goto 10, 3) := by decide +kernel
theorem d_M_latest_39 : decode prog_11_method_29_code 39 = .ok (.aload_n 0, 1) := by decide +kernel
theorem d_M_latest_40 : decode prog_11_method_29_code 40 = .ok (.aload_n 1, 1) := by decide +kernel
theorem d_M_latest_41 : decode prog_11_method_29_code 41 = .ok (.iload 5, 2) := by decide +kernel
theorem d_M_latest_43 : decode prog_11_method_29_code 43 = .ok (.invokevirtual 180, 3) := by decide +kernel
theorem d_M_latest_46 : decode prog_11_method_29_code 46 = .ok (.istore 6, 2) := by decide +kernel
theorem d_M_latest_48 : decode prog_11_method_29_code 48 = .ok (.iload 6, 2) := by decide +kernel
theorem d_M_latest_50 : decode prog_11_method_29_code 50 = .ok (.ifCond .lt 15, 3) := by decide +kernel
theorem d_M_latest_53 : decode prog_11_method_29_code 53 = .ok (.iload 6, 2) := by decide +kernel
theorem d_M_latest_55 : decode prog_11_method_29_code 55 = .ok (.iload 4, 2) := by decide +kernel
theorem d_M_latest_57 : decode prog_11_method_29_code 57 = .ok (.if_icmp .lt 8, 3) := by decide +kernel
theorem d_M_latest_60 : decode prog_11_method_29_code 60 = .ok (.iload 5, 2) := by decide +kernel
theorem d_M_latest_62 : decode prog_11_method_29_code 62 = .ok (.goto 4, 3) := by decide +kernel
theorem d_M_latest_65 : decode prog_11_method_29_code 65 = .ok (.iload_n 3, 1) := by decide +kernel
theorem d_M_latest_66 : decode prog_11_method_29_code 66 = .ok (.istore_n 3, 1) := by decide +kernel
theorem d_M_latest_67 : decode prog_11_method_29_code 67 = .ok (.iload 6, 2) := by decide +kernel
theorem d_M_latest_69 : decode prog_11_method_29_code 69 = .ok (.iload 4, 2) := by decide +kernel
theorem d_M_latest_71 : decode prog_11_method_29_code 71 = .ok (.if_icmp .le 8, 3) := by decide +kernel
theorem d_M_latest_74 : decode prog_11_method_29_code 74 = .ok (.iload 6, 2) := by decide +kernel
theorem d_M_latest_76 : decode prog_11_method_29_code 76 = .ok (.goto 5, 3) := by decide +kernel
theorem d_M_latest_79 : decode prog_11_method_29_code 79 = .ok (.iload 4, 2) := by decide +kernel
theorem d_M_latest_81 : decode prog_11_method_29_code 81 = .ok (.istore 4, 2) := by decide +kernel
theorem d_M_latest_83 : decode prog_11_method_29_code 83 = .ok (.iinc 5 1, 3) := by decide +kernel
theorem d_M_latest_86 : decode prog_11_method_29_code 86 = .ok (.goto (-69), 3) := by decide +kernel
theorem d_M_latest_89 : decode prog_11_method_29_code 89 = .ok (.iload_n 3, 1) := by decide +kernel
theorem d_M_latest_90 : decode prog_11_method_29_code 90 = .ok (.ireturn, 1) := by decide +kernel
set_option maxHeartbeats 4000000 in
set_option maxRecDepth 20000 in
theorem c_M_latest (p1 : Nat) (hp1 : dscM[p1]? = some (.inl (0, 13))) (p2 : Int) (hp2 : Rng p2) (s0 : MS) (Q : Int → MS → Prop) (h : wp_M_latest p1 p2 s0 Q) : MT dscM ⟨"BellSchoolModel", "latest", "([II)I"⟩ prog_11_method_29_code 7 (some .int) 3 (fun ad => [.ref (ad 0), .ref (ad p1), .int (iI p2)]) s0 (po_I dscM Q) := by
  refine met_of (by decide) (fun _ => Nat.le_of_ble_eq_true rfl) (fun X E hR => ?_)
  replace E : EV dscM X prog_11_method_29_code "BellSchoolModel" 7 3 := E
  show VV dscM X 0 [(0, .ref (adX X 0)), (1, .ref (adX X p1)), (2, .int (iI p2))] [] s0
  unfold wp_M_latest at h
  refine v_aloadn E d_M_latest_0 rfl 0 rfl ?_
  refine v_aloadn E d_M_latest_1 rfl 1 rfl ?_
  refine v_aloadn E d_M_latest_2 rfl 1 rfl ?_
  refine v_iconst E d_M_latest_3 ?_
  refine v_iald E hp1 (by decide) (by decide) (by decide) d_M_latest_4 ?_
  refine v_wt (fun wt1 => ?_)
  refine v_callVV E md_M_layMinutes (c_M_layMinutes p1 hp1 (gI s0 p1 0) (wt1 p1 0) s0 _ h) dM_0 rfl ⟨by decide, by decide⟩ mw591 d_M_latest_5 (fun _ => rfl) (st := []) rfl (Nat.le_of_ble_eq_true rfl) (fun s1 h => ?_)
  refine v_bipush E d_M_latest_8 rfl ?_
  refine v_istoren E d_M_latest_10 rfl (by decide) (L' := [(3, .int (iI (-4))), (0, .ref (adX X 0)), (1, .ref (adX X p1)), (2, .int (iI p2))]) rfl ?_
  refine v_iconst E d_M_latest_11 ?_
  refine v_istore E d_M_latest_12 (by decide) (L' := [(4, .int (iI (-1))), (3, .int (iI (-4))), (0, .ref (adX X 0)), (1, .ref (adX X p1)), (2, .int (iI p2))]) rfl ?_
  refine v_iconst E d_M_latest_14 ?_
  refine v_istore E d_M_latest_15 (by decide) (L' := [(5, .int (iI 0)), (4, .int (iI (-1))), (3, .int (iI (-4))), (0, .ref (adX X 0)), (1, .ref (adX X p1)), (2, .int (iI p2))]) rfl ?_
  refine v_sub [3, 4, 5, 2, 1, 0] (L' := [(0, .ref (adX X 0)), (1, .ref (adX X p1)), (2, .int (iI p2)), (3, .int (iI (-4))), (4, .int (iI (-1))), (5, .int (iI 0))]) rfl ?_
  obtain ⟨I1, μ1, h01, h⟩ := h
  refine v_ploop3 s1 (fun (x1 : Int) (x2 : Int) (x3 : Int) => [(0, .ref (adX X 0)), (1, .ref (adX X p1)), (2, .int (iI p2)), (3, .int (iI x1)), (4, .int (iI x2)), (5, .int (iI x3))]) I1 μ1 (fun x1 x2 x3 hI1 ih1 => ?_) (-4) (-1) 0 h01
  replace h := h x1 x2 x3  hI1
  refine v_iload E d_M_latest_17 5 rfl ?_
  refine v_aloadn E d_M_latest_19 rfl 0 rfl ?_
  refine v_getI E cf9 dM_0 12 (by decide) rfl mw554 d_M_latest_20 rfl ?_
  obtain ⟨q1, h⟩ := h
  refine v_wt (fun wt2 => ?_)
  refine v_icmp_ge E 89 d_M_latest_23 (by decide) q1 (wt2 0 12) (fun c1 => ?_) (fun c1 => ?_)
  · replace h := h.1 c1
    refine v_iloadn E d_M_latest_89 rfl 3 rfl ?_
    obtain ⟨q2, h⟩ := h
    exact v_iret E hR rfl q2 h d_M_latest_90
  · replace h := h.2 c1
    refine v_iloadn E d_M_latest_26 rfl 2 rfl ?_
    refine v_iload E d_M_latest_27 5 rfl ?_
    refine v_callSIpz E md_M_has (c_M_has dscM p2 hp2 x3 q1 s1 _ h) ⟨by decide, by decide⟩ mw578 d_M_latest_29 (fun _ => rfl) (st := []) rfl (Nat.le_of_ble_eq_true rfl) (fun r2 hr2 hz2 h => ?_)
    refine v_if_eq E 39 d_M_latest_32 (by decide) hr2 (fun c2 => ?_) (fun c2 => ?_)
    · replace h := h.1 c2
      refine v_aloadn E d_M_latest_39 rfl 0 rfl ?_
      refine v_aloadn E d_M_latest_40 rfl 1 rfl ?_
      refine v_iload E d_M_latest_41 5 rfl ?_
      refine v_callVIp E md_M_arrives (c_M_arrives p1 hp1 x3 q1 s1 _ h) dM_0 rfl ⟨by decide, by decide⟩ mw592 d_M_latest_43 (fun _ => rfl) (st := []) rfl (Nat.le_of_ble_eq_true rfl) (fun r3 hr3 h => ?_)
      refine v_istore E d_M_latest_46 (by decide) (L' := [(6, .int (iI r3)), (0, .ref (adX X 0)), (1, .ref (adX X p1)), (2, .int (iI p2)), (3, .int (iI x1)), (4, .int (iI x2)), (5, .int (iI x3))]) rfl ?_
      refine v_iload E d_M_latest_48 0 rfl ?_
      refine v_if_lt E 65 d_M_latest_50 (by decide) hr3 (fun c3 => ?_) (fun c3 => ?_)
      · replace h := h.1 c3
        refine v_iloadn E d_M_latest_65 rfl 4 rfl ?_
        refine v_istoren E d_M_latest_66 rfl (by decide) (L' := [(3, .int (iI x1)), (6, .int (iI r3)), (0, .ref (adX X 0)), (1, .ref (adX X p1)), (2, .int (iI p2)), (4, .int (iI x2)), (5, .int (iI x3))]) rfl ?_
        refine v_iload E d_M_latest_67 1 rfl ?_
        refine v_iload E d_M_latest_69 5 rfl ?_
        obtain ⟨q3, h⟩ := h
        refine v_icmp_le E 79 d_M_latest_71 (by decide) hr3 q3 (fun c4 => ?_) (fun c4 => ?_)
        · replace h := h.1 c4
          refine v_iload E d_M_latest_79 5 rfl ?_
          refine v_istore E d_M_latest_81 (by decide) (L' := [(4, .int (iI x2)), (3, .int (iI x1)), (6, .int (iI r3)), (0, .ref (adX X 0)), (1, .ref (adX X p1)), (2, .int (iI p2)), (5, .int (iI x3))]) rfl ?_
          refine v_iincN E d_M_latest_83 6 rfl (by decide) (fun y => [(5, .int (iI y)), (4, .int (iI x2)), (3, .int (iI x1)), (6, .int (iI r3)), (0, .ref (adX X 0)), (1, .ref (adX X p1)), (2, .int (iI p2))]) (fun _ => rfl) (fun x4 hx4 => ?_)
          replace h := h x4 hx4
          refine v_goto E 17 d_M_latest_86 (by decide) ?_
          obtain ⟨hb, hm⟩ := h
          exact v_sub [4, 5, 6, 2, 1, 0] rfl (ih1 x1 x2 x4 hb hm)
        · replace h := h.2 c4
          refine v_iload E d_M_latest_74 1 rfl ?_
          refine v_goto E 81 d_M_latest_76 (by decide) ?_
          refine v_istore E d_M_latest_81 (by decide) (L' := [(4, .int (iI r3)), (3, .int (iI x1)), (6, .int (iI r3)), (0, .ref (adX X 0)), (1, .ref (adX X p1)), (2, .int (iI p2)), (5, .int (iI x3))]) rfl ?_
          refine v_iincN E d_M_latest_83 6 rfl (by decide) (fun y => [(5, .int (iI y)), (4, .int (iI r3)), (3, .int (iI x1)), (6, .int (iI r3)), (0, .ref (adX X 0)), (1, .ref (adX X p1)), (2, .int (iI p2))]) (fun _ => rfl) (fun x5 hx5 => ?_)
          replace h := h x5 hx5
          refine v_goto E 17 d_M_latest_86 (by decide) ?_
          obtain ⟨hb, hm⟩ := h
          exact v_sub [4, 5, 6, 2, 1, 0] rfl (ih1 x1 r3 x5 hb hm)
      · replace h := h.2 c3
        refine v_iload E d_M_latest_53 0 rfl ?_
        refine v_iload E d_M_latest_55 5 rfl ?_
        obtain ⟨q4, h⟩ := h
        refine v_icmp_lt E 65 d_M_latest_57 (by decide) hr3 q4 (fun c5 => ?_) (fun c5 => ?_)
        · replace h := h.1 c5
          refine v_iloadn E d_M_latest_65 rfl 4 rfl ?_
          refine v_istoren E d_M_latest_66 rfl (by decide) (L' := [(3, .int (iI x1)), (6, .int (iI r3)), (0, .ref (adX X 0)), (1, .ref (adX X p1)), (2, .int (iI p2)), (4, .int (iI x2)), (5, .int (iI x3))]) rfl ?_
          refine v_iload E d_M_latest_67 1 rfl ?_
          refine v_iload E d_M_latest_69 5 rfl ?_
          refine v_icmp_le E 79 d_M_latest_71 (by decide) hr3 q4 (fun c6 => ?_) (fun c6 => ?_)
          · replace h := h.1 c6
            refine v_iload E d_M_latest_79 5 rfl ?_
            refine v_istore E d_M_latest_81 (by decide) (L' := [(4, .int (iI x2)), (3, .int (iI x1)), (6, .int (iI r3)), (0, .ref (adX X 0)), (1, .ref (adX X p1)), (2, .int (iI p2)), (5, .int (iI x3))]) rfl ?_
            refine v_iincN E d_M_latest_83 6 rfl (by decide) (fun y => [(5, .int (iI y)), (4, .int (iI x2)), (3, .int (iI x1)), (6, .int (iI r3)), (0, .ref (adX X 0)), (1, .ref (adX X p1)), (2, .int (iI p2))]) (fun _ => rfl) (fun x6 hx6 => ?_)
            replace h := h x6 hx6
            refine v_goto E 17 d_M_latest_86 (by decide) ?_
            obtain ⟨hb, hm⟩ := h
            exact v_sub [4, 5, 6, 2, 1, 0] rfl (ih1 x1 x2 x6 hb hm)
          · replace h := h.2 c6
            refine v_iload E d_M_latest_74 1 rfl ?_
            refine v_goto E 81 d_M_latest_76 (by decide) ?_
            refine v_istore E d_M_latest_81 (by decide) (L' := [(4, .int (iI r3)), (3, .int (iI x1)), (6, .int (iI r3)), (0, .ref (adX X 0)), (1, .ref (adX X p1)), (2, .int (iI p2)), (5, .int (iI x3))]) rfl ?_
            refine v_iincN E d_M_latest_83 6 rfl (by decide) (fun y => [(5, .int (iI y)), (4, .int (iI r3)), (3, .int (iI x1)), (6, .int (iI r3)), (0, .ref (adX X 0)), (1, .ref (adX X p1)), (2, .int (iI p2))]) (fun _ => rfl) (fun x7 hx7 => ?_)
            replace h := h x7 hx7
            refine v_goto E 17 d_M_latest_86 (by decide) ?_
            obtain ⟨hb, hm⟩ := h
            exact v_sub [4, 5, 6, 2, 1, 0] rfl (ih1 x1 r3 x7 hb hm)
        · replace h := h.2 c5
          refine v_iload E d_M_latest_60 6 rfl ?_
          refine v_goto E 66 d_M_latest_62 (by decide) ?_
          refine v_istoren E d_M_latest_66 rfl (by decide) (L' := [(3, .int (iI x3)), (6, .int (iI r3)), (0, .ref (adX X 0)), (1, .ref (adX X p1)), (2, .int (iI p2)), (4, .int (iI x2)), (5, .int (iI x3))]) rfl ?_
          refine v_iload E d_M_latest_67 1 rfl ?_
          refine v_iload E d_M_latest_69 5 rfl ?_
          refine v_icmp_le E 79 d_M_latest_71 (by decide) hr3 q4 (fun c7 => ?_) (fun c7 => ?_)
          · replace h := h.1 c7
            refine v_iload E d_M_latest_79 5 rfl ?_
            refine v_istore E d_M_latest_81 (by decide) (L' := [(4, .int (iI x2)), (3, .int (iI x3)), (6, .int (iI r3)), (0, .ref (adX X 0)), (1, .ref (adX X p1)), (2, .int (iI p2)), (5, .int (iI x3))]) rfl ?_
            refine v_iincN E d_M_latest_83 6 rfl (by decide) (fun y => [(5, .int (iI y)), (4, .int (iI x2)), (3, .int (iI x3)), (6, .int (iI r3)), (0, .ref (adX X 0)), (1, .ref (adX X p1)), (2, .int (iI p2))]) (fun _ => rfl) (fun x8 hx8 => ?_)
            replace h := h x8 hx8
            refine v_goto E 17 d_M_latest_86 (by decide) ?_
            obtain ⟨hb, hm⟩ := h
            exact v_sub [4, 5, 6, 2, 1, 0] rfl (ih1 x3 x2 x8 hb hm)
          · replace h := h.2 c7
            refine v_iload E d_M_latest_74 1 rfl ?_
            refine v_goto E 81 d_M_latest_76 (by decide) ?_
            refine v_istore E d_M_latest_81 (by decide) (L' := [(4, .int (iI r3)), (3, .int (iI x3)), (6, .int (iI r3)), (0, .ref (adX X 0)), (1, .ref (adX X p1)), (2, .int (iI p2)), (5, .int (iI x3))]) rfl ?_
            refine v_iincN E d_M_latest_83 6 rfl (by decide) (fun y => [(5, .int (iI y)), (4, .int (iI r3)), (3, .int (iI x3)), (6, .int (iI r3)), (0, .ref (adX X 0)), (1, .ref (adX X p1)), (2, .int (iI p2))]) (fun _ => rfl) (fun x9 hx9 => ?_)
            replace h := h x9 hx9
            refine v_goto E 17 d_M_latest_86 (by decide) ?_
            obtain ⟨hb, hm⟩ := h
            exact v_sub [4, 5, 6, 2, 1, 0] rfl (ih1 x3 r3 x9 hb hm)
    · replace h := h.2 c2
      refine v_iconst E d_M_latest_35 ?_
      refine v_goto E 46 d_M_latest_36 (by decide) ?_
      refine v_istore E d_M_latest_46 (by decide) (L' := [(6, .int (iI (-1))), (0, .ref (adX X 0)), (1, .ref (adX X p1)), (2, .int (iI p2)), (3, .int (iI x1)), (4, .int (iI x2)), (5, .int (iI x3))]) rfl ?_
      refine v_iload E d_M_latest_48 0 rfl ?_
      refine v_if_lt E 65 d_M_latest_50 (by decide) (by decide) (fun _ => ?_) (fun hc => absurd hc (by decide))
      refine v_iloadn E d_M_latest_65 rfl 4 rfl ?_
      refine v_istoren E d_M_latest_66 rfl (by decide) (L' := [(3, .int (iI x1)), (6, .int (iI (-1))), (0, .ref (adX X 0)), (1, .ref (adX X p1)), (2, .int (iI p2)), (4, .int (iI x2)), (5, .int (iI x3))]) rfl ?_
      refine v_iload E d_M_latest_67 1 rfl ?_
      refine v_iload E d_M_latest_69 5 rfl ?_
      obtain ⟨q5, h⟩ := h
      refine v_icmp_le E 79 d_M_latest_71 (by decide) (by decide) q5 (fun c8 => ?_) (fun c8 => ?_)
      · replace h := h.1 c8
        refine v_iload E d_M_latest_79 5 rfl ?_
        refine v_istore E d_M_latest_81 (by decide) (L' := [(4, .int (iI x2)), (3, .int (iI x1)), (6, .int (iI (-1))), (0, .ref (adX X 0)), (1, .ref (adX X p1)), (2, .int (iI p2)), (5, .int (iI x3))]) rfl ?_
        refine v_iincN E d_M_latest_83 6 rfl (by decide) (fun y => [(5, .int (iI y)), (4, .int (iI x2)), (3, .int (iI x1)), (6, .int (iI (-1))), (0, .ref (adX X 0)), (1, .ref (adX X p1)), (2, .int (iI p2))]) (fun _ => rfl) (fun x10 hx10 => ?_)
        replace h := h x10 hx10
        refine v_goto E 17 d_M_latest_86 (by decide) ?_
        obtain ⟨hb, hm⟩ := h
        exact v_sub [4, 5, 6, 2, 1, 0] rfl (ih1 x1 x2 x10 hb hm)
      · replace h := h.2 c8
        refine v_iload E d_M_latest_74 1 rfl ?_
        refine v_goto E 81 d_M_latest_76 (by decide) ?_
        refine v_istore E d_M_latest_81 (by decide) (L' := [(4, .int (iI (-1))), (3, .int (iI x1)), (6, .int (iI (-1))), (0, .ref (adX X 0)), (1, .ref (adX X p1)), (2, .int (iI p2)), (5, .int (iI x3))]) rfl ?_
        refine v_iincN E d_M_latest_83 6 rfl (by decide) (fun y => [(5, .int (iI y)), (4, .int (iI (-1))), (3, .int (iI x1)), (6, .int (iI (-1))), (0, .ref (adX X 0)), (1, .ref (adX X p1)), (2, .int (iI p2))]) (fun _ => rfl) (fun x11 hx11 => ?_)
        replace h := h x11 hx11
        refine v_goto E 17 d_M_latest_86 (by decide) ?_
        obtain ⟨hb, hm⟩ := h
        exact v_sub [4, 5, 6, 2, 1, 0] rfl (ih1 x1 (-1) x11 hb hm)
theorem d_M_goesBy_0 : decode prog_11_method_30_code 0 = .ok (.aload_n 0, 1) := by decide +kernel
theorem d_M_goesBy_1 : decode prog_11_method_30_code 1 = .ok (.aload_n 1, 1) := by decide +kernel
theorem d_M_goesBy_2 : decode prog_11_method_30_code 2 = .ok (.iconst 0, 1) := by decide +kernel
theorem d_M_goesBy_3 : decode prog_11_method_30_code 3 = .ok (.invokevirtual 184, 3) := by decide +kernel
theorem d_M_goesBy_6 : decode prog_11_method_30_code 6 = .ok (.istore_n 2, 1) := by decide +kernel
theorem d_M_goesBy_7 : decode prog_11_method_30_code 7 = .ok (.iconst 0, 1) := by decide +kernel
theorem d_M_goesBy_8 : decode prog_11_method_30_code 8 = .ok (.istore_n 3, 1) := by decide +kernel
theorem d_M_goesBy_9 : decode prog_11_method_30_code 9 = .ok (.iload_n 3, 1) := by decide +kernel
theorem d_M_goesBy_10 : decode prog_11_method_30_code 10 = .ok (.aload_n 0, 1) := by decide +kernel
theorem d_M_goesBy_11 : decode prog_11_method_30_code 11 = .ok (.getfield 148, 3) := by decide +kernel
theorem d_M_goesBy_14 : decode prog_11_method_30_code 14 = .ok (.if_icmp .ge 34, 3) := by decide +kernel
theorem d_M_goesBy_17 : decode prog_11_method_30_code 17 = .ok (.aload_n 1, 1) := by decide +kernel
theorem d_M_goesBy_18 : decode prog_11_method_30_code 18 = .ok (.bipush 6, 2) := by decide +kernel
theorem d_M_goesBy_20 : decode prog_11_method_30_code 20 = .ok (.aload_n 1, 1) := by decide +kernel
theorem d_M_goesBy_21 : decode prog_11_method_30_code 21 = .ok (.iconst 0, 1) := by decide +kernel
theorem d_M_goesBy_22 : decode prog_11_method_30_code 22 = .ok (.iaload, 1) := by decide +kernel
theorem d_M_goesBy_23 : decode prog_11_method_30_code 23 = .ok (.iadd, 1) := by decide +kernel
theorem d_M_goesBy_24 : decode prog_11_method_30_code 24 = .ok (.dup2, 1) := by decide +kernel
theorem d_M_goesBy_25 : decode prog_11_method_30_code 25 = .ok (.iaload, 1) := by decide +kernel
theorem d_M_goesBy_26 : decode prog_11_method_30_code 26 = .ok (.aload_n 0, 1) := by decide +kernel
theorem d_M_goesBy_27 : decode prog_11_method_30_code 27 = .ok (.aload_n 1, 1) := by decide +kernel
theorem d_M_goesBy_28 : decode prog_11_method_30_code 28 = .ok (.iload_n 3, 1) := by decide +kernel
theorem d_M_goesBy_29 : decode prog_11_method_30_code 29 = .ok (.invokevirtual 180, 3) := by decide +kernel
theorem d_M_goesBy_32 : decode prog_11_method_30_code 32 = .ok (.ifCond .lt 7, 3) := by decide +kernel
theorem d_M_goesBy_35 : decode prog_11_method_30_code 35 = .ok (.iconst 1, 1) := by decide +kernel
theorem d_M_goesBy_36 : decode prog_11_method_30_code 36 = .ok (.goto 4, 3) := by decide +kernel
theorem d_M_goesBy_39 : decode prog_11_method_30_code 39 = .ok (.iconst 0, 1) := by decide +kernel
theorem d_M_goesBy_40 : decode prog_11_method_30_code 40 = .ok (.iadd, 1) := by decide +kernel
theorem d_M_goesBy_41 : decode prog_11_method_30_code 41 = .ok (.iastore, 1) := by decide +kernel
theorem d_M_goesBy_42 : decode prog_11_method_30_code 42 = .ok (.iinc 3 1, 3) := by decide +kernel
theorem d_M_goesBy_45 : decode prog_11_method_30_code 45 = .ok (.goto (-36), 3) := by decide +kernel
theorem d_M_goesBy_48 : decode prog_11_method_30_code 48 = .ok (.aload_n 1, 1) := by decide +kernel
theorem d_M_goesBy_49 : decode prog_11_method_30_code 49 = .ok (.iconst 0, 1) := by decide +kernel
theorem d_M_goesBy_50 : decode prog_11_method_30_code 50 = .ok (.iload_n 2, 1) := by decide +kernel
theorem d_M_goesBy_51 : decode prog_11_method_30_code 51 = .ok (.bipush (-4), 2) := by decide +kernel
theorem d_M_goesBy_53 : decode prog_11_method_30_code 53 = .ok (.if_icmp .ne 9, 3) := by decide +kernel
theorem d_M_goesBy_56 : decode prog_11_method_30_code 56 = .ok (.aload_n 1, 1) := by decide +kernel
theorem d_M_goesBy_57 : decode prog_11_method_30_code 57 = .ok (.iconst 0, 1) := by decide +kernel
theorem d_M_goesBy_58 : decode prog_11_method_30_code 58 = .ok (.iaload, 1) := by decide +kernel
theorem d_M_goesBy_59 : decode prog_11_method_30_code 59 = .ok (.goto 4, 3) := by decide +kernel
theorem d_M_goesBy_62 : decode prog_11_method_30_code 62 = .ok (.iload_n 2, 1) := by decide +kernel
theorem d_M_goesBy_63 : decode prog_11_method_30_code 63 = .ok (.iastore, 1) := by decide +kernel
theorem d_M_goesBy_64 : decode prog_11_method_30_code 64 = .ok (.aload_n 1, 1) := by decide +kernel
theorem d_M_goesBy_65 : decode prog_11_method_30_code 65 = .ok (.iconst 5, 1) := by decide +kernel
theorem d_M_goesBy_66 : decode prog_11_method_30_code 66 = .ok (.dup2, 1) := by decide +kernel
theorem d_M_goesBy_67 : decode prog_11_method_30_code 67 = .ok (.iaload, 1) := by decide +kernel
theorem d_M_goesBy_68 : decode prog_11_method_30_code 68 = .ok (.iconst 1, 1) := by decide +kernel
theorem d_M_goesBy_69 : decode prog_11_method_30_code 69 = .ok (.aload_n 1, 1) := by decide +kernel
theorem d_M_goesBy_70 : decode prog_11_method_30_code 70 = .ok (.iconst 0, 1) := by decide +kernel
theorem d_M_goesBy_71 : decode prog_11_method_30_code 71 = .ok (.iaload, 1) := by decide +kernel
theorem d_M_goesBy_72 : decode prog_11_method_30_code 72 = .ok (.ishl, 1) := by decide +kernel
theorem d_M_goesBy_73 : decode prog_11_method_30_code 73 = .ok (.ior, 1) := by decide +kernel
theorem d_M_goesBy_74 : decode prog_11_method_30_code 74 = .ok (.iastore, 1) := by decide +kernel
theorem d_M_goesBy_75 : decode prog_11_method_30_code 75 = .ok (.aload_n 1, 1) := by decide +kernel
theorem d_M_goesBy_76 : decode prog_11_method_30_code 76 = .ok (.iconst 2, 1) := by decide +kernel
theorem d_M_goesBy_77 : decode prog_11_method_30_code 77 = .ok (.iconst 0, 1) := by decide +kernel
theorem d_M_goesBy_78 : decode prog_11_method_30_code 78 = .ok (.iastore, 1) := by decide +kernel
theorem d_M_goesBy_79 : decode prog_11_method_30_code 79 = .ok (.aload_n 1, 1) := by decide +kernel
theorem d_M_goesBy_80 : decode prog_11_method_30_code 80 = .ok (.iconst 1, 1) := by decide +kernel
theorem d_M_goesBy_81 : decode prog_11_method_30_code 81 = .ok (.dup2, 1) := by decide +kernel
theorem d_M_goesBy_82 : decode prog_11_method_30_code 82 = .ok (.iaload, 1) := by decide +kernel
theorem d_M_goesBy_83 : decode prog_11_method_30_code 83 = .ok (.iconst 1, 1) := by decide +kernel
theorem d_M_goesBy_84 : decode prog_11_method_30_code 84 = .ok (.iadd, 1) := by decide +kernel
theorem d_M_goesBy_85 : decode prog_11_method_30_code 85 = .ok (.iastore, 1) := by decide +kernel
theorem d_M_goesBy_86 : decode prog_11_method_30_code 86 = .ok (.return_, 1) := by decide +kernel
set_option maxHeartbeats 4000000 in
set_option maxRecDepth 20000 in
theorem c_M_goesBy (p1 : Nat) (hp1 : dscM[p1]? = some (.inl (0, 13))) (s0 : MS) (Q : MS → Prop) (h : wp_M_goesBy p1 s0 Q) : MT dscM ⟨"BellSchoolModel", "goesBy", "([I)V"⟩ prog_11_method_30_code 4 none 4 (fun ad => [.ref (ad 0), .ref (ad p1)]) s0 (po_V dscM Q) := by
  refine met_of (by decide) (fun _ => Nat.le_of_ble_eq_true rfl) (fun X E hR => ?_)
  replace E : EV dscM X prog_11_method_30_code "BellSchoolModel" 4 4 := E
  show VV dscM X 0 [(0, .ref (adX X 0)), (1, .ref (adX X p1))] [] s0
  unfold wp_M_goesBy at h
  refine v_aloadn E d_M_goesBy_0 rfl 0 rfl ?_
  refine v_aloadn E d_M_goesBy_1 rfl 1 rfl ?_
  refine v_iconst E d_M_goesBy_2 ?_
  refine v_callVI E md_M_latest (c_M_latest p1 hp1 0 (by decide) s0 _ h) dM_0 rfl ⟨by decide, by decide⟩ mw596 d_M_goesBy_3 (fun _ => rfl) (st := []) rfl (Nat.le_of_ble_eq_true rfl) (fun r1 s1 hr1 h => ?_)
  refine v_istoren E d_M_goesBy_6 rfl (by decide) (L' := [(2, .int (iI r1)), (0, .ref (adX X 0)), (1, .ref (adX X p1))]) rfl ?_
  refine v_iconst E d_M_goesBy_7 ?_
  refine v_istoren E d_M_goesBy_8 rfl (by decide) (L' := [(3, .int (iI 0)), (2, .int (iI r1)), (0, .ref (adX X 0)), (1, .ref (adX X p1))]) rfl ?_
  refine v_sub [2, 3, 1, 0] (L' := [(0, .ref (adX X 0)), (1, .ref (adX X p1)), (2, .int (iI r1)), (3, .int (iI 0))]) rfl ?_
  obtain ⟨I1, μ1, h01, h⟩ := h
  refine v_loop1 (fun (x1 : Int) => [(0, .ref (adX X 0)), (1, .ref (adX X p1)), (2, .int (iI r1)), (3, .int (iI x1))]) I1 μ1 (fun x1 s2 hI1 ih1 => ?_) 0 s1 h01
  replace h := h x1 s2 hI1
  refine v_iloadn E d_M_goesBy_9 rfl 3 rfl ?_
  refine v_aloadn E d_M_goesBy_10 rfl 0 rfl ?_
  refine v_getI E cf9 dM_0 12 (by decide) rfl mw554 d_M_goesBy_11 rfl ?_
  obtain ⟨q1, h⟩ := h
  refine v_wt (fun wt1 => ?_)
  refine v_icmp_ge E 48 d_M_goesBy_14 (by decide) q1 (wt1 0 12) (fun c1 => ?_) (fun c1 => ?_)
  · replace h := h.1 c1
    refine v_aloadn E d_M_goesBy_48 rfl 1 rfl ?_
    refine v_iconst E d_M_goesBy_49 ?_
    refine v_iloadn E d_M_goesBy_50 rfl 2 rfl ?_
    refine v_bipush E d_M_goesBy_51 rfl ?_
    refine v_icmp_ne E 62 d_M_goesBy_53 (by decide) hr1 (by decide) (fun c2 => ?_) (fun c2 => ?_)
    · replace h := h.1 c2
      refine v_iloadn E d_M_goesBy_62 rfl 2 rfl ?_
      refine v_iast E hp1 (by decide) (by decide) (by decide) hr1 d_M_goesBy_63 ?_
      refine v_nameS (fun s3 hs3 => ?_)
      replace h := h s3 hs3
      refine v_aloadn E d_M_goesBy_64 rfl 1 rfl ?_
      refine v_iconst E d_M_goesBy_65 ?_
      refine v_dup2 E d_M_goesBy_66 rfl rfl ?_
      refine v_iald E hp1 (by decide) (by decide) (by decide) d_M_goesBy_67 ?_
      refine v_iconst E d_M_goesBy_68 ?_
      refine v_aloadn E d_M_goesBy_69 rfl 1 rfl ?_
      refine v_iconst E d_M_goesBy_70 ?_
      refine v_iald E hp1 (by decide) (by decide) (by decide) d_M_goesBy_71 ?_
      refine v_ishl E d_M_goesBy_72 ?_
      refine v_ior E d_M_goesBy_73 ?_
      refine v_iast E hp1 (by decide) (by decide) (by decide) (Rng_of _) d_M_goesBy_74 ?_
      refine v_nameS (fun s4 hs4 => ?_)
      replace h := h s4 hs4
      refine v_aloadn E d_M_goesBy_75 rfl 1 rfl ?_
      refine v_iconst E d_M_goesBy_76 ?_
      refine v_iconst E d_M_goesBy_77 ?_
      refine v_iast E hp1 (by decide) (by decide) (by decide) (by decide) d_M_goesBy_78 ?_
      refine v_nameS (fun s5 hs5 => ?_)
      replace h := h s5 hs5
      refine v_aloadn E d_M_goesBy_79 rfl 1 rfl ?_
      refine v_iconst E d_M_goesBy_80 ?_
      refine v_dup2 E d_M_goesBy_81 rfl rfl ?_
      refine v_iald E hp1 (by decide) (by decide) (by decide) d_M_goesBy_82 ?_
      refine v_iconst E d_M_goesBy_83 ?_
      refine v_iadd E d_M_goesBy_84 ?_
      obtain ⟨q2, h⟩ := h
      refine v_iast E hp1 (by decide) (by decide) (by decide) q2 d_M_goesBy_85 ?_
      refine v_nameS (fun s6 hs6 => ?_)
      replace h := h s6 hs6
      exact v_vret E hR h d_M_goesBy_86
    · replace h := h.2 c2
      refine v_aloadn E d_M_goesBy_56 rfl 1 rfl ?_
      refine v_iconst E d_M_goesBy_57 ?_
      refine v_iald E hp1 (by decide) (by decide) (by decide) d_M_goesBy_58 ?_
      refine v_goto E 63 d_M_goesBy_59 (by decide) ?_
      refine v_iast E hp1 (by decide) (by decide) (by decide) (wt1 p1 0) d_M_goesBy_63 ?_
      refine v_nameS (fun s7 hs7 => ?_)
      replace h := h s7 hs7
      refine v_aloadn E d_M_goesBy_64 rfl 1 rfl ?_
      refine v_iconst E d_M_goesBy_65 ?_
      refine v_dup2 E d_M_goesBy_66 rfl rfl ?_
      refine v_iald E hp1 (by decide) (by decide) (by decide) d_M_goesBy_67 ?_
      refine v_iconst E d_M_goesBy_68 ?_
      refine v_aloadn E d_M_goesBy_69 rfl 1 rfl ?_
      refine v_iconst E d_M_goesBy_70 ?_
      refine v_iald E hp1 (by decide) (by decide) (by decide) d_M_goesBy_71 ?_
      refine v_ishl E d_M_goesBy_72 ?_
      refine v_ior E d_M_goesBy_73 ?_
      refine v_iast E hp1 (by decide) (by decide) (by decide) (Rng_of _) d_M_goesBy_74 ?_
      refine v_nameS (fun s8 hs8 => ?_)
      replace h := h s8 hs8
      refine v_aloadn E d_M_goesBy_75 rfl 1 rfl ?_
      refine v_iconst E d_M_goesBy_76 ?_
      refine v_iconst E d_M_goesBy_77 ?_
      refine v_iast E hp1 (by decide) (by decide) (by decide) (by decide) d_M_goesBy_78 ?_
      refine v_nameS (fun s9 hs9 => ?_)
      replace h := h s9 hs9
      refine v_aloadn E d_M_goesBy_79 rfl 1 rfl ?_
      refine v_iconst E d_M_goesBy_80 ?_
      refine v_dup2 E d_M_goesBy_81 rfl rfl ?_
      refine v_iald E hp1 (by decide) (by decide) (by decide) d_M_goesBy_82 ?_
      refine v_iconst E d_M_goesBy_83 ?_
      refine v_iadd E d_M_goesBy_84 ?_
      obtain ⟨q3, h⟩ := h
      refine v_iast E hp1 (by decide) (by decide) (by decide) q3 d_M_goesBy_85 ?_
      refine v_nameS (fun s10 hs10 => ?_)
      replace h := h s10 hs10
      exact v_vret E hR h d_M_goesBy_86
  · replace h := h.2 c1
    refine v_aloadn E d_M_goesBy_17 rfl 1 rfl ?_
    refine v_bipush E d_M_goesBy_18 rfl ?_
    refine v_aloadn E d_M_goesBy_20 rfl 1 rfl ?_
    refine v_iconst E d_M_goesBy_21 ?_
    refine v_iald E hp1 (by decide) (by decide) (by decide) d_M_goesBy_22 ?_
    refine v_iadd E d_M_goesBy_23 ?_
    refine v_dup2 E d_M_goesBy_24 rfl rfl ?_
    obtain ⟨q4, h⟩ := h
    refine v_iald E hp1 (by decide) q4.1 q4.2 d_M_goesBy_25 ?_
    refine v_aloadn E d_M_goesBy_26 rfl 0 rfl ?_
    refine v_aloadn E d_M_goesBy_27 rfl 1 rfl ?_
    refine v_iloadn E d_M_goesBy_28 rfl 3 rfl ?_
    refine v_callVIp E md_M_arrives (c_M_arrives p1 hp1 x1 q1 s2 _ h) dM_0 rfl ⟨by decide, by decide⟩ mw592 d_M_goesBy_29 (fun _ => rfl) (st := [.int (iI (gI s2 p1 (6 + (gI s2 p1 0)))), .int (iI (6 + (gI s2 p1 0))), .ref (adX X p1)]) rfl (Nat.le_of_ble_eq_true rfl) (fun r2 hr2 h => ?_)
    refine v_if_lt E 39 d_M_goesBy_32 (by decide) hr2 (fun c3 => ?_) (fun c3 => ?_)
    · replace h := h.1 c3
      refine v_iconst E d_M_goesBy_39 ?_
      refine v_iadd E d_M_goesBy_40 ?_
      obtain ⟨q5, h⟩ := h
      refine v_iast E hp1 (by decide) q4.1 q4.2 q5 d_M_goesBy_41 ?_
      refine v_nameS (fun s11 hs11 => ?_)
      replace h := h s11 hs11
      refine v_iincN E d_M_goesBy_42 3 rfl (by decide) (fun y => [(3, .int (iI y)), (0, .ref (adX X 0)), (1, .ref (adX X p1)), (2, .int (iI r1))]) (fun _ => rfl) (fun x2 hx2 => ?_)
      replace h := h x2 hx2
      refine v_goto E 9 d_M_goesBy_45 (by decide) ?_
      obtain ⟨hb, hm⟩ := h
      exact v_sub [1, 2, 3, 0] rfl (ih1 x2 s11 hb hm)
    · replace h := h.2 c3
      refine v_iconst E d_M_goesBy_35 ?_
      refine v_goto E 40 d_M_goesBy_36 (by decide) ?_
      refine v_iadd E d_M_goesBy_40 ?_
      obtain ⟨q6, h⟩ := h
      refine v_iast E hp1 (by decide) q4.1 q4.2 q6 d_M_goesBy_41 ?_
      refine v_nameS (fun s12 hs12 => ?_)
      replace h := h s12 hs12
      refine v_iincN E d_M_goesBy_42 3 rfl (by decide) (fun y => [(3, .int (iI y)), (0, .ref (adX X 0)), (1, .ref (adX X p1)), (2, .int (iI r1))]) (fun _ => rfl) (fun x3 hx3 => ?_)
      replace h := h x3 hx3
      refine v_goto E 9 d_M_goesBy_45 (by decide) ?_
      obtain ⟨hb, hm⟩ := h
      exact v_sub [1, 2, 3, 0] rfl (ih1 x3 s12 hb hm)
theorem d_M_copyNow_0 : decode prog_11_method_31_code 0 = .ok (.iconst 0, 1) := by decide +kernel
theorem d_M_copyNow_1 : decode prog_11_method_31_code 1 = .ok (.istore_n 1, 1) := by decide +kernel
theorem d_M_copyNow_2 : decode prog_11_method_31_code 2 = .ok (.iload_n 1, 1) := by decide +kernel
theorem d_M_copyNow_3 : decode prog_11_method_31_code 3 = .ok (.bipush 13, 2) := by decide +kernel
theorem d_M_copyNow_5 : decode prog_11_method_31_code 5 = .ok (.if_icmp .ge 21, 3) := by decide +kernel
theorem d_M_copyNow_8 : decode prog_11_method_31_code 8 = .ok (.aload_n 0, 1) := by decide +kernel
theorem d_M_copyNow_9 : decode prog_11_method_31_code 9 = .ok (.getfield 49, 3) := by decide +kernel
theorem d_M_copyNow_12 : decode prog_11_method_31_code 12 = .ok (.iload_n 1, 1) := by decide +kernel
theorem d_M_copyNow_13 : decode prog_11_method_31_code 13 = .ok (.aload_n 0, 1) := by decide +kernel
theorem d_M_copyNow_14 : decode prog_11_method_31_code 14 = .ok (.getfield 46, 3) := by decide +kernel
theorem d_M_copyNow_17 : decode prog_11_method_31_code 17 = .ok (.iload_n 1, 1) := by decide +kernel
theorem d_M_copyNow_18 : decode prog_11_method_31_code 18 = .ok (.iaload, 1) := by decide +kernel
theorem d_M_copyNow_19 : decode prog_11_method_31_code 19 = .ok (.iastore, 1) := by decide +kernel
theorem d_M_copyNow_20 : decode prog_11_method_31_code 20 = .ok (.iinc 1 1, 3) := by decide +kernel
theorem d_M_copyNow_23 : decode prog_11_method_31_code 23 = .ok (.goto (-21), 3) := by decide +kernel
theorem d_M_copyNow_26 : decode prog_11_method_31_code 26 = .ok (.return_, 1) := by decide +kernel
set_option maxHeartbeats 4000000 in
set_option maxRecDepth 20000 in
theorem c_M_copyNow (s0 : MS) (Q : MS → Prop) (h : wp_M_copyNow s0 Q) : MT dscM ⟨"BellSchoolModel", "copyNow", "()V"⟩ prog_11_method_31_code 2 none 0 (fun ad => [.ref (ad 0)]) s0 (po_V dscM Q) := by
  refine met_of (by decide) (fun _ => Nat.le_of_ble_eq_true rfl) (fun X E hR => ?_)
  replace E : EV dscM X prog_11_method_31_code "BellSchoolModel" 2 0 := E
  show VV dscM X 0 [(0, .ref (adX X 0))] [] s0
  unfold wp_M_copyNow at h
  refine v_iconst E d_M_copyNow_0 ?_
  refine v_istoren E d_M_copyNow_1 rfl (by decide) (L' := [(1, .int (iI 0)), (0, .ref (adX X 0))]) rfl ?_
  refine v_sub [1, 0] (L' := [(0, .ref (adX X 0)), (1, .int (iI 0))]) rfl ?_
  obtain ⟨I1, μ1, h01, h⟩ := h
  refine v_loop1 (fun (x1 : Int) => [(0, .ref (adX X 0)), (1, .int (iI x1))]) I1 μ1 (fun x1 s1 hI1 ih1 => ?_) 0 s0 h01
  replace h := h x1 s1 hI1
  refine v_iloadn E d_M_copyNow_2 rfl 1 rfl ?_
  refine v_bipush E d_M_copyNow_3 rfl ?_
  obtain ⟨q1, h⟩ := h
  refine v_icmp_ge E 26 d_M_copyNow_5 (by decide) q1 (by decide) (fun c1 => ?_) (fun c1 => ?_)
  · replace h := h.1 c1
    exact v_vret E hR h d_M_copyNow_26
  · replace h := h.2 c1
    refine v_aloadn E d_M_copyNow_8 rfl 0 rfl ?_
    refine v_getA E cf9 dM_0 20 (by decide) rfl mw600 d_M_copyNow_9 rfl ?_
    refine v_iloadn E d_M_copyNow_12 rfl 1 rfl ?_
    refine v_aloadn E d_M_copyNow_13 rfl 0 rfl ?_
    refine v_getA E cf9 dM_0 19 (by decide) rfl mw556 d_M_copyNow_14 rfl ?_
    refine v_iloadn E d_M_copyNow_17 rfl 1 rfl ?_
    obtain ⟨q2, h⟩ := h
    refine v_iald E dM_13 (by decide) q2.1 q2.2 d_M_copyNow_18 ?_
    refine v_wt (fun wt1 => ?_)
    refine v_iast E dM_14 (by decide) q2.1 q2.2 (wt1 13 x1) d_M_copyNow_19 ?_
    refine v_nameS (fun s2 hs2 => ?_)
    replace h := h s2 hs2
    refine v_iincN E d_M_copyNow_20 1 rfl (by decide) (fun y => [(1, .int (iI y)), (0, .ref (adX X 0))]) (fun _ => rfl) (fun x2 hx2 => ?_)
    replace h := h x2 hx2
    refine v_goto E 2 d_M_copyNow_23 (by decide) ?_
    obtain ⟨hb, hm⟩ := h
    exact v_sub [1, 0] rfl (ih1 x2 s2 hb hm)
theorem d_M_home_0 : decode prog_11_method_32_code 0 = .ok (.aload_n 0, 1) := by decide +kernel
theorem d_M_home_1 : decode prog_11_method_32_code 1 = .ok (.iload_n 1, 1) := by decide +kernel
theorem d_M_home_2 : decode prog_11_method_32_code 2 = .ok (.invokevirtual 187, 3) := by decide +kernel
theorem d_M_home_5 : decode prog_11_method_32_code 5 = .ok (.ifCond .eq 13, 3) := by decide +kernel
theorem d_M_home_8 : decode prog_11_method_32_code 8 = .ok (.iload_n 2, 1) := by decide +kernel
theorem d_M_home_9 : decode prog_11_method_32_code 9 = .ok (.iconst 0, 1) := by decide +kernel
theorem d_M_home_10 : decode prog_11_method_32_code 10 = .ok (.bipush 6, 2) := by decide +kernel
theorem d_M_home_12 : decode prog_11_method_32_code 12 = .ok (.invokestatic 105, 3) := by decide +kernel
theorem d_M_home_15 : decode prog_11_method_32_code 15 = .ok (.ifCond .ne 5, 3) := by decide +kernel
theorem d_M_home_18 : decode prog_11_method_32_code 18 = .ok (.iconst (-1), 1) := by decide +kernel
theorem d_M_home_19 : decode prog_11_method_32_code 19 = .ok (.ireturn, 1) := by decide +kernel
theorem d_M_home_20 : decode prog_11_method_32_code 20 = .ok (.iload_n 2, 1) := by decide +kernel
theorem d_M_home_21 : decode prog_11_method_32_code 21 = .ok (.tableswitch 101 0 5 #[39, 46, 53, 69, 80, 90], 39) := by decide +kernel
theorem d_M_home_60 : decode prog_11_method_32_code 60 = .ok (.aload_n 0, 1) := by decide +kernel
theorem d_M_home_61 : decode prog_11_method_32_code 61 = .ok (.getfield 31, 3) := by decide +kernel
theorem d_M_home_64 : decode prog_11_method_32_code 64 = .ok (.iload_n 1, 1) := by decide +kernel
theorem d_M_home_65 : decode prog_11_method_32_code 65 = .ok (.iaload, 1) := by decide +kernel
theorem d_M_home_66 : decode prog_11_method_32_code 66 = .ok (.ireturn, 1) := by decide +kernel
theorem d_M_home_67 : decode prog_11_method_32_code 67 = .ok (.aload_n 0, 1) := by decide +kernel
theorem d_M_home_68 : decode prog_11_method_32_code 68 = .ok (.getfield 34, 3) := by decide +kernel
theorem d_M_home_71 : decode prog_11_method_32_code 71 = .ok (.iload_n 1, 1) := by decide +kernel
theorem d_M_home_72 : decode prog_11_method_32_code 72 = .ok (.iaload, 1) := by decide +kernel
theorem d_M_home_73 : decode prog_11_method_32_code 73 = .ok (.ireturn, 1) := by decide +kernel
theorem d_M_home_74 : decode prog_11_method_32_code 74 = .ok (.aload_n 0, 1) := by decide +kernel
theorem d_M_home_75 : decode prog_11_method_32_code 75 = .ok (.getfield 46, 3) := by decide +kernel
theorem d_M_home_78 : decode prog_11_method_32_code 78 = .ok (.iconst 0, 1) := by decide +kernel
theorem d_M_home_79 : decode prog_11_method_32_code 79 = .ok (.iaload, 1) := by decide +kernel
theorem d_M_home_80 : decode prog_11_method_32_code 80 = .ok (.iload_n 1, 1) := by decide +kernel
theorem d_M_home_81 : decode prog_11_method_32_code 81 = .ok (.if_icmp .ne 7, 3) := by decide +kernel
theorem d_M_home_84 : decode prog_11_method_32_code 84 = .ok (.iconst 1, 1) := by decide +kernel
theorem d_M_home_85 : decode prog_11_method_32_code 85 = .ok (.goto 4, 3) := by decide +kernel
theorem d_M_home_88 : decode prog_11_method_32_code 88 = .ok (.iconst 0, 1) := by decide +kernel
theorem d_M_home_89 : decode prog_11_method_32_code 89 = .ok (.ireturn, 1) := by decide +kernel
theorem d_M_home_90 : decode prog_11_method_32_code 90 = .ok (.aload_n 0, 1) := by decide +kernel
theorem d_M_home_91 : decode prog_11_method_32_code 91 = .ok (.getfield 46, 3) := by decide +kernel
theorem d_M_home_94 : decode prog_11_method_32_code 94 = .ok (.iconst 5, 1) := by decide +kernel
theorem d_M_home_95 : decode prog_11_method_32_code 95 = .ok (.iaload, 1) := by decide +kernel
theorem d_M_home_96 : decode prog_11_method_32_code 96 = .ok (.iload_n 1, 1) := by decide +kernel
theorem d_M_home_97 : decode prog_11_method_32_code 97 = .ok (.ishr, 1) := by decide +kernel
theorem d_M_home_98 : decode prog_11_method_32_code 98 = .ok (.iconst 1, 1) := by decide +kernel
theorem d_M_home_99 : decode prog_11_method_32_code 99 = .ok (.iand, 1) := by decide +kernel
theorem d_M_home_100 : decode prog_11_method_32_code 100 = .ok (.ireturn, 1) := by decide +kernel
theorem d_M_home_101 : decode prog_11_method_32_code 101 = .ok (.aload_n 0, 1) := by decide +kernel
theorem d_M_home_102 : decode prog_11_method_32_code 102 = .ok (.getfield 46, 3) := by decide +kernel
theorem d_M_home_105 : decode prog_11_method_32_code 105 = .ok (.bipush 6, 2) := by decide +kernel
theorem d_M_home_107 : decode prog_11_method_32_code 107 = .ok (.iload_n 1, 1) := by decide +kernel
theorem d_M_home_108 : decode prog_11_method_32_code 108 = .ok (.iadd, 1) := by decide +kernel
theorem d_M_home_109 : decode prog_11_method_32_code 109 = .ok (.iaload, 1) := by decide +kernel
theorem d_M_home_110 : decode prog_11_method_32_code 110 = .ok (.ireturn, 1) := by decide +kernel
theorem d_M_home_111 : decode prog_11_method_32_code 111 = .ok (.aload_n 0, 1) := by decide +kernel
theorem d_M_home_112 : decode prog_11_method_32_code 112 = .ok (.getfield 46, 3) := by decide +kernel
theorem d_M_home_115 : decode prog_11_method_32_code 115 = .ok (.iconst 3, 1) := by decide +kernel
theorem d_M_home_116 : decode prog_11_method_32_code 116 = .ok (.iaload, 1) := by decide +kernel
theorem d_M_home_117 : decode prog_11_method_32_code 117 = .ok (.iload_n 1, 1) := by decide +kernel
theorem d_M_home_118 : decode prog_11_method_32_code 118 = .ok (.ishr, 1) := by decide +kernel
theorem d_M_home_119 : decode prog_11_method_32_code 119 = .ok (.iconst 1, 1) := by decide +kernel
theorem d_M_home_120 : decode prog_11_method_32_code 120 = .ok (.iand, 1) := by decide +kernel
theorem d_M_home_121 : decode prog_11_method_32_code 121 = .ok (.ireturn, 1) := by decide +kernel
theorem d_M_home_122 : decode prog_11_method_32_code 122 = .ok (.aload_n 0, 1) := by decide +kernel
theorem d_M_home_123 : decode prog_11_method_32_code 123 = .ok (.getfield 46, 3) := by decide +kernel
theorem d_M_home_126 : decode prog_11_method_32_code 126 = .ok (.iconst 2, 1) := by decide +kernel
theorem d_M_home_127 : decode prog_11_method_32_code 127 = .ok (.iaload, 1) := by decide +kernel
theorem d_M_home_128 : decode prog_11_method_32_code 128 = .ok (.iload_n 1, 1) := by decide +kernel
theorem d_M_home_129 : decode prog_11_method_32_code 129 = .ok (.ishr, 1) := by decide +kernel
theorem d_M_home_130 : decode prog_11_method_32_code 130 = .ok (.iconst 1, 1) := by decide +kernel
theorem d_M_home_131 : decode prog_11_method_32_code 131 = .ok (.iand, 1) := by decide +kernel
theorem d_M_home_132 : decode prog_11_method_32_code 132 = .ok (.ireturn, 1) := by decide +kernel
set_option maxHeartbeats 4000000 in
set_option maxRecDepth 20000 in
theorem c_M_home (p1 : Int) (hp1 : Rng p1) (p2 : Int) (hp2 : Rng p2) (s0 : MS) (Q : Int → Prop) (h : wp_M_home p1 p2 s0 Q) : MT dscM ⟨"BellSchoolModel", "home", "(II)I"⟩ prog_11_method_32_code 3 (some .int) 2 (fun ad => [.ref (ad 0), .int (iI p1), .int (iI p2)]) s0 (po_I dscM (fun r z => z = s0 ∧ Q r)) := by
  refine met_of (by decide) (fun _ => Nat.le_of_ble_eq_true rfl) (fun X E hR => ?_)
  replace E : EV dscM X prog_11_method_32_code "BellSchoolModel" 3 2 := E
  show VV dscM X 0 [(0, .ref (adX X 0)), (1, .int (iI p1)), (2, .int (iI p2))] [] s0
  unfold wp_M_home at h
  refine v_aloadn E d_M_home_0 rfl 0 rfl ?_
  refine v_iloadn E d_M_home_1 rfl 1 rfl ?_
  refine v_callVIpz E md_M_isHome (c_M_isHome p1 hp1 s0 _ h) dM_0 rfl ⟨by decide, by decide⟩ mw604 d_M_home_2 (fun _ => rfl) (st := []) rfl (Nat.le_of_ble_eq_true rfl) (fun r1 hr1 hz1 h => ?_)
  refine v_if_eq E 18 d_M_home_5 (by decide) hr1 (fun c1 => ?_) (fun c1 => ?_)
  · replace h := h.1 c1
    refine v_iconst E d_M_home_18 ?_
    exact v_iret E hR rfl (by decide) ⟨rfl, h⟩ d_M_home_19
  · replace h := h.2 c1
    refine v_iloadn E d_M_home_8 rfl 2 rfl ?_
    refine v_iconst E d_M_home_9 ?_
    refine v_bipush E d_M_home_10 rfl ?_
    refine v_callSIpz E md_M_in (c_M_in dscM p2 hp2 0 (by decide) 6 (by decide) s0 _ h) ⟨by decide, by decide⟩ mw496 d_M_home_12 (fun _ => rfl) (st := []) rfl (Nat.le_of_ble_eq_true rfl) (fun r2 hr2 hz2 h => ?_)
    refine v_if_ne E 20 d_M_home_15 (by decide) hr2 (fun c2 => ?_) (fun c2 => ?_)
    · replace h := h.1 c2
      refine v_iloadn E d_M_home_20 rfl 2 rfl ?_
      by_cases c3 : p2 = 0
      · replace h := h.1 c3
        refine v_tableIn E d_M_home_21 hp2 (v := 0) c3 (by decide) (by decide) rfl 60 (by decide) ?_
        refine v_aloadn E d_M_home_60 rfl 0 rfl ?_
        refine v_getA E cf9 dM_0 14 (by decide) rfl mw563 d_M_home_61 rfl ?_
        refine v_iloadn E d_M_home_64 rfl 1 rfl ?_
        obtain ⟨q1, h⟩ := h
        refine v_iald E dM_8 (by decide) q1.1 q1.2 d_M_home_65 ?_
        refine v_wt (fun wt1 => ?_)
        exact v_iret E hR rfl (wt1 8 p1) ⟨rfl, h⟩ d_M_home_66
      · skip
        by_cases c4 : p2 = 1
        · replace h := h.2.1 c4
          refine v_tableIn E d_M_home_21 hp2 (v := 1) c4 (by decide) (by decide) rfl 67 (by decide) ?_
          refine v_aloadn E d_M_home_67 rfl 0 rfl ?_
          refine v_getA E cf9 dM_0 15 (by decide) rfl mw564 d_M_home_68 rfl ?_
          refine v_iloadn E d_M_home_71 rfl 1 rfl ?_
          obtain ⟨q2, h⟩ := h
          refine v_iald E dM_9 (by decide) q2.1 q2.2 d_M_home_72 ?_
          refine v_wt (fun wt2 => ?_)
          exact v_iret E hR rfl (wt2 9 p1) ⟨rfl, h⟩ d_M_home_73
        · skip
          by_cases c5 : p2 = 2
          · replace h := h.2.2.1 c5
            refine v_tableIn E d_M_home_21 hp2 (v := 2) c5 (by decide) (by decide) rfl 74 (by decide) ?_
            refine v_aloadn E d_M_home_74 rfl 0 rfl ?_
            refine v_getA E cf9 dM_0 19 (by decide) rfl mw556 d_M_home_75 rfl ?_
            refine v_iconst E d_M_home_78 ?_
            refine v_iald E dM_13 (by decide) (by decide) (by decide) d_M_home_79 ?_
            refine v_iloadn E d_M_home_80 rfl 1 rfl ?_
            refine v_wt (fun wt3 => ?_)
            refine v_icmp_ne E 88 d_M_home_81 (by decide) (wt3 13 0) hp1 (fun c6 => ?_) (fun c6 => ?_)
            · replace h := h.1 c6
              refine v_iconst E d_M_home_88 ?_
              exact v_iret E hR rfl (by decide) ⟨rfl, h⟩ d_M_home_89
            · replace h := h.2 c6
              refine v_iconst E d_M_home_84 ?_
              refine v_goto E 89 d_M_home_85 (by decide) ?_
              exact v_iret E hR rfl (by decide) ⟨rfl, h⟩ d_M_home_89
          · skip
            by_cases c7 : p2 = 3
            · replace h := h.2.2.2.1 c7
              refine v_tableIn E d_M_home_21 hp2 (v := 3) c7 (by decide) (by decide) rfl 90 (by decide) ?_
              refine v_aloadn E d_M_home_90 rfl 0 rfl ?_
              refine v_getA E cf9 dM_0 19 (by decide) rfl mw556 d_M_home_91 rfl ?_
              refine v_iconst E d_M_home_94 ?_
              refine v_iald E dM_13 (by decide) (by decide) (by decide) d_M_home_95 ?_
              refine v_iloadn E d_M_home_96 rfl 1 rfl ?_
              refine v_ishr E d_M_home_97 ?_
              refine v_iconst E d_M_home_98 ?_
              refine v_iand E d_M_home_99 ?_
              exact v_iret E hR rfl (Rng_of _) ⟨rfl, h⟩ d_M_home_100
            · skip
              by_cases c8 : p2 = 4
              · replace h := h.2.2.2.2.1 c8
                refine v_tableIn E d_M_home_21 hp2 (v := 4) c8 (by decide) (by decide) rfl 101 (by decide) ?_
                refine v_aloadn E d_M_home_101 rfl 0 rfl ?_
                refine v_getA E cf9 dM_0 19 (by decide) rfl mw556 d_M_home_102 rfl ?_
                refine v_bipush E d_M_home_105 rfl ?_
                refine v_iloadn E d_M_home_107 rfl 1 rfl ?_
                refine v_iadd E d_M_home_108 ?_
                obtain ⟨q3, h⟩ := h
                refine v_iald E dM_13 (by decide) q3.1 q3.2 d_M_home_109 ?_
                refine v_wt (fun wt4 => ?_)
                exact v_iret E hR rfl (wt4 13 (6 + p1)) ⟨rfl, h⟩ d_M_home_110
              · skip
                by_cases c9 : p2 = 5
                · replace h := h.2.2.2.2.2.1 c9
                  refine v_tableIn E d_M_home_21 hp2 (v := 5) c9 (by decide) (by decide) rfl 111 (by decide) ?_
                  refine v_aloadn E d_M_home_111 rfl 0 rfl ?_
                  refine v_getA E cf9 dM_0 19 (by decide) rfl mw556 d_M_home_112 rfl ?_
                  refine v_iconst E d_M_home_115 ?_
                  refine v_iald E dM_13 (by decide) (by decide) (by decide) d_M_home_116 ?_
                  refine v_iloadn E d_M_home_117 rfl 1 rfl ?_
                  refine v_ishr E d_M_home_118 ?_
                  refine v_iconst E d_M_home_119 ?_
                  refine v_iand E d_M_home_120 ?_
                  exact v_iret E hR rfl (Rng_of _) ⟨rfl, h⟩ d_M_home_121
                · skip
                  replace h := h.2.2.2.2.2.2 c3 c4 c5 c7 c8 c9
                  refine v_tableOut E d_M_home_21 hp2 (by omega) 122 (by decide) ?_
                  refine v_aloadn E d_M_home_122 rfl 0 rfl ?_
                  refine v_getA E cf9 dM_0 19 (by decide) rfl mw556 d_M_home_123 rfl ?_
                  refine v_iconst E d_M_home_126 ?_
                  refine v_iald E dM_13 (by decide) (by decide) (by decide) d_M_home_127 ?_
                  refine v_iloadn E d_M_home_128 rfl 1 rfl ?_
                  refine v_ishr E d_M_home_129 ?_
                  refine v_iconst E d_M_home_130 ?_
                  refine v_iand E d_M_home_131 ?_
                  exact v_iret E hR rfl (Rng_of _) ⟨rfl, h⟩ d_M_home_132
    · replace h := h.2 c2
      refine v_iconst E d_M_home_18 ?_
      exact v_iret E hR rfl (by decide) ⟨rfl, h⟩ d_M_home_19
theorem d_M_way_0 : decode prog_11_method_33_code 0 = .ok (.aload_n 0, 1) := by decide +kernel
theorem d_M_way_1 : decode prog_11_method_33_code 1 = .ok (.iload_n 1, 1) := by decide +kernel
theorem d_M_way_2 : decode prog_11_method_33_code 2 = .ok (.invokevirtual 187, 3) := by decide +kernel
theorem d_M_way_5 : decode prog_11_method_33_code 5 = .ok (.ifCond .eq 25, 3) := by decide +kernel
theorem d_M_way_8 : decode prog_11_method_33_code 8 = .ok (.aload_n 0, 1) := by decide +kernel
theorem d_M_way_9 : decode prog_11_method_33_code 9 = .ok (.iload_n 2, 1) := by decide +kernel
theorem d_M_way_10 : decode prog_11_method_33_code 10 = .ok (.invokevirtual 187, 3) := by decide +kernel
theorem d_M_way_13 : decode prog_11_method_33_code 13 = .ok (.ifCond .eq 17, 3) := by decide +kernel
theorem d_M_way_16 : decode prog_11_method_33_code 16 = .ok (.iload_n 1, 1) := by decide +kernel
theorem d_M_way_17 : decode prog_11_method_33_code 17 = .ok (.iload_n 2, 1) := by decide +kernel
theorem d_M_way_18 : decode prog_11_method_33_code 18 = .ok (.if_icmp .eq 12, 3) := by decide +kernel
theorem d_M_way_21 : decode prog_11_method_33_code 21 = .ok (.iload_n 3, 1) := by decide +kernel
theorem d_M_way_22 : decode prog_11_method_33_code 22 = .ok (.iconst 0, 1) := by decide +kernel
theorem d_M_way_23 : decode prog_11_method_33_code 23 = .ok (.iconst 1, 1) := by decide +kernel
theorem d_M_way_24 : decode prog_11_method_33_code 24 = .ok (.invokestatic 105, 3) := by decide +kernel
theorem d_M_way_27 : decode prog_11_method_33_code 27 = .ok (.ifCond .ne 5, 3) := by decide +kernel
theorem d_M_way_30 : decode prog_11_method_33_code 30 = .ok (.iconst (-1), 1) := by decide +kernel
theorem d_M_way_31 : decode prog_11_method_33_code 31 = .ok (.ireturn, 1) := by decide +kernel
theorem d_M_way_32 : decode prog_11_method_33_code 32 = .ok (.aload_n 0, 1) := by decide +kernel
theorem d_M_way_33 : decode prog_11_method_33_code 33 = .ok (.getfield 37, 3) := by decide +kernel
theorem d_M_way_36 : decode prog_11_method_33_code 36 = .ok (.bipush 7, 2) := by decide +kernel
theorem d_M_way_38 : decode prog_11_method_33_code 38 = .ok (.iload_n 1, 1) := by decide +kernel
theorem d_M_way_39 : decode prog_11_method_33_code 39 = .ok (.imul, 1) := by decide +kernel
theorem d_M_way_40 : decode prog_11_method_33_code 40 = .ok (.iload_n 2, 1) := by decide +kernel
theorem d_M_way_41 : decode prog_11_method_33_code 41 = .ok (.iadd, 1) := by decide +kernel
theorem d_M_way_42 : decode prog_11_method_33_code 42 = .ok (.iaload, 1) := by decide +kernel
theorem d_M_way_43 : decode prog_11_method_33_code 43 = .ok (.istore 4, 2) := by decide +kernel
theorem d_M_way_45 : decode prog_11_method_33_code 45 = .ok (.iload 4, 2) := by decide +kernel
theorem d_M_way_47 : decode prog_11_method_33_code 47 = .ok (.ifCond .ne 8, 3) := by decide +kernel
theorem d_M_way_50 : decode prog_11_method_33_code 50 = .ok (.bipush (-4), 2) := by decide +kernel
theorem d_M_way_52 : decode prog_11_method_33_code 52 = .ok (.goto 30, 3) := by decide +kernel
theorem d_M_way_55 : decode prog_11_method_33_code 55 = .ok (.iload_n 3, 1) := by decide +kernel
theorem d_M_way_56 : decode prog_11_method_33_code 56 = .ok (.ifCond .ne 8, 3) := by decide +kernel
theorem d_M_way_59 : decode prog_11_method_33_code 59 = .ok (.iload 4, 2) := by decide +kernel
theorem d_M_way_61 : decode prog_11_method_33_code 61 = .ok (.goto 21, 3) := by decide +kernel
theorem d_M_way_64 : decode prog_11_method_33_code 64 = .ok (.aload_n 0, 1) := by decide +kernel
theorem d_M_way_65 : decode prog_11_method_33_code 65 = .ok (.aload_n 0, 1) := by decide +kernel
theorem d_M_way_66 : decode prog_11_method_33_code 66 = .ok (.getfield 46, 3) := by decide +kernel
theorem d_M_way_69 : decode prog_11_method_33_code 69 = .ok (.iload_n 1, 1) := by decide +kernel
theorem d_M_way_70 : decode prog_11_method_33_code 70 = .ok (.iload_n 2, 1) := by decide +kernel
theorem d_M_way_71 : decode prog_11_method_33_code 71 = .ok (.invokevirtual 172, 3) := by decide +kernel
theorem d_M_way_74 : decode prog_11_method_33_code 74 = .ok (.ifCond .eq 7, 3) := by decide +kernel
theorem d_M_way_77 : decode prog_11_method_33_code 77 = .ok (.iconst 1, 1) := by decide +kernel
theorem d_M_way_78 : decode prog_11_method_33_code 78 = .ok (.goto 4, 3) := by decide +kernel
theorem d_M_way_81 : decode prog_11_method_33_code 81 = .ok (.iconst 0, 1) := by decide +kernel
theorem d_M_way_82 : decode prog_11_method_33_code 82 = .ok (.ireturn, 1) := by decide +kernel
set_option maxHeartbeats 4000000 in
set_option maxRecDepth 20000 in
theorem c_M_way (p1 : Int) (hp1 : Rng p1) (p2 : Int) (hp2 : Rng p2) (p3 : Int) (hp3 : Rng p3) (s0 : MS) (Q : Int → Prop) (h : wp_M_way p1 p2 p3 s0 Q) : MT dscM ⟨"BellSchoolModel", "way", "(III)I"⟩ prog_11_method_33_code 5 (some .int) 2 (fun ad => [.ref (ad 0), .int (iI p1), .int (iI p2), .int (iI p3)]) s0 (po_I dscM (fun r z => z = s0 ∧ Q r)) := by
  refine met_of (by decide) (fun _ => Nat.le_of_ble_eq_true rfl) (fun X E hR => ?_)
  replace E : EV dscM X prog_11_method_33_code "BellSchoolModel" 5 2 := E
  show VV dscM X 0 [(0, .ref (adX X 0)), (1, .int (iI p1)), (2, .int (iI p2)), (3, .int (iI p3))] [] s0
  unfold wp_M_way at h
  refine v_aloadn E d_M_way_0 rfl 0 rfl ?_
  refine v_iloadn E d_M_way_1 rfl 1 rfl ?_
  refine v_callVIpz E md_M_isHome (c_M_isHome p1 hp1 s0 _ h) dM_0 rfl ⟨by decide, by decide⟩ mw604 d_M_way_2 (fun _ => rfl) (st := []) rfl (Nat.le_of_ble_eq_true rfl) (fun r1 hr1 hz1 h => ?_)
  refine v_if_eq E 30 d_M_way_5 (by decide) hr1 (fun c1 => ?_) (fun c1 => ?_)
  · replace h := h.1 c1
    refine v_iconst E d_M_way_30 ?_
    exact v_iret E hR rfl (by decide) ⟨rfl, h⟩ d_M_way_31
  · replace h := h.2 c1
    refine v_aloadn E d_M_way_8 rfl 0 rfl ?_
    refine v_iloadn E d_M_way_9 rfl 2 rfl ?_
    refine v_callVIpz E md_M_isHome (c_M_isHome p2 hp2 s0 _ h) dM_0 rfl ⟨by decide, by decide⟩ mw604 d_M_way_10 (fun _ => rfl) (st := []) rfl (Nat.le_of_ble_eq_true rfl) (fun r2 hr2 hz2 h => ?_)
    refine v_if_eq E 30 d_M_way_13 (by decide) hr2 (fun c2 => ?_) (fun c2 => ?_)
    · replace h := h.1 c2
      refine v_iconst E d_M_way_30 ?_
      exact v_iret E hR rfl (by decide) ⟨rfl, h⟩ d_M_way_31
    · replace h := h.2 c2
      refine v_iloadn E d_M_way_16 rfl 1 rfl ?_
      refine v_iloadn E d_M_way_17 rfl 2 rfl ?_
      refine v_icmp_eq E 30 d_M_way_18 (by decide) hp1 hp2 (fun c3 => ?_) (fun c3 => ?_)
      · replace h := h.1 c3
        refine v_iconst E d_M_way_30 ?_
        exact v_iret E hR rfl (by decide) ⟨rfl, h⟩ d_M_way_31
      · replace h := h.2 c3
        refine v_iloadn E d_M_way_21 rfl 3 rfl ?_
        refine v_iconst E d_M_way_22 ?_
        refine v_iconst E d_M_way_23 ?_
        refine v_callSIpz E md_M_in (c_M_in dscM p3 hp3 0 (by decide) 1 (by decide) s0 _ h) ⟨by decide, by decide⟩ mw496 d_M_way_24 (fun _ => rfl) (st := []) rfl (Nat.le_of_ble_eq_true rfl) (fun r3 hr3 hz3 h => ?_)
        refine v_if_ne E 32 d_M_way_27 (by decide) hr3 (fun c4 => ?_) (fun c4 => ?_)
        · replace h := h.1 c4
          refine v_aloadn E d_M_way_32 rfl 0 rfl ?_
          refine v_getA E cf9 dM_0 16 (by decide) rfl mw560 d_M_way_33 rfl ?_
          refine v_bipush E d_M_way_36 rfl ?_
          refine v_iloadn E d_M_way_38 rfl 1 rfl ?_
          refine v_imul E d_M_way_39 ?_
          refine v_iloadn E d_M_way_40 rfl 2 rfl ?_
          refine v_iadd E d_M_way_41 ?_
          obtain ⟨q1, h⟩ := h
          refine v_iald E dM_10 (by decide) q1.1 q1.2 d_M_way_42 ?_
          refine v_istore E d_M_way_43 (by decide) (L' := [(4, .int (iI (gI s0 10 ((7 * p1) + p2)))), (0, .ref (adX X 0)), (1, .int (iI p1)), (2, .int (iI p2)), (3, .int (iI p3))]) rfl ?_
          refine v_iload E d_M_way_45 0 rfl ?_
          refine v_wt (fun wt1 => ?_)
          refine v_if_ne E 55 d_M_way_47 (by decide) (wt1 10 ((7 * p1) + p2)) (fun c5 => ?_) (fun c5 => ?_)
          · replace h := h.1 c5
            refine v_iloadn E d_M_way_55 rfl 4 rfl ?_
            refine v_if_ne E 64 d_M_way_56 (by decide) hp3 (fun c6 => ?_) (fun c6 => ?_)
            · replace h := h.1 c6
              refine v_aloadn E d_M_way_64 rfl 1 rfl ?_
              refine v_aloadn E d_M_way_65 rfl 1 rfl ?_
              refine v_getA E cf9 dM_0 19 (by decide) rfl mw556 d_M_way_66 rfl ?_
              refine v_iloadn E d_M_way_69 rfl 2 rfl ?_
              refine v_iloadn E d_M_way_70 rfl 3 rfl ?_
              refine v_callVIpz E md_M_isOpen (c_M_isOpen 13 dM_13 p1 hp1 p2 hp2 s0 _ h) dM_0 rfl ⟨by decide, by decide⟩ mw582 d_M_way_71 (fun _ => rfl) (st := []) rfl (Nat.le_of_ble_eq_true rfl) (fun r4 hr4 hz4 h => ?_)
              refine v_if_eq E 81 d_M_way_74 (by decide) hr4 (fun c7 => ?_) (fun c7 => ?_)
              · replace h := h.1 c7
                refine v_iconst E d_M_way_81 ?_
                exact v_iret E hR rfl (by decide) ⟨rfl, h⟩ d_M_way_82
              · replace h := h.2 c7
                refine v_iconst E d_M_way_77 ?_
                refine v_goto E 82 d_M_way_78 (by decide) ?_
                exact v_iret E hR rfl (by decide) ⟨rfl, h⟩ d_M_way_82
            · replace h := h.2 c6
              refine v_iload E d_M_way_59 0 rfl ?_
              refine v_goto E 82 d_M_way_61 (by decide) ?_
              exact v_iret E hR rfl (wt1 10 ((7 * p1) + p2)) ⟨rfl, h⟩ d_M_way_82
          · replace h := h.2 c5
            refine v_bipush E d_M_way_50 rfl ?_
            refine v_goto E 82 d_M_way_52 (by decide) ?_
            exact v_iret E hR rfl (by decide) ⟨rfl, h⟩ d_M_way_82
        · replace h := h.2 c4
          refine v_iconst E d_M_way_30 ?_
          exact v_iret E hR rfl (by decide) ⟨rfl, h⟩ d_M_way_31
theorem d_M_far_0 : decode prog_11_method_34_code 0 = .ok (.aload_n 0, 1) := by decide +kernel
theorem d_M_far_1 : decode prog_11_method_34_code 1 = .ok (.iload_n 1, 1) := by decide +kernel
theorem d_M_far_2 : decode prog_11_method_34_code 2 = .ok (.invokevirtual 187, 3) := by decide +kernel
theorem d_M_far_5 : decode prog_11_method_34_code 5 = .ok (.ifCond .eq 11, 3) := by decide +kernel
theorem d_M_far_8 : decode prog_11_method_34_code 8 = .ok (.aload_n 0, 1) := by decide +kernel
theorem d_M_far_9 : decode prog_11_method_34_code 9 = .ok (.iload_n 2, 1) := by decide +kernel
theorem d_M_far_10 : decode prog_11_method_34_code 10 = .ok (.invokevirtual 187, 3) := by decide +kernel
theorem d_M_far_13 : decode prog_11_method_34_code 13 = .ok (.ifCond .ne 5, 3) := by decide +kernel
theorem d_M_far_16 : decode prog_11_method_34_code 16 = .ok (.iconst (-1), 1) := by decide +kernel
theorem d_M_far_17 : decode prog_11_method_34_code 17 = .ok (.ireturn, 1) := by decide +kernel
theorem d_M_far_18 : decode prog_11_method_34_code 18 = .ok (.aload_n 0, 1) := by decide +kernel
theorem d_M_far_19 : decode prog_11_method_34_code 19 = .ok (.aload_n 0, 1) := by decide +kernel
theorem d_M_far_20 : decode prog_11_method_34_code 20 = .ok (.getfield 46, 3) := by decide +kernel
theorem d_M_far_23 : decode prog_11_method_34_code 23 = .ok (.iload_n 1, 1) := by decide +kernel
theorem d_M_far_24 : decode prog_11_method_34_code 24 = .ok (.invokevirtual 176, 3) := by decide +kernel
theorem d_M_far_27 : decode prog_11_method_34_code 27 = .ok (.aload_n 0, 1) := by decide +kernel
theorem d_M_far_28 : decode prog_11_method_34_code 28 = .ok (.getfield 52, 3) := by decide +kernel
theorem d_M_far_31 : decode prog_11_method_34_code 31 = .ok (.iload_n 2, 1) := by decide +kernel
theorem d_M_far_32 : decode prog_11_method_34_code 32 = .ok (.iaload, 1) := by decide +kernel
theorem d_M_far_33 : decode prog_11_method_34_code 33 = .ok (.ldc 171, 2) := by decide +kernel
theorem d_M_far_35 : decode prog_11_method_34_code 35 = .ok (.if_icmp .lt 8, 3) := by decide +kernel
theorem d_M_far_38 : decode prog_11_method_34_code 38 = .ok (.bipush (-4), 2) := by decide +kernel
theorem d_M_far_40 : decode prog_11_method_34_code 40 = .ok (.goto 9, 3) := by decide +kernel
theorem d_M_far_43 : decode prog_11_method_34_code 43 = .ok (.aload_n 0, 1) := by decide +kernel
theorem d_M_far_44 : decode prog_11_method_34_code 44 = .ok (.getfield 52, 3) := by decide +kernel
theorem d_M_far_47 : decode prog_11_method_34_code 47 = .ok (.iload_n 2, 1) := by decide +kernel
theorem d_M_far_48 : decode prog_11_method_34_code 48 = .ok (.iaload, 1) := by decide +kernel
theorem d_M_far_49 : decode prog_11_method_34_code 49 = .ok (.ireturn, 1) := by decide +kernel
set_option maxHeartbeats 4000000 in
set_option maxRecDepth 20000 in
theorem c_M_far (p1 : Int) (hp1 : Rng p1) (p2 : Int) (hp2 : Rng p2) (s0 : MS) (Q : Int → MS → Prop) (h : wp_M_far p1 p2 s0 Q) : MT dscM ⟨"BellSchoolModel", "far", "(II)I"⟩ prog_11_method_34_code 3 (some .int) 3 (fun ad => [.ref (ad 0), .int (iI p1), .int (iI p2)]) s0 (po_I dscM Q) := by
  refine met_of (by decide) (fun _ => Nat.le_of_ble_eq_true rfl) (fun X E hR => ?_)
  replace E : EV dscM X prog_11_method_34_code "BellSchoolModel" 3 3 := E
  show VV dscM X 0 [(0, .ref (adX X 0)), (1, .int (iI p1)), (2, .int (iI p2))] [] s0
  unfold wp_M_far at h
  refine v_aloadn E d_M_far_0 rfl 0 rfl ?_
  refine v_iloadn E d_M_far_1 rfl 1 rfl ?_
  refine v_callVIpz E md_M_isHome (c_M_isHome p1 hp1 s0 _ h) dM_0 rfl ⟨by decide, by decide⟩ mw604 d_M_far_2 (fun _ => rfl) (st := []) rfl (Nat.le_of_ble_eq_true rfl) (fun r1 hr1 hz1 h => ?_)
  refine v_if_eq E 16 d_M_far_5 (by decide) hr1 (fun c1 => ?_) (fun c1 => ?_)
  · replace h := h.1 c1
    refine v_iconst E d_M_far_16 ?_
    exact v_iret E hR rfl (by decide) h d_M_far_17
  · replace h := h.2 c1
    refine v_aloadn E d_M_far_8 rfl 0 rfl ?_
    refine v_iloadn E d_M_far_9 rfl 2 rfl ?_
    refine v_callVIpz E md_M_isHome (c_M_isHome p2 hp2 s0 _ h) dM_0 rfl ⟨by decide, by decide⟩ mw604 d_M_far_10 (fun _ => rfl) (st := []) rfl (Nat.le_of_ble_eq_true rfl) (fun r2 hr2 hz2 h => ?_)
    refine v_if_ne E 18 d_M_far_13 (by decide) hr2 (fun c2 => ?_) (fun c2 => ?_)
    · replace h := h.1 c2
      refine v_aloadn E d_M_far_18 rfl 0 rfl ?_
      refine v_aloadn E d_M_far_19 rfl 0 rfl ?_
      refine v_getA E cf9 dM_0 19 (by decide) rfl mw556 d_M_far_20 rfl ?_
      refine v_iloadn E d_M_far_23 rfl 1 rfl ?_
      refine v_callVV E md_M_layMinutes (c_M_layMinutes 13 dM_13 p1 hp1 s0 _ h) dM_0 rfl ⟨by decide, by decide⟩ mw591 d_M_far_24 (fun _ => rfl) (st := []) rfl (Nat.le_of_ble_eq_true rfl) (fun s1 h => ?_)
      refine v_aloadn E d_M_far_27 rfl 0 rfl ?_
      refine v_getA E cf9 dM_0 21 (by decide) rfl mw583 d_M_far_28 rfl ?_
      refine v_iloadn E d_M_far_31 rfl 2 rfl ?_
      obtain ⟨q1, h⟩ := h
      refine v_iald E dM_15 (by decide) q1.1 q1.2 d_M_far_32 ?_
      refine v_ldc E (n := 1000000) mw584 rfl d_M_far_33 ?_
      refine v_wt (fun wt1 => ?_)
      refine v_icmp_lt E 43 d_M_far_35 (by decide) (wt1 15 p2) (by decide) (fun c3 => ?_) (fun c3 => ?_)
      · replace h := h.1 c3
        refine v_aloadn E d_M_far_43 rfl 0 rfl ?_
        refine v_getA E cf9 dM_0 21 (by decide) rfl mw583 d_M_far_44 rfl ?_
        refine v_iloadn E d_M_far_47 rfl 2 rfl ?_
        refine v_iald E dM_15 (by decide) q1.1 q1.2 d_M_far_48 ?_
        exact v_iret E hR rfl (wt1 15 p2) h d_M_far_49
      · replace h := h.2 c3
        refine v_bipush E d_M_far_38 rfl ?_
        refine v_goto E 49 d_M_far_40 (by decide) ?_
        exact v_iret E hR rfl (by decide) h d_M_far_49
    · replace h := h.2 c2
      refine v_iconst E d_M_far_16 ?_
      exact v_iret E hR rfl (by decide) h d_M_far_17
theorem d_M_comes_0 : decode prog_11_method_35_code 0 = .ok (.aload_n 0, 1) := by decide +kernel
theorem d_M_comes_1 : decode prog_11_method_35_code 1 = .ok (.iload_n 1, 1) := by decide +kernel
theorem d_M_comes_2 : decode prog_11_method_35_code 2 = .ok (.invokevirtual 187, 3) := by decide +kernel
theorem d_M_comes_5 : decode prog_11_method_35_code 5 = .ok (.ifCond .ne 5, 3) := by decide +kernel
theorem d_M_comes_8 : decode prog_11_method_35_code 8 = .ok (.iconst (-1), 1) := by decide +kernel
theorem d_M_comes_9 : decode prog_11_method_35_code 9 = .ok (.ireturn, 1) := by decide +kernel
theorem d_M_comes_10 : decode prog_11_method_35_code 10 = .ok (.aload_n 0, 1) := by decide +kernel
theorem d_M_comes_11 : decode prog_11_method_35_code 11 = .ok (.aload_n 0, 1) := by decide +kernel
theorem d_M_comes_12 : decode prog_11_method_35_code 12 = .ok (.getfield 46, 3) := by decide +kernel
theorem d_M_comes_15 : decode prog_11_method_35_code 15 = .ok (.aload_n 0, 1) := by decide +kernel
theorem d_M_comes_16 : decode prog_11_method_35_code 16 = .ok (.getfield 46, 3) := by decide +kernel
theorem d_M_comes_19 : decode prog_11_method_35_code 19 = .ok (.iconst 0, 1) := by decide +kernel
theorem d_M_comes_20 : decode prog_11_method_35_code 20 = .ok (.iaload, 1) := by decide +kernel
theorem d_M_comes_21 : decode prog_11_method_35_code 21 = .ok (.invokevirtual 176, 3) := by decide +kernel
theorem d_M_comes_24 : decode prog_11_method_35_code 24 = .ok (.aload_n 0, 1) := by decide +kernel
theorem d_M_comes_25 : decode prog_11_method_35_code 25 = .ok (.aload_n 0, 1) := by decide +kernel
theorem d_M_comes_26 : decode prog_11_method_35_code 26 = .ok (.getfield 46, 3) := by decide +kernel
theorem d_M_comes_29 : decode prog_11_method_35_code 29 = .ok (.iload_n 1, 1) := by decide +kernel
theorem d_M_comes_30 : decode prog_11_method_35_code 30 = .ok (.invokevirtual 180, 3) := by decide +kernel
theorem d_M_comes_33 : decode prog_11_method_35_code 33 = .ok (.istore_n 2, 1) := by decide +kernel
theorem d_M_comes_34 : decode prog_11_method_35_code 34 = .ok (.iload_n 2, 1) := by decide +kernel
theorem d_M_comes_35 : decode prog_11_method_35_code 35 = .ok (.ifCond .ge 8, 3) := by decide +kernel
theorem d_M_comes_38 : decode prog_11_method_35_code 38 = .ok (.bipush (-4), 2) := by decide +kernel
theorem d_M_comes_40 : decode prog_11_method_35_code 40 = .ok (.goto 4, 3) := by decide +kernel
theorem d_M_comes_43 : decode prog_11_method_35_code 43 = .ok (.iload_n 2, 1) := by decide +kernel
theorem d_M_comes_44 : decode prog_11_method_35_code 44 = .ok (.ireturn, 1) := by decide +kernel
set_option maxHeartbeats 4000000 in
set_option maxRecDepth 20000 in
theorem c_M_comes (p1 : Int) (hp1 : Rng p1) (s0 : MS) (Q : Int → MS → Prop) (h : wp_M_comes p1 s0 Q) : MT dscM ⟨"BellSchoolModel", "comes", "(I)I"⟩ prog_11_method_35_code 3 (some .int) 3 (fun ad => [.ref (ad 0), .int (iI p1)]) s0 (po_I dscM Q) := by
  refine met_of (by decide) (fun _ => Nat.le_of_ble_eq_true rfl) (fun X E hR => ?_)
  replace E : EV dscM X prog_11_method_35_code "BellSchoolModel" 3 3 := E
  show VV dscM X 0 [(0, .ref (adX X 0)), (1, .int (iI p1))] [] s0
  unfold wp_M_comes at h
  refine v_aloadn E d_M_comes_0 rfl 0 rfl ?_
  refine v_iloadn E d_M_comes_1 rfl 1 rfl ?_
  refine v_callVIpz E md_M_isHome (c_M_isHome p1 hp1 s0 _ h) dM_0 rfl ⟨by decide, by decide⟩ mw604 d_M_comes_2 (fun _ => rfl) (st := []) rfl (Nat.le_of_ble_eq_true rfl) (fun r1 hr1 hz1 h => ?_)
  refine v_if_ne E 10 d_M_comes_5 (by decide) hr1 (fun c1 => ?_) (fun c1 => ?_)
  · replace h := h.1 c1
    refine v_aloadn E d_M_comes_10 rfl 0 rfl ?_
    refine v_aloadn E d_M_comes_11 rfl 0 rfl ?_
    refine v_getA E cf9 dM_0 19 (by decide) rfl mw556 d_M_comes_12 rfl ?_
    refine v_aloadn E d_M_comes_15 rfl 0 rfl ?_
    refine v_getA E cf9 dM_0 19 (by decide) rfl mw556 d_M_comes_16 rfl ?_
    refine v_iconst E d_M_comes_19 ?_
    refine v_iald E dM_13 (by decide) (by decide) (by decide) d_M_comes_20 ?_
    refine v_wt (fun wt1 => ?_)
    refine v_callVV E md_M_layMinutes (c_M_layMinutes 13 dM_13 (gI s0 13 0) (wt1 13 0) s0 _ h) dM_0 rfl ⟨by decide, by decide⟩ mw591 d_M_comes_21 (fun _ => rfl) (st := []) rfl (Nat.le_of_ble_eq_true rfl) (fun s1 h => ?_)
    refine v_aloadn E d_M_comes_24 rfl 0 rfl ?_
    refine v_aloadn E d_M_comes_25 rfl 0 rfl ?_
    refine v_getA E cf9 dM_0 19 (by decide) rfl mw556 d_M_comes_26 rfl ?_
    refine v_iloadn E d_M_comes_29 rfl 1 rfl ?_
    refine v_callVIp E md_M_arrives (c_M_arrives 13 dM_13 p1 hp1 s1 _ h) dM_0 rfl ⟨by decide, by decide⟩ mw592 d_M_comes_30 (fun _ => rfl) (st := []) rfl (Nat.le_of_ble_eq_true rfl) (fun r3 hr3 h => ?_)
    refine v_istoren E d_M_comes_33 rfl (by decide) (L' := [(2, .int (iI r3)), (0, .ref (adX X 0)), (1, .int (iI p1))]) rfl ?_
    refine v_iloadn E d_M_comes_34 rfl 0 rfl ?_
    refine v_if_ge E 43 d_M_comes_35 (by decide) hr3 (fun c2 => ?_) (fun c2 => ?_)
    · replace h := h.1 c2
      refine v_iloadn E d_M_comes_43 rfl 0 rfl ?_
      exact v_iret E hR rfl hr3 h d_M_comes_44
    · replace h := h.2 c2
      refine v_bipush E d_M_comes_38 rfl ?_
      refine v_goto E 44 d_M_comes_40 (by decide) ?_
      exact v_iret E hR rfl (by decide) h d_M_comes_44
  · replace h := h.2 c1
    refine v_iconst E d_M_comes_8 ?_
    exact v_iret E hR rfl (by decide) h d_M_comes_9
theorem d_M_last_0 : decode prog_11_method_36_code 0 = .ok (.aload_n 0, 1) := by decide +kernel
theorem d_M_last_1 : decode prog_11_method_36_code 1 = .ok (.aload_n 0, 1) := by decide +kernel
theorem d_M_last_2 : decode prog_11_method_36_code 2 = .ok (.getfield 46, 3) := by decide +kernel
theorem d_M_last_5 : decode prog_11_method_36_code 5 = .ok (.iconst 0, 1) := by decide +kernel
theorem d_M_last_6 : decode prog_11_method_36_code 6 = .ok (.invokevirtual 184, 3) := by decide +kernel
theorem d_M_last_9 : decode prog_11_method_36_code 9 = .ok (.ireturn, 1) := by decide +kernel
set_option maxHeartbeats 4000000 in
set_option maxRecDepth 20000 in
theorem c_M_last (s0 : MS) (Q : Int → MS → Prop) (h : wp_M_last s0 Q) : MT dscM ⟨"BellSchoolModel", "last", "()I"⟩ prog_11_method_36_code 1 (some .int) 4 (fun ad => [.ref (ad 0)]) s0 (po_I dscM Q) := by
  refine met_of (by decide) (fun _ => Nat.le_of_ble_eq_true rfl) (fun X E hR => ?_)
  replace E : EV dscM X prog_11_method_36_code "BellSchoolModel" 1 4 := E
  show VV dscM X 0 [(0, .ref (adX X 0))] [] s0
  unfold wp_M_last at h
  refine v_aloadn E d_M_last_0 rfl 0 rfl ?_
  refine v_aloadn E d_M_last_1 rfl 0 rfl ?_
  refine v_getA E cf9 dM_0 19 (by decide) rfl mw556 d_M_last_2 rfl ?_
  refine v_iconst E d_M_last_5 ?_
  refine v_callVI E md_M_latest (c_M_latest 13 dM_13 0 (by decide) s0 _ h) dM_0 rfl ⟨by decide, by decide⟩ mw596 d_M_last_6 (fun _ => rfl) (st := []) rfl (Nat.le_of_ble_eq_true rfl) (fun r1 s1 hr1 h => ?_)
  exact v_iret E hR rfl hr1 h d_M_last_9
theorem d_M_remember_0 : decode prog_11_method_37_code 0 = .ok (.iconst 0, 1) := by decide +kernel
theorem d_M_remember_1 : decode prog_11_method_37_code 1 = .ok (.istore_n 1, 1) := by decide +kernel
theorem d_M_remember_2 : decode prog_11_method_37_code 2 = .ok (.iload_n 1, 1) := by decide +kernel
theorem d_M_remember_3 : decode prog_11_method_37_code 3 = .ok (.bipush 13, 2) := by decide +kernel
theorem d_M_remember_5 : decode prog_11_method_37_code 5 = .ok (.if_icmp .ge 29, 3) := by decide +kernel
theorem d_M_remember_8 : decode prog_11_method_37_code 8 = .ok (.aload_n 0, 1) := by decide +kernel
theorem d_M_remember_9 : decode prog_11_method_37_code 9 = .ok (.getfield 55, 3) := by decide +kernel
theorem d_M_remember_12 : decode prog_11_method_37_code 12 = .ok (.bipush 13, 2) := by decide +kernel
theorem d_M_remember_14 : decode prog_11_method_37_code 14 = .ok (.aload_n 0, 1) := by decide +kernel
theorem d_M_remember_15 : decode prog_11_method_37_code 15 = .ok (.getfield 190, 3) := by decide +kernel
theorem d_M_remember_18 : decode prog_11_method_37_code 18 = .ok (.imul, 1) := by decide +kernel
theorem d_M_remember_19 : decode prog_11_method_37_code 19 = .ok (.iload_n 1, 1) := by decide +kernel
theorem d_M_remember_20 : decode prog_11_method_37_code 20 = .ok (.iadd, 1) := by decide +kernel
theorem d_M_remember_21 : decode prog_11_method_37_code 21 = .ok (.aload_n 0, 1) := by decide +kernel
theorem d_M_remember_22 : decode prog_11_method_37_code 22 = .ok (.getfield 46, 3) := by decide +kernel
theorem d_M_remember_25 : decode prog_11_method_37_code 25 = .ok (.iload_n 1, 1) := by decide +kernel
theorem d_M_remember_26 : decode prog_11_method_37_code 26 = .ok (.iaload, 1) := by decide +kernel
theorem d_M_remember_27 : decode prog_11_method_37_code 27 = .ok (.iastore, 1) := by decide +kernel
theorem d_M_remember_28 : decode prog_11_method_37_code 28 = .ok (.iinc 1 1, 3) := by decide +kernel
theorem d_M_remember_31 : decode prog_11_method_37_code 31 = .ok (.goto (-29), 3) := by decide +kernel
theorem d_M_remember_34 : decode prog_11_method_37_code 34 = .ok (.aload_n 0, 1) := by decide +kernel
theorem d_M_remember_35 : decode prog_11_method_37_code 35 = .ok (.aload_n 0, 1) := by decide +kernel
theorem d_M_remember_36 : decode prog_11_method_37_code 36 = .ok (.getfield 190, 3) := by decide +kernel
theorem d_M_remember_39 : decode prog_11_method_37_code 39 = .ok (.iconst 1, 1) := by decide +kernel
theorem d_M_remember_40 : decode prog_11_method_37_code 40 = .ok (.iadd, 1) := by decide +kernel
theorem d_M_remember_41 : decode prog_11_method_37_code 41 = .ok (.bipush 8, 2) := by decide +kernel
theorem d_M_remember_43 : decode prog_11_method_37_code 43 = .ok (.irem, 1) := by decide +kernel
theorem d_M_remember_44 : decode prog_11_method_37_code 44 = .ok (.putfield 190, 3) := by decide +kernel
theorem d_M_remember_47 : decode prog_11_method_37_code 47 = .ok (.aload_n 0, 1) := by decide +kernel
theorem d_M_remember_48 : decode prog_11_method_37_code 48 = .ok (.dup, 1) := by decide +kernel
theorem d_M_remember_49 : decode prog_11_method_37_code 49 = .ok (.getfield 154, 3) := by decide +kernel
theorem d_M_remember_52 : decode prog_11_method_37_code 52 = .ok (.aload_n 0, 1) := by decide +kernel
theorem d_M_remember_53 : decode prog_11_method_37_code 53 = .ok (.getfield 154, 3) := by decide +kernel
theorem d_M_remember_56 : decode prog_11_method_37_code 56 = .ok (.bipush 8, 2) := by decide +kernel
theorem d_M_remember_58 : decode prog_11_method_37_code 58 = .ok (.if_icmp .ge 7, 3) := by decide +kernel
theorem d_M_remember_61 : decode prog_11_method_37_code 61 = .ok (.iconst 1, 1) := by decide +kernel
theorem d_M_remember_62 : decode prog_11_method_37_code 62 = .ok (.goto 4, 3) := by decide +kernel
theorem d_M_remember_65 : decode prog_11_method_37_code 65 = .ok (.iconst 0, 1) := by decide +kernel
theorem d_M_remember_66 : decode prog_11_method_37_code 66 = .ok (.iadd, 1) := by decide +kernel
theorem d_M_remember_67 : decode prog_11_method_37_code 67 = .ok (.putfield 154, 3) := by decide +kernel
theorem d_M_remember_70 : decode prog_11_method_37_code 70 = .ok (.return_, 1) := by decide +kernel
set_option maxHeartbeats 4000000 in
set_option maxRecDepth 20000 in
theorem c_M_remember (s0 : MS) (Q : MS → Prop) (h : wp_M_remember s0 Q) : MT dscM ⟨"BellSchoolModel", "remember", "()V"⟩ prog_11_method_37_code 2 none 0 (fun ad => [.ref (ad 0)]) s0 (po_V dscM Q) := by
  refine met_of (by decide) (fun _ => Nat.le_of_ble_eq_true rfl) (fun X E hR => ?_)
  replace E : EV dscM X prog_11_method_37_code "BellSchoolModel" 2 0 := E
  show VV dscM X 0 [(0, .ref (adX X 0))] [] s0
  unfold wp_M_remember at h
  refine v_iconst E d_M_remember_0 ?_
  refine v_istoren E d_M_remember_1 rfl (by decide) (L' := [(1, .int (iI 0)), (0, .ref (adX X 0))]) rfl ?_
  refine v_sub [1, 0] (L' := [(0, .ref (adX X 0)), (1, .int (iI 0))]) rfl ?_
  obtain ⟨I1, μ1, h01, h⟩ := h
  refine v_loop1 (fun (x1 : Int) => [(0, .ref (adX X 0)), (1, .int (iI x1))]) I1 μ1 (fun x1 s1 hI1 ih1 => ?_) 0 s0 h01
  replace h := h x1 s1 hI1
  refine v_iloadn E d_M_remember_2 rfl 1 rfl ?_
  refine v_bipush E d_M_remember_3 rfl ?_
  obtain ⟨q1, h⟩ := h
  refine v_icmp_ge E 34 d_M_remember_5 (by decide) q1 (by decide) (fun c1 => ?_) (fun c1 => ?_)
  · replace h := h.1 c1
    refine v_aloadn E d_M_remember_34 rfl 0 rfl ?_
    refine v_aloadn E d_M_remember_35 rfl 0 rfl ?_
    refine v_getI E cf9 dM_0 23 (by decide) rfl mw620 d_M_remember_36 rfl ?_
    refine v_iconst E d_M_remember_39 ?_
    refine v_iadd E d_M_remember_40 ?_
    refine v_bipush E d_M_remember_41 rfl ?_
    obtain ⟨q2, h⟩ := h
    refine v_irem E d_M_remember_43 q2 (by decide) ?_
    refine v_putI E cf9 dM_0 23 (by decide) rfl rfl mw620 d_M_remember_44 rfl rfl rfl (Rng_rm q2 (by decide)) ?_
    refine v_nameS (fun s2 hs2 => ?_)
    replace h := h s2 hs2
    refine v_aloadn E d_M_remember_47 rfl 0 rfl ?_
    refine v_dup E d_M_remember_48 rfl ?_
    refine v_getI E cf9 dM_0 22 (by decide) rfl mw557 d_M_remember_49 rfl ?_
    refine v_aloadn E d_M_remember_52 rfl 0 rfl ?_
    refine v_getI E cf9 dM_0 22 (by decide) rfl mw557 d_M_remember_53 rfl ?_
    refine v_bipush E d_M_remember_56 rfl ?_
    refine v_wt (fun wt1 => ?_)
    refine v_icmp_ge E 65 d_M_remember_58 (by decide) (wt1 0 22) (by decide) (fun c2 => ?_) (fun c2 => ?_)
    · replace h := h.1 c2
      refine v_iconst E d_M_remember_65 ?_
      refine v_iadd E d_M_remember_66 ?_
      obtain ⟨q3, h⟩ := h
      refine v_putI E cf9 dM_0 22 (by decide) rfl rfl mw557 d_M_remember_67 rfl rfl rfl q3 ?_
      refine v_nameS (fun s3 hs3 => ?_)
      replace h := h s3 hs3
      exact v_vret E hR h d_M_remember_70
    · replace h := h.2 c2
      refine v_iconst E d_M_remember_61 ?_
      refine v_goto E 66 d_M_remember_62 (by decide) ?_
      refine v_iadd E d_M_remember_66 ?_
      obtain ⟨q4, h⟩ := h
      refine v_putI E cf9 dM_0 22 (by decide) rfl rfl mw557 d_M_remember_67 rfl rfl rfl q4 ?_
      refine v_nameS (fun s4 hs4 => ?_)
      replace h := h s4 hs4
      exact v_vret E hR h d_M_remember_70
  · replace h := h.2 c1
    refine v_aloadn E d_M_remember_8 rfl 0 rfl ?_
    refine v_getA E cf9 dM_0 24 (by decide) rfl mw621 d_M_remember_9 rfl ?_
    refine v_bipush E d_M_remember_12 rfl ?_
    refine v_aloadn E d_M_remember_14 rfl 0 rfl ?_
    refine v_getI E cf9 dM_0 23 (by decide) rfl mw620 d_M_remember_15 rfl ?_
    refine v_imul E d_M_remember_18 ?_
    refine v_iloadn E d_M_remember_19 rfl 1 rfl ?_
    refine v_iadd E d_M_remember_20 ?_
    refine v_aloadn E d_M_remember_21 rfl 0 rfl ?_
    refine v_getA E cf9 dM_0 19 (by decide) rfl mw556 d_M_remember_22 rfl ?_
    refine v_iloadn E d_M_remember_25 rfl 1 rfl ?_
    obtain ⟨q5, h⟩ := h
    refine v_iald E dM_13 (by decide) q5.1 q5.2 d_M_remember_26 ?_
    obtain ⟨q6, h⟩ := h
    refine v_wt (fun wt2 => ?_)
    refine v_iast E dM_16 (by decide) q6.1 q6.2 (wt2 13 x1) d_M_remember_27 ?_
    refine v_nameS (fun s5 hs5 => ?_)
    replace h := h s5 hs5
    refine v_iincN E d_M_remember_28 1 rfl (by decide) (fun y => [(1, .int (iI y)), (0, .ref (adX X 0))]) (fun _ => rfl) (fun x2 hx2 => ?_)
    replace h := h x2 hx2
    refine v_goto E 2 d_M_remember_31 (by decide) ?_
    obtain ⟨hb, hm⟩ := h
    exact v_sub [1, 0] rfl (ih1 x2 s5 hb hm)
theorem d_M_pass_0 : decode prog_11_method_38_code 0 = .ok (.iload_n 1, 1) := by decide +kernel
theorem d_M_pass_1 : decode prog_11_method_38_code 1 = .ok (.iconst 1, 1) := by decide +kernel
theorem d_M_pass_2 : decode prog_11_method_38_code 2 = .ok (.bipush 28, 2) := by decide +kernel
theorem d_M_pass_4 : decode prog_11_method_38_code 4 = .ok (.invokestatic 105, 3) := by decide +kernel
theorem d_M_pass_7 : decode prog_11_method_38_code 7 = .ok (.ifCond .ne 5, 3) := by decide +kernel
theorem d_M_pass_10 : decode prog_11_method_38_code 10 = .ok (.iconst (-1), 1) := by decide +kernel
theorem d_M_pass_11 : decode prog_11_method_38_code 11 = .ok (.ireturn, 1) := by decide +kernel
theorem d_M_pass_12 : decode prog_11_method_38_code 12 = .ok (.aload_n 0, 1) := by decide +kernel
theorem d_M_pass_13 : decode prog_11_method_38_code 13 = .ok (.invokevirtual 193, 3) := by decide +kernel
theorem d_M_pass_16 : decode prog_11_method_38_code 16 = .ok (.iconst 0, 1) := by decide +kernel
theorem d_M_pass_17 : decode prog_11_method_38_code 17 = .ok (.istore_n 2, 1) := by decide +kernel
theorem d_M_pass_18 : decode prog_11_method_38_code 18 = .ok (.iload_n 2, 1) := by decide +kernel
theorem d_M_pass_19 : decode prog_11_method_38_code 19 = .ok (.iload_n 1, 1) := by decide +kernel
theorem d_M_pass_20 : decode prog_11_method_38_code 20 = .ok (.if_icmp .ge 17, 3) := by decide +kernel
theorem d_M_pass_23 : decode prog_11_method_38_code 23 = .ok (.aload_n 0, 1) := by decide +kernel
theorem d_M_pass_24 : decode prog_11_method_38_code 24 = .ok (.aload_n 0, 1) := by decide +kernel
theorem d_M_pass_25 : decode prog_11_method_38_code 25 = .ok (.getfield 46, 3) := by decide +kernel
theorem d_M_pass_28 : decode prog_11_method_38_code 28 = .ok (.invokevirtual 196, 3) := by decide +kernel
theorem d_M_pass_31 : decode prog_11_method_38_code 31 = .ok (.iinc 2 1, 3) := by decide +kernel
theorem d_M_pass_34 : decode prog_11_method_38_code 34 = .ok (.goto (-16), 3) := by decide +kernel
theorem d_M_pass_37 : decode prog_11_method_38_code 37 = .ok (.aload_n 0, 1) := by decide +kernel
theorem d_M_pass_38 : decode prog_11_method_38_code 38 = .ok (.getfield 46, 3) := by decide +kernel
theorem d_M_pass_41 : decode prog_11_method_38_code 41 = .ok (.iconst 0, 1) := by decide +kernel
theorem d_M_pass_42 : decode prog_11_method_38_code 42 = .ok (.iaload, 1) := by decide +kernel
theorem d_M_pass_43 : decode prog_11_method_38_code 43 = .ok (.ireturn, 1) := by decide +kernel
set_option maxHeartbeats 4000000 in
set_option maxRecDepth 20000 in
theorem c_M_pass (p1 : Int) (hp1 : Rng p1) (s0 : MS) (Q : Int → MS → Prop) (h : wp_M_pass p1 s0 Q) : MT dscM ⟨"BellSchoolModel", "pass", "(I)I"⟩ prog_11_method_38_code 3 (some .int) 5 (fun ad => [.ref (ad 0), .int (iI p1)]) s0 (po_I dscM Q) := by
  refine met_of (by decide) (fun _ => Nat.le_of_ble_eq_true rfl) (fun X E hR => ?_)
  replace E : EV dscM X prog_11_method_38_code "BellSchoolModel" 3 5 := E
  show VV dscM X 0 [(0, .ref (adX X 0)), (1, .int (iI p1))] [] s0
  unfold wp_M_pass at h
  refine v_iloadn E d_M_pass_0 rfl 1 rfl ?_
  refine v_iconst E d_M_pass_1 ?_
  refine v_bipush E d_M_pass_2 rfl ?_
  refine v_callSIpz E md_M_in (c_M_in dscM p1 hp1 1 (by decide) 28 (by decide) s0 _ h) ⟨by decide, by decide⟩ mw496 d_M_pass_4 (fun _ => rfl) (st := []) rfl (Nat.le_of_ble_eq_true rfl) (fun r1 hr1 hz1 h => ?_)
  refine v_if_ne E 12 d_M_pass_7 (by decide) hr1 (fun c1 => ?_) (fun c1 => ?_)
  · replace h := h.1 c1
    refine v_aloadn E d_M_pass_12 rfl 0 rfl ?_
    refine v_callVV E md_M_remember (c_M_remember s0 _ h) dM_0 rfl ⟨by decide, by decide⟩ mw625 d_M_pass_13 (fun _ => rfl) (st := []) rfl (Nat.le_of_ble_eq_true rfl) (fun s1 h => ?_)
    refine v_iconst E d_M_pass_16 ?_
    refine v_istoren E d_M_pass_17 rfl (by decide) (L' := [(2, .int (iI 0)), (0, .ref (adX X 0)), (1, .int (iI p1))]) rfl ?_
    refine v_sub [1, 2, 0] (L' := [(0, .ref (adX X 0)), (1, .int (iI p1)), (2, .int (iI 0))]) rfl ?_
    obtain ⟨I1, μ1, h01, h⟩ := h
    refine v_loop1 (fun (x1 : Int) => [(0, .ref (adX X 0)), (1, .int (iI p1)), (2, .int (iI x1))]) I1 μ1 (fun x1 s2 hI1 ih1 => ?_) 0 s1 h01
    replace h := h x1 s2 hI1
    refine v_iloadn E d_M_pass_18 rfl 2 rfl ?_
    refine v_iloadn E d_M_pass_19 rfl 1 rfl ?_
    obtain ⟨q1, h⟩ := h
    refine v_icmp_ge E 37 d_M_pass_20 (by decide) q1 hp1 (fun c2 => ?_) (fun c2 => ?_)
    · replace h := h.1 c2
      refine v_aloadn E d_M_pass_37 rfl 0 rfl ?_
      refine v_getA E cf9 dM_0 19 (by decide) rfl mw556 d_M_pass_38 rfl ?_
      refine v_iconst E d_M_pass_41 ?_
      refine v_iald E dM_13 (by decide) (by decide) (by decide) d_M_pass_42 ?_
      refine v_wt (fun wt1 => ?_)
      exact v_iret E hR rfl (wt1 13 0) h d_M_pass_43
    · replace h := h.2 c2
      refine v_aloadn E d_M_pass_23 rfl 0 rfl ?_
      refine v_aloadn E d_M_pass_24 rfl 0 rfl ?_
      refine v_getA E cf9 dM_0 19 (by decide) rfl mw556 d_M_pass_25 rfl ?_
      refine v_callVV E md_M_goesBy (c_M_goesBy 13 dM_13 s2 _ h) dM_0 rfl ⟨by decide, by decide⟩ mw626 d_M_pass_28 (fun _ => rfl) (st := []) rfl (Nat.le_of_ble_eq_true rfl) (fun s3 h => ?_)
      refine v_iincN E d_M_pass_31 2 rfl (by decide) (fun y => [(2, .int (iI y)), (0, .ref (adX X 0)), (1, .int (iI p1))]) (fun _ => rfl) (fun x2 hx2 => ?_)
      replace h := h x2 hx2
      refine v_goto E 18 d_M_pass_34 (by decide) ?_
      obtain ⟨hb, hm⟩ := h
      exact v_sub [1, 2, 0] rfl (ih1 x2 s3 hb hm)
  · replace h := h.2 c1
    refine v_iconst E d_M_pass_10 ?_
    exact v_iret E hR rfl (by decide) h d_M_pass_11
theorem d_M_keepBack_0 : decode prog_11_method_39_code 0 = .ok (.aload_n 0, 1) := by decide +kernel
theorem d_M_keepBack_1 : decode prog_11_method_39_code 1 = .ok (.iload_n 1, 1) := by decide +kernel
theorem d_M_keepBack_2 : decode prog_11_method_39_code 2 = .ok (.invokevirtual 187, 3) := by decide +kernel
theorem d_M_keepBack_5 : decode prog_11_method_39_code 5 = .ok (.ifCond .ne 5, 3) := by decide +kernel
theorem d_M_keepBack_8 : decode prog_11_method_39_code 8 = .ok (.iconst (-1), 1) := by decide +kernel
theorem d_M_keepBack_9 : decode prog_11_method_39_code 9 = .ok (.ireturn, 1) := by decide +kernel
theorem d_M_keepBack_10 : decode prog_11_method_39_code 10 = .ok (.aload_n 0, 1) := by decide +kernel
theorem d_M_keepBack_11 : decode prog_11_method_39_code 11 = .ok (.invokevirtual 193, 3) := by decide +kernel
theorem d_M_keepBack_14 : decode prog_11_method_39_code 14 = .ok (.aload_n 0, 1) := by decide +kernel
theorem d_M_keepBack_15 : decode prog_11_method_39_code 15 = .ok (.getfield 46, 3) := by decide +kernel
theorem d_M_keepBack_18 : decode prog_11_method_39_code 18 = .ok (.iconst 2, 1) := by decide +kernel
theorem d_M_keepBack_19 : decode prog_11_method_39_code 19 = .ok (.dup2, 1) := by decide +kernel
theorem d_M_keepBack_20 : decode prog_11_method_39_code 20 = .ok (.iaload, 1) := by decide +kernel
theorem d_M_keepBack_21 : decode prog_11_method_39_code 21 = .ok (.iconst 1, 1) := by decide +kernel
theorem d_M_keepBack_22 : decode prog_11_method_39_code 22 = .ok (.iload_n 1, 1) := by decide +kernel
theorem d_M_keepBack_23 : decode prog_11_method_39_code 23 = .ok (.ishl, 1) := by decide +kernel
theorem d_M_keepBack_24 : decode prog_11_method_39_code 24 = .ok (.ixor, 1) := by decide +kernel
theorem d_M_keepBack_25 : decode prog_11_method_39_code 25 = .ok (.iastore, 1) := by decide +kernel
theorem d_M_keepBack_26 : decode prog_11_method_39_code 26 = .ok (.aload_n 0, 1) := by decide +kernel
theorem d_M_keepBack_27 : decode prog_11_method_39_code 27 = .ok (.getfield 46, 3) := by decide +kernel
theorem d_M_keepBack_30 : decode prog_11_method_39_code 30 = .ok (.iconst 2, 1) := by decide +kernel
theorem d_M_keepBack_31 : decode prog_11_method_39_code 31 = .ok (.iaload, 1) := by decide +kernel
theorem d_M_keepBack_32 : decode prog_11_method_39_code 32 = .ok (.iload_n 1, 1) := by decide +kernel
theorem d_M_keepBack_33 : decode prog_11_method_39_code 33 = .ok (.ishr, 1) := by decide +kernel
theorem d_M_keepBack_34 : decode prog_11_method_39_code 34 = .ok (.iconst 1, 1) := by decide +kernel
theorem d_M_keepBack_35 : decode prog_11_method_39_code 35 = .ok (.iand, 1) := by decide +kernel
theorem d_M_keepBack_36 : decode prog_11_method_39_code 36 = .ok (.ireturn, 1) := by decide +kernel
set_option maxHeartbeats 4000000 in
set_option maxRecDepth 20000 in
theorem c_M_keepBack (p1 : Int) (hp1 : Rng p1) (s0 : MS) (Q : Int → MS → Prop) (h : wp_M_keepBack p1 s0 Q) : MT dscM ⟨"BellSchoolModel", "keepBack", "(I)I"⟩ prog_11_method_39_code 2 (some .int) 2 (fun ad => [.ref (ad 0), .int (iI p1)]) s0 (po_I dscM Q) := by
  refine met_of (by decide) (fun _ => Nat.le_of_ble_eq_true rfl) (fun X E hR => ?_)
  replace E : EV dscM X prog_11_method_39_code "BellSchoolModel" 2 2 := E
  show VV dscM X 0 [(0, .ref (adX X 0)), (1, .int (iI p1))] [] s0
  unfold wp_M_keepBack at h
  refine v_aloadn E d_M_keepBack_0 rfl 0 rfl ?_
  refine v_iloadn E d_M_keepBack_1 rfl 1 rfl ?_
  refine v_callVIpz E md_M_isHome (c_M_isHome p1 hp1 s0 _ h) dM_0 rfl ⟨by decide, by decide⟩ mw604 d_M_keepBack_2 (fun _ => rfl) (st := []) rfl (Nat.le_of_ble_eq_true rfl) (fun r1 hr1 hz1 h => ?_)
  refine v_if_ne E 10 d_M_keepBack_5 (by decide) hr1 (fun c1 => ?_) (fun c1 => ?_)
  · replace h := h.1 c1
    refine v_aloadn E d_M_keepBack_10 rfl 0 rfl ?_
    refine v_callVV E md_M_remember (c_M_remember s0 _ h) dM_0 rfl ⟨by decide, by decide⟩ mw625 d_M_keepBack_11 (fun _ => rfl) (st := []) rfl (Nat.le_of_ble_eq_true rfl) (fun s1 h => ?_)
    refine v_aloadn E d_M_keepBack_14 rfl 0 rfl ?_
    refine v_getA E cf9 dM_0 19 (by decide) rfl mw556 d_M_keepBack_15 rfl ?_
    refine v_iconst E d_M_keepBack_18 ?_
    refine v_dup2 E d_M_keepBack_19 rfl rfl ?_
    refine v_iald E dM_13 (by decide) (by decide) (by decide) d_M_keepBack_20 ?_
    refine v_iconst E d_M_keepBack_21 ?_
    refine v_iloadn E d_M_keepBack_22 rfl 1 rfl ?_
    refine v_ishl E d_M_keepBack_23 ?_
    refine v_ixor E d_M_keepBack_24 ?_
    refine v_iast E dM_13 (by decide) (by decide) (by decide) (Rng_of _) d_M_keepBack_25 ?_
    refine v_nameS (fun s2 hs2 => ?_)
    replace h := h s2 hs2
    refine v_aloadn E d_M_keepBack_26 rfl 0 rfl ?_
    refine v_getA E cf9 dM_0 19 (by decide) rfl mw556 d_M_keepBack_27 rfl ?_
    refine v_iconst E d_M_keepBack_30 ?_
    refine v_iald E dM_13 (by decide) (by decide) (by decide) d_M_keepBack_31 ?_
    refine v_iloadn E d_M_keepBack_32 rfl 1 rfl ?_
    refine v_ishr E d_M_keepBack_33 ?_
    refine v_iconst E d_M_keepBack_34 ?_
    refine v_iand E d_M_keepBack_35 ?_
    exact v_iret E hR rfl (Rng_of _) h d_M_keepBack_36
  · replace h := h.2 c1
    refine v_iconst E d_M_keepBack_8 ?_
    exact v_iret E hR rfl (by decide) h d_M_keepBack_9
theorem d_M_sick_0 : decode prog_11_method_40_code 0 = .ok (.aload_n 0, 1) := by decide +kernel
theorem d_M_sick_1 : decode prog_11_method_40_code 1 = .ok (.iload_n 1, 1) := by decide +kernel
theorem d_M_sick_2 : decode prog_11_method_40_code 2 = .ok (.invokevirtual 187, 3) := by decide +kernel
theorem d_M_sick_5 : decode prog_11_method_40_code 5 = .ok (.ifCond .ne 5, 3) := by decide +kernel
theorem d_M_sick_8 : decode prog_11_method_40_code 8 = .ok (.iconst (-1), 1) := by decide +kernel
theorem d_M_sick_9 : decode prog_11_method_40_code 9 = .ok (.ireturn, 1) := by decide +kernel
theorem d_M_sick_10 : decode prog_11_method_40_code 10 = .ok (.aload_n 0, 1) := by decide +kernel
theorem d_M_sick_11 : decode prog_11_method_40_code 11 = .ok (.invokevirtual 193, 3) := by decide +kernel
theorem d_M_sick_14 : decode prog_11_method_40_code 14 = .ok (.aload_n 0, 1) := by decide +kernel
theorem d_M_sick_15 : decode prog_11_method_40_code 15 = .ok (.getfield 46, 3) := by decide +kernel
theorem d_M_sick_18 : decode prog_11_method_40_code 18 = .ok (.iconst 3, 1) := by decide +kernel
theorem d_M_sick_19 : decode prog_11_method_40_code 19 = .ok (.dup2, 1) := by decide +kernel
theorem d_M_sick_20 : decode prog_11_method_40_code 20 = .ok (.iaload, 1) := by decide +kernel
theorem d_M_sick_21 : decode prog_11_method_40_code 21 = .ok (.iconst 1, 1) := by decide +kernel
theorem d_M_sick_22 : decode prog_11_method_40_code 22 = .ok (.iload_n 1, 1) := by decide +kernel
theorem d_M_sick_23 : decode prog_11_method_40_code 23 = .ok (.ishl, 1) := by decide +kernel
theorem d_M_sick_24 : decode prog_11_method_40_code 24 = .ok (.ixor, 1) := by decide +kernel
theorem d_M_sick_25 : decode prog_11_method_40_code 25 = .ok (.iastore, 1) := by decide +kernel
theorem d_M_sick_26 : decode prog_11_method_40_code 26 = .ok (.aload_n 0, 1) := by decide +kernel
theorem d_M_sick_27 : decode prog_11_method_40_code 27 = .ok (.getfield 46, 3) := by decide +kernel
theorem d_M_sick_30 : decode prog_11_method_40_code 30 = .ok (.iconst 3, 1) := by decide +kernel
theorem d_M_sick_31 : decode prog_11_method_40_code 31 = .ok (.iaload, 1) := by decide +kernel
theorem d_M_sick_32 : decode prog_11_method_40_code 32 = .ok (.iload_n 1, 1) := by decide +kernel
theorem d_M_sick_33 : decode prog_11_method_40_code 33 = .ok (.ishr, 1) := by decide +kernel
theorem d_M_sick_34 : decode prog_11_method_40_code 34 = .ok (.iconst 1, 1) := by decide +kernel
theorem d_M_sick_35 : decode prog_11_method_40_code 35 = .ok (.iand, 1) := by decide +kernel
theorem d_M_sick_36 : decode prog_11_method_40_code 36 = .ok (.ireturn, 1) := by decide +kernel
set_option maxHeartbeats 4000000 in
set_option maxRecDepth 20000 in
theorem c_M_sick (p1 : Int) (hp1 : Rng p1) (s0 : MS) (Q : Int → MS → Prop) (h : wp_M_sick p1 s0 Q) : MT dscM ⟨"BellSchoolModel", "sick", "(I)I"⟩ prog_11_method_40_code 2 (some .int) 2 (fun ad => [.ref (ad 0), .int (iI p1)]) s0 (po_I dscM Q) := by
  refine met_of (by decide) (fun _ => Nat.le_of_ble_eq_true rfl) (fun X E hR => ?_)
  replace E : EV dscM X prog_11_method_40_code "BellSchoolModel" 2 2 := E
  show VV dscM X 0 [(0, .ref (adX X 0)), (1, .int (iI p1))] [] s0
  unfold wp_M_sick at h
  refine v_aloadn E d_M_sick_0 rfl 0 rfl ?_
  refine v_iloadn E d_M_sick_1 rfl 1 rfl ?_
  refine v_callVIpz E md_M_isHome (c_M_isHome p1 hp1 s0 _ h) dM_0 rfl ⟨by decide, by decide⟩ mw604 d_M_sick_2 (fun _ => rfl) (st := []) rfl (Nat.le_of_ble_eq_true rfl) (fun r1 hr1 hz1 h => ?_)
  refine v_if_ne E 10 d_M_sick_5 (by decide) hr1 (fun c1 => ?_) (fun c1 => ?_)
  · replace h := h.1 c1
    refine v_aloadn E d_M_sick_10 rfl 0 rfl ?_
    refine v_callVV E md_M_remember (c_M_remember s0 _ h) dM_0 rfl ⟨by decide, by decide⟩ mw625 d_M_sick_11 (fun _ => rfl) (st := []) rfl (Nat.le_of_ble_eq_true rfl) (fun s1 h => ?_)
    refine v_aloadn E d_M_sick_14 rfl 0 rfl ?_
    refine v_getA E cf9 dM_0 19 (by decide) rfl mw556 d_M_sick_15 rfl ?_
    refine v_iconst E d_M_sick_18 ?_
    refine v_dup2 E d_M_sick_19 rfl rfl ?_
    refine v_iald E dM_13 (by decide) (by decide) (by decide) d_M_sick_20 ?_
    refine v_iconst E d_M_sick_21 ?_
    refine v_iloadn E d_M_sick_22 rfl 1 rfl ?_
    refine v_ishl E d_M_sick_23 ?_
    refine v_ixor E d_M_sick_24 ?_
    refine v_iast E dM_13 (by decide) (by decide) (by decide) (Rng_of _) d_M_sick_25 ?_
    refine v_nameS (fun s2 hs2 => ?_)
    replace h := h s2 hs2
    refine v_aloadn E d_M_sick_26 rfl 0 rfl ?_
    refine v_getA E cf9 dM_0 19 (by decide) rfl mw556 d_M_sick_27 rfl ?_
    refine v_iconst E d_M_sick_30 ?_
    refine v_iald E dM_13 (by decide) (by decide) (by decide) d_M_sick_31 ?_
    refine v_iloadn E d_M_sick_32 rfl 1 rfl ?_
    refine v_ishr E d_M_sick_33 ?_
    refine v_iconst E d_M_sick_34 ?_
    refine v_iand E d_M_sick_35 ?_
    exact v_iret E hR rfl (Rng_of _) h d_M_sick_36
  · replace h := h.2 c1
    refine v_iconst E d_M_sick_8 ?_
    exact v_iret E hR rfl (by decide) h d_M_sick_9
theorem d_M_shut_0 : decode prog_11_method_41_code 0 = .ok (.aload_n 0, 1) := by decide +kernel
theorem d_M_shut_1 : decode prog_11_method_41_code 1 = .ok (.iload_n 1, 1) := by decide +kernel
theorem d_M_shut_2 : decode prog_11_method_41_code 2 = .ok (.invokevirtual 187, 3) := by decide +kernel
theorem d_M_shut_5 : decode prog_11_method_41_code 5 = .ok (.ifCond .eq 16, 3) := by decide +kernel
theorem d_M_shut_8 : decode prog_11_method_41_code 8 = .ok (.aload_n 0, 1) := by decide +kernel
theorem d_M_shut_9 : decode prog_11_method_41_code 9 = .ok (.iload_n 2, 1) := by decide +kernel
theorem d_M_shut_10 : decode prog_11_method_41_code 10 = .ok (.invokevirtual 187, 3) := by decide +kernel
theorem d_M_shut_13 : decode prog_11_method_41_code 13 = .ok (.ifCond .eq 8, 3) := by decide +kernel
theorem d_M_shut_16 : decode prog_11_method_41_code 16 = .ok (.iload_n 1, 1) := by decide +kernel
theorem d_M_shut_17 : decode prog_11_method_41_code 17 = .ok (.iload_n 2, 1) := by decide +kernel
theorem d_M_shut_18 : decode prog_11_method_41_code 18 = .ok (.if_icmp .ne 5, 3) := by decide +kernel
theorem d_M_shut_21 : decode prog_11_method_41_code 21 = .ok (.iconst (-1), 1) := by decide +kernel
theorem d_M_shut_22 : decode prog_11_method_41_code 22 = .ok (.ireturn, 1) := by decide +kernel
theorem d_M_shut_23 : decode prog_11_method_41_code 23 = .ok (.aload_n 0, 1) := by decide +kernel
theorem d_M_shut_24 : decode prog_11_method_41_code 24 = .ok (.getfield 37, 3) := by decide +kernel
theorem d_M_shut_27 : decode prog_11_method_41_code 27 = .ok (.bipush 7, 2) := by decide +kernel
theorem d_M_shut_29 : decode prog_11_method_41_code 29 = .ok (.iload_n 1, 1) := by decide +kernel
theorem d_M_shut_30 : decode prog_11_method_41_code 30 = .ok (.imul, 1) := by decide +kernel
theorem d_M_shut_31 : decode prog_11_method_41_code 31 = .ok (.iload_n 2, 1) := by decide +kernel
theorem d_M_shut_32 : decode prog_11_method_41_code 32 = .ok (.iadd, 1) := by decide +kernel
theorem d_M_shut_33 : decode prog_11_method_41_code 33 = .ok (.iaload, 1) := by decide +kernel
theorem d_M_shut_34 : decode prog_11_method_41_code 34 = .ok (.ifCond .ne 6, 3) := by decide +kernel
theorem d_M_shut_37 : decode prog_11_method_41_code 37 = .ok (.bipush (-2), 2) := by decide +kernel
theorem d_M_shut_39 : decode prog_11_method_41_code 39 = .ok (.ireturn, 1) := by decide +kernel
theorem d_M_shut_40 : decode prog_11_method_41_code 40 = .ok (.aload_n 0, 1) := by decide +kernel
theorem d_M_shut_41 : decode prog_11_method_41_code 41 = .ok (.invokevirtual 193, 3) := by decide +kernel
theorem d_M_shut_44 : decode prog_11_method_41_code 44 = .ok (.aload_n 0, 1) := by decide +kernel
theorem d_M_shut_45 : decode prog_11_method_41_code 45 = .ok (.getfield 46, 3) := by decide +kernel
theorem d_M_shut_48 : decode prog_11_method_41_code 48 = .ok (.iconst 4, 1) := by decide +kernel
theorem d_M_shut_49 : decode prog_11_method_41_code 49 = .ok (.dup2, 1) := by decide +kernel
theorem d_M_shut_50 : decode prog_11_method_41_code 50 = .ok (.iaload, 1) := by decide +kernel
theorem d_M_shut_51 : decode prog_11_method_41_code 51 = .ok (.iconst 1, 1) := by decide +kernel
theorem d_M_shut_52 : decode prog_11_method_41_code 52 = .ok (.iload_n 1, 1) := by decide +kernel
theorem d_M_shut_53 : decode prog_11_method_41_code 53 = .ok (.iload_n 2, 1) := by decide +kernel
theorem d_M_shut_54 : decode prog_11_method_41_code 54 = .ok (.invokestatic 163, 3) := by decide +kernel
theorem d_M_shut_57 : decode prog_11_method_41_code 57 = .ok (.ishl, 1) := by decide +kernel
theorem d_M_shut_58 : decode prog_11_method_41_code 58 = .ok (.ixor, 1) := by decide +kernel
theorem d_M_shut_59 : decode prog_11_method_41_code 59 = .ok (.iastore, 1) := by decide +kernel
theorem d_M_shut_60 : decode prog_11_method_41_code 60 = .ok (.aload_n 0, 1) := by decide +kernel
theorem d_M_shut_61 : decode prog_11_method_41_code 61 = .ok (.getfield 46, 3) := by decide +kernel
theorem d_M_shut_64 : decode prog_11_method_41_code 64 = .ok (.iconst 4, 1) := by decide +kernel
theorem d_M_shut_65 : decode prog_11_method_41_code 65 = .ok (.iaload, 1) := by decide +kernel
theorem d_M_shut_66 : decode prog_11_method_41_code 66 = .ok (.iload_n 1, 1) := by decide +kernel
theorem d_M_shut_67 : decode prog_11_method_41_code 67 = .ok (.iload_n 2, 1) := by decide +kernel
theorem d_M_shut_68 : decode prog_11_method_41_code 68 = .ok (.invokestatic 163, 3) := by decide +kernel
theorem d_M_shut_71 : decode prog_11_method_41_code 71 = .ok (.ishr, 1) := by decide +kernel
theorem d_M_shut_72 : decode prog_11_method_41_code 72 = .ok (.iconst 1, 1) := by decide +kernel
theorem d_M_shut_73 : decode prog_11_method_41_code 73 = .ok (.iand, 1) := by decide +kernel
theorem d_M_shut_74 : decode prog_11_method_41_code 74 = .ok (.ireturn, 1) := by decide +kernel
set_option maxHeartbeats 4000000 in
set_option maxRecDepth 20000 in
theorem c_M_shut (p1 : Int) (hp1 : Rng p1) (p2 : Int) (hp2 : Rng p2) (s0 : MS) (Q : Int → MS → Prop) (h : wp_M_shut p1 p2 s0 Q) : MT dscM ⟨"BellSchoolModel", "shut", "(II)I"⟩ prog_11_method_41_code 3 (some .int) 2 (fun ad => [.ref (ad 0), .int (iI p1), .int (iI p2)]) s0 (po_I dscM Q) := by
  refine met_of (by decide) (fun _ => Nat.le_of_ble_eq_true rfl) (fun X E hR => ?_)
  replace E : EV dscM X prog_11_method_41_code "BellSchoolModel" 3 2 := E
  show VV dscM X 0 [(0, .ref (adX X 0)), (1, .int (iI p1)), (2, .int (iI p2))] [] s0
  unfold wp_M_shut at h
  refine v_aloadn E d_M_shut_0 rfl 0 rfl ?_
  refine v_iloadn E d_M_shut_1 rfl 1 rfl ?_
  refine v_callVIpz E md_M_isHome (c_M_isHome p1 hp1 s0 _ h) dM_0 rfl ⟨by decide, by decide⟩ mw604 d_M_shut_2 (fun _ => rfl) (st := []) rfl (Nat.le_of_ble_eq_true rfl) (fun r1 hr1 hz1 h => ?_)
  refine v_if_eq E 21 d_M_shut_5 (by decide) hr1 (fun c1 => ?_) (fun c1 => ?_)
  · replace h := h.1 c1
    refine v_iconst E d_M_shut_21 ?_
    exact v_iret E hR rfl (by decide) h d_M_shut_22
  · replace h := h.2 c1
    refine v_aloadn E d_M_shut_8 rfl 0 rfl ?_
    refine v_iloadn E d_M_shut_9 rfl 2 rfl ?_
    refine v_callVIpz E md_M_isHome (c_M_isHome p2 hp2 s0 _ h) dM_0 rfl ⟨by decide, by decide⟩ mw604 d_M_shut_10 (fun _ => rfl) (st := []) rfl (Nat.le_of_ble_eq_true rfl) (fun r2 hr2 hz2 h => ?_)
    refine v_if_eq E 21 d_M_shut_13 (by decide) hr2 (fun c2 => ?_) (fun c2 => ?_)
    · replace h := h.1 c2
      refine v_iconst E d_M_shut_21 ?_
      exact v_iret E hR rfl (by decide) h d_M_shut_22
    · replace h := h.2 c2
      refine v_iloadn E d_M_shut_16 rfl 1 rfl ?_
      refine v_iloadn E d_M_shut_17 rfl 2 rfl ?_
      refine v_icmp_ne E 23 d_M_shut_18 (by decide) hp1 hp2 (fun c3 => ?_) (fun c3 => ?_)
      · replace h := h.1 c3
        refine v_aloadn E d_M_shut_23 rfl 0 rfl ?_
        refine v_getA E cf9 dM_0 16 (by decide) rfl mw560 d_M_shut_24 rfl ?_
        refine v_bipush E d_M_shut_27 rfl ?_
        refine v_iloadn E d_M_shut_29 rfl 1 rfl ?_
        refine v_imul E d_M_shut_30 ?_
        refine v_iloadn E d_M_shut_31 rfl 2 rfl ?_
        refine v_iadd E d_M_shut_32 ?_
        obtain ⟨q1, h⟩ := h
        refine v_iald E dM_10 (by decide) q1.1 q1.2 d_M_shut_33 ?_
        refine v_wt (fun wt1 => ?_)
        refine v_if_ne E 40 d_M_shut_34 (by decide) (wt1 10 ((7 * p1) + p2)) (fun c4 => ?_) (fun c4 => ?_)
        · replace h := h.1 c4
          refine v_aloadn E d_M_shut_40 rfl 0 rfl ?_
          refine v_callVV E md_M_remember (c_M_remember s0 _ h) dM_0 rfl ⟨by decide, by decide⟩ mw625 d_M_shut_41 (fun _ => rfl) (st := []) rfl (Nat.le_of_ble_eq_true rfl) (fun s1 h => ?_)
          refine v_aloadn E d_M_shut_44 rfl 0 rfl ?_
          refine v_getA E cf9 dM_0 19 (by decide) rfl mw556 d_M_shut_45 rfl ?_
          refine v_iconst E d_M_shut_48 ?_
          refine v_dup2 E d_M_shut_49 rfl rfl ?_
          refine v_iald E dM_13 (by decide) (by decide) (by decide) d_M_shut_50 ?_
          refine v_iconst E d_M_shut_51 ?_
          refine v_iloadn E d_M_shut_52 rfl 1 rfl ?_
          refine v_iloadn E d_M_shut_53 rfl 2 rfl ?_
          refine v_callSIp E md_M_pair (c_M_pair dscM p1 hp1 p2 hp2 s1 _ h) ⟨by decide, by decide⟩ mw577 d_M_shut_54 (fun _ => rfl) (st := [.int (iI 1), .int (iI (gI s1 13 4)), .int (iI 4), .ref (adX X 13)]) rfl (Nat.le_of_ble_eq_true rfl) (fun r4 hr4 h => ?_)
          refine v_ishl E d_M_shut_57 ?_
          refine v_ixor E d_M_shut_58 ?_
          refine v_iast E dM_13 (by decide) (by decide) (by decide) (Rng_of _) d_M_shut_59 ?_
          refine v_nameS (fun s2 hs2 => ?_)
          replace h := h s2 hs2
          refine v_aloadn E d_M_shut_60 rfl 0 rfl ?_
          refine v_getA E cf9 dM_0 19 (by decide) rfl mw556 d_M_shut_61 rfl ?_
          refine v_iconst E d_M_shut_64 ?_
          refine v_iald E dM_13 (by decide) (by decide) (by decide) d_M_shut_65 ?_
          refine v_iloadn E d_M_shut_66 rfl 1 rfl ?_
          refine v_iloadn E d_M_shut_67 rfl 2 rfl ?_
          refine v_callSIp E md_M_pair (c_M_pair dscM p1 hp1 p2 hp2 s2 _ h) ⟨by decide, by decide⟩ mw577 d_M_shut_68 (fun _ => rfl) (st := [.int (iI (gI s2 13 4))]) rfl (Nat.le_of_ble_eq_true rfl) (fun r5 hr5 h => ?_)
          refine v_ishr E d_M_shut_71 ?_
          refine v_iconst E d_M_shut_72 ?_
          refine v_iand E d_M_shut_73 ?_
          exact v_iret E hR rfl (Rng_of _) h d_M_shut_74
        · replace h := h.2 c4
          refine v_bipush E d_M_shut_37 rfl ?_
          exact v_iret E hR rfl (by decide) h d_M_shut_39
      · replace h := h.2 c3
        refine v_iconst E d_M_shut_21 ?_
        exact v_iret E hR rfl (by decide) h d_M_shut_22
theorem d_M_undo_0 : decode prog_11_method_42_code 0 = .ok (.aload_n 0, 1) := by decide +kernel
theorem d_M_undo_1 : decode prog_11_method_42_code 1 = .ok (.getfield 154, 3) := by decide +kernel
theorem d_M_undo_4 : decode prog_11_method_42_code 4 = .ok (.ifCond .ne 6, 3) := by decide +kernel
theorem d_M_undo_7 : decode prog_11_method_42_code 7 = .ok (.bipush (-2), 2) := by decide +kernel
theorem d_M_undo_9 : decode prog_11_method_42_code 9 = .ok (.ireturn, 1) := by decide +kernel
theorem d_M_undo_10 : decode prog_11_method_42_code 10 = .ok (.aload_n 0, 1) := by decide +kernel
theorem d_M_undo_11 : decode prog_11_method_42_code 11 = .ok (.aload_n 0, 1) := by decide +kernel
theorem d_M_undo_12 : decode prog_11_method_42_code 12 = .ok (.getfield 190, 3) := by decide +kernel
theorem d_M_undo_15 : decode prog_11_method_42_code 15 = .ok (.bipush 8, 2) := by decide +kernel
theorem d_M_undo_17 : decode prog_11_method_42_code 17 = .ok (.iadd, 1) := by decide +kernel
theorem d_M_undo_18 : decode prog_11_method_42_code 18 = .ok (.iconst 1, 1) := by decide +kernel
theorem d_M_undo_19 : decode prog_11_method_42_code 19 = .ok (.isub, 1) := by decide +kernel
theorem d_M_undo_20 : decode prog_11_method_42_code 20 = .ok (.bipush 8, 2) := by decide +kernel
theorem d_M_undo_22 : decode prog_11_method_42_code 22 = .ok (.irem, 1) := by decide +kernel
theorem d_M_undo_23 : decode prog_11_method_42_code 23 = .ok (.putfield 190, 3) := by decide +kernel
theorem d_M_undo_26 : decode prog_11_method_42_code 26 = .ok (.aload_n 0, 1) := by decide +kernel
theorem d_M_undo_27 : decode prog_11_method_42_code 27 = .ok (.dup, 1) := by decide +kernel
theorem d_M_undo_28 : decode prog_11_method_42_code 28 = .ok (.getfield 154, 3) := by decide +kernel
theorem d_M_undo_31 : decode prog_11_method_42_code 31 = .ok (.iconst 1, 1) := by decide +kernel
theorem d_M_undo_32 : decode prog_11_method_42_code 32 = .ok (.isub, 1) := by decide +kernel
theorem d_M_undo_33 : decode prog_11_method_42_code 33 = .ok (.putfield 154, 3) := by decide +kernel
theorem d_M_undo_36 : decode prog_11_method_42_code 36 = .ok (.iconst 0, 1) := by decide +kernel
theorem d_M_undo_37 : decode prog_11_method_42_code 37 = .ok (.istore_n 1, 1) := by decide +kernel
theorem d_M_undo_38 : decode prog_11_method_42_code 38 = .ok (.iload_n 1, 1) := by decide +kernel
theorem d_M_undo_39 : decode prog_11_method_42_code 39 = .ok (.bipush 13, 2) := by decide +kernel
theorem d_M_undo_41 : decode prog_11_method_42_code 41 = .ok (.if_icmp .ge 29, 3) := by decide +kernel
theorem d_M_undo_44 : decode prog_11_method_42_code 44 = .ok (.aload_n 0, 1) := by decide +kernel
theorem d_M_undo_45 : decode prog_11_method_42_code 45 = .ok (.getfield 46, 3) := by decide +kernel
theorem d_M_undo_48 : decode prog_11_method_42_code 48 = .ok (.iload_n 1, 1) := by decide +kernel
theorem d_M_undo_49 : decode prog_11_method_42_code 49 = .ok (.aload_n 0, 1) := by decide +kernel
theorem d_M_undo_50 : decode prog_11_method_42_code 50 = .ok (.getfield 55, 3) := by decide +kernel
theorem d_M_undo_53 : decode prog_11_method_42_code 53 = .ok (.bipush 13, 2) := by decide +kernel
theorem d_M_undo_55 : decode prog_11_method_42_code 55 = .ok (.aload_n 0, 1) := by decide +kernel
theorem d_M_undo_56 : decode prog_11_method_42_code 56 = .ok (.getfield 190, 3) := by decide +kernel
theorem d_M_undo_59 : decode prog_11_method_42_code 59 = .ok (.imul, 1) := by decide +kernel
theorem d_M_undo_60 : decode prog_11_method_42_code 60 = .ok (.iload_n 1, 1) := by decide +kernel
theorem d_M_undo_61 : decode prog_11_method_42_code 61 = .ok (.iadd, 1) := by decide +kernel
theorem d_M_undo_62 : decode prog_11_method_42_code 62 = .ok (.iaload, 1) := by decide +kernel
theorem d_M_undo_63 : decode prog_11_method_42_code 63 = .ok (.iastore, 1) := by decide +kernel
theorem d_M_undo_64 : decode prog_11_method_42_code 64 = .ok (.iinc 1 1, 3) := by decide +kernel
theorem d_M_undo_67 : decode prog_11_method_42_code 67 = .ok (.goto (-29), 3) := by decide +kernel
theorem d_M_undo_70 : decode prog_11_method_42_code 70 = .ok (.aload_n 0, 1) := by decide +kernel
theorem d_M_undo_71 : decode prog_11_method_42_code 71 = .ok (.getfield 154, 3) := by decide +kernel
theorem d_M_undo_74 : decode prog_11_method_42_code 74 = .ok (.ireturn, 1) := by decide +kernel
set_option maxHeartbeats 4000000 in
set_option maxRecDepth 20000 in
theorem c_M_undo (s0 : MS) (Q : Int → MS → Prop) (h : wp_M_undo s0 Q) : MT dscM ⟨"BellSchoolModel", "undo", "()I"⟩ prog_11_method_42_code 2 (some .int) 0 (fun ad => [.ref (ad 0)]) s0 (po_I dscM Q) := by
  refine met_of (by decide) (fun _ => Nat.le_of_ble_eq_true rfl) (fun X E hR => ?_)
  replace E : EV dscM X prog_11_method_42_code "BellSchoolModel" 2 0 := E
  show VV dscM X 0 [(0, .ref (adX X 0))] [] s0
  unfold wp_M_undo at h
  refine v_aloadn E d_M_undo_0 rfl 0 rfl ?_
  refine v_getI E cf9 dM_0 22 (by decide) rfl mw557 d_M_undo_1 rfl ?_
  refine v_wt (fun wt1 => ?_)
  refine v_if_ne E 10 d_M_undo_4 (by decide) (wt1 0 22) (fun c1 => ?_) (fun c1 => ?_)
  · replace h := h.1 c1
    refine v_aloadn E d_M_undo_10 rfl 0 rfl ?_
    refine v_aloadn E d_M_undo_11 rfl 0 rfl ?_
    refine v_getI E cf9 dM_0 23 (by decide) rfl mw620 d_M_undo_12 rfl ?_
    refine v_bipush E d_M_undo_15 rfl ?_
    refine v_iadd E d_M_undo_17 ?_
    refine v_iconst E d_M_undo_18 ?_
    refine v_isub E d_M_undo_19 ?_
    refine v_bipush E d_M_undo_20 rfl ?_
    obtain ⟨q1, h⟩ := h
    refine v_irem E d_M_undo_22 q1 (by decide) ?_
    refine v_putI E cf9 dM_0 23 (by decide) rfl rfl mw620 d_M_undo_23 rfl rfl rfl (Rng_rm q1 (by decide)) ?_
    refine v_nameS (fun s1 hs1 => ?_)
    replace h := h s1 hs1
    refine v_aloadn E d_M_undo_26 rfl 0 rfl ?_
    refine v_dup E d_M_undo_27 rfl ?_
    refine v_getI E cf9 dM_0 22 (by decide) rfl mw557 d_M_undo_28 rfl ?_
    refine v_iconst E d_M_undo_31 ?_
    refine v_isub E d_M_undo_32 ?_
    obtain ⟨q2, h⟩ := h
    refine v_putI E cf9 dM_0 22 (by decide) rfl rfl mw557 d_M_undo_33 rfl rfl rfl q2 ?_
    refine v_nameS (fun s2 hs2 => ?_)
    replace h := h s2 hs2
    refine v_iconst E d_M_undo_36 ?_
    refine v_istoren E d_M_undo_37 rfl (by decide) (L' := [(1, .int (iI 0)), (0, .ref (adX X 0))]) rfl ?_
    refine v_sub [1, 0] (L' := [(0, .ref (adX X 0)), (1, .int (iI 0))]) rfl ?_
    obtain ⟨I1, μ1, h01, h⟩ := h
    refine v_loop1 (fun (x1 : Int) => [(0, .ref (adX X 0)), (1, .int (iI x1))]) I1 μ1 (fun x1 s3 hI1 ih1 => ?_) 0 s2 h01
    replace h := h x1 s3 hI1
    refine v_iloadn E d_M_undo_38 rfl 1 rfl ?_
    refine v_bipush E d_M_undo_39 rfl ?_
    obtain ⟨q3, h⟩ := h
    refine v_icmp_ge E 70 d_M_undo_41 (by decide) q3 (by decide) (fun c2 => ?_) (fun c2 => ?_)
    · replace h := h.1 c2
      refine v_aloadn E d_M_undo_70 rfl 0 rfl ?_
      refine v_getI E cf9 dM_0 22 (by decide) rfl mw557 d_M_undo_71 rfl ?_
      refine v_wt (fun wt2 => ?_)
      exact v_iret E hR rfl (wt2 0 22) h d_M_undo_74
    · replace h := h.2 c2
      refine v_aloadn E d_M_undo_44 rfl 0 rfl ?_
      refine v_getA E cf9 dM_0 19 (by decide) rfl mw556 d_M_undo_45 rfl ?_
      refine v_iloadn E d_M_undo_48 rfl 1 rfl ?_
      refine v_aloadn E d_M_undo_49 rfl 0 rfl ?_
      refine v_getA E cf9 dM_0 24 (by decide) rfl mw621 d_M_undo_50 rfl ?_
      refine v_bipush E d_M_undo_53 rfl ?_
      refine v_aloadn E d_M_undo_55 rfl 0 rfl ?_
      refine v_getI E cf9 dM_0 23 (by decide) rfl mw620 d_M_undo_56 rfl ?_
      refine v_imul E d_M_undo_59 ?_
      refine v_iloadn E d_M_undo_60 rfl 1 rfl ?_
      refine v_iadd E d_M_undo_61 ?_
      obtain ⟨q4, h⟩ := h
      refine v_iald E dM_16 (by decide) q4.1 q4.2 d_M_undo_62 ?_
      obtain ⟨q5, h⟩ := h
      refine v_wt (fun wt3 => ?_)
      refine v_iast E dM_13 (by decide) q5.1 q5.2 (wt3 16 ((13 * (gI s3 0 23)) + x1)) d_M_undo_63 ?_
      refine v_nameS (fun s4 hs4 => ?_)
      replace h := h s4 hs4
      refine v_iincN E d_M_undo_64 1 rfl (by decide) (fun y => [(1, .int (iI y)), (0, .ref (adX X 0))]) (fun _ => rfl) (fun x2 hx2 => ?_)
      replace h := h x2 hx2
      refine v_goto E 38 d_M_undo_67 (by decide) ?_
      obtain ⟨hb, hm⟩ := h
      exact v_sub [1, 0] rfl (ih1 x2 s4 hb hm)
  · replace h := h.2 c1
    refine v_bipush E d_M_undo_7 rfl ?_
    exact v_iret E hR rfl (by decide) h d_M_undo_9
theorem d_M_behind_0 : decode prog_11_method_43_code 0 = .ok (.iload_n 1, 1) := by decide +kernel
theorem d_M_behind_1 : decode prog_11_method_43_code 1 = .ok (.iconst 0, 1) := by decide +kernel
theorem d_M_behind_2 : decode prog_11_method_43_code 2 = .ok (.bipush 60, 2) := by decide +kernel
theorem d_M_behind_4 : decode prog_11_method_43_code 4 = .ok (.invokestatic 105, 3) := by decide +kernel
theorem d_M_behind_7 : decode prog_11_method_43_code 7 = .ok (.ifCond .ne 5, 3) := by decide +kernel
theorem d_M_behind_10 : decode prog_11_method_43_code 10 = .ok (.iconst (-1), 1) := by decide +kernel
theorem d_M_behind_11 : decode prog_11_method_43_code 11 = .ok (.ireturn, 1) := by decide +kernel
theorem d_M_behind_12 : decode prog_11_method_43_code 12 = .ok (.aload_n 0, 1) := by decide +kernel
theorem d_M_behind_13 : decode prog_11_method_43_code 13 = .ok (.invokevirtual 200, 3) := by decide +kernel
theorem d_M_behind_16 : decode prog_11_method_43_code 16 = .ok (.iconst 0, 1) := by decide +kernel
theorem d_M_behind_17 : decode prog_11_method_43_code 17 = .ok (.istore_n 2, 1) := by decide +kernel
theorem d_M_behind_18 : decode prog_11_method_43_code 18 = .ok (.iload_n 2, 1) := by decide +kernel
theorem d_M_behind_19 : decode prog_11_method_43_code 19 = .ok (.iload_n 1, 1) := by decide +kernel
theorem d_M_behind_20 : decode prog_11_method_43_code 20 = .ok (.if_icmp .ge 17, 3) := by decide +kernel
theorem d_M_behind_23 : decode prog_11_method_43_code 23 = .ok (.aload_n 0, 1) := by decide +kernel
theorem d_M_behind_24 : decode prog_11_method_43_code 24 = .ok (.aload_n 0, 1) := by decide +kernel
theorem d_M_behind_25 : decode prog_11_method_43_code 25 = .ok (.getfield 49, 3) := by decide +kernel
theorem d_M_behind_28 : decode prog_11_method_43_code 28 = .ok (.invokevirtual 196, 3) := by decide +kernel
theorem d_M_behind_31 : decode prog_11_method_43_code 31 = .ok (.iinc 2 1, 3) := by decide +kernel
theorem d_M_behind_34 : decode prog_11_method_43_code 34 = .ok (.goto (-16), 3) := by decide +kernel
theorem d_M_behind_37 : decode prog_11_method_43_code 37 = .ok (.aload_n 0, 1) := by decide +kernel
theorem d_M_behind_38 : decode prog_11_method_43_code 38 = .ok (.getfield 49, 3) := by decide +kernel
theorem d_M_behind_41 : decode prog_11_method_43_code 41 = .ok (.iconst 0, 1) := by decide +kernel
theorem d_M_behind_42 : decode prog_11_method_43_code 42 = .ok (.iaload, 1) := by decide +kernel
theorem d_M_behind_43 : decode prog_11_method_43_code 43 = .ok (.ireturn, 1) := by decide +kernel
set_option maxHeartbeats 4000000 in
set_option maxRecDepth 20000 in
theorem c_M_behind (p1 : Int) (hp1 : Rng p1) (s0 : MS) (Q : Int → MS → Prop) (h : wp_M_behind p1 s0 Q) : MT dscM ⟨"BellSchoolModel", "behind", "(I)I"⟩ prog_11_method_43_code 3 (some .int) 5 (fun ad => [.ref (ad 0), .int (iI p1)]) s0 (po_I dscM Q) := by
  refine met_of (by decide) (fun _ => Nat.le_of_ble_eq_true rfl) (fun X E hR => ?_)
  replace E : EV dscM X prog_11_method_43_code "BellSchoolModel" 3 5 := E
  show VV dscM X 0 [(0, .ref (adX X 0)), (1, .int (iI p1))] [] s0
  unfold wp_M_behind at h
  refine v_iloadn E d_M_behind_0 rfl 1 rfl ?_
  refine v_iconst E d_M_behind_1 ?_
  refine v_bipush E d_M_behind_2 rfl ?_
  refine v_callSIpz E md_M_in (c_M_in dscM p1 hp1 0 (by decide) 60 (by decide) s0 _ h) ⟨by decide, by decide⟩ mw496 d_M_behind_4 (fun _ => rfl) (st := []) rfl (Nat.le_of_ble_eq_true rfl) (fun r1 hr1 hz1 h => ?_)
  refine v_if_ne E 12 d_M_behind_7 (by decide) hr1 (fun c1 => ?_) (fun c1 => ?_)
  · replace h := h.1 c1
    refine v_aloadn E d_M_behind_12 rfl 0 rfl ?_
    refine v_callVV E md_M_copyNow (c_M_copyNow s0 _ h) dM_0 rfl ⟨by decide, by decide⟩ mw642 d_M_behind_13 (fun _ => rfl) (st := []) rfl (Nat.le_of_ble_eq_true rfl) (fun s1 h => ?_)
    refine v_iconst E d_M_behind_16 ?_
    refine v_istoren E d_M_behind_17 rfl (by decide) (L' := [(2, .int (iI 0)), (0, .ref (adX X 0)), (1, .int (iI p1))]) rfl ?_
    refine v_sub [1, 2, 0] (L' := [(0, .ref (adX X 0)), (1, .int (iI p1)), (2, .int (iI 0))]) rfl ?_
    obtain ⟨I1, μ1, h01, h⟩ := h
    refine v_loop1 (fun (x1 : Int) => [(0, .ref (adX X 0)), (1, .int (iI p1)), (2, .int (iI x1))]) I1 μ1 (fun x1 s2 hI1 ih1 => ?_) 0 s1 h01
    replace h := h x1 s2 hI1
    refine v_iloadn E d_M_behind_18 rfl 2 rfl ?_
    refine v_iloadn E d_M_behind_19 rfl 1 rfl ?_
    obtain ⟨q1, h⟩ := h
    refine v_icmp_ge E 37 d_M_behind_20 (by decide) q1 hp1 (fun c2 => ?_) (fun c2 => ?_)
    · replace h := h.1 c2
      refine v_aloadn E d_M_behind_37 rfl 0 rfl ?_
      refine v_getA E cf9 dM_0 20 (by decide) rfl mw600 d_M_behind_38 rfl ?_
      refine v_iconst E d_M_behind_41 ?_
      refine v_iald E dM_14 (by decide) (by decide) (by decide) d_M_behind_42 ?_
      refine v_wt (fun wt1 => ?_)
      exact v_iret E hR rfl (wt1 14 0) h d_M_behind_43
    · replace h := h.2 c2
      refine v_aloadn E d_M_behind_23 rfl 0 rfl ?_
      refine v_aloadn E d_M_behind_24 rfl 0 rfl ?_
      refine v_getA E cf9 dM_0 20 (by decide) rfl mw600 d_M_behind_25 rfl ?_
      refine v_callVV E md_M_goesBy (c_M_goesBy 14 dM_14 s2 _ h) dM_0 rfl ⟨by decide, by decide⟩ mw626 d_M_behind_28 (fun _ => rfl) (st := []) rfl (Nat.le_of_ble_eq_true rfl) (fun s3 h => ?_)
      refine v_iincN E d_M_behind_31 2 rfl (by decide) (fun y => [(2, .int (iI y)), (0, .ref (adX X 0)), (1, .int (iI p1))]) (fun _ => rfl) (fun x2 hx2 => ?_)
      replace h := h x2 hx2
      refine v_goto E 18 d_M_behind_34 (by decide) ?_
      obtain ⟨hb, hm⟩ := h
      exact v_sub [1, 2, 0] rfl (ih1 x2 s3 hb hm)
  · replace h := h.2 c1
    refine v_iconst E d_M_behind_10 ?_
    exact v_iret E hR rfl (by decide) h d_M_behind_11
theorem d_M_again_0 : decode prog_11_method_44_code 0 = .ok (.aload_n 0, 1) := by decide +kernel
theorem d_M_again_1 : decode prog_11_method_44_code 1 = .ok (.invokevirtual 200, 3) := by decide +kernel
theorem d_M_again_4 : decode prog_11_method_44_code 4 = .ok (.iconst 1, 1) := by decide +kernel
theorem d_M_again_5 : decode prog_11_method_44_code 5 = .ok (.istore_n 1, 1) := by decide +kernel
theorem d_M_again_6 : decode prog_11_method_44_code 6 = .ok (.iload_n 1, 1) := by decide +kernel
theorem d_M_again_7 : decode prog_11_method_44_code 7 = .ok (.bipush 56, 2) := by decide +kernel
theorem d_M_again_9 : decode prog_11_method_44_code 9 = .ok (.if_icmp .gt 34, 3) := by decide +kernel
theorem d_M_again_12 : decode prog_11_method_44_code 12 = .ok (.aload_n 0, 1) := by decide +kernel
theorem d_M_again_13 : decode prog_11_method_44_code 13 = .ok (.aload_n 0, 1) := by decide +kernel
theorem d_M_again_14 : decode prog_11_method_44_code 14 = .ok (.getfield 49, 3) := by decide +kernel
theorem d_M_again_17 : decode prog_11_method_44_code 17 = .ok (.invokevirtual 196, 3) := by decide +kernel
theorem d_M_again_20 : decode prog_11_method_44_code 20 = .ok (.aload_n 0, 1) := by decide +kernel
theorem d_M_again_21 : decode prog_11_method_44_code 21 = .ok (.getfield 49, 3) := by decide +kernel
theorem d_M_again_24 : decode prog_11_method_44_code 24 = .ok (.iconst 0, 1) := by decide +kernel
theorem d_M_again_25 : decode prog_11_method_44_code 25 = .ok (.iaload, 1) := by decide +kernel
theorem d_M_again_26 : decode prog_11_method_44_code 26 = .ok (.aload_n 0, 1) := by decide +kernel
theorem d_M_again_27 : decode prog_11_method_44_code 27 = .ok (.getfield 46, 3) := by decide +kernel
theorem d_M_again_30 : decode prog_11_method_44_code 30 = .ok (.iconst 0, 1) := by decide +kernel
theorem d_M_again_31 : decode prog_11_method_44_code 31 = .ok (.iaload, 1) := by decide +kernel
theorem d_M_again_32 : decode prog_11_method_44_code 32 = .ok (.if_icmp .ne 5, 3) := by decide +kernel
theorem d_M_again_35 : decode prog_11_method_44_code 35 = .ok (.iload_n 1, 1) := by decide +kernel
theorem d_M_again_36 : decode prog_11_method_44_code 36 = .ok (.ireturn, 1) := by decide +kernel
theorem d_M_again_37 : decode prog_11_method_44_code 37 = .ok (.iinc 1 1, 3) := by decide +kernel
theorem d_M_again_40 : decode prog_11_method_44_code 40 = .ok (.goto (-34), 3) := by decide +kernel
theorem d_M_again_43 : decode prog_11_method_44_code 43 = .ok (.bipush (-4), 2) := by decide +kernel
theorem d_M_again_45 : decode prog_11_method_44_code 45 = .ok (.ireturn, 1) := by decide +kernel
set_option maxHeartbeats 4000000 in
set_option maxRecDepth 20000 in
theorem c_M_again (s0 : MS) (Q : Int → MS → Prop) (h : wp_M_again s0 Q) : MT dscM ⟨"BellSchoolModel", "again", "()I"⟩ prog_11_method_44_code 2 (some .int) 5 (fun ad => [.ref (ad 0)]) s0 (po_I dscM Q) := by
  refine met_of (by decide) (fun _ => Nat.le_of_ble_eq_true rfl) (fun X E hR => ?_)
  replace E : EV dscM X prog_11_method_44_code "BellSchoolModel" 2 5 := E
  show VV dscM X 0 [(0, .ref (adX X 0))] [] s0
  unfold wp_M_again at h
  refine v_aloadn E d_M_again_0 rfl 0 rfl ?_
  refine v_callVV E md_M_copyNow (c_M_copyNow s0 _ h) dM_0 rfl ⟨by decide, by decide⟩ mw642 d_M_again_1 (fun _ => rfl) (st := []) rfl (Nat.le_of_ble_eq_true rfl) (fun s1 h => ?_)
  refine v_iconst E d_M_again_4 ?_
  refine v_istoren E d_M_again_5 rfl (by decide) (L' := [(1, .int (iI 1)), (0, .ref (adX X 0))]) rfl ?_
  refine v_sub [1, 0] (L' := [(0, .ref (adX X 0)), (1, .int (iI 1))]) rfl ?_
  obtain ⟨I1, μ1, h01, h⟩ := h
  refine v_loop1 (fun (x1 : Int) => [(0, .ref (adX X 0)), (1, .int (iI x1))]) I1 μ1 (fun x1 s2 hI1 ih1 => ?_) 1 s1 h01
  replace h := h x1 s2 hI1
  refine v_iloadn E d_M_again_6 rfl 1 rfl ?_
  refine v_bipush E d_M_again_7 rfl ?_
  obtain ⟨q1, h⟩ := h
  refine v_icmp_gt E 43 d_M_again_9 (by decide) q1 (by decide) (fun c1 => ?_) (fun c1 => ?_)
  · replace h := h.1 c1
    refine v_bipush E d_M_again_43 rfl ?_
    exact v_iret E hR rfl (by decide) h d_M_again_45
  · replace h := h.2 c1
    refine v_aloadn E d_M_again_12 rfl 0 rfl ?_
    refine v_aloadn E d_M_again_13 rfl 0 rfl ?_
    refine v_getA E cf9 dM_0 20 (by decide) rfl mw600 d_M_again_14 rfl ?_
    refine v_callVV E md_M_goesBy (c_M_goesBy 14 dM_14 s2 _ h) dM_0 rfl ⟨by decide, by decide⟩ mw626 d_M_again_17 (fun _ => rfl) (st := []) rfl (Nat.le_of_ble_eq_true rfl) (fun s3 h => ?_)
    refine v_aloadn E d_M_again_20 rfl 0 rfl ?_
    refine v_getA E cf9 dM_0 20 (by decide) rfl mw600 d_M_again_21 rfl ?_
    refine v_iconst E d_M_again_24 ?_
    refine v_iald E dM_14 (by decide) (by decide) (by decide) d_M_again_25 ?_
    refine v_aloadn E d_M_again_26 rfl 0 rfl ?_
    refine v_getA E cf9 dM_0 19 (by decide) rfl mw556 d_M_again_27 rfl ?_
    refine v_iconst E d_M_again_30 ?_
    refine v_iald E dM_13 (by decide) (by decide) (by decide) d_M_again_31 ?_
    refine v_wt (fun wt1 => ?_)
    refine v_icmp_ne E 37 d_M_again_32 (by decide) (wt1 14 0) (wt1 13 0) (fun c2 => ?_) (fun c2 => ?_)
    · replace h := h.1 c2
      refine v_iincN E d_M_again_37 1 rfl (by decide) (fun y => [(1, .int (iI y)), (0, .ref (adX X 0))]) (fun _ => rfl) (fun x2 hx2 => ?_)
      replace h := h x2 hx2
      refine v_goto E 6 d_M_again_40 (by decide) ?_
      obtain ⟨hb, hm⟩ := h
      exact v_sub [1, 0] rfl (ih1 x2 s3 hb hm)
    · replace h := h.2 c2
      refine v_iloadn E d_M_again_35 rfl 1 rfl ?_
      exact v_iret E hR rfl q1 h d_M_again_36
theorem d_M_nextAt_0 : decode prog_11_method_45_code 0 = .ok (.bipush 56, 2) := by decide +kernel
theorem d_M_nextAt_2 : decode prog_11_method_45_code 2 = .ok (.iload_n 0, 1) := by decide +kernel
theorem d_M_nextAt_3 : decode prog_11_method_45_code 3 = .ok (.imul, 1) := by decide +kernel
theorem d_M_nextAt_4 : decode prog_11_method_45_code 4 = .ok (.bipush 8, 2) := by decide +kernel
theorem d_M_nextAt_6 : decode prog_11_method_45_code 6 = .ok (.iload_n 1, 1) := by decide +kernel
theorem d_M_nextAt_7 : decode prog_11_method_45_code 7 = .ok (.imul, 1) := by decide +kernel
theorem d_M_nextAt_8 : decode prog_11_method_45_code 8 = .ok (.iadd, 1) := by decide +kernel
theorem d_M_nextAt_9 : decode prog_11_method_45_code 9 = .ok (.iload_n 2, 1) := by decide +kernel
theorem d_M_nextAt_10 : decode prog_11_method_45_code 10 = .ok (.iadd, 1) := by decide +kernel
theorem d_M_nextAt_11 : decode prog_11_method_45_code 11 = .ok (.ireturn, 1) := by decide +kernel
set_option maxHeartbeats 4000000 in
set_option maxRecDepth 20000 in
theorem c_M_nextAt (dsc : List CD) (p1 : Int) (hp1 : Rng p1) (p2 : Int) (hp2 : Rng p2) (p3 : Int) (hp3 : Rng p3) (s0 : MS) (Q : Int → Prop) (h : wp_M_nextAt p1 p2 p3 Q) : MT dsc ⟨"BellSchoolModel", "nextAt", "(III)I"⟩ prog_11_method_45_code 3 (some .int) 0 (fun ad => [.int (iI p1), .int (iI p2), .int (iI p3)]) s0 (po_I dsc (fun r z => z = s0 ∧ Q r)) := by
  refine met_of (by decide) (fun _ => Nat.le_of_ble_eq_true rfl) (fun X E hR => ?_)
  replace E : EV dsc X prog_11_method_45_code "BellSchoolModel" 3 0 := E
  show VV dsc X 0 [(0, .int (iI p1)), (1, .int (iI p2)), (2, .int (iI p3))] [] s0
  unfold wp_M_nextAt at h
  refine v_bipush E d_M_nextAt_0 rfl ?_
  refine v_iloadn E d_M_nextAt_2 rfl 0 rfl ?_
  refine v_imul E d_M_nextAt_3 ?_
  refine v_bipush E d_M_nextAt_4 rfl ?_
  refine v_iloadn E d_M_nextAt_6 rfl 1 rfl ?_
  refine v_imul E d_M_nextAt_7 ?_
  refine v_iadd E d_M_nextAt_8 ?_
  refine v_iloadn E d_M_nextAt_9 rfl 2 rfl ?_
  refine v_iadd E d_M_nextAt_10 ?_
  obtain ⟨q1, h⟩ := h
  exact v_iret E hR rfl q1 ⟨rfl, h⟩ d_M_nextAt_11
theorem d_M_yetAt_0 : decode prog_11_method_46_code 0 = .ok (.sipush 896, 3) := by decide +kernel
theorem d_M_yetAt_3 : decode prog_11_method_46_code 3 = .ok (.iload_n 0, 1) := by decide +kernel
theorem d_M_yetAt_4 : decode prog_11_method_46_code 4 = .ok (.imul, 1) := by decide +kernel
theorem d_M_yetAt_5 : decode prog_11_method_46_code 5 = .ok (.sipush 128, 3) := by decide +kernel
theorem d_M_yetAt_8 : decode prog_11_method_46_code 8 = .ok (.iload_n 1, 1) := by decide +kernel
theorem d_M_yetAt_9 : decode prog_11_method_46_code 9 = .ok (.imul, 1) := by decide +kernel
theorem d_M_yetAt_10 : decode prog_11_method_46_code 10 = .ok (.iadd, 1) := by decide +kernel
theorem d_M_yetAt_11 : decode prog_11_method_46_code 11 = .ok (.iload_n 2, 1) := by decide +kernel
theorem d_M_yetAt_12 : decode prog_11_method_46_code 12 = .ok (.iadd, 1) := by decide +kernel
theorem d_M_yetAt_13 : decode prog_11_method_46_code 13 = .ok (.ireturn, 1) := by decide +kernel
set_option maxHeartbeats 4000000 in
set_option maxRecDepth 20000 in
theorem c_M_yetAt (dsc : List CD) (p1 : Int) (hp1 : Rng p1) (p2 : Int) (hp2 : Rng p2) (p3 : Int) (hp3 : Rng p3) (s0 : MS) (Q : Int → Prop) (h : wp_M_yetAt p1 p2 p3 Q) : MT dsc ⟨"BellSchoolModel", "yetAt", "(III)I"⟩ prog_11_method_46_code 3 (some .int) 0 (fun ad => [.int (iI p1), .int (iI p2), .int (iI p3)]) s0 (po_I dsc (fun r z => z = s0 ∧ Q r)) := by
  refine met_of (by decide) (fun _ => Nat.le_of_ble_eq_true rfl) (fun X E hR => ?_)
  replace E : EV dsc X prog_11_method_46_code "BellSchoolModel" 3 0 := E
  show VV dsc X 0 [(0, .int (iI p1)), (1, .int (iI p2)), (2, .int (iI p3))] [] s0
  unfold wp_M_yetAt at h
  refine v_sipush E d_M_yetAt_0 rfl ?_
  refine v_iloadn E d_M_yetAt_3 rfl 0 rfl ?_
  refine v_imul E d_M_yetAt_4 ?_
  refine v_sipush E d_M_yetAt_5 rfl ?_
  refine v_iloadn E d_M_yetAt_8 rfl 1 rfl ?_
  refine v_imul E d_M_yetAt_9 ?_
  refine v_iadd E d_M_yetAt_10 ?_
  refine v_iloadn E d_M_yetAt_11 rfl 2 rfl ?_
  refine v_iadd E d_M_yetAt_12 ?_
  obtain ⟨q1, h⟩ := h
  exact v_iret E hR rfl q1 ⟨rfl, h⟩ d_M_yetAt_13
theorem d_M_layNexts_0 : decode prog_11_method_47_code 0 = .ok (.iconst 0, 1) := by decide +kernel
theorem d_M_layNexts_1 : decode prog_11_method_47_code 1 = .ok (.istore_n 1, 1) := by decide +kernel
theorem d_M_layNexts_2 : decode prog_11_method_47_code 2 = .ok (.iload_n 1, 1) := by decide +kernel
theorem d_M_layNexts_3 : decode prog_11_method_47_code 3 = .ok (.bipush 28, 2) := by decide +kernel
theorem d_M_layNexts_5 : decode prog_11_method_47_code 5 = .ok (.if_icmp .ge 120, 3) := by decide +kernel
theorem d_M_layNexts_8 : decode prog_11_method_47_code 8 = .ok (.iconst 0, 1) := by decide +kernel
theorem d_M_layNexts_9 : decode prog_11_method_47_code 9 = .ok (.istore_n 2, 1) := by decide +kernel
theorem d_M_layNexts_10 : decode prog_11_method_47_code 10 = .ok (.iload_n 2, 1) := by decide +kernel
theorem d_M_layNexts_11 : decode prog_11_method_47_code 11 = .ok (.aload_n 0, 1) := by decide +kernel
theorem d_M_layNexts_12 : decode prog_11_method_47_code 12 = .ok (.getfield 148, 3) := by decide +kernel
theorem d_M_layNexts_15 : decode prog_11_method_47_code 15 = .ok (.if_icmp .ge 104, 3) := by decide +kernel
theorem d_M_layNexts_18 : decode prog_11_method_47_code 18 = .ok (.iconst 0, 1) := by decide +kernel
theorem d_M_layNexts_19 : decode prog_11_method_47_code 19 = .ok (.istore_n 3, 1) := by decide +kernel
theorem d_M_layNexts_20 : decode prog_11_method_47_code 20 = .ok (.iload_n 3, 1) := by decide +kernel
theorem d_M_layNexts_21 : decode prog_11_method_47_code 21 = .ok (.aload_n 0, 1) := by decide +kernel
theorem d_M_layNexts_22 : decode prog_11_method_47_code 22 = .ok (.getfield 148, 3) := by decide +kernel
theorem d_M_layNexts_25 : decode prog_11_method_47_code 25 = .ok (.if_icmp .gt 88, 3) := by decide +kernel
theorem d_M_layNexts_28 : decode prog_11_method_47_code 28 = .ok (.aload_n 0, 1) := by decide +kernel
theorem d_M_layNexts_29 : decode prog_11_method_47_code 29 = .ok (.invokevirtual 200, 3) := by decide +kernel
theorem d_M_layNexts_32 : decode prog_11_method_47_code 32 = .ok (.aload_n 0, 1) := by decide +kernel
theorem d_M_layNexts_33 : decode prog_11_method_47_code 33 = .ok (.getfield 49, 3) := by decide +kernel
theorem d_M_layNexts_36 : decode prog_11_method_47_code 36 = .ok (.iconst 1, 1) := by decide +kernel
theorem d_M_layNexts_37 : decode prog_11_method_47_code 37 = .ok (.aload_n 0, 1) := by decide +kernel
theorem d_M_layNexts_38 : decode prog_11_method_47_code 38 = .ok (.getfield 46, 3) := by decide +kernel
theorem d_M_layNexts_41 : decode prog_11_method_47_code 41 = .ok (.iconst 1, 1) := by decide +kernel
theorem d_M_layNexts_42 : decode prog_11_method_47_code 42 = .ok (.iaload, 1) := by decide +kernel
theorem d_M_layNexts_43 : decode prog_11_method_47_code 43 = .ok (.iload_n 1, 1) := by decide +kernel
theorem d_M_layNexts_44 : decode prog_11_method_47_code 44 = .ok (.iadd, 1) := by decide +kernel
theorem d_M_layNexts_45 : decode prog_11_method_47_code 45 = .ok (.iastore, 1) := by decide +kernel
theorem d_M_layNexts_46 : decode prog_11_method_47_code 46 = .ok (.aload_n 0, 1) := by decide +kernel
theorem d_M_layNexts_47 : decode prog_11_method_47_code 47 = .ok (.getfield 49, 3) := by decide +kernel
theorem d_M_layNexts_50 : decode prog_11_method_47_code 50 = .ok (.iconst 0, 1) := by decide +kernel
theorem d_M_layNexts_51 : decode prog_11_method_47_code 51 = .ok (.iload_n 2, 1) := by decide +kernel
theorem d_M_layNexts_52 : decode prog_11_method_47_code 52 = .ok (.iastore, 1) := by decide +kernel
theorem d_M_layNexts_53 : decode prog_11_method_47_code 53 = .ok (.aload_n 0, 1) := by decide +kernel
theorem d_M_layNexts_54 : decode prog_11_method_47_code 54 = .ok (.getfield 49, 3) := by decide +kernel
theorem d_M_layNexts_57 : decode prog_11_method_47_code 57 = .ok (.iconst 2, 1) := by decide +kernel
theorem d_M_layNexts_58 : decode prog_11_method_47_code 58 = .ok (.iload_n 3, 1) := by decide +kernel
theorem d_M_layNexts_59 : decode prog_11_method_47_code 59 = .ok (.ifCond .ne 7, 3) := by decide +kernel
theorem d_M_layNexts_62 : decode prog_11_method_47_code 62 = .ok (.iconst 0, 1) := by decide +kernel
theorem d_M_layNexts_63 : decode prog_11_method_47_code 63 = .ok (.goto 8, 3) := by decide +kernel
theorem d_M_layNexts_66 : decode prog_11_method_47_code 66 = .ok (.iconst 1, 1) := by decide +kernel
theorem d_M_layNexts_67 : decode prog_11_method_47_code 67 = .ok (.iload_n 3, 1) := by decide +kernel
theorem d_M_layNexts_68 : decode prog_11_method_47_code 68 = .ok (.iconst 1, 1) := by decide +kernel
theorem d_M_layNexts_69 : decode prog_11_method_47_code 69 = .ok (.isub, 1) := by decide +kernel
theorem d_M_layNexts_70 : decode prog_11_method_47_code 70 = .ok (.ishl, 1) := by decide +kernel
theorem d_M_layNexts_71 : decode prog_11_method_47_code 71 = .ok (.iastore, 1) := by decide +kernel
theorem d_M_layNexts_72 : decode prog_11_method_47_code 72 = .ok (.aload_n 0, 1) := by decide +kernel
theorem d_M_layNexts_73 : decode prog_11_method_47_code 73 = .ok (.aload_n 0, 1) := by decide +kernel
theorem d_M_layNexts_74 : decode prog_11_method_47_code 74 = .ok (.getfield 49, 3) := by decide +kernel
theorem d_M_layNexts_77 : decode prog_11_method_47_code 77 = .ok (.iconst 0, 1) := by decide +kernel
theorem d_M_layNexts_78 : decode prog_11_method_47_code 78 = .ok (.invokevirtual 184, 3) := by decide +kernel
theorem d_M_layNexts_81 : decode prog_11_method_47_code 81 = .ok (.istore 4, 2) := by decide +kernel
theorem d_M_layNexts_83 : decode prog_11_method_47_code 83 = .ok (.aload_n 0, 1) := by decide +kernel
theorem d_M_layNexts_84 : decode prog_11_method_47_code 84 = .ok (.getfield 58, 3) := by decide +kernel
theorem d_M_layNexts_87 : decode prog_11_method_47_code 87 = .ok (.iload_n 1, 1) := by decide +kernel
theorem d_M_layNexts_88 : decode prog_11_method_47_code 88 = .ok (.iload_n 2, 1) := by decide +kernel
theorem d_M_layNexts_89 : decode prog_11_method_47_code 89 = .ok (.iload_n 3, 1) := by decide +kernel
theorem d_M_layNexts_90 : decode prog_11_method_47_code 90 = .ok (.invokestatic 203, 3) := by decide +kernel
theorem d_M_layNexts_93 : decode prog_11_method_47_code 93 = .ok (.iload 4, 2) := by decide +kernel
theorem d_M_layNexts_95 : decode prog_11_method_47_code 95 = .ok (.bipush (-4), 2) := by decide +kernel
theorem d_M_layNexts_97 : decode prog_11_method_47_code 97 = .ok (.if_icmp .ne 7, 3) := by decide +kernel
theorem d_M_layNexts_100 : decode prog_11_method_47_code 100 = .ok (.iload_n 2, 1) := by decide +kernel
theorem d_M_layNexts_101 : decode prog_11_method_47_code 101 = .ok (.goto 5, 3) := by decide +kernel
theorem d_M_layNexts_104 : decode prog_11_method_47_code 104 = .ok (.iload 4, 2) := by decide +kernel
theorem d_M_layNexts_106 : decode prog_11_method_47_code 106 = .ok (.iastore, 1) := by decide +kernel
theorem d_M_layNexts_107 : decode prog_11_method_47_code 107 = .ok (.iinc 3 1, 3) := by decide +kernel
theorem d_M_layNexts_110 : decode prog_11_method_47_code 110 = .ok (.goto (-90), 3) := by decide +kernel
theorem d_M_layNexts_113 : decode prog_11_method_47_code 113 = .ok (.iinc 2 1, 3) := by decide +kernel
theorem d_M_layNexts_116 : decode prog_11_method_47_code 116 = .ok (.goto (-106), 3) := by decide +kernel
theorem d_M_layNexts_119 : decode prog_11_method_47_code 119 = .ok (.iinc 1 1, 3) := by decide +kernel
theorem d_M_layNexts_122 : decode prog_11_method_47_code 122 = .ok (.goto (-120), 3) := by decide +kernel
theorem d_M_layNexts_125 : decode prog_11_method_47_code 125 = .ok (.return_, 1) := by decide +kernel
set_option maxHeartbeats 4000000 in
set_option maxRecDepth 20000 in
theorem c_M_layNexts (s0 : MS) (Q : MS → Prop) (h : wp_M_layNexts s0 Q) : MT dscM ⟨"BellSchoolModel", "layNexts", "()V"⟩ prog_11_method_47_code 5 none 4 (fun ad => [.ref (ad 0)]) s0 (po_V dscM Q) := by
  refine met_of (by decide) (fun _ => Nat.le_of_ble_eq_true rfl) (fun X E hR => ?_)
  replace E : EV dscM X prog_11_method_47_code "BellSchoolModel" 5 4 := E
  show VV dscM X 0 [(0, .ref (adX X 0))] [] s0
  unfold wp_M_layNexts at h
  refine v_iconst E d_M_layNexts_0 ?_
  refine v_istoren E d_M_layNexts_1 rfl (by decide) (L' := [(1, .int (iI 0)), (0, .ref (adX X 0))]) rfl ?_
  refine v_sub [1, 0] (L' := [(0, .ref (adX X 0)), (1, .int (iI 0))]) rfl ?_
  obtain ⟨I1, μ1, h01, h⟩ := h
  refine v_loop1 (fun (x1 : Int) => [(0, .ref (adX X 0)), (1, .int (iI x1))]) I1 μ1 (fun x1 s1 hI1 ih1 => ?_) 0 s0 h01
  replace h := h x1 s1 hI1
  refine v_iloadn E d_M_layNexts_2 rfl 1 rfl ?_
  refine v_bipush E d_M_layNexts_3 rfl ?_
  obtain ⟨q1, h⟩ := h
  refine v_icmp_ge E 125 d_M_layNexts_5 (by decide) q1 (by decide) (fun c1 => ?_) (fun c1 => ?_)
  · replace h := h.1 c1
    exact v_vret E hR h d_M_layNexts_125
  · replace h := h.2 c1
    refine v_iconst E d_M_layNexts_8 ?_
    refine v_istoren E d_M_layNexts_9 rfl (by decide) (L' := [(2, .int (iI 0)), (0, .ref (adX X 0)), (1, .int (iI x1))]) rfl ?_
    refine v_sub [1, 2, 0] (L' := [(0, .ref (adX X 0)), (1, .int (iI x1)), (2, .int (iI 0))]) rfl ?_
    obtain ⟨I2, μ2, h02, h⟩ := h
    refine v_loop1 (fun (x2 : Int) => [(0, .ref (adX X 0)), (1, .int (iI x1)), (2, .int (iI x2))]) I2 μ2 (fun x2 s2 hI2 ih2 => ?_) 0 s1 h02
    replace h := h x2 s2 hI2
    refine v_iloadn E d_M_layNexts_10 rfl 2 rfl ?_
    refine v_aloadn E d_M_layNexts_11 rfl 0 rfl ?_
    refine v_getI E cf9 dM_0 12 (by decide) rfl mw554 d_M_layNexts_12 rfl ?_
    obtain ⟨q2, h⟩ := h
    refine v_wt (fun wt1 => ?_)
    refine v_icmp_ge E 119 d_M_layNexts_15 (by decide) q2 (wt1 0 12) (fun c2 => ?_) (fun c2 => ?_)
    · replace h := h.1 c2
      refine v_iincN E d_M_layNexts_119 1 rfl (by decide) (fun y => [(1, .int (iI y)), (0, .ref (adX X 0)), (2, .int (iI x2))]) (fun _ => rfl) (fun x3 hx3 => ?_)
      replace h := h x3 hx3
      refine v_goto E 2 d_M_layNexts_122 (by decide) ?_
      obtain ⟨hb, hm⟩ := h
      exact v_sub [1, 0] rfl (ih1 x3 s2 hb hm)
    · replace h := h.2 c2
      refine v_iconst E d_M_layNexts_18 ?_
      refine v_istoren E d_M_layNexts_19 rfl (by decide) (L' := [(3, .int (iI 0)), (0, .ref (adX X 0)), (1, .int (iI x1)), (2, .int (iI x2))]) rfl ?_
      refine v_sub [1, 2, 3, 0] (L' := [(0, .ref (adX X 0)), (1, .int (iI x1)), (2, .int (iI x2)), (3, .int (iI 0))]) rfl ?_
      obtain ⟨I3, μ3, h03, h⟩ := h
      refine v_loop1 (fun (x4 : Int) => [(0, .ref (adX X 0)), (1, .int (iI x1)), (2, .int (iI x2)), (3, .int (iI x4))]) I3 μ3 (fun x4 s3 hI3 ih3 => ?_) 0 s2 h03
      replace h := h x4 s3 hI3
      refine v_iloadn E d_M_layNexts_20 rfl 3 rfl ?_
      refine v_aloadn E d_M_layNexts_21 rfl 0 rfl ?_
      refine v_getI E cf9 dM_0 12 (by decide) rfl mw554 d_M_layNexts_22 rfl ?_
      obtain ⟨q3, h⟩ := h
      refine v_wt (fun wt2 => ?_)
      refine v_icmp_gt E 113 d_M_layNexts_25 (by decide) q3 (wt2 0 12) (fun c3 => ?_) (fun c3 => ?_)
      · replace h := h.1 c3
        refine v_iincN E d_M_layNexts_113 2 rfl (by decide) (fun y => [(2, .int (iI y)), (0, .ref (adX X 0)), (1, .int (iI x1)), (3, .int (iI x4))]) (fun _ => rfl) (fun x5 hx5 => ?_)
        replace h := h x5 hx5
        refine v_goto E 10 d_M_layNexts_116 (by decide) ?_
        obtain ⟨hb, hm⟩ := h
        exact v_sub [1, 2, 0] rfl (ih2 x5 s3 hb hm)
      · replace h := h.2 c3
        refine v_aloadn E d_M_layNexts_28 rfl 0 rfl ?_
        refine v_callVV E md_M_copyNow (c_M_copyNow s3 _ h) dM_0 rfl ⟨by decide, by decide⟩ mw642 d_M_layNexts_29 (fun _ => rfl) (st := []) rfl (Nat.le_of_ble_eq_true rfl) (fun s4 h => ?_)
        refine v_aloadn E d_M_layNexts_32 rfl 0 rfl ?_
        refine v_getA E cf9 dM_0 20 (by decide) rfl mw600 d_M_layNexts_33 rfl ?_
        refine v_iconst E d_M_layNexts_36 ?_
        refine v_aloadn E d_M_layNexts_37 rfl 0 rfl ?_
        refine v_getA E cf9 dM_0 19 (by decide) rfl mw556 d_M_layNexts_38 rfl ?_
        refine v_iconst E d_M_layNexts_41 ?_
        refine v_iald E dM_13 (by decide) (by decide) (by decide) d_M_layNexts_42 ?_
        refine v_iloadn E d_M_layNexts_43 rfl 1 rfl ?_
        refine v_iadd E d_M_layNexts_44 ?_
        obtain ⟨q4, h⟩ := h
        refine v_iast E dM_14 (by decide) (by decide) (by decide) q4 d_M_layNexts_45 ?_
        refine v_nameS (fun s5 hs5 => ?_)
        replace h := h s5 hs5
        refine v_aloadn E d_M_layNexts_46 rfl 0 rfl ?_
        refine v_getA E cf9 dM_0 20 (by decide) rfl mw600 d_M_layNexts_47 rfl ?_
        refine v_iconst E d_M_layNexts_50 ?_
        refine v_iloadn E d_M_layNexts_51 rfl 2 rfl ?_
        refine v_iast E dM_14 (by decide) (by decide) (by decide) q2 d_M_layNexts_52 ?_
        refine v_nameS (fun s6 hs6 => ?_)
        replace h := h s6 hs6
        refine v_aloadn E d_M_layNexts_53 rfl 0 rfl ?_
        refine v_getA E cf9 dM_0 20 (by decide) rfl mw600 d_M_layNexts_54 rfl ?_
        refine v_iconst E d_M_layNexts_57 ?_
        refine v_iloadn E d_M_layNexts_58 rfl 3 rfl ?_
        refine v_if_ne E 66 d_M_layNexts_59 (by decide) q3 (fun c4 => ?_) (fun c4 => ?_)
        · replace h := h.1 c4
          refine v_iconst E d_M_layNexts_66 ?_
          refine v_iloadn E d_M_layNexts_67 rfl 3 rfl ?_
          refine v_iconst E d_M_layNexts_68 ?_
          refine v_isub E d_M_layNexts_69 ?_
          refine v_ishl E d_M_layNexts_70 ?_
          refine v_iast E dM_14 (by decide) (by decide) (by decide) (Rng_of _) d_M_layNexts_71 ?_
          refine v_nameS (fun s7 hs7 => ?_)
          replace h := h s7 hs7
          refine v_aloadn E d_M_layNexts_72 rfl 0 rfl ?_
          refine v_aloadn E d_M_layNexts_73 rfl 0 rfl ?_
          refine v_getA E cf9 dM_0 20 (by decide) rfl mw600 d_M_layNexts_74 rfl ?_
          refine v_iconst E d_M_layNexts_77 ?_
          refine v_callVI E md_M_latest (c_M_latest 14 dM_14 0 (by decide) s7 _ h) dM_0 rfl ⟨by decide, by decide⟩ mw596 d_M_layNexts_78 (fun _ => rfl) (st := []) rfl (Nat.le_of_ble_eq_true rfl) (fun r2 s8 hr2 h => ?_)
          refine v_istore E d_M_layNexts_81 (by decide) (L' := [(4, .int (iI r2)), (0, .ref (adX X 0)), (1, .int (iI x1)), (2, .int (iI x2)), (3, .int (iI x4))]) rfl ?_
          refine v_aloadn E d_M_layNexts_83 rfl 1 rfl ?_
          refine v_getA E cf9 dM_0 25 (by decide) rfl mw653 d_M_layNexts_84 rfl ?_
          refine v_iloadn E d_M_layNexts_87 rfl 2 rfl ?_
          refine v_iloadn E d_M_layNexts_88 rfl 3 rfl ?_
          refine v_iloadn E d_M_layNexts_89 rfl 4 rfl ?_
          refine v_callSIp E md_M_nextAt (c_M_nextAt dscM x1 q1 x2 q2 x4 q3 s8 _ h) ⟨by decide, by decide⟩ mw654 d_M_layNexts_90 (fun _ => rfl) (st := [.ref (adX X 17)]) rfl (Nat.le_of_ble_eq_true rfl) (fun r3 hr3 h => ?_)
          refine v_iload E d_M_layNexts_93 0 rfl ?_
          refine v_bipush E d_M_layNexts_95 rfl ?_
          refine v_icmp_ne E 104 d_M_layNexts_97 (by decide) hr2 (by decide) (fun c5 => ?_) (fun c5 => ?_)
          · replace h := h.1 c5
            refine v_iload E d_M_layNexts_104 0 rfl ?_
            obtain ⟨q5, h⟩ := h
            refine v_iast E dM_17 (by decide) q5.1 q5.2 hr2 d_M_layNexts_106 ?_
            refine v_nameS (fun s9 hs9 => ?_)
            replace h := h s9 hs9
            refine v_iincN E d_M_layNexts_107 4 rfl (by decide) (fun y => [(3, .int (iI y)), (4, .int (iI r2)), (0, .ref (adX X 0)), (1, .int (iI x1)), (2, .int (iI x2))]) (fun _ => rfl) (fun x6 hx6 => ?_)
            replace h := h x6 hx6
            refine v_goto E 20 d_M_layNexts_110 (by decide) ?_
            obtain ⟨hb, hm⟩ := h
            exact v_sub [2, 3, 4, 0] rfl (ih3 x6 s9 hb hm)
          · replace h := h.2 c5
            refine v_iloadn E d_M_layNexts_100 rfl 3 rfl ?_
            refine v_goto E 106 d_M_layNexts_101 (by decide) ?_
            obtain ⟨q6, h⟩ := h
            refine v_iast E dM_17 (by decide) q6.1 q6.2 q2 d_M_layNexts_106 ?_
            refine v_nameS (fun s10 hs10 => ?_)
            replace h := h s10 hs10
            refine v_iincN E d_M_layNexts_107 4 rfl (by decide) (fun y => [(3, .int (iI y)), (4, .int (iI r2)), (0, .ref (adX X 0)), (1, .int (iI x1)), (2, .int (iI x2))]) (fun _ => rfl) (fun x7 hx7 => ?_)
            replace h := h x7 hx7
            refine v_goto E 20 d_M_layNexts_110 (by decide) ?_
            obtain ⟨hb, hm⟩ := h
            exact v_sub [2, 3, 4, 0] rfl (ih3 x7 s10 hb hm)
        · replace h := h.2 c4
          refine v_iconst E d_M_layNexts_62 ?_
          refine v_goto E 71 d_M_layNexts_63 (by decide) ?_
          refine v_iast E dM_14 (by decide) (by decide) (by decide) (by decide) d_M_layNexts_71 ?_
          refine v_nameS (fun s11 hs11 => ?_)
          replace h := h s11 hs11
          refine v_aloadn E d_M_layNexts_72 rfl 0 rfl ?_
          refine v_aloadn E d_M_layNexts_73 rfl 0 rfl ?_
          refine v_getA E cf9 dM_0 20 (by decide) rfl mw600 d_M_layNexts_74 rfl ?_
          refine v_iconst E d_M_layNexts_77 ?_
          refine v_callVI E md_M_latest (c_M_latest 14 dM_14 0 (by decide) s11 _ h) dM_0 rfl ⟨by decide, by decide⟩ mw596 d_M_layNexts_78 (fun _ => rfl) (st := []) rfl (Nat.le_of_ble_eq_true rfl) (fun r4 s12 hr4 h => ?_)
          refine v_istore E d_M_layNexts_81 (by decide) (L' := [(4, .int (iI r4)), (0, .ref (adX X 0)), (1, .int (iI x1)), (2, .int (iI x2)), (3, .int (iI x4))]) rfl ?_
          refine v_aloadn E d_M_layNexts_83 rfl 1 rfl ?_
          refine v_getA E cf9 dM_0 25 (by decide) rfl mw653 d_M_layNexts_84 rfl ?_
          refine v_iloadn E d_M_layNexts_87 rfl 2 rfl ?_
          refine v_iloadn E d_M_layNexts_88 rfl 3 rfl ?_
          refine v_iloadn E d_M_layNexts_89 rfl 4 rfl ?_
          refine v_callSIp E md_M_nextAt (c_M_nextAt dscM x1 q1 x2 q2 x4 q3 s12 _ h) ⟨by decide, by decide⟩ mw654 d_M_layNexts_90 (fun _ => rfl) (st := [.ref (adX X 17)]) rfl (Nat.le_of_ble_eq_true rfl) (fun r5 hr5 h => ?_)
          refine v_iload E d_M_layNexts_93 0 rfl ?_
          refine v_bipush E d_M_layNexts_95 rfl ?_
          refine v_icmp_ne E 104 d_M_layNexts_97 (by decide) hr4 (by decide) (fun c6 => ?_) (fun c6 => ?_)
          · replace h := h.1 c6
            refine v_iload E d_M_layNexts_104 0 rfl ?_
            obtain ⟨q7, h⟩ := h
            refine v_iast E dM_17 (by decide) q7.1 q7.2 hr4 d_M_layNexts_106 ?_
            refine v_nameS (fun s13 hs13 => ?_)
            replace h := h s13 hs13
            refine v_iincN E d_M_layNexts_107 4 rfl (by decide) (fun y => [(3, .int (iI y)), (4, .int (iI r4)), (0, .ref (adX X 0)), (1, .int (iI x1)), (2, .int (iI x2))]) (fun _ => rfl) (fun x8 hx8 => ?_)
            replace h := h x8 hx8
            refine v_goto E 20 d_M_layNexts_110 (by decide) ?_
            obtain ⟨hb, hm⟩ := h
            exact v_sub [2, 3, 4, 0] rfl (ih3 x8 s13 hb hm)
          · replace h := h.2 c6
            refine v_iloadn E d_M_layNexts_100 rfl 3 rfl ?_
            refine v_goto E 106 d_M_layNexts_101 (by decide) ?_
            obtain ⟨q8, h⟩ := h
            refine v_iast E dM_17 (by decide) q8.1 q8.2 q2 d_M_layNexts_106 ?_
            refine v_nameS (fun s14 hs14 => ?_)
            replace h := h s14 hs14
            refine v_iincN E d_M_layNexts_107 4 rfl (by decide) (fun y => [(3, .int (iI y)), (4, .int (iI r4)), (0, .ref (adX X 0)), (1, .int (iI x1)), (2, .int (iI x2))]) (fun _ => rfl) (fun x9 hx9 => ?_)
            replace h := h x9 hx9
            refine v_goto E 20 d_M_layNexts_110 (by decide) ?_
            obtain ⟨hb, hm⟩ := h
            exact v_sub [2, 3, 4, 0] rfl (ih3 x9 s14 hb hm)
theorem d_M_byChoice_0 : decode prog_11_method_48_code 0 = .ok (.aload_n 0, 1) := by decide +kernel
theorem d_M_byChoice_1 : decode prog_11_method_48_code 1 = .ok (.getfield 58, 3) := by decide +kernel
theorem d_M_byChoice_4 : decode prog_11_method_48_code 4 = .ok (.iload_n 1, 1) := by decide +kernel
theorem d_M_byChoice_5 : decode prog_11_method_48_code 5 = .ok (.iload_n 2, 1) := by decide +kernel
theorem d_M_byChoice_6 : decode prog_11_method_48_code 6 = .ok (.iload 4, 2) := by decide +kernel
theorem d_M_byChoice_8 : decode prog_11_method_48_code 8 = .ok (.invokestatic 203, 3) := by decide +kernel
theorem d_M_byChoice_11 : decode prog_11_method_48_code 11 = .ok (.iaload, 1) := by decide +kernel
theorem d_M_byChoice_12 : decode prog_11_method_48_code 12 = .ok (.istore 5, 2) := by decide +kernel
theorem d_M_byChoice_14 : decode prog_11_method_48_code 14 = .ok (.iconst 1, 1) := by decide +kernel
theorem d_M_byChoice_15 : decode prog_11_method_48_code 15 = .ok (.aload_n 0, 1) := by decide +kernel
theorem d_M_byChoice_16 : decode prog_11_method_48_code 16 = .ok (.getfield 61, 3) := by decide +kernel
theorem d_M_byChoice_19 : decode prog_11_method_48_code 19 = .ok (.iload_n 1, 1) := by decide +kernel
theorem d_M_byChoice_20 : decode prog_11_method_48_code 20 = .ok (.iconst 1, 1) := by decide +kernel
theorem d_M_byChoice_21 : decode prog_11_method_48_code 21 = .ok (.iadd, 1) := by decide +kernel
theorem d_M_byChoice_22 : decode prog_11_method_48_code 22 = .ok (.iload 5, 2) := by decide +kernel
theorem d_M_byChoice_24 : decode prog_11_method_48_code 24 = .ok (.iload_n 3, 1) := by decide +kernel
theorem d_M_byChoice_25 : decode prog_11_method_48_code 25 = .ok (.iconst 1, 1) := by decide +kernel
theorem d_M_byChoice_26 : decode prog_11_method_48_code 26 = .ok (.iload 5, 2) := by decide +kernel
theorem d_M_byChoice_28 : decode prog_11_method_48_code 28 = .ok (.ishl, 1) := by decide +kernel
theorem d_M_byChoice_29 : decode prog_11_method_48_code 29 = .ok (.ior, 1) := by decide +kernel
theorem d_M_byChoice_30 : decode prog_11_method_48_code 30 = .ok (.invokestatic 207, 3) := by decide +kernel
theorem d_M_byChoice_33 : decode prog_11_method_48_code 33 = .ok (.iaload, 1) := by decide +kernel
theorem d_M_byChoice_34 : decode prog_11_method_48_code 34 = .ok (.iadd, 1) := by decide +kernel
theorem d_M_byChoice_35 : decode prog_11_method_48_code 35 = .ok (.ireturn, 1) := by decide +kernel
set_option maxHeartbeats 4000000 in
set_option maxRecDepth 20000 in
theorem c_M_byChoice (p1 : Int) (hp1 : Rng p1) (p2 : Int) (hp2 : Rng p2) (p3 : Int) (hp3 : Rng p3) (p4 : Int) (hp4 : Rng p4) (s0 : MS) (Q : Int → Prop) (h : wp_M_byChoice p1 p2 p3 p4 s0 Q) : MT dscM ⟨"BellSchoolModel", "byChoice", "(IIII)I"⟩ prog_11_method_48_code 6 (some .int) 1 (fun ad => [.ref (ad 0), .int (iI p1), .int (iI p2), .int (iI p3), .int (iI p4)]) s0 (po_I dscM (fun r z => z = s0 ∧ Q r)) := by
  refine met_of (by decide) (fun _ => Nat.le_of_ble_eq_true rfl) (fun X E hR => ?_)
  replace E : EV dscM X prog_11_method_48_code "BellSchoolModel" 6 1 := E
  show VV dscM X 0 [(0, .ref (adX X 0)), (1, .int (iI p1)), (2, .int (iI p2)), (3, .int (iI p3)), (4, .int (iI p4))] [] s0
  unfold wp_M_byChoice at h
  refine v_aloadn E d_M_byChoice_0 rfl 0 rfl ?_
  refine v_getA E cf9 dM_0 25 (by decide) rfl mw653 d_M_byChoice_1 rfl ?_
  refine v_iloadn E d_M_byChoice_4 rfl 1 rfl ?_
  refine v_iloadn E d_M_byChoice_5 rfl 2 rfl ?_
  refine v_iload E d_M_byChoice_6 4 rfl ?_
  refine v_callSIp E md_M_nextAt (c_M_nextAt dscM p1 hp1 p2 hp2 p4 hp4 s0 _ h) ⟨by decide, by decide⟩ mw654 d_M_byChoice_8 (fun _ => rfl) (st := [.ref (adX X 17)]) rfl (Nat.le_of_ble_eq_true rfl) (fun r1 hr1 h => ?_)
  obtain ⟨q1, h⟩ := h
  refine v_iald E dM_17 (by decide) q1.1 q1.2 d_M_byChoice_11 ?_
  refine v_istore E d_M_byChoice_12 (by decide) (L' := [(5, .int (iI (gI s0 17 r1))), (0, .ref (adX X 0)), (1, .int (iI p1)), (2, .int (iI p2)), (3, .int (iI p3)), (4, .int (iI p4))]) rfl ?_
  refine v_iconst E d_M_byChoice_14 ?_
  refine v_aloadn E d_M_byChoice_15 rfl 1 rfl ?_
  refine v_getA E cf9 dM_0 26 (by decide) rfl mw658 d_M_byChoice_16 rfl ?_
  refine v_iloadn E d_M_byChoice_19 rfl 2 rfl ?_
  refine v_iconst E d_M_byChoice_20 ?_
  refine v_iadd E d_M_byChoice_21 ?_
  refine v_iload E d_M_byChoice_22 0 rfl ?_
  refine v_iloadn E d_M_byChoice_24 rfl 4 rfl ?_
  refine v_iconst E d_M_byChoice_25 ?_
  refine v_iload E d_M_byChoice_26 0 rfl ?_
  refine v_ishl E d_M_byChoice_28 ?_
  refine v_ior E d_M_byChoice_29 ?_
  obtain ⟨q2, h⟩ := h
  refine v_wt (fun wt1 => ?_)
  refine v_callSIp E md_M_yetAt (c_M_yetAt dscM (p1 + 1) q2 (gI s0 17 r1) (wt1 17 r1) (ior p3 (ishl 1 (gI s0 17 r1))) (Rng_of _) s0 _ h) ⟨by decide, by decide⟩ mw659 d_M_byChoice_30 (fun _ => rfl) (st := [.ref (adX X 18), .int (iI 1)]) rfl (Nat.le_of_ble_eq_true rfl) (fun r2 hr2 h => ?_)
  obtain ⟨q3, h⟩ := h
  refine v_iald E dM_18 (by decide) q3.1 q3.2 d_M_byChoice_33 ?_
  refine v_iadd E d_M_byChoice_34 ?_
  obtain ⟨q4, h⟩ := h
  exact v_iret E hR rfl q4 ⟨rfl, h⟩ d_M_byChoice_35
theorem d_M_layYet_0 : decode prog_11_method_49_code 0 = .ok (.iconst 1, 1) := by decide +kernel
theorem d_M_layYet_1 : decode prog_11_method_49_code 1 = .ok (.aload_n 0, 1) := by decide +kernel
theorem d_M_layYet_2 : decode prog_11_method_49_code 2 = .ok (.getfield 148, 3) := by decide +kernel
theorem d_M_layYet_5 : decode prog_11_method_49_code 5 = .ok (.ishl, 1) := by decide +kernel
theorem d_M_layYet_6 : decode prog_11_method_49_code 6 = .ok (.iconst 1, 1) := by decide +kernel
theorem d_M_layYet_7 : decode prog_11_method_49_code 7 = .ok (.isub, 1) := by decide +kernel
theorem d_M_layYet_8 : decode prog_11_method_49_code 8 = .ok (.istore_n 1, 1) := by decide +kernel
theorem d_M_layYet_9 : decode prog_11_method_49_code 9 = .ok (.aload_n 0, 1) := by decide +kernel
theorem d_M_layYet_10 : decode prog_11_method_49_code 10 = .ok (.invokevirtual 210, 3) := by decide +kernel
theorem d_M_layYet_13 : decode prog_11_method_49_code 13 = .ok (.bipush 28, 2) := by decide +kernel
theorem d_M_layYet_15 : decode prog_11_method_49_code 15 = .ok (.istore_n 2, 1) := by decide +kernel
theorem d_M_layYet_16 : decode prog_11_method_49_code 16 = .ok (.iload_n 2, 1) := by decide +kernel
theorem d_M_layYet_17 : decode prog_11_method_49_code 17 = .ok (.ifCond .lt 126, 3) := by decide +kernel
theorem d_M_layYet_20 : decode prog_11_method_49_code 20 = .ok (.iconst 0, 1) := by decide +kernel
theorem d_M_layYet_21 : decode prog_11_method_49_code 21 = .ok (.istore_n 3, 1) := by decide +kernel
theorem d_M_layYet_22 : decode prog_11_method_49_code 22 = .ok (.iload_n 3, 1) := by decide +kernel
theorem d_M_layYet_23 : decode prog_11_method_49_code 23 = .ok (.aload_n 0, 1) := by decide +kernel
theorem d_M_layYet_24 : decode prog_11_method_49_code 24 = .ok (.getfield 148, 3) := by decide +kernel
theorem d_M_layYet_27 : decode prog_11_method_49_code 27 = .ok (.if_icmp .ge 110, 3) := by decide +kernel
theorem d_M_layYet_30 : decode prog_11_method_49_code 30 = .ok (.iconst 0, 1) := by decide +kernel
theorem d_M_layYet_31 : decode prog_11_method_49_code 31 = .ok (.istore 4, 2) := by decide +kernel
theorem d_M_layYet_33 : decode prog_11_method_49_code 33 = .ok (.iload 4, 2) := by decide +kernel
theorem d_M_layYet_35 : decode prog_11_method_49_code 35 = .ok (.iload_n 1, 1) := by decide +kernel
theorem d_M_layYet_36 : decode prog_11_method_49_code 36 = .ok (.if_icmp .gt 95, 3) := by decide +kernel
theorem d_M_layYet_39 : decode prog_11_method_49_code 39 = .ok (.iload 4, 2) := by decide +kernel
theorem d_M_layYet_41 : decode prog_11_method_49_code 41 = .ok (.iload_n 1, 1) := by decide +kernel
theorem d_M_layYet_42 : decode prog_11_method_49_code 42 = .ok (.if_icmp .ne 7, 3) := by decide +kernel
theorem d_M_layYet_45 : decode prog_11_method_49_code 45 = .ok (.iconst 0, 1) := by decide +kernel
theorem d_M_layYet_46 : decode prog_11_method_49_code 46 = .ok (.goto 5, 3) := by decide +kernel
theorem d_M_layYet_49 : decode prog_11_method_49_code 49 = .ok (.ldc 171, 2) := by decide +kernel
theorem d_M_layYet_51 : decode prog_11_method_49_code 51 = .ok (.istore 5, 2) := by decide +kernel
theorem d_M_layYet_53 : decode prog_11_method_49_code 53 = .ok (.iconst 0, 1) := by decide +kernel
theorem d_M_layYet_54 : decode prog_11_method_49_code 54 = .ok (.istore 6, 2) := by decide +kernel
theorem d_M_layYet_56 : decode prog_11_method_49_code 56 = .ok (.iload 6, 2) := by decide +kernel
theorem d_M_layYet_58 : decode prog_11_method_49_code 58 = .ok (.aload_n 0, 1) := by decide +kernel
theorem d_M_layYet_59 : decode prog_11_method_49_code 59 = .ok (.getfield 148, 3) := by decide +kernel
theorem d_M_layYet_62 : decode prog_11_method_49_code 62 = .ok (.if_icmp .gt 49, 3) := by decide +kernel
theorem d_M_layYet_65 : decode prog_11_method_49_code 65 = .ok (.iload_n 2, 1) := by decide +kernel
theorem d_M_layYet_66 : decode prog_11_method_49_code 66 = .ok (.bipush 28, 2) := by decide +kernel
theorem d_M_layYet_68 : decode prog_11_method_49_code 68 = .ok (.if_icmp .ge 43, 3) := by decide +kernel
theorem d_M_layYet_71 : decode prog_11_method_49_code 71 = .ok (.iload 4, 2) := by decide +kernel
theorem d_M_layYet_73 : decode prog_11_method_49_code 73 = .ok (.iload_n 1, 1) := by decide +kernel
theorem d_M_layYet_74 : decode prog_11_method_49_code 74 = .ok (.if_icmp .eq 37, 3) := by decide +kernel
theorem d_M_layYet_77 : decode prog_11_method_49_code 77 = .ok (.aload_n 0, 1) := by decide +kernel
theorem d_M_layYet_78 : decode prog_11_method_49_code 78 = .ok (.iload_n 2, 1) := by decide +kernel
theorem d_M_layYet_79 : decode prog_11_method_49_code 79 = .ok (.iload_n 3, 1) := by decide +kernel
theorem d_M_layYet_80 : decode prog_11_method_49_code 80 = .ok (.iload 4, 2) := by decide +kernel
theorem d_M_layYet_82 : decode prog_11_method_49_code 82 = .ok (.iload 6, 2) := by decide +kernel
theorem d_M_layYet_84 : decode prog_11_method_49_code 84 = .ok (.invokevirtual 213, 3) := by decide +kernel
theorem d_M_layYet_87 : decode prog_11_method_49_code 87 = .ok (.istore 7, 2) := by decide +kernel
theorem d_M_layYet_89 : decode prog_11_method_49_code 89 = .ok (.iload 7, 2) := by decide +kernel
theorem d_M_layYet_91 : decode prog_11_method_49_code 91 = .ok (.iload 5, 2) := by decide +kernel
theorem d_M_layYet_93 : decode prog_11_method_49_code 93 = .ok (.if_icmp .ge 8, 3) := by decide +kernel
theorem d_M_layYet_96 : decode prog_11_method_49_code 96 = .ok (.iload 7, 2) := by decide +kernel
theorem d_M_layYet_98 : decode prog_11_method_49_code 98 = .ok (.goto 5, 3) := by decide +kernel
theorem d_M_layYet_101 : decode prog_11_method_49_code 101 = .ok (.iload 5, 2) := by decide +kernel
theorem d_M_layYet_103 : decode prog_11_method_49_code 103 = .ok (.istore 5, 2) := by decide +kernel
theorem d_M_layYet_105 : decode prog_11_method_49_code 105 = .ok (.iinc 6 1, 3) := by decide +kernel
theorem d_M_layYet_108 : decode prog_11_method_49_code 108 = .ok (.goto (-52), 3) := by decide +kernel
theorem d_M_layYet_111 : decode prog_11_method_49_code 111 = .ok (.aload_n 0, 1) := by decide +kernel
theorem d_M_layYet_112 : decode prog_11_method_49_code 112 = .ok (.getfield 61, 3) := by decide +kernel
theorem d_M_layYet_115 : decode prog_11_method_49_code 115 = .ok (.iload_n 2, 1) := by decide +kernel
theorem d_M_layYet_116 : decode prog_11_method_49_code 116 = .ok (.iload_n 3, 1) := by decide +kernel
theorem d_M_layYet_117 : decode prog_11_method_49_code 117 = .ok (.iload 4, 2) := by decide +kernel
theorem d_M_layYet_119 : decode prog_11_method_49_code 119 = .ok (.invokestatic 207, 3) := by decide +kernel
theorem d_M_layYet_122 : decode prog_11_method_49_code 122 = .ok (.iload 5, 2) := by decide +kernel
theorem d_M_layYet_124 : decode prog_11_method_49_code 124 = .ok (.iastore, 1) := by decide +kernel
theorem d_M_layYet_125 : decode prog_11_method_49_code 125 = .ok (.iinc 4 1, 3) := by decide +kernel
theorem d_M_layYet_128 : decode prog_11_method_49_code 128 = .ok (.goto (-95), 3) := by decide +kernel
theorem d_M_layYet_131 : decode prog_11_method_49_code 131 = .ok (.iinc 3 1, 3) := by decide +kernel
theorem d_M_layYet_134 : decode prog_11_method_49_code 134 = .ok (.goto (-112), 3) := by decide +kernel
theorem d_M_layYet_137 : decode prog_11_method_49_code 137 = .ok (.iinc 2 (-1), 3) := by decide +kernel
theorem d_M_layYet_140 : decode prog_11_method_49_code 140 = .ok (.goto (-124), 3) := by decide +kernel
theorem d_M_layYet_143 : decode prog_11_method_49_code 143 = .ok (.return_, 1) := by decide +kernel
set_option maxHeartbeats 4000000 in
set_option maxRecDepth 20000 in
theorem c_M_layYet (s0 : MS) (Q : MS → Prop) (h : wp_M_layYet s0 Q) : MT dscM ⟨"BellSchoolModel", "layYet", "()V"⟩ prog_11_method_49_code 8 none 5 (fun ad => [.ref (ad 0)]) s0 (po_V dscM Q) := by
  refine met_of (by decide) (fun _ => Nat.le_of_ble_eq_true rfl) (fun X E hR => ?_)
  replace E : EV dscM X prog_11_method_49_code "BellSchoolModel" 8 5 := E
  show VV dscM X 0 [(0, .ref (adX X 0))] [] s0
  unfold wp_M_layYet at h
  refine v_iconst E d_M_layYet_0 ?_
  refine v_aloadn E d_M_layYet_1 rfl 0 rfl ?_
  refine v_getI E cf9 dM_0 12 (by decide) rfl mw554 d_M_layYet_2 rfl ?_
  refine v_ishl E d_M_layYet_5 ?_
  refine v_iconst E d_M_layYet_6 ?_
  refine v_isub E d_M_layYet_7 ?_
  refine v_nameI (fun x1 hx1 => ?_)
  replace h := h x1 hx1
  refine v_istoren E d_M_layYet_8 rfl (by decide) (L' := [(1, .int (iI x1)), (0, .ref (adX X 0))]) rfl ?_
  refine v_aloadn E d_M_layYet_9 rfl 1 rfl ?_
  refine v_callVV E md_M_layNexts (c_M_layNexts s0 _ h) dM_0 rfl ⟨by decide, by decide⟩ mw663 d_M_layYet_10 (fun _ => rfl) (st := []) rfl (Nat.le_of_ble_eq_true rfl) (fun s1 h => ?_)
  refine v_bipush E d_M_layYet_13 rfl ?_
  refine v_istoren E d_M_layYet_15 rfl (by decide) (L' := [(2, .int (iI 28)), (1, .int (iI x1)), (0, .ref (adX X 0))]) rfl ?_
  refine v_sub [2, 1, 0] (L' := [(0, .ref (adX X 0)), (1, .int (iI x1)), (2, .int (iI 28))]) rfl ?_
  obtain ⟨I1, μ1, h01, h⟩ := h
  refine v_loop1 (fun (x2 : Int) => [(0, .ref (adX X 0)), (1, .int (iI x1)), (2, .int (iI x2))]) I1 μ1 (fun x2 s2 hI1 ih1 => ?_) 28 s1 h01
  replace h := h x2 s2 hI1
  refine v_iloadn E d_M_layYet_16 rfl 2 rfl ?_
  obtain ⟨q1, h⟩ := h
  refine v_if_lt E 143 d_M_layYet_17 (by decide) q1 (fun c1 => ?_) (fun c1 => ?_)
  · replace h := h.1 c1
    exact v_vret E hR h d_M_layYet_143
  · replace h := h.2 c1
    refine v_iconst E d_M_layYet_20 ?_
    refine v_istoren E d_M_layYet_21 rfl (by decide) (L' := [(3, .int (iI 0)), (0, .ref (adX X 0)), (1, .int (iI x1)), (2, .int (iI x2))]) rfl ?_
    refine v_sub [1, 2, 3, 0] (L' := [(0, .ref (adX X 0)), (1, .int (iI x1)), (2, .int (iI x2)), (3, .int (iI 0))]) rfl ?_
    obtain ⟨I2, μ2, h02, h⟩ := h
    refine v_loop1 (fun (x3 : Int) => [(0, .ref (adX X 0)), (1, .int (iI x1)), (2, .int (iI x2)), (3, .int (iI x3))]) I2 μ2 (fun x3 s3 hI2 ih2 => ?_) 0 s2 h02
    replace h := h x3 s3 hI2
    refine v_iloadn E d_M_layYet_22 rfl 3 rfl ?_
    refine v_aloadn E d_M_layYet_23 rfl 0 rfl ?_
    refine v_getI E cf9 dM_0 12 (by decide) rfl mw554 d_M_layYet_24 rfl ?_
    obtain ⟨q2, h⟩ := h
    refine v_wt (fun wt1 => ?_)
    refine v_icmp_ge E 137 d_M_layYet_27 (by decide) q2 (wt1 0 12) (fun c2 => ?_) (fun c2 => ?_)
    · replace h := h.1 c2
      refine v_iincN E d_M_layYet_137 2 rfl (by decide) (fun y => [(2, .int (iI y)), (0, .ref (adX X 0)), (1, .int (iI x1)), (3, .int (iI x3))]) (fun _ => rfl) (fun x4 hx4 => ?_)
      replace h := h x4 hx4
      refine v_goto E 16 d_M_layYet_140 (by decide) ?_
      obtain ⟨hb, hm⟩ := h
      exact v_sub [1, 2, 0] rfl (ih1 x4 s3 hb hm)
    · replace h := h.2 c2
      refine v_iconst E d_M_layYet_30 ?_
      refine v_istore E d_M_layYet_31 (by decide) (L' := [(4, .int (iI 0)), (0, .ref (adX X 0)), (1, .int (iI x1)), (2, .int (iI x2)), (3, .int (iI x3))]) rfl ?_
      refine v_sub [1, 2, 3, 4, 0] (L' := [(0, .ref (adX X 0)), (1, .int (iI x1)), (2, .int (iI x2)), (3, .int (iI x3)), (4, .int (iI 0))]) rfl ?_
      obtain ⟨I3, μ3, h03, h⟩ := h
      refine v_loop1 (fun (x5 : Int) => [(0, .ref (adX X 0)), (1, .int (iI x1)), (2, .int (iI x2)), (3, .int (iI x3)), (4, .int (iI x5))]) I3 μ3 (fun x5 s4 hI3 ih3 => ?_) 0 s3 h03
      replace h := h x5 s4 hI3
      refine v_iload E d_M_layYet_33 4 rfl ?_
      refine v_iloadn E d_M_layYet_35 rfl 1 rfl ?_
      obtain ⟨q3, h⟩ := h
      obtain ⟨q4, h⟩ := h
      refine v_icmp_gt E 131 d_M_layYet_36 (by decide) q3 q4 (fun c3 => ?_) (fun c3 => ?_)
      · replace h := h.1 c3
        refine v_iincN E d_M_layYet_131 3 rfl (by decide) (fun y => [(3, .int (iI y)), (0, .ref (adX X 0)), (1, .int (iI x1)), (2, .int (iI x2)), (4, .int (iI x5))]) (fun _ => rfl) (fun x6 hx6 => ?_)
        replace h := h x6 hx6
        refine v_goto E 22 d_M_layYet_134 (by decide) ?_
        obtain ⟨hb, hm⟩ := h
        exact v_sub [1, 2, 3, 0] rfl (ih2 x6 s4 hb hm)
      · replace h := h.2 c3
        refine v_iload E d_M_layYet_39 4 rfl ?_
        refine v_iloadn E d_M_layYet_41 rfl 1 rfl ?_
        refine v_icmp_ne E 49 d_M_layYet_42 (by decide) q3 q4 (fun c4 => ?_) (fun c4 => ?_)
        · replace h := h.1 c4
          refine v_ldc E (n := 1000000) mw584 rfl d_M_layYet_49 ?_
          refine v_istore E d_M_layYet_51 (by decide) (L' := [(5, .int (iI 1000000)), (0, .ref (adX X 0)), (1, .int (iI x1)), (2, .int (iI x2)), (3, .int (iI x3)), (4, .int (iI x5))]) rfl ?_
          refine v_iconst E d_M_layYet_53 ?_
          refine v_istore E d_M_layYet_54 (by decide) (L' := [(6, .int (iI 0)), (5, .int (iI 1000000)), (0, .ref (adX X 0)), (1, .int (iI x1)), (2, .int (iI x2)), (3, .int (iI x3)), (4, .int (iI x5))]) rfl ?_
          refine v_sub [2, 3, 4, 5, 6, 1, 0] (L' := [(0, .ref (adX X 0)), (1, .int (iI x1)), (2, .int (iI x2)), (3, .int (iI x3)), (4, .int (iI x5)), (5, .int (iI 1000000)), (6, .int (iI 0))]) rfl ?_
          obtain ⟨I4, μ4, h04, h⟩ := h
          refine v_ploop2 s4 (fun (x7 : Int) (x8 : Int) => [(0, .ref (adX X 0)), (1, .int (iI x1)), (2, .int (iI x2)), (3, .int (iI x3)), (4, .int (iI x5)), (5, .int (iI x7)), (6, .int (iI x8))]) I4 μ4 (fun x7 x8 hI4 ih4 => ?_) 1000000 0 h04
          replace h := h x7 x8  hI4
          refine v_iload E d_M_layYet_56 6 rfl ?_
          refine v_aloadn E d_M_layYet_58 rfl 0 rfl ?_
          refine v_getI E cf9 dM_0 12 (by decide) rfl mw554 d_M_layYet_59 rfl ?_
          obtain ⟨q5, h⟩ := h
          refine v_wt (fun wt2 => ?_)
          refine v_icmp_gt E 111 d_M_layYet_62 (by decide) q5 (wt2 0 12) (fun c5 => ?_) (fun c5 => ?_)
          · replace h := h.1 c5
            refine v_aloadn E d_M_layYet_111 rfl 0 rfl ?_
            refine v_getA E cf9 dM_0 26 (by decide) rfl mw658 d_M_layYet_112 rfl ?_
            refine v_iloadn E d_M_layYet_115 rfl 2 rfl ?_
            refine v_iloadn E d_M_layYet_116 rfl 3 rfl ?_
            refine v_iload E d_M_layYet_117 4 rfl ?_
            refine v_callSIp E md_M_yetAt (c_M_yetAt dscM x2 q1 x3 q2 x5 q3 s4 _ h) ⟨by decide, by decide⟩ mw659 d_M_layYet_119 (fun _ => rfl) (st := [.ref (adX X 18)]) rfl (Nat.le_of_ble_eq_true rfl) (fun r2 hr2 h => ?_)
            refine v_iload E d_M_layYet_122 5 rfl ?_
            obtain ⟨q6, h⟩ := h
            obtain ⟨q7, h⟩ := h
            refine v_iast E dM_18 (by decide) q6.1 q6.2 q7 d_M_layYet_124 ?_
            refine v_nameS (fun s5 hs5 => ?_)
            replace h := h s5 hs5
            refine v_iincN E d_M_layYet_125 4 rfl (by decide) (fun y => [(4, .int (iI y)), (0, .ref (adX X 0)), (1, .int (iI x1)), (2, .int (iI x2)), (3, .int (iI x3)), (5, .int (iI x7)), (6, .int (iI x8))]) (fun _ => rfl) (fun x9 hx9 => ?_)
            replace h := h x9 hx9
            refine v_goto E 33 d_M_layYet_128 (by decide) ?_
            obtain ⟨hb, hm⟩ := h
            exact v_sub [1, 2, 3, 4, 0] rfl (ih3 x9 s5 hb hm)
          · replace h := h.2 c5
            refine v_iloadn E d_M_layYet_65 rfl 2 rfl ?_
            refine v_bipush E d_M_layYet_66 rfl ?_
            refine v_icmp_ge E 111 d_M_layYet_68 (by decide) q1 (by decide) (fun c6 => ?_) (fun c6 => ?_)
            · replace h := h.1 c6
              refine v_aloadn E d_M_layYet_111 rfl 0 rfl ?_
              refine v_getA E cf9 dM_0 26 (by decide) rfl mw658 d_M_layYet_112 rfl ?_
              refine v_iloadn E d_M_layYet_115 rfl 2 rfl ?_
              refine v_iloadn E d_M_layYet_116 rfl 3 rfl ?_
              refine v_iload E d_M_layYet_117 4 rfl ?_
              refine v_callSIp E md_M_yetAt (c_M_yetAt dscM x2 q1 x3 q2 x5 q3 s4 _ h) ⟨by decide, by decide⟩ mw659 d_M_layYet_119 (fun _ => rfl) (st := [.ref (adX X 18)]) rfl (Nat.le_of_ble_eq_true rfl) (fun r3 hr3 h => ?_)
              refine v_iload E d_M_layYet_122 5 rfl ?_
              obtain ⟨q8, h⟩ := h
              obtain ⟨q9, h⟩ := h
              refine v_iast E dM_18 (by decide) q8.1 q8.2 q9 d_M_layYet_124 ?_
              refine v_nameS (fun s6 hs6 => ?_)
              replace h := h s6 hs6
              refine v_iincN E d_M_layYet_125 4 rfl (by decide) (fun y => [(4, .int (iI y)), (0, .ref (adX X 0)), (1, .int (iI x1)), (2, .int (iI x2)), (3, .int (iI x3)), (5, .int (iI x7)), (6, .int (iI x8))]) (fun _ => rfl) (fun x10 hx10 => ?_)
              replace h := h x10 hx10
              refine v_goto E 33 d_M_layYet_128 (by decide) ?_
              obtain ⟨hb, hm⟩ := h
              exact v_sub [1, 2, 3, 4, 0] rfl (ih3 x10 s6 hb hm)
            · replace h := h.2 c6
              refine v_iload E d_M_layYet_71 4 rfl ?_
              refine v_iloadn E d_M_layYet_73 rfl 1 rfl ?_
              refine v_icmp_eq E 111 d_M_layYet_74 (by decide) q3 q4 (fun hc => absurd c4 (by first | exact hc | exact fun z => hc z | exact fun z => z hc)) (fun _ => ?_)
              refine v_aloadn E d_M_layYet_77 rfl 0 rfl ?_
              refine v_iloadn E d_M_layYet_78 rfl 2 rfl ?_
              refine v_iloadn E d_M_layYet_79 rfl 3 rfl ?_
              refine v_iload E d_M_layYet_80 4 rfl ?_
              refine v_iload E d_M_layYet_82 6 rfl ?_
              refine v_callVIp E md_M_byChoice (c_M_byChoice x2 q1 x3 q2 x5 q3 x8 q5 s4 _ h) dM_0 rfl ⟨by decide, by decide⟩ mw664 d_M_layYet_84 (fun _ => rfl) (st := []) rfl (Nat.le_of_ble_eq_true rfl) (fun r4 hr4 h => ?_)
              refine v_istore E d_M_layYet_87 (by decide) (L' := [(7, .int (iI r4)), (0, .ref (adX X 0)), (1, .int (iI x1)), (2, .int (iI x2)), (3, .int (iI x3)), (4, .int (iI x5)), (5, .int (iI x7)), (6, .int (iI x8))]) rfl ?_
              refine v_iload E d_M_layYet_89 0 rfl ?_
              refine v_iload E d_M_layYet_91 6 rfl ?_
              obtain ⟨q10, h⟩ := h
              refine v_icmp_ge E 101 d_M_layYet_93 (by decide) hr4 q10 (fun c7 => ?_) (fun c7 => ?_)
              · replace h := h.1 c7
                refine v_iload E d_M_layYet_101 6 rfl ?_
                refine v_istore E d_M_layYet_103 (by decide) (L' := [(5, .int (iI x7)), (7, .int (iI r4)), (0, .ref (adX X 0)), (1, .int (iI x1)), (2, .int (iI x2)), (3, .int (iI x3)), (4, .int (iI x5)), (6, .int (iI x8))]) rfl ?_
                refine v_iincN E d_M_layYet_105 7 rfl (by decide) (fun y => [(6, .int (iI y)), (5, .int (iI x7)), (7, .int (iI r4)), (0, .ref (adX X 0)), (1, .int (iI x1)), (2, .int (iI x2)), (3, .int (iI x3)), (4, .int (iI x5))]) (fun _ => rfl) (fun x11 hx11 => ?_)
                replace h := h x11 hx11
                refine v_goto E 56 d_M_layYet_108 (by decide) ?_
                obtain ⟨hb, hm⟩ := h
                exact v_sub [3, 4, 5, 6, 7, 1, 0] rfl (ih4 x7 x11 hb hm)
              · replace h := h.2 c7
                refine v_iload E d_M_layYet_96 0 rfl ?_
                refine v_goto E 103 d_M_layYet_98 (by decide) ?_
                refine v_istore E d_M_layYet_103 (by decide) (L' := [(5, .int (iI r4)), (7, .int (iI r4)), (0, .ref (adX X 0)), (1, .int (iI x1)), (2, .int (iI x2)), (3, .int (iI x3)), (4, .int (iI x5)), (6, .int (iI x8))]) rfl ?_
                refine v_iincN E d_M_layYet_105 7 rfl (by decide) (fun y => [(6, .int (iI y)), (5, .int (iI r4)), (7, .int (iI r4)), (0, .ref (adX X 0)), (1, .int (iI x1)), (2, .int (iI x2)), (3, .int (iI x3)), (4, .int (iI x5))]) (fun _ => rfl) (fun x12 hx12 => ?_)
                replace h := h x12 hx12
                refine v_goto E 56 d_M_layYet_108 (by decide) ?_
                obtain ⟨hb, hm⟩ := h
                exact v_sub [3, 4, 5, 6, 7, 1, 0] rfl (ih4 r4 x12 hb hm)
        · replace h := h.2 c4
          refine v_iconst E d_M_layYet_45 ?_
          refine v_goto E 51 d_M_layYet_46 (by decide) ?_
          refine v_istore E d_M_layYet_51 (by decide) (L' := [(5, .int (iI 0)), (0, .ref (adX X 0)), (1, .int (iI x1)), (2, .int (iI x2)), (3, .int (iI x3)), (4, .int (iI x5))]) rfl ?_
          refine v_iconst E d_M_layYet_53 ?_
          refine v_istore E d_M_layYet_54 (by decide) (L' := [(6, .int (iI 0)), (5, .int (iI 0)), (0, .ref (adX X 0)), (1, .int (iI x1)), (2, .int (iI x2)), (3, .int (iI x3)), (4, .int (iI x5))]) rfl ?_
          refine v_sub [2, 3, 4, 5, 6, 1, 0] (L' := [(0, .ref (adX X 0)), (1, .int (iI x1)), (2, .int (iI x2)), (3, .int (iI x3)), (4, .int (iI x5)), (5, .int (iI 0)), (6, .int (iI 0))]) rfl ?_
          obtain ⟨I5, μ5, h05, h⟩ := h
          refine v_ploop2 s4 (fun (x13 : Int) (x14 : Int) => [(0, .ref (adX X 0)), (1, .int (iI x1)), (2, .int (iI x2)), (3, .int (iI x3)), (4, .int (iI x5)), (5, .int (iI x13)), (6, .int (iI x14))]) I5 μ5 (fun x13 x14 hI5 ih5 => ?_) 0 0 h05
          replace h := h x13 x14  hI5
          refine v_iload E d_M_layYet_56 6 rfl ?_
          refine v_aloadn E d_M_layYet_58 rfl 0 rfl ?_
          refine v_getI E cf9 dM_0 12 (by decide) rfl mw554 d_M_layYet_59 rfl ?_
          obtain ⟨q11, h⟩ := h
          refine v_wt (fun wt3 => ?_)
          refine v_icmp_gt E 111 d_M_layYet_62 (by decide) q11 (wt3 0 12) (fun c8 => ?_) (fun c8 => ?_)
          · replace h := h.1 c8
            refine v_aloadn E d_M_layYet_111 rfl 0 rfl ?_
            refine v_getA E cf9 dM_0 26 (by decide) rfl mw658 d_M_layYet_112 rfl ?_
            refine v_iloadn E d_M_layYet_115 rfl 2 rfl ?_
            refine v_iloadn E d_M_layYet_116 rfl 3 rfl ?_
            refine v_iload E d_M_layYet_117 4 rfl ?_
            refine v_callSIp E md_M_yetAt (c_M_yetAt dscM x2 q1 x3 q2 x5 q3 s4 _ h) ⟨by decide, by decide⟩ mw659 d_M_layYet_119 (fun _ => rfl) (st := [.ref (adX X 18)]) rfl (Nat.le_of_ble_eq_true rfl) (fun r5 hr5 h => ?_)
            refine v_iload E d_M_layYet_122 5 rfl ?_
            obtain ⟨q12, h⟩ := h
            obtain ⟨q13, h⟩ := h
            refine v_iast E dM_18 (by decide) q12.1 q12.2 q13 d_M_layYet_124 ?_
            refine v_nameS (fun s7 hs7 => ?_)
            replace h := h s7 hs7
            refine v_iincN E d_M_layYet_125 4 rfl (by decide) (fun y => [(4, .int (iI y)), (0, .ref (adX X 0)), (1, .int (iI x1)), (2, .int (iI x2)), (3, .int (iI x3)), (5, .int (iI x13)), (6, .int (iI x14))]) (fun _ => rfl) (fun x15 hx15 => ?_)
            replace h := h x15 hx15
            refine v_goto E 33 d_M_layYet_128 (by decide) ?_
            obtain ⟨hb, hm⟩ := h
            exact v_sub [1, 2, 3, 4, 0] rfl (ih3 x15 s7 hb hm)
          · replace h := h.2 c8
            refine v_iloadn E d_M_layYet_65 rfl 2 rfl ?_
            refine v_bipush E d_M_layYet_66 rfl ?_
            refine v_icmp_ge E 111 d_M_layYet_68 (by decide) q1 (by decide) (fun c9 => ?_) (fun c9 => ?_)
            · replace h := h.1 c9
              refine v_aloadn E d_M_layYet_111 rfl 0 rfl ?_
              refine v_getA E cf9 dM_0 26 (by decide) rfl mw658 d_M_layYet_112 rfl ?_
              refine v_iloadn E d_M_layYet_115 rfl 2 rfl ?_
              refine v_iloadn E d_M_layYet_116 rfl 3 rfl ?_
              refine v_iload E d_M_layYet_117 4 rfl ?_
              refine v_callSIp E md_M_yetAt (c_M_yetAt dscM x2 q1 x3 q2 x5 q3 s4 _ h) ⟨by decide, by decide⟩ mw659 d_M_layYet_119 (fun _ => rfl) (st := [.ref (adX X 18)]) rfl (Nat.le_of_ble_eq_true rfl) (fun r6 hr6 h => ?_)
              refine v_iload E d_M_layYet_122 5 rfl ?_
              obtain ⟨q14, h⟩ := h
              obtain ⟨q15, h⟩ := h
              refine v_iast E dM_18 (by decide) q14.1 q14.2 q15 d_M_layYet_124 ?_
              refine v_nameS (fun s8 hs8 => ?_)
              replace h := h s8 hs8
              refine v_iincN E d_M_layYet_125 4 rfl (by decide) (fun y => [(4, .int (iI y)), (0, .ref (adX X 0)), (1, .int (iI x1)), (2, .int (iI x2)), (3, .int (iI x3)), (5, .int (iI x13)), (6, .int (iI x14))]) (fun _ => rfl) (fun x16 hx16 => ?_)
              replace h := h x16 hx16
              refine v_goto E 33 d_M_layYet_128 (by decide) ?_
              obtain ⟨hb, hm⟩ := h
              exact v_sub [1, 2, 3, 4, 0] rfl (ih3 x16 s8 hb hm)
            · replace h := h.2 c9
              refine v_iload E d_M_layYet_71 4 rfl ?_
              refine v_iloadn E d_M_layYet_73 rfl 1 rfl ?_
              refine v_icmp_eq E 111 d_M_layYet_74 (by decide) q3 q4 (fun _ => ?_) (fun hc => absurd c4 (by first | exact hc | exact fun z => hc z | exact fun z => z hc))
              refine v_aloadn E d_M_layYet_111 rfl 0 rfl ?_
              refine v_getA E cf9 dM_0 26 (by decide) rfl mw658 d_M_layYet_112 rfl ?_
              refine v_iloadn E d_M_layYet_115 rfl 2 rfl ?_
              refine v_iloadn E d_M_layYet_116 rfl 3 rfl ?_
              refine v_iload E d_M_layYet_117 4 rfl ?_
              refine v_callSIp E md_M_yetAt (c_M_yetAt dscM x2 q1 x3 q2 x5 q3 s4 _ h) ⟨by decide, by decide⟩ mw659 d_M_layYet_119 (fun _ => rfl) (st := [.ref (adX X 18)]) rfl (Nat.le_of_ble_eq_true rfl) (fun r7 hr7 h => ?_)
              refine v_iload E d_M_layYet_122 5 rfl ?_
              obtain ⟨q16, h⟩ := h
              obtain ⟨q17, h⟩ := h
              refine v_iast E dM_18 (by decide) q16.1 q16.2 q17 d_M_layYet_124 ?_
              refine v_nameS (fun s9 hs9 => ?_)
              replace h := h s9 hs9
              refine v_iincN E d_M_layYet_125 4 rfl (by decide) (fun y => [(4, .int (iI y)), (0, .ref (adX X 0)), (1, .int (iI x1)), (2, .int (iI x2)), (3, .int (iI x3)), (5, .int (iI x13)), (6, .int (iI x14))]) (fun _ => rfl) (fun x17 hx17 => ?_)
              replace h := h x17 hx17
              refine v_goto E 33 d_M_layYet_128 (by decide) ?_
              obtain ⟨hb, hm⟩ := h
              exact v_sub [1, 2, 3, 4, 0] rfl (ih3 x17 s9 hb hm)
theorem d_M_each_0 : decode prog_11_method_50_code 0 = .ok (.iload_n 1, 1) := by decide +kernel
theorem d_M_each_1 : decode prog_11_method_50_code 1 = .ok (.iconst 0, 1) := by decide +kernel
theorem d_M_each_2 : decode prog_11_method_50_code 2 = .ok (.bipush 28, 2) := by decide +kernel
theorem d_M_each_4 : decode prog_11_method_50_code 4 = .ok (.invokestatic 105, 3) := by decide +kernel
theorem d_M_each_7 : decode prog_11_method_50_code 7 = .ok (.ifCond .ne 5, 3) := by decide +kernel
theorem d_M_each_10 : decode prog_11_method_50_code 10 = .ok (.iconst (-1), 1) := by decide +kernel
theorem d_M_each_11 : decode prog_11_method_50_code 11 = .ok (.ireturn, 1) := by decide +kernel
theorem d_M_each_12 : decode prog_11_method_50_code 12 = .ok (.aload_n 0, 1) := by decide +kernel
theorem d_M_each_13 : decode prog_11_method_50_code 13 = .ok (.invokevirtual 217, 3) := by decide +kernel
theorem d_M_each_16 : decode prog_11_method_50_code 16 = .ok (.aload_n 0, 1) := by decide +kernel
theorem d_M_each_17 : decode prog_11_method_50_code 17 = .ok (.getfield 61, 3) := by decide +kernel
theorem d_M_each_20 : decode prog_11_method_50_code 20 = .ok (.iconst 0, 1) := by decide +kernel
theorem d_M_each_21 : decode prog_11_method_50_code 21 = .ok (.aload_n 0, 1) := by decide +kernel
theorem d_M_each_22 : decode prog_11_method_50_code 22 = .ok (.getfield 46, 3) := by decide +kernel
theorem d_M_each_25 : decode prog_11_method_50_code 25 = .ok (.iconst 0, 1) := by decide +kernel
theorem d_M_each_26 : decode prog_11_method_50_code 26 = .ok (.iaload, 1) := by decide +kernel
theorem d_M_each_27 : decode prog_11_method_50_code 27 = .ok (.aload_n 0, 1) := by decide +kernel
theorem d_M_each_28 : decode prog_11_method_50_code 28 = .ok (.getfield 46, 3) := by decide +kernel
theorem d_M_each_31 : decode prog_11_method_50_code 31 = .ok (.iconst 5, 1) := by decide +kernel
theorem d_M_each_32 : decode prog_11_method_50_code 32 = .ok (.iaload, 1) := by decide +kernel
theorem d_M_each_33 : decode prog_11_method_50_code 33 = .ok (.invokestatic 207, 3) := by decide +kernel
theorem d_M_each_36 : decode prog_11_method_50_code 36 = .ok (.iaload, 1) := by decide +kernel
theorem d_M_each_37 : decode prog_11_method_50_code 37 = .ok (.istore_n 2, 1) := by decide +kernel
theorem d_M_each_38 : decode prog_11_method_50_code 38 = .ok (.iload_n 2, 1) := by decide +kernel
theorem d_M_each_39 : decode prog_11_method_50_code 39 = .ok (.ldc 171, 2) := by decide +kernel
theorem d_M_each_41 : decode prog_11_method_50_code 41 = .ok (.if_icmp .ge 8, 3) := by decide +kernel
theorem d_M_each_44 : decode prog_11_method_50_code 44 = .ok (.iload_n 1, 1) := by decide +kernel
theorem d_M_each_45 : decode prog_11_method_50_code 45 = .ok (.iload_n 2, 1) := by decide +kernel
theorem d_M_each_46 : decode prog_11_method_50_code 46 = .ok (.if_icmp .le 6, 3) := by decide +kernel
theorem d_M_each_49 : decode prog_11_method_50_code 49 = .ok (.bipush (-4), 2) := by decide +kernel
theorem d_M_each_51 : decode prog_11_method_50_code 51 = .ok (.ireturn, 1) := by decide +kernel
theorem d_M_each_52 : decode prog_11_method_50_code 52 = .ok (.iload_n 1, 1) := by decide +kernel
theorem d_M_each_53 : decode prog_11_method_50_code 53 = .ok (.ifCond .ne 5, 3) := by decide +kernel
theorem d_M_each_56 : decode prog_11_method_50_code 56 = .ok (.iload_n 2, 1) := by decide +kernel
theorem d_M_each_57 : decode prog_11_method_50_code 57 = .ok (.ireturn, 1) := by decide +kernel
theorem d_M_each_58 : decode prog_11_method_50_code 58 = .ok (.aload_n 0, 1) := by decide +kernel
theorem d_M_each_59 : decode prog_11_method_50_code 59 = .ok (.getfield 46, 3) := by decide +kernel
theorem d_M_each_62 : decode prog_11_method_50_code 62 = .ok (.iconst 0, 1) := by decide +kernel
theorem d_M_each_63 : decode prog_11_method_50_code 63 = .ok (.iaload, 1) := by decide +kernel
theorem d_M_each_64 : decode prog_11_method_50_code 64 = .ok (.istore_n 3, 1) := by decide +kernel
theorem d_M_each_65 : decode prog_11_method_50_code 65 = .ok (.aload_n 0, 1) := by decide +kernel
theorem d_M_each_66 : decode prog_11_method_50_code 66 = .ok (.getfield 46, 3) := by decide +kernel
theorem d_M_each_69 : decode prog_11_method_50_code 69 = .ok (.iconst 5, 1) := by decide +kernel
theorem d_M_each_70 : decode prog_11_method_50_code 70 = .ok (.iaload, 1) := by decide +kernel
theorem d_M_each_71 : decode prog_11_method_50_code 71 = .ok (.istore 4, 2) := by decide +kernel
theorem d_M_each_73 : decode prog_11_method_50_code 73 = .ok (.iconst 0, 1) := by decide +kernel
theorem d_M_each_74 : decode prog_11_method_50_code 74 = .ok (.istore 5, 2) := by decide +kernel
theorem d_M_each_76 : decode prog_11_method_50_code 76 = .ok (.iconst 0, 1) := by decide +kernel
theorem d_M_each_77 : decode prog_11_method_50_code 77 = .ok (.istore 6, 2) := by decide +kernel
theorem d_M_each_79 : decode prog_11_method_50_code 79 = .ok (.iload 6, 2) := by decide +kernel
theorem d_M_each_81 : decode prog_11_method_50_code 81 = .ok (.iload_n 1, 1) := by decide +kernel
theorem d_M_each_82 : decode prog_11_method_50_code 82 = .ok (.if_icmp .ge 67, 3) := by decide +kernel
theorem d_M_each_85 : decode prog_11_method_50_code 85 = .ok (.iconst 0, 1) := by decide +kernel
theorem d_M_each_86 : decode prog_11_method_50_code 86 = .ok (.istore 5, 2) := by decide +kernel
theorem d_M_each_88 : decode prog_11_method_50_code 88 = .ok (.aload_n 0, 1) := by decide +kernel
theorem d_M_each_89 : decode prog_11_method_50_code 89 = .ok (.iload 6, 2) := by decide +kernel
theorem d_M_each_91 : decode prog_11_method_50_code 91 = .ok (.iload_n 3, 1) := by decide +kernel
theorem d_M_each_92 : decode prog_11_method_50_code 92 = .ok (.iload 4, 2) := by decide +kernel
theorem d_M_each_94 : decode prog_11_method_50_code 94 = .ok (.iload 5, 2) := by decide +kernel
theorem d_M_each_96 : decode prog_11_method_50_code 96 = .ok (.invokevirtual 213, 3) := by decide +kernel
theorem d_M_each_99 : decode prog_11_method_50_code 99 = .ok (.aload_n 0, 1) := by decide +kernel
theorem d_M_each_100 : decode prog_11_method_50_code 100 = .ok (.getfield 61, 3) := by decide +kernel
theorem d_M_each_103 : decode prog_11_method_50_code 103 = .ok (.iload 6, 2) := by decide +kernel
theorem d_M_each_105 : decode prog_11_method_50_code 105 = .ok (.iload_n 3, 1) := by decide +kernel
theorem d_M_each_106 : decode prog_11_method_50_code 106 = .ok (.iload 4, 2) := by decide +kernel
theorem d_M_each_108 : decode prog_11_method_50_code 108 = .ok (.invokestatic 207, 3) := by decide +kernel
theorem d_M_each_111 : decode prog_11_method_50_code 111 = .ok (.iaload, 1) := by decide +kernel
theorem d_M_each_112 : decode prog_11_method_50_code 112 = .ok (.if_icmp .eq 9, 3) := by decide +kernel
theorem d_M_each_115 : decode prog_11_method_50_code 115 = .ok (.iinc 5 1, 3) := by decide +kernel
theorem d_M_each_118 : decode prog_11_method_50_code 118 = .ok (.goto (-30), 3) := by decide +kernel
theorem d_M_each_121 : decode prog_11_method_50_code 121 = .ok (.aload_n 0, 1) := by decide +kernel
theorem d_M_each_122 : decode prog_11_method_50_code 122 = .ok (.getfield 58, 3) := by decide +kernel
theorem d_M_each_125 : decode prog_11_method_50_code 125 = .ok (.iload 6, 2) := by decide +kernel
theorem d_M_each_127 : decode prog_11_method_50_code 127 = .ok (.iload_n 3, 1) := by decide +kernel
theorem d_M_each_128 : decode prog_11_method_50_code 128 = .ok (.iload 5, 2) := by decide +kernel
theorem d_M_each_130 : decode prog_11_method_50_code 130 = .ok (.invokestatic 203, 3) := by decide +kernel
theorem d_M_each_133 : decode prog_11_method_50_code 133 = .ok (.iaload, 1) := by decide +kernel
theorem d_M_each_134 : decode prog_11_method_50_code 134 = .ok (.istore_n 3, 1) := by decide +kernel
theorem d_M_each_135 : decode prog_11_method_50_code 135 = .ok (.iload 4, 2) := by decide +kernel
theorem d_M_each_137 : decode prog_11_method_50_code 137 = .ok (.iconst 1, 1) := by decide +kernel
theorem d_M_each_138 : decode prog_11_method_50_code 138 = .ok (.iload_n 3, 1) := by decide +kernel
theorem d_M_each_139 : decode prog_11_method_50_code 139 = .ok (.ishl, 1) := by decide +kernel
theorem d_M_each_140 : decode prog_11_method_50_code 140 = .ok (.ior, 1) := by decide +kernel
theorem d_M_each_141 : decode prog_11_method_50_code 141 = .ok (.istore 4, 2) := by decide +kernel
theorem d_M_each_143 : decode prog_11_method_50_code 143 = .ok (.iinc 6 1, 3) := by decide +kernel
theorem d_M_each_146 : decode prog_11_method_50_code 146 = .ok (.goto (-67), 3) := by decide +kernel
theorem d_M_each_149 : decode prog_11_method_50_code 149 = .ok (.iload 5, 2) := by decide +kernel
theorem d_M_each_151 : decode prog_11_method_50_code 151 = .ok (.ifCond .ne 8, 3) := by decide +kernel
theorem d_M_each_154 : decode prog_11_method_50_code 154 = .ok (.bipush (-4), 2) := by decide +kernel
theorem d_M_each_156 : decode prog_11_method_50_code 156 = .ok (.goto 7, 3) := by decide +kernel
theorem d_M_each_159 : decode prog_11_method_50_code 159 = .ok (.iload 5, 2) := by decide +kernel
theorem d_M_each_161 : decode prog_11_method_50_code 161 = .ok (.iconst 1, 1) := by decide +kernel
theorem d_M_each_162 : decode prog_11_method_50_code 162 = .ok (.isub, 1) := by decide +kernel
theorem d_M_each_163 : decode prog_11_method_50_code 163 = .ok (.ireturn, 1) := by decide +kernel
set_option maxHeartbeats 4000000 in
set_option maxRecDepth 20000 in
theorem c_M_each (p1 : Int) (hp1 : Rng p1) (s0 : MS) (Q : Int → MS → Prop) (h : wp_M_each p1 s0 Q) : MT dscM ⟨"BellSchoolModel", "each", "(I)I"⟩ prog_11_method_50_code 7 (some .int) 6 (fun ad => [.ref (ad 0), .int (iI p1)]) s0 (po_I dscM Q) := by
  refine met_of (by decide) (fun _ => Nat.le_of_ble_eq_true rfl) (fun X E hR => ?_)
  replace E : EV dscM X prog_11_method_50_code "BellSchoolModel" 7 6 := E
  show VV dscM X 0 [(0, .ref (adX X 0)), (1, .int (iI p1))] [] s0
  unfold wp_M_each at h
  refine v_iloadn E d_M_each_0 rfl 1 rfl ?_
  refine v_iconst E d_M_each_1 ?_
  refine v_bipush E d_M_each_2 rfl ?_
  refine v_callSIpz E md_M_in (c_M_in dscM p1 hp1 0 (by decide) 28 (by decide) s0 _ h) ⟨by decide, by decide⟩ mw496 d_M_each_4 (fun _ => rfl) (st := []) rfl (Nat.le_of_ble_eq_true rfl) (fun r1 hr1 hz1 h => ?_)
  refine v_if_ne E 12 d_M_each_7 (by decide) hr1 (fun c1 => ?_) (fun c1 => ?_)
  · replace h := h.1 c1
    refine v_aloadn E d_M_each_12 rfl 0 rfl ?_
    refine v_callVV E md_M_layYet (c_M_layYet s0 _ h) dM_0 rfl ⟨by decide, by decide⟩ mw668 d_M_each_13 (fun _ => rfl) (st := []) rfl (Nat.le_of_ble_eq_true rfl) (fun s1 h => ?_)
    refine v_aloadn E d_M_each_16 rfl 0 rfl ?_
    refine v_getA E cf9 dM_0 26 (by decide) rfl mw658 d_M_each_17 rfl ?_
    refine v_iconst E d_M_each_20 ?_
    refine v_aloadn E d_M_each_21 rfl 0 rfl ?_
    refine v_getA E cf9 dM_0 19 (by decide) rfl mw556 d_M_each_22 rfl ?_
    refine v_iconst E d_M_each_25 ?_
    refine v_iald E dM_13 (by decide) (by decide) (by decide) d_M_each_26 ?_
    refine v_aloadn E d_M_each_27 rfl 0 rfl ?_
    refine v_getA E cf9 dM_0 19 (by decide) rfl mw556 d_M_each_28 rfl ?_
    refine v_iconst E d_M_each_31 ?_
    refine v_iald E dM_13 (by decide) (by decide) (by decide) d_M_each_32 ?_
    refine v_wt (fun wt1 => ?_)
    refine v_callSIp E md_M_yetAt (c_M_yetAt dscM 0 (by decide) (gI s1 13 0) (wt1 13 0) (gI s1 13 5) (wt1 13 5) s1 _ h) ⟨by decide, by decide⟩ mw659 d_M_each_33 (fun _ => rfl) (st := [.ref (adX X 18)]) rfl (Nat.le_of_ble_eq_true rfl) (fun r3 hr3 h => ?_)
    obtain ⟨q1, h⟩ := h
    refine v_iald E dM_18 (by decide) q1.1 q1.2 d_M_each_36 ?_
    refine v_istoren E d_M_each_37 rfl (by decide) (L' := [(2, .int (iI (gI s1 18 r3))), (0, .ref (adX X 0)), (1, .int (iI p1))]) rfl ?_
    refine v_iloadn E d_M_each_38 rfl 0 rfl ?_
    refine v_ldc E (n := 1000000) mw584 rfl d_M_each_39 ?_
    refine v_icmp_ge E 49 d_M_each_41 (by decide) (wt1 18 r3) (by decide) (fun c2 => ?_) (fun c2 => ?_)
    · replace h := h.1 c2
      refine v_bipush E d_M_each_49 rfl ?_
      exact v_iret E hR rfl (by decide) h d_M_each_51
    · replace h := h.2 c2
      refine v_iloadn E d_M_each_44 rfl 2 rfl ?_
      refine v_iloadn E d_M_each_45 rfl 0 rfl ?_
      refine v_icmp_le E 52 d_M_each_46 (by decide) hp1 (wt1 18 r3) (fun c3 => ?_) (fun c3 => ?_)
      · replace h := h.1 c3
        refine v_iloadn E d_M_each_52 rfl 2 rfl ?_
        refine v_if_ne E 58 d_M_each_53 (by decide) hp1 (fun c4 => ?_) (fun c4 => ?_)
        · replace h := h.1 c4
          refine v_aloadn E d_M_each_58 rfl 1 rfl ?_
          refine v_getA E cf9 dM_0 19 (by decide) rfl mw556 d_M_each_59 rfl ?_
          refine v_iconst E d_M_each_62 ?_
          refine v_iald E dM_13 (by decide) (by decide) (by decide) d_M_each_63 ?_
          refine v_istoren E d_M_each_64 rfl (by decide) (L' := [(3, .int (iI (gI s1 13 0))), (2, .int (iI (gI s1 18 r3))), (0, .ref (adX X 0)), (1, .int (iI p1))]) rfl ?_
          refine v_aloadn E d_M_each_65 rfl 2 rfl ?_
          refine v_getA E cf9 dM_0 19 (by decide) rfl mw556 d_M_each_66 rfl ?_
          refine v_iconst E d_M_each_69 ?_
          refine v_iald E dM_13 (by decide) (by decide) (by decide) d_M_each_70 ?_
          refine v_istore E d_M_each_71 (by decide) (L' := [(4, .int (iI (gI s1 13 5))), (3, .int (iI (gI s1 13 0))), (2, .int (iI (gI s1 18 r3))), (0, .ref (adX X 0)), (1, .int (iI p1))]) rfl ?_
          refine v_iconst E d_M_each_73 ?_
          refine v_istore E d_M_each_74 (by decide) (L' := [(5, .int (iI 0)), (4, .int (iI (gI s1 13 5))), (3, .int (iI (gI s1 13 0))), (2, .int (iI (gI s1 18 r3))), (0, .ref (adX X 0)), (1, .int (iI p1))]) rfl ?_
          refine v_iconst E d_M_each_76 ?_
          refine v_istore E d_M_each_77 (by decide) (L' := [(6, .int (iI 0)), (5, .int (iI 0)), (4, .int (iI (gI s1 13 5))), (3, .int (iI (gI s1 13 0))), (2, .int (iI (gI s1 18 r3))), (0, .ref (adX X 0)), (1, .int (iI p1))]) rfl ?_
          refine v_sub [5, 6, 3, 2, 1, 0] (L' := [(0, .ref (adX X 0)), (1, .int (iI p1)), (3, .int (iI (gI s1 13 0))), (4, .int (iI (gI s1 13 5))), (5, .int (iI 0)), (6, .int (iI 0))]) rfl ?_
          obtain ⟨I1, μ1, h01, h⟩ := h
          refine v_ploop4 s1 (fun (x1 : Int) (x2 : Int) (x3 : Int) (x4 : Int) => [(0, .ref (adX X 0)), (1, .int (iI p1)), (3, .int (iI x1)), (4, .int (iI x2)), (5, .int (iI x3)), (6, .int (iI x4))]) I1 μ1 (fun x1 x2 x3 x4 hI1 ih1 => ?_) (gI s1 13 0) (gI s1 13 5) 0 0 h01
          replace h := h x1 x2 x3 x4  hI1
          refine v_iload E d_M_each_79 5 rfl ?_
          refine v_iloadn E d_M_each_81 rfl 1 rfl ?_
          obtain ⟨q2, h⟩ := h
          refine v_icmp_ge E 149 d_M_each_82 (by decide) q2 hp1 (fun c5 => ?_) (fun c5 => ?_)
          · replace h := h.1 c5
            refine v_iload E d_M_each_149 4 rfl ?_
            obtain ⟨q3, h⟩ := h
            refine v_if_ne E 159 d_M_each_151 (by decide) q3 (fun c6 => ?_) (fun c6 => ?_)
            · replace h := h.1 c6
              refine v_iload E d_M_each_159 4 rfl ?_
              refine v_iconst E d_M_each_161 ?_
              refine v_isub E d_M_each_162 ?_
              obtain ⟨q4, h⟩ := h
              exact v_iret E hR rfl q4 h d_M_each_163
            · replace h := h.2 c6
              refine v_bipush E d_M_each_154 rfl ?_
              refine v_goto E 163 d_M_each_156 (by decide) ?_
              exact v_iret E hR rfl (by decide) h d_M_each_163
          · replace h := h.2 c5
            refine v_iconst E d_M_each_85 ?_
            refine v_istore E d_M_each_86 (by decide) (L' := [(5, .int (iI 0)), (0, .ref (adX X 0)), (1, .int (iI p1)), (3, .int (iI x1)), (4, .int (iI x2)), (6, .int (iI x4))]) rfl ?_
            refine v_sub [1, 2, 3, 4, 0, 5] (L' := [(0, .ref (adX X 0)), (1, .int (iI p1)), (3, .int (iI x1)), (4, .int (iI x2)), (5, .int (iI 0)), (6, .int (iI x4))]) rfl ?_
            obtain ⟨I2, μ2, h02, h⟩ := h
            refine v_ploop1 s1 (fun (x5 : Int) => [(0, .ref (adX X 0)), (1, .int (iI p1)), (3, .int (iI x1)), (4, .int (iI x2)), (5, .int (iI x5)), (6, .int (iI x4))]) I2 μ2 (fun x5 hI2 ih2 => ?_) 0 h02
            replace h := h x5  hI2
            refine v_aloadn E d_M_each_88 rfl 0 rfl ?_
            refine v_iload E d_M_each_89 5 rfl ?_
            refine v_iloadn E d_M_each_91 rfl 2 rfl ?_
            refine v_iload E d_M_each_92 3 rfl ?_
            refine v_iload E d_M_each_94 4 rfl ?_
            obtain ⟨q5, h⟩ := h
            obtain ⟨q6, h⟩ := h
            obtain ⟨q7, h⟩ := h
            refine v_callVIp E md_M_byChoice (c_M_byChoice x4 q2 x1 q5 x2 q6 x5 q7 s1 _ h) dM_0 rfl ⟨by decide, by decide⟩ mw664 d_M_each_96 (fun _ => rfl) (st := []) rfl (Nat.le_of_ble_eq_true rfl) (fun r4 hr4 h => ?_)
            refine v_aloadn E d_M_each_99 rfl 0 rfl ?_
            refine v_getA E cf9 dM_0 26 (by decide) rfl mw658 d_M_each_100 rfl ?_
            refine v_iload E d_M_each_103 5 rfl ?_
            refine v_iloadn E d_M_each_105 rfl 2 rfl ?_
            refine v_iload E d_M_each_106 3 rfl ?_
            refine v_callSIp E md_M_yetAt (c_M_yetAt dscM x4 q2 x1 q5 x2 q6 s1 _ h) ⟨by decide, by decide⟩ mw659 d_M_each_108 (fun _ => rfl) (st := [.ref (adX X 18), .int (iI r4)]) rfl (Nat.le_of_ble_eq_true rfl) (fun r5 hr5 h => ?_)
            obtain ⟨q8, h⟩ := h
            refine v_iald E dM_18 (by decide) q8.1 q8.2 d_M_each_111 ?_
            refine v_icmp_eq E 121 d_M_each_112 (by decide) hr4 (wt1 18 r5) (fun c7 => ?_) (fun c7 => ?_)
            · replace h := h.1 c7
              refine v_aloadn E d_M_each_121 rfl 0 rfl ?_
              refine v_getA E cf9 dM_0 25 (by decide) rfl mw653 d_M_each_122 rfl ?_
              refine v_iload E d_M_each_125 5 rfl ?_
              refine v_iloadn E d_M_each_127 rfl 2 rfl ?_
              refine v_iload E d_M_each_128 4 rfl ?_
              refine v_callSIp E md_M_nextAt (c_M_nextAt dscM x4 q2 x1 q5 x5 q7 s1 _ h) ⟨by decide, by decide⟩ mw654 d_M_each_130 (fun _ => rfl) (st := [.ref (adX X 17)]) rfl (Nat.le_of_ble_eq_true rfl) (fun r6 hr6 h => ?_)
              obtain ⟨q9, h⟩ := h
              refine v_iald E dM_17 (by decide) q9.1 q9.2 d_M_each_133 ?_
              refine v_istoren E d_M_each_134 rfl (by decide) (L' := [(3, .int (iI (gI s1 17 r6))), (0, .ref (adX X 0)), (1, .int (iI p1)), (4, .int (iI x2)), (5, .int (iI x5)), (6, .int (iI x4))]) rfl ?_
              refine v_iload E d_M_each_135 3 rfl ?_
              refine v_iconst E d_M_each_137 ?_
              refine v_iloadn E d_M_each_138 rfl 0 rfl ?_
              refine v_ishl E d_M_each_139 ?_
              refine v_ior E d_M_each_140 ?_
              refine v_nameI (fun x6 hx6 => ?_)
              replace h := h x6 hx6
              refine v_istore E d_M_each_141 (by decide) (L' := [(4, .int (iI x6)), (3, .int (iI (gI s1 17 r6))), (0, .ref (adX X 0)), (1, .int (iI p1)), (5, .int (iI x5)), (6, .int (iI x4))]) rfl ?_
              refine v_iincN E d_M_each_143 5 rfl (by decide) (fun y => [(6, .int (iI y)), (4, .int (iI x6)), (3, .int (iI (gI s1 17 r6))), (0, .ref (adX X 0)), (1, .int (iI p1)), (5, .int (iI x5))]) (fun _ => rfl) (fun x7 hx7 => ?_)
              replace h := h x7 hx7
              refine v_goto E 79 d_M_each_146 (by decide) ?_
              obtain ⟨hb, hm⟩ := h
              exact v_sub [3, 4, 2, 1, 5, 0] rfl (ih1 (gI s1 17 r6) x6 x5 x7 hb hm)
            · replace h := h.2 c7
              refine v_iincN E d_M_each_115 4 rfl (by decide) (fun y => [(5, .int (iI y)), (0, .ref (adX X 0)), (1, .int (iI p1)), (3, .int (iI x1)), (4, .int (iI x2)), (6, .int (iI x4))]) (fun _ => rfl) (fun x8 hx8 => ?_)
              replace h := h x8 hx8
              refine v_goto E 88 d_M_each_118 (by decide) ?_
              obtain ⟨hb, hm⟩ := h
              exact v_sub [1, 2, 3, 4, 0, 5] rfl (ih2 x8 hb hm)
        · replace h := h.2 c4
          refine v_iloadn E d_M_each_56 rfl 0 rfl ?_
          exact v_iret E hR rfl (wt1 18 r3) h d_M_each_57
      · replace h := h.2 c3
        refine v_bipush E d_M_each_49 rfl ?_
        exact v_iret E hR rfl (by decide) h d_M_each_51
  · replace h := h.2 c1
    refine v_iconst E d_M_each_10 ?_
    exact v_iret E hR rfl (by decide) h d_M_each_11
theorem d_M_always_0 : decode prog_11_method_51_code 0 = .ok (.iconst 1, 1) := by decide +kernel
theorem d_M_always_1 : decode prog_11_method_51_code 1 = .ok (.aload_n 0, 1) := by decide +kernel
theorem d_M_always_2 : decode prog_11_method_51_code 2 = .ok (.getfield 148, 3) := by decide +kernel
theorem d_M_always_5 : decode prog_11_method_51_code 5 = .ok (.ishl, 1) := by decide +kernel
theorem d_M_always_6 : decode prog_11_method_51_code 6 = .ok (.iconst 1, 1) := by decide +kernel
theorem d_M_always_7 : decode prog_11_method_51_code 7 = .ok (.isub, 1) := by decide +kernel
theorem d_M_always_8 : decode prog_11_method_51_code 8 = .ok (.istore_n 1, 1) := by decide +kernel
theorem d_M_always_9 : decode prog_11_method_51_code 9 = .ok (.iconst 0, 1) := by decide +kernel
theorem d_M_always_10 : decode prog_11_method_51_code 10 = .ok (.istore_n 2, 1) := by decide +kernel
theorem d_M_always_11 : decode prog_11_method_51_code 11 = .ok (.iload_n 2, 1) := by decide +kernel
theorem d_M_always_12 : decode prog_11_method_51_code 12 = .ok (.aload_n 0, 1) := by decide +kernel
theorem d_M_always_13 : decode prog_11_method_51_code 13 = .ok (.getfield 148, 3) := by decide +kernel
theorem d_M_always_16 : decode prog_11_method_51_code 16 = .ok (.if_icmp .ge 46, 3) := by decide +kernel
theorem d_M_always_19 : decode prog_11_method_51_code 19 = .ok (.aload_n 0, 1) := by decide +kernel
theorem d_M_always_20 : decode prog_11_method_51_code 20 = .ok (.invokevirtual 200, 3) := by decide +kernel
theorem d_M_always_23 : decode prog_11_method_51_code 23 = .ok (.aload_n 0, 1) := by decide +kernel
theorem d_M_always_24 : decode prog_11_method_51_code 24 = .ok (.getfield 49, 3) := by decide +kernel
theorem d_M_always_27 : decode prog_11_method_51_code 27 = .ok (.iconst 0, 1) := by decide +kernel
theorem d_M_always_28 : decode prog_11_method_51_code 28 = .ok (.iload_n 2, 1) := by decide +kernel
theorem d_M_always_29 : decode prog_11_method_51_code 29 = .ok (.iastore, 1) := by decide +kernel
theorem d_M_always_30 : decode prog_11_method_51_code 30 = .ok (.aload_n 0, 1) := by decide +kernel
theorem d_M_always_31 : decode prog_11_method_51_code 31 = .ok (.aload_n 0, 1) := by decide +kernel
theorem d_M_always_32 : decode prog_11_method_51_code 32 = .ok (.getfield 49, 3) := by decide +kernel
theorem d_M_always_35 : decode prog_11_method_51_code 35 = .ok (.iconst 0, 1) := by decide +kernel
theorem d_M_always_36 : decode prog_11_method_51_code 36 = .ok (.invokevirtual 184, 3) := by decide +kernel
theorem d_M_always_39 : decode prog_11_method_51_code 39 = .ok (.istore_n 3, 1) := by decide +kernel
theorem d_M_always_40 : decode prog_11_method_51_code 40 = .ok (.iload_n 1, 1) := by decide +kernel
theorem d_M_always_41 : decode prog_11_method_51_code 41 = .ok (.iload_n 3, 1) := by decide +kernel
theorem d_M_always_42 : decode prog_11_method_51_code 42 = .ok (.bipush (-4), 2) := by decide +kernel
theorem d_M_always_44 : decode prog_11_method_51_code 44 = .ok (.if_icmp .ne 7, 3) := by decide +kernel
theorem d_M_always_47 : decode prog_11_method_51_code 47 = .ok (.iconst 0, 1) := by decide +kernel
theorem d_M_always_48 : decode prog_11_method_51_code 48 = .ok (.goto 6, 3) := by decide +kernel
theorem d_M_always_51 : decode prog_11_method_51_code 51 = .ok (.iconst 1, 1) := by decide +kernel
theorem d_M_always_52 : decode prog_11_method_51_code 52 = .ok (.iload_n 3, 1) := by decide +kernel
theorem d_M_always_53 : decode prog_11_method_51_code 53 = .ok (.ishl, 1) := by decide +kernel
theorem d_M_always_54 : decode prog_11_method_51_code 54 = .ok (.iand, 1) := by decide +kernel
theorem d_M_always_55 : decode prog_11_method_51_code 55 = .ok (.istore_n 1, 1) := by decide +kernel
theorem d_M_always_56 : decode prog_11_method_51_code 56 = .ok (.iinc 2 1, 3) := by decide +kernel
theorem d_M_always_59 : decode prog_11_method_51_code 59 = .ok (.goto (-48), 3) := by decide +kernel
theorem d_M_always_62 : decode prog_11_method_51_code 62 = .ok (.iload_n 1, 1) := by decide +kernel
theorem d_M_always_63 : decode prog_11_method_51_code 63 = .ok (.ireturn, 1) := by decide +kernel
set_option maxHeartbeats 4000000 in
set_option maxRecDepth 20000 in
theorem c_M_always (s0 : MS) (Q : Int → MS → Prop) (h : wp_M_always s0 Q) : MT dscM ⟨"BellSchoolModel", "always", "()I"⟩ prog_11_method_51_code 4 (some .int) 4 (fun ad => [.ref (ad 0)]) s0 (po_I dscM Q) := by
  refine met_of (by decide) (fun _ => Nat.le_of_ble_eq_true rfl) (fun X E hR => ?_)
  replace E : EV dscM X prog_11_method_51_code "BellSchoolModel" 4 4 := E
  show VV dscM X 0 [(0, .ref (adX X 0))] [] s0
  unfold wp_M_always at h
  refine v_iconst E d_M_always_0 ?_
  refine v_aloadn E d_M_always_1 rfl 0 rfl ?_
  refine v_getI E cf9 dM_0 12 (by decide) rfl mw554 d_M_always_2 rfl ?_
  refine v_ishl E d_M_always_5 ?_
  refine v_iconst E d_M_always_6 ?_
  refine v_isub E d_M_always_7 ?_
  refine v_nameI (fun x1 hx1 => ?_)
  replace h := h x1 hx1
  refine v_istoren E d_M_always_8 rfl (by decide) (L' := [(1, .int (iI x1)), (0, .ref (adX X 0))]) rfl ?_
  refine v_iconst E d_M_always_9 ?_
  refine v_istoren E d_M_always_10 rfl (by decide) (L' := [(2, .int (iI 0)), (1, .int (iI x1)), (0, .ref (adX X 0))]) rfl ?_
  refine v_sub [2, 1, 0] (L' := [(0, .ref (adX X 0)), (1, .int (iI x1)), (2, .int (iI 0))]) rfl ?_
  obtain ⟨I1, μ1, h01, h⟩ := h
  refine v_loop2 (fun (x2 : Int) (x3 : Int) => [(0, .ref (adX X 0)), (1, .int (iI x2)), (2, .int (iI x3))]) I1 μ1 (fun x2 x3 s1 hI1 ih1 => ?_) x1 0 s0 h01
  replace h := h x2 x3 s1 hI1
  refine v_iloadn E d_M_always_11 rfl 2 rfl ?_
  refine v_aloadn E d_M_always_12 rfl 0 rfl ?_
  refine v_getI E cf9 dM_0 12 (by decide) rfl mw554 d_M_always_13 rfl ?_
  obtain ⟨q1, h⟩ := h
  refine v_wt (fun wt1 => ?_)
  refine v_icmp_ge E 62 d_M_always_16 (by decide) q1 (wt1 0 12) (fun c1 => ?_) (fun c1 => ?_)
  · replace h := h.1 c1
    refine v_iloadn E d_M_always_62 rfl 1 rfl ?_
    obtain ⟨q2, h⟩ := h
    exact v_iret E hR rfl q2 h d_M_always_63
  · replace h := h.2 c1
    refine v_aloadn E d_M_always_19 rfl 0 rfl ?_
    refine v_callVV E md_M_copyNow (c_M_copyNow s1 _ h) dM_0 rfl ⟨by decide, by decide⟩ mw642 d_M_always_20 (fun _ => rfl) (st := []) rfl (Nat.le_of_ble_eq_true rfl) (fun s2 h => ?_)
    refine v_aloadn E d_M_always_23 rfl 0 rfl ?_
    refine v_getA E cf9 dM_0 20 (by decide) rfl mw600 d_M_always_24 rfl ?_
    refine v_iconst E d_M_always_27 ?_
    refine v_iloadn E d_M_always_28 rfl 2 rfl ?_
    refine v_iast E dM_14 (by decide) (by decide) (by decide) q1 d_M_always_29 ?_
    refine v_nameS (fun s3 hs3 => ?_)
    replace h := h s3 hs3
    refine v_aloadn E d_M_always_30 rfl 0 rfl ?_
    refine v_aloadn E d_M_always_31 rfl 0 rfl ?_
    refine v_getA E cf9 dM_0 20 (by decide) rfl mw600 d_M_always_32 rfl ?_
    refine v_iconst E d_M_always_35 ?_
    refine v_callVI E md_M_latest (c_M_latest 14 dM_14 0 (by decide) s3 _ h) dM_0 rfl ⟨by decide, by decide⟩ mw596 d_M_always_36 (fun _ => rfl) (st := []) rfl (Nat.le_of_ble_eq_true rfl) (fun r2 s4 hr2 h => ?_)
    refine v_istoren E d_M_always_39 rfl (by decide) (L' := [(3, .int (iI r2)), (0, .ref (adX X 0)), (1, .int (iI x2)), (2, .int (iI x3))]) rfl ?_
    refine v_iloadn E d_M_always_40 rfl 2 rfl ?_
    refine v_iloadn E d_M_always_41 rfl 0 rfl ?_
    refine v_bipush E d_M_always_42 rfl ?_
    refine v_icmp_ne E 51 d_M_always_44 (by decide) hr2 (by decide) (fun c2 => ?_) (fun c2 => ?_)
    · replace h := h.1 c2
      refine v_iconst E d_M_always_51 ?_
      refine v_iloadn E d_M_always_52 rfl 0 rfl ?_
      refine v_ishl E d_M_always_53 ?_
      refine v_iand E d_M_always_54 ?_
      refine v_nameI (fun x4 hx4 => ?_)
      replace h := h x4 hx4
      refine v_istoren E d_M_always_55 rfl (by decide) (L' := [(1, .int (iI x4)), (3, .int (iI r2)), (0, .ref (adX X 0)), (2, .int (iI x3))]) rfl ?_
      refine v_iincN E d_M_always_56 3 rfl (by decide) (fun y => [(2, .int (iI y)), (1, .int (iI x4)), (3, .int (iI r2)), (0, .ref (adX X 0))]) (fun _ => rfl) (fun x5 hx5 => ?_)
      replace h := h x5 hx5
      refine v_goto E 11 d_M_always_59 (by decide) ?_
      obtain ⟨hb, hm⟩ := h
      exact v_sub [3, 1, 0] rfl (ih1 x4 x5 s4 hb hm)
    · replace h := h.2 c2
      refine v_iconst E d_M_always_47 ?_
      refine v_goto E 54 d_M_always_48 (by decide) ?_
      refine v_iand E d_M_always_54 ?_
      refine v_nameI (fun x6 hx6 => ?_)
      replace h := h x6 hx6
      refine v_istoren E d_M_always_55 rfl (by decide) (L' := [(1, .int (iI x6)), (3, .int (iI r2)), (0, .ref (adX X 0)), (2, .int (iI x3))]) rfl ?_
      refine v_iincN E d_M_always_56 3 rfl (by decide) (fun y => [(2, .int (iI y)), (1, .int (iI x6)), (3, .int (iI r2)), (0, .ref (adX X 0))]) (fun _ => rfl) (fun x7 hx7 => ?_)
      replace h := h x7 hx7
      refine v_goto E 11 d_M_always_59 (by decide) ?_
      obtain ⟨hb, hm⟩ := h
      exact v_sub [3, 1, 0] rfl (ih1 x6 x7 s4 hb hm)
theorem d_M_never_0 : decode prog_11_method_52_code 0 = .ok (.iconst 1, 1) := by decide +kernel
theorem d_M_never_1 : decode prog_11_method_52_code 1 = .ok (.aload_n 0, 1) := by decide +kernel
theorem d_M_never_2 : decode prog_11_method_52_code 2 = .ok (.getfield 148, 3) := by decide +kernel
theorem d_M_never_5 : decode prog_11_method_52_code 5 = .ok (.ishl, 1) := by decide +kernel
theorem d_M_never_6 : decode prog_11_method_52_code 6 = .ok (.iconst 1, 1) := by decide +kernel
theorem d_M_never_7 : decode prog_11_method_52_code 7 = .ok (.isub, 1) := by decide +kernel
theorem d_M_never_8 : decode prog_11_method_52_code 8 = .ok (.iconst 1, 1) := by decide +kernel
theorem d_M_never_9 : decode prog_11_method_52_code 9 = .ok (.aload_n 0, 1) := by decide +kernel
theorem d_M_never_10 : decode prog_11_method_52_code 10 = .ok (.getfield 46, 3) := by decide +kernel
theorem d_M_never_13 : decode prog_11_method_52_code 13 = .ok (.iconst 0, 1) := by decide +kernel
theorem d_M_never_14 : decode prog_11_method_52_code 14 = .ok (.iaload, 1) := by decide +kernel
theorem d_M_never_15 : decode prog_11_method_52_code 15 = .ok (.ishl, 1) := by decide +kernel
theorem d_M_never_16 : decode prog_11_method_52_code 16 = .ok (.iconst (-1), 1) := by decide +kernel
theorem d_M_never_17 : decode prog_11_method_52_code 17 = .ok (.ixor, 1) := by decide +kernel
theorem d_M_never_18 : decode prog_11_method_52_code 18 = .ok (.iand, 1) := by decide +kernel
theorem d_M_never_19 : decode prog_11_method_52_code 19 = .ok (.istore_n 1, 1) := by decide +kernel
theorem d_M_never_20 : decode prog_11_method_52_code 20 = .ok (.aload_n 0, 1) := by decide +kernel
theorem d_M_never_21 : decode prog_11_method_52_code 21 = .ok (.invokevirtual 200, 3) := by decide +kernel
theorem d_M_never_24 : decode prog_11_method_52_code 24 = .ok (.iconst 0, 1) := by decide +kernel
theorem d_M_never_25 : decode prog_11_method_52_code 25 = .ok (.istore_n 2, 1) := by decide +kernel
theorem d_M_never_26 : decode prog_11_method_52_code 26 = .ok (.iload_n 2, 1) := by decide +kernel
theorem d_M_never_27 : decode prog_11_method_52_code 27 = .ok (.bipush 56, 2) := by decide +kernel
theorem d_M_never_29 : decode prog_11_method_52_code 29 = .ok (.if_icmp .ge 30, 3) := by decide +kernel
theorem d_M_never_32 : decode prog_11_method_52_code 32 = .ok (.aload_n 0, 1) := by decide +kernel
theorem d_M_never_33 : decode prog_11_method_52_code 33 = .ok (.aload_n 0, 1) := by decide +kernel
theorem d_M_never_34 : decode prog_11_method_52_code 34 = .ok (.getfield 49, 3) := by decide +kernel
theorem d_M_never_37 : decode prog_11_method_52_code 37 = .ok (.invokevirtual 196, 3) := by decide +kernel
theorem d_M_never_40 : decode prog_11_method_52_code 40 = .ok (.iload_n 1, 1) := by decide +kernel
theorem d_M_never_41 : decode prog_11_method_52_code 41 = .ok (.iconst 1, 1) := by decide +kernel
theorem d_M_never_42 : decode prog_11_method_52_code 42 = .ok (.aload_n 0, 1) := by decide +kernel
theorem d_M_never_43 : decode prog_11_method_52_code 43 = .ok (.getfield 49, 3) := by decide +kernel
theorem d_M_never_46 : decode prog_11_method_52_code 46 = .ok (.iconst 0, 1) := by decide +kernel
theorem d_M_never_47 : decode prog_11_method_52_code 47 = .ok (.iaload, 1) := by decide +kernel
theorem d_M_never_48 : decode prog_11_method_52_code 48 = .ok (.ishl, 1) := by decide +kernel
theorem d_M_never_49 : decode prog_11_method_52_code 49 = .ok (.iconst (-1), 1) := by decide +kernel
theorem d_M_never_50 : decode prog_11_method_52_code 50 = .ok (.ixor, 1) := by decide +kernel
theorem d_M_never_51 : decode prog_11_method_52_code 51 = .ok (.iand, 1) := by decide +kernel
theorem d_M_never_52 : decode prog_11_method_52_code 52 = .ok (.istore_n 1, 1) := by decide +kernel
theorem d_M_never_53 : decode prog_11_method_52_code 53 = .ok (.iinc 2 1, 3) := by decide +kernel
theorem d_M_never_56 : decode prog_11_method_52_code 56 = .ok (.goto (-30), 3) := by decide +kernel
theorem d_M_never_59 : decode prog_11_method_52_code 59 = .ok (.iload_n 1, 1) := by decide +kernel
theorem d_M_never_60 : decode prog_11_method_52_code 60 = .ok (.ireturn, 1) := by decide +kernel
set_option maxHeartbeats 4000000 in
set_option maxRecDepth 20000 in
theorem c_M_never (s0 : MS) (Q : Int → MS → Prop) (h : wp_M_never s0 Q) : MT dscM ⟨"BellSchoolModel", "never", "()I"⟩ prog_11_method_52_code 3 (some .int) 5 (fun ad => [.ref (ad 0)]) s0 (po_I dscM Q) := by
  refine met_of (by decide) (fun _ => Nat.le_of_ble_eq_true rfl) (fun X E hR => ?_)
  replace E : EV dscM X prog_11_method_52_code "BellSchoolModel" 3 5 := E
  show VV dscM X 0 [(0, .ref (adX X 0))] [] s0
  unfold wp_M_never at h
  refine v_iconst E d_M_never_0 ?_
  refine v_aloadn E d_M_never_1 rfl 0 rfl ?_
  refine v_getI E cf9 dM_0 12 (by decide) rfl mw554 d_M_never_2 rfl ?_
  refine v_ishl E d_M_never_5 ?_
  refine v_iconst E d_M_never_6 ?_
  refine v_isub E d_M_never_7 ?_
  refine v_iconst E d_M_never_8 ?_
  refine v_aloadn E d_M_never_9 rfl 0 rfl ?_
  refine v_getA E cf9 dM_0 19 (by decide) rfl mw556 d_M_never_10 rfl ?_
  refine v_iconst E d_M_never_13 ?_
  refine v_iald E dM_13 (by decide) (by decide) (by decide) d_M_never_14 ?_
  refine v_ishl E d_M_never_15 ?_
  refine v_iconst E d_M_never_16 ?_
  refine v_ixor E d_M_never_17 ?_
  refine v_iand E d_M_never_18 ?_
  refine v_nameI (fun x1 hx1 => ?_)
  replace h := h x1 hx1
  refine v_istoren E d_M_never_19 rfl (by decide) (L' := [(1, .int (iI x1)), (0, .ref (adX X 0))]) rfl ?_
  refine v_aloadn E d_M_never_20 rfl 1 rfl ?_
  refine v_callVV E md_M_copyNow (c_M_copyNow s0 _ h) dM_0 rfl ⟨by decide, by decide⟩ mw642 d_M_never_21 (fun _ => rfl) (st := []) rfl (Nat.le_of_ble_eq_true rfl) (fun s1 h => ?_)
  refine v_iconst E d_M_never_24 ?_
  refine v_istoren E d_M_never_25 rfl (by decide) (L' := [(2, .int (iI 0)), (1, .int (iI x1)), (0, .ref (adX X 0))]) rfl ?_
  refine v_sub [2, 1, 0] (L' := [(0, .ref (adX X 0)), (1, .int (iI x1)), (2, .int (iI 0))]) rfl ?_
  obtain ⟨I1, μ1, h01, h⟩ := h
  refine v_loop2 (fun (x2 : Int) (x3 : Int) => [(0, .ref (adX X 0)), (1, .int (iI x2)), (2, .int (iI x3))]) I1 μ1 (fun x2 x3 s2 hI1 ih1 => ?_) x1 0 s1 h01
  replace h := h x2 x3 s2 hI1
  refine v_iloadn E d_M_never_26 rfl 2 rfl ?_
  refine v_bipush E d_M_never_27 rfl ?_
  obtain ⟨q1, h⟩ := h
  refine v_icmp_ge E 59 d_M_never_29 (by decide) q1 (by decide) (fun c1 => ?_) (fun c1 => ?_)
  · replace h := h.1 c1
    refine v_iloadn E d_M_never_59 rfl 1 rfl ?_
    obtain ⟨q2, h⟩ := h
    exact v_iret E hR rfl q2 h d_M_never_60
  · replace h := h.2 c1
    refine v_aloadn E d_M_never_32 rfl 0 rfl ?_
    refine v_aloadn E d_M_never_33 rfl 0 rfl ?_
    refine v_getA E cf9 dM_0 20 (by decide) rfl mw600 d_M_never_34 rfl ?_
    refine v_callVV E md_M_goesBy (c_M_goesBy 14 dM_14 s2 _ h) dM_0 rfl ⟨by decide, by decide⟩ mw626 d_M_never_37 (fun _ => rfl) (st := []) rfl (Nat.le_of_ble_eq_true rfl) (fun s3 h => ?_)
    refine v_iloadn E d_M_never_40 rfl 1 rfl ?_
    refine v_iconst E d_M_never_41 ?_
    refine v_aloadn E d_M_never_42 rfl 0 rfl ?_
    refine v_getA E cf9 dM_0 20 (by decide) rfl mw600 d_M_never_43 rfl ?_
    refine v_iconst E d_M_never_46 ?_
    refine v_iald E dM_14 (by decide) (by decide) (by decide) d_M_never_47 ?_
    refine v_ishl E d_M_never_48 ?_
    refine v_iconst E d_M_never_49 ?_
    refine v_ixor E d_M_never_50 ?_
    refine v_iand E d_M_never_51 ?_
    refine v_nameI (fun x4 hx4 => ?_)
    replace h := h x4 hx4
    refine v_istoren E d_M_never_52 rfl (by decide) (L' := [(1, .int (iI x4)), (0, .ref (adX X 0)), (2, .int (iI x3))]) rfl ?_
    refine v_iincN E d_M_never_53 2 rfl (by decide) (fun y => [(2, .int (iI y)), (1, .int (iI x4)), (0, .ref (adX X 0))]) (fun _ => rfl) (fun x5 hx5 => ?_)
    replace h := h x5 hx5
    refine v_goto E 26 d_M_never_56 (by decide) ?_
    obtain ⟨hb, hm⟩ := h
    exact v_sub [2, 1, 0] rfl (ih1 x4 x5 s3 hb hm)
theorem d_M_see_0 : decode prog_11_method_53_code 0 = .ok (.aload_n 0, 1) := by decide +kernel
theorem d_M_see_1 : decode prog_11_method_53_code 1 = .ok (.iload_n 1, 1) := by decide +kernel
theorem d_M_see_2 : decode prog_11_method_53_code 2 = .ok (.invokevirtual 187, 3) := by decide +kernel
theorem d_M_see_5 : decode prog_11_method_53_code 5 = .ok (.ifCond .eq 13, 3) := by decide +kernel
theorem d_M_see_8 : decode prog_11_method_53_code 8 = .ok (.iload_n 2, 1) := by decide +kernel
theorem d_M_see_9 : decode prog_11_method_53_code 9 = .ok (.iconst 1, 1) := by decide +kernel
theorem d_M_see_10 : decode prog_11_method_53_code 10 = .ok (.bipush 28, 2) := by decide +kernel
theorem d_M_see_12 : decode prog_11_method_53_code 12 = .ok (.invokestatic 105, 3) := by decide +kernel
theorem d_M_see_15 : decode prog_11_method_53_code 15 = .ok (.ifCond .ne 5, 3) := by decide +kernel
theorem d_M_see_18 : decode prog_11_method_53_code 18 = .ok (.iconst (-1), 1) := by decide +kernel
theorem d_M_see_19 : decode prog_11_method_53_code 19 = .ok (.ireturn, 1) := by decide +kernel
theorem d_M_see_20 : decode prog_11_method_53_code 20 = .ok (.aload_n 0, 1) := by decide +kernel
theorem d_M_see_21 : decode prog_11_method_53_code 21 = .ok (.getfield 160, 3) := by decide +kernel
theorem d_M_see_24 : decode prog_11_method_53_code 24 = .ok (.bipush 6, 2) := by decide +kernel
theorem d_M_see_26 : decode prog_11_method_53_code 26 = .ok (.if_icmp .ne 6, 3) := by decide +kernel
theorem d_M_see_29 : decode prog_11_method_53_code 29 = .ok (.bipush (-3), 2) := by decide +kernel
theorem d_M_see_31 : decode prog_11_method_53_code 31 = .ok (.ireturn, 1) := by decide +kernel
theorem d_M_see_32 : decode prog_11_method_53_code 32 = .ok (.aload_n 0, 1) := by decide +kernel
theorem d_M_see_33 : decode prog_11_method_53_code 33 = .ok (.getfield 64, 3) := by decide +kernel
theorem d_M_see_36 : decode prog_11_method_53_code 36 = .ok (.iconst 2, 1) := by decide +kernel
theorem d_M_see_37 : decode prog_11_method_53_code 37 = .ok (.aload_n 0, 1) := by decide +kernel
theorem d_M_see_38 : decode prog_11_method_53_code 38 = .ok (.getfield 160, 3) := by decide +kernel
theorem d_M_see_41 : decode prog_11_method_53_code 41 = .ok (.imul, 1) := by decide +kernel
theorem d_M_see_42 : decode prog_11_method_53_code 42 = .ok (.iload_n 1, 1) := by decide +kernel
theorem d_M_see_43 : decode prog_11_method_53_code 43 = .ok (.iastore, 1) := by decide +kernel
theorem d_M_see_44 : decode prog_11_method_53_code 44 = .ok (.aload_n 0, 1) := by decide +kernel
theorem d_M_see_45 : decode prog_11_method_53_code 45 = .ok (.getfield 64, 3) := by decide +kernel
theorem d_M_see_48 : decode prog_11_method_53_code 48 = .ok (.iconst 2, 1) := by decide +kernel
theorem d_M_see_49 : decode prog_11_method_53_code 49 = .ok (.aload_n 0, 1) := by decide +kernel
theorem d_M_see_50 : decode prog_11_method_53_code 50 = .ok (.getfield 160, 3) := by decide +kernel
theorem d_M_see_53 : decode prog_11_method_53_code 53 = .ok (.imul, 1) := by decide +kernel
theorem d_M_see_54 : decode prog_11_method_53_code 54 = .ok (.iconst 1, 1) := by decide +kernel
theorem d_M_see_55 : decode prog_11_method_53_code 55 = .ok (.iadd, 1) := by decide +kernel
theorem d_M_see_56 : decode prog_11_method_53_code 56 = .ok (.iload_n 2, 1) := by decide +kernel
theorem d_M_see_57 : decode prog_11_method_53_code 57 = .ok (.iastore, 1) := by decide +kernel
theorem d_M_see_58 : decode prog_11_method_53_code 58 = .ok (.aload_n 0, 1) := by decide +kernel
theorem d_M_see_59 : decode prog_11_method_53_code 59 = .ok (.dup, 1) := by decide +kernel
theorem d_M_see_60 : decode prog_11_method_53_code 60 = .ok (.getfield 160, 3) := by decide +kernel
theorem d_M_see_63 : decode prog_11_method_53_code 63 = .ok (.iconst 1, 1) := by decide +kernel
theorem d_M_see_64 : decode prog_11_method_53_code 64 = .ok (.iadd, 1) := by decide +kernel
theorem d_M_see_65 : decode prog_11_method_53_code 65 = .ok (.putfield 160, 3) := by decide +kernel
theorem d_M_see_68 : decode prog_11_method_53_code 68 = .ok (.aload_n 0, 1) := by decide +kernel
theorem d_M_see_69 : decode prog_11_method_53_code 69 = .ok (.getfield 160, 3) := by decide +kernel
theorem d_M_see_72 : decode prog_11_method_53_code 72 = .ok (.ireturn, 1) := by decide +kernel
set_option maxHeartbeats 4000000 in
set_option maxRecDepth 20000 in
theorem c_M_see (p1 : Int) (hp1 : Rng p1) (p2 : Int) (hp2 : Rng p2) (s0 : MS) (Q : Int → MS → Prop) (h : wp_M_see p1 p2 s0 Q) : MT dscM ⟨"BellSchoolModel", "see", "(II)I"⟩ prog_11_method_53_code 3 (some .int) 2 (fun ad => [.ref (ad 0), .int (iI p1), .int (iI p2)]) s0 (po_I dscM Q) := by
  refine met_of (by decide) (fun _ => Nat.le_of_ble_eq_true rfl) (fun X E hR => ?_)
  replace E : EV dscM X prog_11_method_53_code "BellSchoolModel" 3 2 := E
  show VV dscM X 0 [(0, .ref (adX X 0)), (1, .int (iI p1)), (2, .int (iI p2))] [] s0
  unfold wp_M_see at h
  refine v_aloadn E d_M_see_0 rfl 0 rfl ?_
  refine v_iloadn E d_M_see_1 rfl 1 rfl ?_
  refine v_callVIpz E md_M_isHome (c_M_isHome p1 hp1 s0 _ h) dM_0 rfl ⟨by decide, by decide⟩ mw604 d_M_see_2 (fun _ => rfl) (st := []) rfl (Nat.le_of_ble_eq_true rfl) (fun r1 hr1 hz1 h => ?_)
  refine v_if_eq E 18 d_M_see_5 (by decide) hr1 (fun c1 => ?_) (fun c1 => ?_)
  · replace h := h.1 c1
    refine v_iconst E d_M_see_18 ?_
    exact v_iret E hR rfl (by decide) h d_M_see_19
  · replace h := h.2 c1
    refine v_iloadn E d_M_see_8 rfl 2 rfl ?_
    refine v_iconst E d_M_see_9 ?_
    refine v_bipush E d_M_see_10 rfl ?_
    refine v_callSIpz E md_M_in (c_M_in dscM p2 hp2 1 (by decide) 28 (by decide) s0 _ h) ⟨by decide, by decide⟩ mw496 d_M_see_12 (fun _ => rfl) (st := []) rfl (Nat.le_of_ble_eq_true rfl) (fun r2 hr2 hz2 h => ?_)
    refine v_if_ne E 20 d_M_see_15 (by decide) hr2 (fun c2 => ?_) (fun c2 => ?_)
    · replace h := h.1 c2
      refine v_aloadn E d_M_see_20 rfl 0 rfl ?_
      refine v_getI E cf9 dM_0 27 (by decide) rfl mw559 d_M_see_21 rfl ?_
      refine v_bipush E d_M_see_24 rfl ?_
      refine v_wt (fun wt1 => ?_)
      refine v_icmp_ne E 32 d_M_see_26 (by decide) (wt1 0 27) (by decide) (fun c3 => ?_) (fun c3 => ?_)
      · replace h := h.1 c3
        refine v_aloadn E d_M_see_32 rfl 0 rfl ?_
        refine v_getA E cf9 dM_0 28 (by decide) rfl mw678 d_M_see_33 rfl ?_
        refine v_iconst E d_M_see_36 ?_
        refine v_aloadn E d_M_see_37 rfl 0 rfl ?_
        refine v_getI E cf9 dM_0 27 (by decide) rfl mw559 d_M_see_38 rfl ?_
        refine v_imul E d_M_see_41 ?_
        refine v_iloadn E d_M_see_42 rfl 1 rfl ?_
        obtain ⟨q1, h⟩ := h
        refine v_iast E dM_19 (by decide) q1.1 q1.2 hp1 d_M_see_43 ?_
        refine v_nameS (fun s1 hs1 => ?_)
        replace h := h s1 hs1
        refine v_aloadn E d_M_see_44 rfl 0 rfl ?_
        refine v_getA E cf9 dM_0 28 (by decide) rfl mw678 d_M_see_45 rfl ?_
        refine v_iconst E d_M_see_48 ?_
        refine v_aloadn E d_M_see_49 rfl 0 rfl ?_
        refine v_getI E cf9 dM_0 27 (by decide) rfl mw559 d_M_see_50 rfl ?_
        refine v_imul E d_M_see_53 ?_
        refine v_iconst E d_M_see_54 ?_
        refine v_iadd E d_M_see_55 ?_
        refine v_iloadn E d_M_see_56 rfl 2 rfl ?_
        obtain ⟨q2, h⟩ := h
        refine v_iast E dM_19 (by decide) q2.1 q2.2 hp2 d_M_see_57 ?_
        refine v_nameS (fun s2 hs2 => ?_)
        replace h := h s2 hs2
        refine v_aloadn E d_M_see_58 rfl 0 rfl ?_
        refine v_dup E d_M_see_59 rfl ?_
        refine v_getI E cf9 dM_0 27 (by decide) rfl mw559 d_M_see_60 rfl ?_
        refine v_iconst E d_M_see_63 ?_
        refine v_iadd E d_M_see_64 ?_
        obtain ⟨q3, h⟩ := h
        refine v_putI E cf9 dM_0 27 (by decide) rfl rfl mw559 d_M_see_65 rfl rfl rfl q3 ?_
        refine v_nameS (fun s3 hs3 => ?_)
        replace h := h s3 hs3
        refine v_aloadn E d_M_see_68 rfl 0 rfl ?_
        refine v_getI E cf9 dM_0 27 (by decide) rfl mw559 d_M_see_69 rfl ?_
        refine v_wt (fun wt2 => ?_)
        exact v_iret E hR rfl (wt2 0 27) h d_M_see_72
      · replace h := h.2 c3
        refine v_bipush E d_M_see_29 rfl ?_
        exact v_iret E hR rfl (by decide) h d_M_see_31
    · replace h := h.2 c2
      refine v_iconst E d_M_see_18 ?_
      exact v_iret E hR rfl (by decide) h d_M_see_19
theorem d_M_forget_0 : decode prog_11_method_54_code 0 = .ok (.aload_n 0, 1) := by decide +kernel
theorem d_M_forget_1 : decode prog_11_method_54_code 1 = .ok (.getfield 160, 3) := by decide +kernel
theorem d_M_forget_4 : decode prog_11_method_54_code 4 = .ok (.istore_n 1, 1) := by decide +kernel
theorem d_M_forget_5 : decode prog_11_method_54_code 5 = .ok (.aload_n 0, 1) := by decide +kernel
theorem d_M_forget_6 : decode prog_11_method_54_code 6 = .ok (.iconst 0, 1) := by decide +kernel
theorem d_M_forget_7 : decode prog_11_method_54_code 7 = .ok (.putfield 160, 3) := by decide +kernel
theorem d_M_forget_10 : decode prog_11_method_54_code 10 = .ok (.iload_n 1, 1) := by decide +kernel
theorem d_M_forget_11 : decode prog_11_method_54_code 11 = .ok (.ireturn, 1) := by decide +kernel
set_option maxHeartbeats 4000000 in
set_option maxRecDepth 20000 in
theorem c_M_forget (s0 : MS) (Q : Int → MS → Prop) (h : wp_M_forget s0 Q) : MT dscM ⟨"BellSchoolModel", "forget", "()I"⟩ prog_11_method_54_code 2 (some .int) 0 (fun ad => [.ref (ad 0)]) s0 (po_I dscM Q) := by
  refine met_of (by decide) (fun _ => Nat.le_of_ble_eq_true rfl) (fun X E hR => ?_)
  replace E : EV dscM X prog_11_method_54_code "BellSchoolModel" 2 0 := E
  show VV dscM X 0 [(0, .ref (adX X 0))] [] s0
  unfold wp_M_forget at h
  refine v_aloadn E d_M_forget_0 rfl 0 rfl ?_
  refine v_getI E cf9 dM_0 27 (by decide) rfl mw559 d_M_forget_1 rfl ?_
  refine v_istoren E d_M_forget_4 rfl (by decide) (L' := [(1, .int (iI (gI s0 0 27))), (0, .ref (adX X 0))]) rfl ?_
  refine v_aloadn E d_M_forget_5 rfl 1 rfl ?_
  refine v_iconst E d_M_forget_6 ?_
  refine v_putI E cf9 dM_0 27 (by decide) rfl rfl mw559 d_M_forget_7 rfl rfl rfl (by decide) ?_
  refine v_nameS (fun s1 hs1 => ?_)
  replace h := h s1 hs1
  refine v_iloadn E d_M_forget_10 rfl 0 rfl ?_
  obtain ⟨q1, h⟩ := h
  exact v_iret E hR rfl q1 h d_M_forget_11
theorem d_M_isSo_0 : decode prog_11_method_55_code 0 = .ok (.iconst 1, 1) := by decide +kernel
theorem d_M_isSo_1 : decode prog_11_method_55_code 1 = .ok (.istore_n 1, 1) := by decide +kernel
theorem d_M_isSo_2 : decode prog_11_method_55_code 2 = .ok (.iconst 1, 1) := by decide +kernel
theorem d_M_isSo_3 : decode prog_11_method_55_code 3 = .ok (.istore_n 2, 1) := by decide +kernel
theorem d_M_isSo_4 : decode prog_11_method_55_code 4 = .ok (.iload_n 2, 1) := by decide +kernel
theorem d_M_isSo_5 : decode prog_11_method_55_code 5 = .ok (.bipush 28, 2) := by decide +kernel
theorem d_M_isSo_7 : decode prog_11_method_55_code 7 = .ok (.if_icmp .gt 74, 3) := by decide +kernel
theorem d_M_isSo_10 : decode prog_11_method_55_code 10 = .ok (.aload_n 0, 1) := by decide +kernel
theorem d_M_isSo_11 : decode prog_11_method_55_code 11 = .ok (.aload_n 0, 1) := by decide +kernel
theorem d_M_isSo_12 : decode prog_11_method_55_code 12 = .ok (.getfield 49, 3) := by decide +kernel
theorem d_M_isSo_15 : decode prog_11_method_55_code 15 = .ok (.invokevirtual 196, 3) := by decide +kernel
theorem d_M_isSo_18 : decode prog_11_method_55_code 18 = .ok (.iconst 0, 1) := by decide +kernel
theorem d_M_isSo_19 : decode prog_11_method_55_code 19 = .ok (.istore_n 3, 1) := by decide +kernel
theorem d_M_isSo_20 : decode prog_11_method_55_code 20 = .ok (.iload_n 3, 1) := by decide +kernel
theorem d_M_isSo_21 : decode prog_11_method_55_code 21 = .ok (.aload_n 0, 1) := by decide +kernel
theorem d_M_isSo_22 : decode prog_11_method_55_code 22 = .ok (.getfield 160, 3) := by decide +kernel
theorem d_M_isSo_25 : decode prog_11_method_55_code 25 = .ok (.if_icmp .ge 50, 3) := by decide +kernel
theorem d_M_isSo_28 : decode prog_11_method_55_code 28 = .ok (.iload_n 1, 1) := by decide +kernel
theorem d_M_isSo_29 : decode prog_11_method_55_code 29 = .ok (.ifCond .eq 38, 3) := by decide +kernel
theorem d_M_isSo_32 : decode prog_11_method_55_code 32 = .ok (.aload_n 0, 1) := by decide +kernel
theorem d_M_isSo_33 : decode prog_11_method_55_code 33 = .ok (.getfield 64, 3) := by decide +kernel
theorem d_M_isSo_36 : decode prog_11_method_55_code 36 = .ok (.iconst 2, 1) := by decide +kernel
theorem d_M_isSo_37 : decode prog_11_method_55_code 37 = .ok (.iload_n 3, 1) := by decide +kernel
theorem d_M_isSo_38 : decode prog_11_method_55_code 38 = .ok (.imul, 1) := by decide +kernel
theorem d_M_isSo_39 : decode prog_11_method_55_code 39 = .ok (.iconst 1, 1) := by decide +kernel
theorem d_M_isSo_40 : decode prog_11_method_55_code 40 = .ok (.iadd, 1) := by decide +kernel
theorem d_M_isSo_41 : decode prog_11_method_55_code 41 = .ok (.iaload, 1) := by decide +kernel
theorem d_M_isSo_42 : decode prog_11_method_55_code 42 = .ok (.iload_n 2, 1) := by decide +kernel
theorem d_M_isSo_43 : decode prog_11_method_55_code 43 = .ok (.if_icmp .ne 20, 3) := by decide +kernel
theorem d_M_isSo_46 : decode prog_11_method_55_code 46 = .ok (.aload_n 0, 1) := by decide +kernel
theorem d_M_isSo_47 : decode prog_11_method_55_code 47 = .ok (.getfield 64, 3) := by decide +kernel
theorem d_M_isSo_50 : decode prog_11_method_55_code 50 = .ok (.iconst 2, 1) := by decide +kernel
theorem d_M_isSo_51 : decode prog_11_method_55_code 51 = .ok (.iload_n 3, 1) := by decide +kernel
theorem d_M_isSo_52 : decode prog_11_method_55_code 52 = .ok (.imul, 1) := by decide +kernel
theorem d_M_isSo_53 : decode prog_11_method_55_code 53 = .ok (.iaload, 1) := by decide +kernel
theorem d_M_isSo_54 : decode prog_11_method_55_code 54 = .ok (.aload_n 0, 1) := by decide +kernel
theorem d_M_isSo_55 : decode prog_11_method_55_code 55 = .ok (.getfield 49, 3) := by decide +kernel
theorem d_M_isSo_58 : decode prog_11_method_55_code 58 = .ok (.iconst 0, 1) := by decide +kernel
theorem d_M_isSo_59 : decode prog_11_method_55_code 59 = .ok (.iaload, 1) := by decide +kernel
theorem d_M_isSo_60 : decode prog_11_method_55_code 60 = .ok (.if_icmp .ne 7, 3) := by decide +kernel
theorem d_M_isSo_63 : decode prog_11_method_55_code 63 = .ok (.iconst 1, 1) := by decide +kernel
theorem d_M_isSo_64 : decode prog_11_method_55_code 64 = .ok (.goto 4, 3) := by decide +kernel
theorem d_M_isSo_67 : decode prog_11_method_55_code 67 = .ok (.iconst 0, 1) := by decide +kernel
theorem d_M_isSo_68 : decode prog_11_method_55_code 68 = .ok (.istore_n 1, 1) := by decide +kernel
theorem d_M_isSo_69 : decode prog_11_method_55_code 69 = .ok (.iinc 3 1, 3) := by decide +kernel
theorem d_M_isSo_72 : decode prog_11_method_55_code 72 = .ok (.goto (-52), 3) := by decide +kernel
theorem d_M_isSo_75 : decode prog_11_method_55_code 75 = .ok (.iinc 2 1, 3) := by decide +kernel
theorem d_M_isSo_78 : decode prog_11_method_55_code 78 = .ok (.goto (-74), 3) := by decide +kernel
theorem d_M_isSo_81 : decode prog_11_method_55_code 81 = .ok (.iload_n 1, 1) := by decide +kernel
theorem d_M_isSo_82 : decode prog_11_method_55_code 82 = .ok (.ireturn, 1) := by decide +kernel
set_option maxHeartbeats 4000000 in
set_option maxRecDepth 20000 in
theorem c_M_isSo (s0 : MS) (Q : Int → MS → Prop) (h : wp_M_isSo s0 Q) : MT dscM ⟨"BellSchoolModel", "isSo", "()Z"⟩ prog_11_method_55_code 4 (some .boolean) 5 (fun ad => [.ref (ad 0)]) s0 (po_I dscM (fun r z => (r = 0 ∨ r = 1) ∧ Q r z)) := by
  refine met_of (by decide) (fun _ => Nat.le_of_ble_eq_true rfl) (fun X E hR => ?_)
  replace E : EV dscM X prog_11_method_55_code "BellSchoolModel" 4 5 := E
  show VV dscM X 0 [(0, .ref (adX X 0))] [] s0
  unfold wp_M_isSo at h
  refine v_iconst E d_M_isSo_0 ?_
  refine v_istoren E d_M_isSo_1 rfl (by decide) (L' := [(1, .int (iI 1)), (0, .ref (adX X 0))]) rfl ?_
  refine v_iconst E d_M_isSo_2 ?_
  refine v_istoren E d_M_isSo_3 rfl (by decide) (L' := [(2, .int (iI 1)), (1, .int (iI 1)), (0, .ref (adX X 0))]) rfl ?_
  refine v_sub [2, 1, 0] (L' := [(0, .ref (adX X 0)), (1, .int (iI 1)), (2, .int (iI 1))]) rfl ?_
  obtain ⟨I1, μ1, h01, h⟩ := h
  refine v_loop2 (fun (x1 : Int) (x2 : Int) => [(0, .ref (adX X 0)), (1, .int (iI x1)), (2, .int (iI x2))]) I1 μ1 (fun x1 x2 s1 hI1 ih1 => ?_) 1 1 s0 h01
  replace h := h x1 x2 s1 hI1
  refine v_iloadn E d_M_isSo_4 rfl 2 rfl ?_
  refine v_bipush E d_M_isSo_5 rfl ?_
  obtain ⟨q1, h⟩ := h
  refine v_icmp_gt E 81 d_M_isSo_7 (by decide) q1 (by decide) (fun c1 => ?_) (fun c1 => ?_)
  · replace h := h.1 c1
    refine v_iloadn E d_M_isSo_81 rfl 1 rfl ?_
    obtain ⟨q2, h⟩ := h
    exact v_iret E hR (nar_Z q2) (Rng_Z q2) ⟨q2, h⟩ d_M_isSo_82
  · replace h := h.2 c1
    refine v_aloadn E d_M_isSo_10 rfl 0 rfl ?_
    refine v_aloadn E d_M_isSo_11 rfl 0 rfl ?_
    refine v_getA E cf9 dM_0 20 (by decide) rfl mw600 d_M_isSo_12 rfl ?_
    refine v_callVV E md_M_goesBy (c_M_goesBy 14 dM_14 s1 _ h) dM_0 rfl ⟨by decide, by decide⟩ mw626 d_M_isSo_15 (fun _ => rfl) (st := []) rfl (Nat.le_of_ble_eq_true rfl) (fun s2 h => ?_)
    refine v_iconst E d_M_isSo_18 ?_
    refine v_istoren E d_M_isSo_19 rfl (by decide) (L' := [(3, .int (iI 0)), (0, .ref (adX X 0)), (1, .int (iI x1)), (2, .int (iI x2))]) rfl ?_
    refine v_sub [1, 2, 3, 0] (L' := [(0, .ref (adX X 0)), (1, .int (iI x1)), (2, .int (iI x2)), (3, .int (iI 0))]) rfl ?_
    obtain ⟨I2, μ2, h02, h⟩ := h
    refine v_ploop2 s2 (fun (x3 : Int) (x4 : Int) => [(0, .ref (adX X 0)), (1, .int (iI x3)), (2, .int (iI x2)), (3, .int (iI x4))]) I2 μ2 (fun x3 x4 hI2 ih2 => ?_) x1 0 h02
    replace h := h x3 x4  hI2
    refine v_iloadn E d_M_isSo_20 rfl 3 rfl ?_
    refine v_aloadn E d_M_isSo_21 rfl 0 rfl ?_
    refine v_getI E cf9 dM_0 27 (by decide) rfl mw559 d_M_isSo_22 rfl ?_
    obtain ⟨q3, h⟩ := h
    refine v_wt (fun wt1 => ?_)
    refine v_icmp_ge E 75 d_M_isSo_25 (by decide) q3 (wt1 0 27) (fun c2 => ?_) (fun c2 => ?_)
    · replace h := h.1 c2
      refine v_iincN E d_M_isSo_75 2 rfl (by decide) (fun y => [(2, .int (iI y)), (0, .ref (adX X 0)), (1, .int (iI x3)), (3, .int (iI x4))]) (fun _ => rfl) (fun x5 hx5 => ?_)
      replace h := h x5 hx5
      refine v_goto E 4 d_M_isSo_78 (by decide) ?_
      obtain ⟨hb, hm⟩ := h
      exact v_sub [1, 2, 0] rfl (ih1 x3 x5 s2 hb hm)
    · replace h := h.2 c2
      refine v_iloadn E d_M_isSo_28 rfl 1 rfl ?_
      obtain ⟨q4, h⟩ := h
      refine v_if_eq E 67 d_M_isSo_29 (by decide) q4 (fun c3 => ?_) (fun c3 => ?_)
      · replace h := h.1 c3
        refine v_iconst E d_M_isSo_67 ?_
        refine v_istoren E d_M_isSo_68 rfl (by decide) (L' := [(1, .int (iI 0)), (0, .ref (adX X 0)), (2, .int (iI x2)), (3, .int (iI x4))]) rfl ?_
        refine v_iincN E d_M_isSo_69 3 rfl (by decide) (fun y => [(3, .int (iI y)), (1, .int (iI 0)), (0, .ref (adX X 0)), (2, .int (iI x2))]) (fun _ => rfl) (fun x6 hx6 => ?_)
        replace h := h x6 hx6
        refine v_goto E 20 d_M_isSo_72 (by decide) ?_
        obtain ⟨hb, hm⟩ := h
        exact v_sub [2, 1, 3, 0] rfl (ih2 0 x6 hb hm)
      · replace h := h.2 c3
        refine v_aloadn E d_M_isSo_32 rfl 0 rfl ?_
        refine v_getA E cf9 dM_0 28 (by decide) rfl mw678 d_M_isSo_33 rfl ?_
        refine v_iconst E d_M_isSo_36 ?_
        refine v_iloadn E d_M_isSo_37 rfl 3 rfl ?_
        refine v_imul E d_M_isSo_38 ?_
        refine v_iconst E d_M_isSo_39 ?_
        refine v_iadd E d_M_isSo_40 ?_
        obtain ⟨q5, h⟩ := h
        refine v_iald E dM_19 (by decide) q5.1 q5.2 d_M_isSo_41 ?_
        refine v_iloadn E d_M_isSo_42 rfl 2 rfl ?_
        refine v_icmp_ne E 63 d_M_isSo_43 (by decide) (wt1 19 ((2 * x4) + 1)) q1 (fun c4 => ?_) (fun c4 => ?_)
        · replace h := h.1 c4
          refine v_iconst E d_M_isSo_63 ?_
          refine v_goto E 68 d_M_isSo_64 (by decide) ?_
          refine v_istoren E d_M_isSo_68 rfl (by decide) (L' := [(1, .int (iI 1)), (0, .ref (adX X 0)), (2, .int (iI x2)), (3, .int (iI x4))]) rfl ?_
          refine v_iincN E d_M_isSo_69 3 rfl (by decide) (fun y => [(3, .int (iI y)), (1, .int (iI 1)), (0, .ref (adX X 0)), (2, .int (iI x2))]) (fun _ => rfl) (fun x7 hx7 => ?_)
          replace h := h x7 hx7
          refine v_goto E 20 d_M_isSo_72 (by decide) ?_
          obtain ⟨hb, hm⟩ := h
          exact v_sub [2, 1, 3, 0] rfl (ih2 1 x7 hb hm)
        · replace h := h.2 c4
          refine v_aloadn E d_M_isSo_46 rfl 0 rfl ?_
          refine v_getA E cf9 dM_0 28 (by decide) rfl mw678 d_M_isSo_47 rfl ?_
          refine v_iconst E d_M_isSo_50 ?_
          refine v_iloadn E d_M_isSo_51 rfl 3 rfl ?_
          refine v_imul E d_M_isSo_52 ?_
          obtain ⟨q6, h⟩ := h
          refine v_iald E dM_19 (by decide) q6.1 q6.2 d_M_isSo_53 ?_
          refine v_aloadn E d_M_isSo_54 rfl 0 rfl ?_
          refine v_getA E cf9 dM_0 20 (by decide) rfl mw600 d_M_isSo_55 rfl ?_
          refine v_iconst E d_M_isSo_58 ?_
          refine v_iald E dM_14 (by decide) (by decide) (by decide) d_M_isSo_59 ?_
          refine v_icmp_ne E 67 d_M_isSo_60 (by decide) (wt1 19 (2 * x4)) (wt1 14 0) (fun c5 => ?_) (fun c5 => ?_)
          · replace h := h.1 c5
            refine v_iconst E d_M_isSo_67 ?_
            refine v_istoren E d_M_isSo_68 rfl (by decide) (L' := [(1, .int (iI 0)), (0, .ref (adX X 0)), (2, .int (iI x2)), (3, .int (iI x4))]) rfl ?_
            refine v_iincN E d_M_isSo_69 3 rfl (by decide) (fun y => [(3, .int (iI y)), (1, .int (iI 0)), (0, .ref (adX X 0)), (2, .int (iI x2))]) (fun _ => rfl) (fun x8 hx8 => ?_)
            replace h := h x8 hx8
            refine v_goto E 20 d_M_isSo_72 (by decide) ?_
            obtain ⟨hb, hm⟩ := h
            exact v_sub [2, 1, 3, 0] rfl (ih2 0 x8 hb hm)
          · replace h := h.2 c5
            refine v_iconst E d_M_isSo_63 ?_
            refine v_goto E 68 d_M_isSo_64 (by decide) ?_
            refine v_istoren E d_M_isSo_68 rfl (by decide) (L' := [(1, .int (iI 1)), (0, .ref (adX X 0)), (2, .int (iI x2)), (3, .int (iI x4))]) rfl ?_
            refine v_iincN E d_M_isSo_69 3 rfl (by decide) (fun y => [(3, .int (iI y)), (1, .int (iI 1)), (0, .ref (adX X 0)), (2, .int (iI x2))]) (fun _ => rfl) (fun x9 hx9 => ?_)
            replace h := h x9 hx9
            refine v_goto E 20 d_M_isSo_72 (by decide) ?_
            obtain ⟨hb, hm⟩ := h
            exact v_sub [2, 1, 3, 0] rfl (ih2 1 x9 hb hm)
theorem d_M_fog_0 : decode prog_11_method_56_code 0 = .ok (.iconst 0, 1) := by decide +kernel
theorem d_M_fog_1 : decode prog_11_method_56_code 1 = .ok (.istore_n 1, 1) := by decide +kernel
theorem d_M_fog_2 : decode prog_11_method_56_code 2 = .ok (.iconst 0, 1) := by decide +kernel
theorem d_M_fog_3 : decode prog_11_method_56_code 3 = .ok (.istore_n 2, 1) := by decide +kernel
theorem d_M_fog_4 : decode prog_11_method_56_code 4 = .ok (.iload_n 2, 1) := by decide +kernel
theorem d_M_fog_5 : decode prog_11_method_56_code 5 = .ok (.aload_n 0, 1) := by decide +kernel
theorem d_M_fog_6 : decode prog_11_method_56_code 6 = .ok (.getfield 148, 3) := by decide +kernel
theorem d_M_fog_9 : decode prog_11_method_56_code 9 = .ok (.if_icmp .ge 37, 3) := by decide +kernel
theorem d_M_fog_12 : decode prog_11_method_56_code 12 = .ok (.aload_n 0, 1) := by decide +kernel
theorem d_M_fog_13 : decode prog_11_method_56_code 13 = .ok (.invokevirtual 200, 3) := by decide +kernel
theorem d_M_fog_16 : decode prog_11_method_56_code 16 = .ok (.aload_n 0, 1) := by decide +kernel
theorem d_M_fog_17 : decode prog_11_method_56_code 17 = .ok (.getfield 49, 3) := by decide +kernel
theorem d_M_fog_20 : decode prog_11_method_56_code 20 = .ok (.iconst 0, 1) := by decide +kernel
theorem d_M_fog_21 : decode prog_11_method_56_code 21 = .ok (.iload_n 2, 1) := by decide +kernel
theorem d_M_fog_22 : decode prog_11_method_56_code 22 = .ok (.iastore, 1) := by decide +kernel
theorem d_M_fog_23 : decode prog_11_method_56_code 23 = .ok (.iload_n 1, 1) := by decide +kernel
theorem d_M_fog_24 : decode prog_11_method_56_code 24 = .ok (.aload_n 0, 1) := by decide +kernel
theorem d_M_fog_25 : decode prog_11_method_56_code 25 = .ok (.invokevirtual 220, 3) := by decide +kernel
theorem d_M_fog_28 : decode prog_11_method_56_code 28 = .ok (.ifCond .eq 9, 3) := by decide +kernel
theorem d_M_fog_31 : decode prog_11_method_56_code 31 = .ok (.iconst 1, 1) := by decide +kernel
theorem d_M_fog_32 : decode prog_11_method_56_code 32 = .ok (.iload_n 2, 1) := by decide +kernel
theorem d_M_fog_33 : decode prog_11_method_56_code 33 = .ok (.ishl, 1) := by decide +kernel
theorem d_M_fog_34 : decode prog_11_method_56_code 34 = .ok (.goto 4, 3) := by decide +kernel
theorem d_M_fog_37 : decode prog_11_method_56_code 37 = .ok (.iconst 0, 1) := by decide +kernel
theorem d_M_fog_38 : decode prog_11_method_56_code 38 = .ok (.ior, 1) := by decide +kernel
theorem d_M_fog_39 : decode prog_11_method_56_code 39 = .ok (.istore_n 1, 1) := by decide +kernel
theorem d_M_fog_40 : decode prog_11_method_56_code 40 = .ok (.iinc 2 1, 3) := by decide +kernel
theorem d_M_fog_43 : decode prog_11_method_56_code 43 = .ok (.goto (-39), 3) := by decide +kernel
theorem d_M_fog_46 : decode prog_11_method_56_code 46 = .ok (.iload_n 1, 1) := by decide +kernel
theorem d_M_fog_47 : decode prog_11_method_56_code 47 = .ok (.ireturn, 1) := by decide +kernel
set_option maxHeartbeats 4000000 in
set_option maxRecDepth 20000 in
theorem c_M_fog (s0 : MS) (Q : Int → MS → Prop) (h : wp_M_fog s0 Q) : MT dscM ⟨"BellSchoolModel", "fog", "()I"⟩ prog_11_method_56_code 3 (some .int) 6 (fun ad => [.ref (ad 0)]) s0 (po_I dscM Q) := by
  refine met_of (by decide) (fun _ => Nat.le_of_ble_eq_true rfl) (fun X E hR => ?_)
  replace E : EV dscM X prog_11_method_56_code "BellSchoolModel" 3 6 := E
  show VV dscM X 0 [(0, .ref (adX X 0))] [] s0
  unfold wp_M_fog at h
  refine v_iconst E d_M_fog_0 ?_
  refine v_istoren E d_M_fog_1 rfl (by decide) (L' := [(1, .int (iI 0)), (0, .ref (adX X 0))]) rfl ?_
  refine v_iconst E d_M_fog_2 ?_
  refine v_istoren E d_M_fog_3 rfl (by decide) (L' := [(2, .int (iI 0)), (1, .int (iI 0)), (0, .ref (adX X 0))]) rfl ?_
  refine v_sub [2, 1, 0] (L' := [(0, .ref (adX X 0)), (1, .int (iI 0)), (2, .int (iI 0))]) rfl ?_
  obtain ⟨I1, μ1, h01, h⟩ := h
  refine v_loop2 (fun (x1 : Int) (x2 : Int) => [(0, .ref (adX X 0)), (1, .int (iI x1)), (2, .int (iI x2))]) I1 μ1 (fun x1 x2 s1 hI1 ih1 => ?_) 0 0 s0 h01
  replace h := h x1 x2 s1 hI1
  refine v_iloadn E d_M_fog_4 rfl 2 rfl ?_
  refine v_aloadn E d_M_fog_5 rfl 0 rfl ?_
  refine v_getI E cf9 dM_0 12 (by decide) rfl mw554 d_M_fog_6 rfl ?_
  obtain ⟨q1, h⟩ := h
  refine v_wt (fun wt1 => ?_)
  refine v_icmp_ge E 46 d_M_fog_9 (by decide) q1 (wt1 0 12) (fun c1 => ?_) (fun c1 => ?_)
  · replace h := h.1 c1
    refine v_iloadn E d_M_fog_46 rfl 1 rfl ?_
    obtain ⟨q2, h⟩ := h
    exact v_iret E hR rfl q2 h d_M_fog_47
  · replace h := h.2 c1
    refine v_aloadn E d_M_fog_12 rfl 0 rfl ?_
    refine v_callVV E md_M_copyNow (c_M_copyNow s1 _ h) dM_0 rfl ⟨by decide, by decide⟩ mw642 d_M_fog_13 (fun _ => rfl) (st := []) rfl (Nat.le_of_ble_eq_true rfl) (fun s2 h => ?_)
    refine v_aloadn E d_M_fog_16 rfl 0 rfl ?_
    refine v_getA E cf9 dM_0 20 (by decide) rfl mw600 d_M_fog_17 rfl ?_
    refine v_iconst E d_M_fog_20 ?_
    refine v_iloadn E d_M_fog_21 rfl 2 rfl ?_
    refine v_iast E dM_14 (by decide) (by decide) (by decide) q1 d_M_fog_22 ?_
    refine v_nameS (fun s3 hs3 => ?_)
    replace h := h s3 hs3
    refine v_iloadn E d_M_fog_23 rfl 1 rfl ?_
    refine v_aloadn E d_M_fog_24 rfl 0 rfl ?_
    refine v_callVI E md_M_isSo (c_M_isSo s3 _ h) dM_0 rfl ⟨by decide, by decide⟩ mw688 d_M_fog_25 (fun _ => rfl) (st := [.int (iI x1)]) rfl (Nat.le_of_ble_eq_true rfl) (fun r2 s4 hr2 h => ?_)
    obtain ⟨hz2, h⟩ := h
    refine v_if_eq E 37 d_M_fog_28 (by decide) hr2 (fun c2 => ?_) (fun c2 => ?_)
    · replace h := h.1 c2
      refine v_iconst E d_M_fog_37 ?_
      refine v_ior E d_M_fog_38 ?_
      refine v_nameI (fun x3 hx3 => ?_)
      replace h := h x3 hx3
      refine v_istoren E d_M_fog_39 rfl (by decide) (L' := [(1, .int (iI x3)), (0, .ref (adX X 0)), (2, .int (iI x2))]) rfl ?_
      refine v_iincN E d_M_fog_40 2 rfl (by decide) (fun y => [(2, .int (iI y)), (1, .int (iI x3)), (0, .ref (adX X 0))]) (fun _ => rfl) (fun x4 hx4 => ?_)
      replace h := h x4 hx4
      refine v_goto E 4 d_M_fog_43 (by decide) ?_
      obtain ⟨hb, hm⟩ := h
      exact v_sub [2, 1, 0] rfl (ih1 x3 x4 s4 hb hm)
    · replace h := h.2 c2
      refine v_iconst E d_M_fog_31 ?_
      refine v_iloadn E d_M_fog_32 rfl 2 rfl ?_
      refine v_ishl E d_M_fog_33 ?_
      refine v_goto E 38 d_M_fog_34 (by decide) ?_
      refine v_ior E d_M_fog_38 ?_
      refine v_nameI (fun x5 hx5 => ?_)
      replace h := h x5 hx5
      refine v_istoren E d_M_fog_39 rfl (by decide) (L' := [(1, .int (iI x5)), (0, .ref (adX X 0)), (2, .int (iI x2))]) rfl ?_
      refine v_iincN E d_M_fog_40 2 rfl (by decide) (fun y => [(2, .int (iI y)), (1, .int (iI x5)), (0, .ref (adX X 0))]) (fun _ => rfl) (fun x6 hx6 => ?_)
      replace h := h x6 hx6
      refine v_goto E 4 d_M_fog_43 (by decide) ?_
      obtain ⟨hb, hm⟩ := h
      exact v_sub [2, 1, 0] rfl (ih1 x5 x6 s4 hb hm)
theorem d_M_tripped_0 : decode prog_11_method_57_code 0 = .ok (.aload_n 0, 1) := by decide +kernel
theorem d_M_tripped_1 : decode prog_11_method_57_code 1 = .ok (.invokevirtual 200, 3) := by decide +kernel
theorem d_M_tripped_4 : decode prog_11_method_57_code 4 = .ok (.aload_n 0, 1) := by decide +kernel
theorem d_M_tripped_5 : decode prog_11_method_57_code 5 = .ok (.invokevirtual 220, 3) := by decide +kernel
theorem d_M_tripped_8 : decode prog_11_method_57_code 8 = .ok (.ifCond .eq 9, 3) := by decide +kernel
theorem d_M_tripped_11 : decode prog_11_method_57_code 11 = .ok (.sipush 128, 3) := by decide +kernel
theorem d_M_tripped_14 : decode prog_11_method_57_code 14 = .ok (.goto 4, 3) := by decide +kernel
theorem d_M_tripped_17 : decode prog_11_method_57_code 17 = .ok (.iconst 0, 1) := by decide +kernel
theorem d_M_tripped_18 : decode prog_11_method_57_code 18 = .ok (.istore_n 1, 1) := by decide +kernel
theorem d_M_tripped_19 : decode prog_11_method_57_code 19 = .ok (.iconst 0, 1) := by decide +kernel
theorem d_M_tripped_20 : decode prog_11_method_57_code 20 = .ok (.istore_n 2, 1) := by decide +kernel
theorem d_M_tripped_21 : decode prog_11_method_57_code 21 = .ok (.iload_n 2, 1) := by decide +kernel
theorem d_M_tripped_22 : decode prog_11_method_57_code 22 = .ok (.aload_n 0, 1) := by decide +kernel
theorem d_M_tripped_23 : decode prog_11_method_57_code 23 = .ok (.getfield 148, 3) := by decide +kernel
theorem d_M_tripped_26 : decode prog_11_method_57_code 26 = .ok (.if_icmp .ge 42, 3) := by decide +kernel
theorem d_M_tripped_29 : decode prog_11_method_57_code 29 = .ok (.aload_n 0, 1) := by decide +kernel
theorem d_M_tripped_30 : decode prog_11_method_57_code 30 = .ok (.invokevirtual 200, 3) := by decide +kernel
theorem d_M_tripped_33 : decode prog_11_method_57_code 33 = .ok (.aload_n 0, 1) := by decide +kernel
theorem d_M_tripped_34 : decode prog_11_method_57_code 34 = .ok (.getfield 49, 3) := by decide +kernel
theorem d_M_tripped_37 : decode prog_11_method_57_code 37 = .ok (.iconst 2, 1) := by decide +kernel
theorem d_M_tripped_38 : decode prog_11_method_57_code 38 = .ok (.dup2, 1) := by decide +kernel
theorem d_M_tripped_39 : decode prog_11_method_57_code 39 = .ok (.iaload, 1) := by decide +kernel
theorem d_M_tripped_40 : decode prog_11_method_57_code 40 = .ok (.iconst 1, 1) := by decide +kernel
theorem d_M_tripped_41 : decode prog_11_method_57_code 41 = .ok (.iload_n 2, 1) := by decide +kernel
theorem d_M_tripped_42 : decode prog_11_method_57_code 42 = .ok (.ishl, 1) := by decide +kernel
theorem d_M_tripped_43 : decode prog_11_method_57_code 43 = .ok (.ior, 1) := by decide +kernel
theorem d_M_tripped_44 : decode prog_11_method_57_code 44 = .ok (.iastore, 1) := by decide +kernel
theorem d_M_tripped_45 : decode prog_11_method_57_code 45 = .ok (.iload_n 1, 1) := by decide +kernel
theorem d_M_tripped_46 : decode prog_11_method_57_code 46 = .ok (.aload_n 0, 1) := by decide +kernel
theorem d_M_tripped_47 : decode prog_11_method_57_code 47 = .ok (.invokevirtual 220, 3) := by decide +kernel
theorem d_M_tripped_50 : decode prog_11_method_57_code 50 = .ok (.ifCond .eq 9, 3) := by decide +kernel
theorem d_M_tripped_53 : decode prog_11_method_57_code 53 = .ok (.iconst 1, 1) := by decide +kernel
theorem d_M_tripped_54 : decode prog_11_method_57_code 54 = .ok (.iload_n 2, 1) := by decide +kernel
theorem d_M_tripped_55 : decode prog_11_method_57_code 55 = .ok (.ishl, 1) := by decide +kernel
theorem d_M_tripped_56 : decode prog_11_method_57_code 56 = .ok (.goto 4, 3) := by decide +kernel
theorem d_M_tripped_59 : decode prog_11_method_57_code 59 = .ok (.iconst 0, 1) := by decide +kernel
theorem d_M_tripped_60 : decode prog_11_method_57_code 60 = .ok (.ior, 1) := by decide +kernel
theorem d_M_tripped_61 : decode prog_11_method_57_code 61 = .ok (.istore_n 1, 1) := by decide +kernel
theorem d_M_tripped_62 : decode prog_11_method_57_code 62 = .ok (.iinc 2 1, 3) := by decide +kernel
theorem d_M_tripped_65 : decode prog_11_method_57_code 65 = .ok (.goto (-44), 3) := by decide +kernel
theorem d_M_tripped_68 : decode prog_11_method_57_code 68 = .ok (.iload_n 1, 1) := by decide +kernel
theorem d_M_tripped_69 : decode prog_11_method_57_code 69 = .ok (.ireturn, 1) := by decide +kernel
set_option maxHeartbeats 4000000 in
set_option maxRecDepth 20000 in
theorem c_M_tripped (s0 : MS) (Q : Int → MS → Prop) (h : wp_M_tripped s0 Q) : MT dscM ⟨"BellSchoolModel", "tripped", "()I"⟩ prog_11_method_57_code 3 (some .int) 6 (fun ad => [.ref (ad 0)]) s0 (po_I dscM Q) := by
  refine met_of (by decide) (fun _ => Nat.le_of_ble_eq_true rfl) (fun X E hR => ?_)
  replace E : EV dscM X prog_11_method_57_code "BellSchoolModel" 3 6 := E
  show VV dscM X 0 [(0, .ref (adX X 0))] [] s0
  unfold wp_M_tripped at h
  refine v_aloadn E d_M_tripped_0 rfl 0 rfl ?_
  refine v_callVV E md_M_copyNow (c_M_copyNow s0 _ h) dM_0 rfl ⟨by decide, by decide⟩ mw642 d_M_tripped_1 (fun _ => rfl) (st := []) rfl (Nat.le_of_ble_eq_true rfl) (fun s1 h => ?_)
  refine v_aloadn E d_M_tripped_4 rfl 0 rfl ?_
  refine v_callVI E md_M_isSo (c_M_isSo s1 _ h) dM_0 rfl ⟨by decide, by decide⟩ mw688 d_M_tripped_5 (fun _ => rfl) (st := []) rfl (Nat.le_of_ble_eq_true rfl) (fun r2 s2 hr2 h => ?_)
  obtain ⟨hz2, h⟩ := h
  refine v_if_eq E 17 d_M_tripped_8 (by decide) hr2 (fun c1 => ?_) (fun c1 => ?_)
  · replace h := h.1 c1
    refine v_iconst E d_M_tripped_17 ?_
    refine v_istoren E d_M_tripped_18 rfl (by decide) (L' := [(1, .int (iI 0)), (0, .ref (adX X 0))]) rfl ?_
    refine v_iconst E d_M_tripped_19 ?_
    refine v_istoren E d_M_tripped_20 rfl (by decide) (L' := [(2, .int (iI 0)), (1, .int (iI 0)), (0, .ref (adX X 0))]) rfl ?_
    refine v_sub [2, 1, 0] (L' := [(0, .ref (adX X 0)), (1, .int (iI 0)), (2, .int (iI 0))]) rfl ?_
    obtain ⟨I1, μ1, h01, h⟩ := h
    refine v_loop2 (fun (x1 : Int) (x2 : Int) => [(0, .ref (adX X 0)), (1, .int (iI x1)), (2, .int (iI x2))]) I1 μ1 (fun x1 x2 s3 hI1 ih1 => ?_) 0 0 s2 h01
    replace h := h x1 x2 s3 hI1
    refine v_iloadn E d_M_tripped_21 rfl 2 rfl ?_
    refine v_aloadn E d_M_tripped_22 rfl 0 rfl ?_
    refine v_getI E cf9 dM_0 12 (by decide) rfl mw554 d_M_tripped_23 rfl ?_
    obtain ⟨q1, h⟩ := h
    refine v_wt (fun wt1 => ?_)
    refine v_icmp_ge E 68 d_M_tripped_26 (by decide) q1 (wt1 0 12) (fun c2 => ?_) (fun c2 => ?_)
    · replace h := h.1 c2
      refine v_iloadn E d_M_tripped_68 rfl 1 rfl ?_
      obtain ⟨q2, h⟩ := h
      exact v_iret E hR rfl q2 h d_M_tripped_69
    · replace h := h.2 c2
      refine v_aloadn E d_M_tripped_29 rfl 0 rfl ?_
      refine v_callVV E md_M_copyNow (c_M_copyNow s3 _ h) dM_0 rfl ⟨by decide, by decide⟩ mw642 d_M_tripped_30 (fun _ => rfl) (st := []) rfl (Nat.le_of_ble_eq_true rfl) (fun s4 h => ?_)
      refine v_aloadn E d_M_tripped_33 rfl 0 rfl ?_
      refine v_getA E cf9 dM_0 20 (by decide) rfl mw600 d_M_tripped_34 rfl ?_
      refine v_iconst E d_M_tripped_37 ?_
      refine v_dup2 E d_M_tripped_38 rfl rfl ?_
      refine v_iald E dM_14 (by decide) (by decide) (by decide) d_M_tripped_39 ?_
      refine v_iconst E d_M_tripped_40 ?_
      refine v_iloadn E d_M_tripped_41 rfl 2 rfl ?_
      refine v_ishl E d_M_tripped_42 ?_
      refine v_ior E d_M_tripped_43 ?_
      refine v_iast E dM_14 (by decide) (by decide) (by decide) (Rng_of _) d_M_tripped_44 ?_
      refine v_nameS (fun s5 hs5 => ?_)
      replace h := h s5 hs5
      refine v_iloadn E d_M_tripped_45 rfl 1 rfl ?_
      refine v_aloadn E d_M_tripped_46 rfl 0 rfl ?_
      refine v_callVI E md_M_isSo (c_M_isSo s5 _ h) dM_0 rfl ⟨by decide, by decide⟩ mw688 d_M_tripped_47 (fun _ => rfl) (st := [.int (iI x1)]) rfl (Nat.le_of_ble_eq_true rfl) (fun r4 s6 hr4 h => ?_)
      obtain ⟨hz4, h⟩ := h
      refine v_if_eq E 59 d_M_tripped_50 (by decide) hr4 (fun c3 => ?_) (fun c3 => ?_)
      · replace h := h.1 c3
        refine v_iconst E d_M_tripped_59 ?_
        refine v_ior E d_M_tripped_60 ?_
        refine v_nameI (fun x3 hx3 => ?_)
        replace h := h x3 hx3
        refine v_istoren E d_M_tripped_61 rfl (by decide) (L' := [(1, .int (iI x3)), (0, .ref (adX X 0)), (2, .int (iI x2))]) rfl ?_
        refine v_iincN E d_M_tripped_62 2 rfl (by decide) (fun y => [(2, .int (iI y)), (1, .int (iI x3)), (0, .ref (adX X 0))]) (fun _ => rfl) (fun x4 hx4 => ?_)
        replace h := h x4 hx4
        refine v_goto E 21 d_M_tripped_65 (by decide) ?_
        obtain ⟨hb, hm⟩ := h
        exact v_sub [2, 1, 0] rfl (ih1 x3 x4 s6 hb hm)
      · replace h := h.2 c3
        refine v_iconst E d_M_tripped_53 ?_
        refine v_iloadn E d_M_tripped_54 rfl 2 rfl ?_
        refine v_ishl E d_M_tripped_55 ?_
        refine v_goto E 60 d_M_tripped_56 (by decide) ?_
        refine v_ior E d_M_tripped_60 ?_
        refine v_nameI (fun x5 hx5 => ?_)
        replace h := h x5 hx5
        refine v_istoren E d_M_tripped_61 rfl (by decide) (L' := [(1, .int (iI x5)), (0, .ref (adX X 0)), (2, .int (iI x2))]) rfl ?_
        refine v_iincN E d_M_tripped_62 2 rfl (by decide) (fun y => [(2, .int (iI y)), (1, .int (iI x5)), (0, .ref (adX X 0))]) (fun _ => rfl) (fun x6 hx6 => ?_)
        replace h := h x6 hx6
        refine v_goto E 21 d_M_tripped_65 (by decide) ?_
        obtain ⟨hb, hm⟩ := h
        exact v_sub [2, 1, 0] rfl (ih1 x5 x6 s6 hb hm)
  · replace h := h.2 c1
    refine v_sipush E d_M_tripped_11 rfl ?_
    refine v_goto E 18 d_M_tripped_14 (by decide) ?_
    refine v_istoren E d_M_tripped_18 rfl (by decide) (L' := [(1, .int (iI 128)), (0, .ref (adX X 0))]) rfl ?_
    refine v_iconst E d_M_tripped_19 ?_
    refine v_istoren E d_M_tripped_20 rfl (by decide) (L' := [(2, .int (iI 0)), (1, .int (iI 128)), (0, .ref (adX X 0))]) rfl ?_
    refine v_sub [2, 1, 0] (L' := [(0, .ref (adX X 0)), (1, .int (iI 128)), (2, .int (iI 0))]) rfl ?_
    obtain ⟨I2, μ2, h02, h⟩ := h
    refine v_loop2 (fun (x7 : Int) (x8 : Int) => [(0, .ref (adX X 0)), (1, .int (iI x7)), (2, .int (iI x8))]) I2 μ2 (fun x7 x8 s7 hI2 ih2 => ?_) 128 0 s2 h02
    replace h := h x7 x8 s7 hI2
    refine v_iloadn E d_M_tripped_21 rfl 2 rfl ?_
    refine v_aloadn E d_M_tripped_22 rfl 0 rfl ?_
    refine v_getI E cf9 dM_0 12 (by decide) rfl mw554 d_M_tripped_23 rfl ?_
    obtain ⟨q3, h⟩ := h
    refine v_wt (fun wt2 => ?_)
    refine v_icmp_ge E 68 d_M_tripped_26 (by decide) q3 (wt2 0 12) (fun c4 => ?_) (fun c4 => ?_)
    · replace h := h.1 c4
      refine v_iloadn E d_M_tripped_68 rfl 1 rfl ?_
      obtain ⟨q4, h⟩ := h
      exact v_iret E hR rfl q4 h d_M_tripped_69
    · replace h := h.2 c4
      refine v_aloadn E d_M_tripped_29 rfl 0 rfl ?_
      refine v_callVV E md_M_copyNow (c_M_copyNow s7 _ h) dM_0 rfl ⟨by decide, by decide⟩ mw642 d_M_tripped_30 (fun _ => rfl) (st := []) rfl (Nat.le_of_ble_eq_true rfl) (fun s8 h => ?_)
      refine v_aloadn E d_M_tripped_33 rfl 0 rfl ?_
      refine v_getA E cf9 dM_0 20 (by decide) rfl mw600 d_M_tripped_34 rfl ?_
      refine v_iconst E d_M_tripped_37 ?_
      refine v_dup2 E d_M_tripped_38 rfl rfl ?_
      refine v_iald E dM_14 (by decide) (by decide) (by decide) d_M_tripped_39 ?_
      refine v_iconst E d_M_tripped_40 ?_
      refine v_iloadn E d_M_tripped_41 rfl 2 rfl ?_
      refine v_ishl E d_M_tripped_42 ?_
      refine v_ior E d_M_tripped_43 ?_
      refine v_iast E dM_14 (by decide) (by decide) (by decide) (Rng_of _) d_M_tripped_44 ?_
      refine v_nameS (fun s9 hs9 => ?_)
      replace h := h s9 hs9
      refine v_iloadn E d_M_tripped_45 rfl 1 rfl ?_
      refine v_aloadn E d_M_tripped_46 rfl 0 rfl ?_
      refine v_callVI E md_M_isSo (c_M_isSo s9 _ h) dM_0 rfl ⟨by decide, by decide⟩ mw688 d_M_tripped_47 (fun _ => rfl) (st := [.int (iI x7)]) rfl (Nat.le_of_ble_eq_true rfl) (fun r6 s10 hr6 h => ?_)
      obtain ⟨hz6, h⟩ := h
      refine v_if_eq E 59 d_M_tripped_50 (by decide) hr6 (fun c5 => ?_) (fun c5 => ?_)
      · replace h := h.1 c5
        refine v_iconst E d_M_tripped_59 ?_
        refine v_ior E d_M_tripped_60 ?_
        refine v_nameI (fun x9 hx9 => ?_)
        replace h := h x9 hx9
        refine v_istoren E d_M_tripped_61 rfl (by decide) (L' := [(1, .int (iI x9)), (0, .ref (adX X 0)), (2, .int (iI x8))]) rfl ?_
        refine v_iincN E d_M_tripped_62 2 rfl (by decide) (fun y => [(2, .int (iI y)), (1, .int (iI x9)), (0, .ref (adX X 0))]) (fun _ => rfl) (fun x10 hx10 => ?_)
        replace h := h x10 hx10
        refine v_goto E 21 d_M_tripped_65 (by decide) ?_
        obtain ⟨hb, hm⟩ := h
        exact v_sub [2, 1, 0] rfl (ih2 x9 x10 s10 hb hm)
      · replace h := h.2 c5
        refine v_iconst E d_M_tripped_53 ?_
        refine v_iloadn E d_M_tripped_54 rfl 2 rfl ?_
        refine v_ishl E d_M_tripped_55 ?_
        refine v_goto E 60 d_M_tripped_56 (by decide) ?_
        refine v_ior E d_M_tripped_60 ?_
        refine v_nameI (fun x11 hx11 => ?_)
        replace h := h x11 hx11
        refine v_istoren E d_M_tripped_61 rfl (by decide) (L' := [(1, .int (iI x11)), (0, .ref (adX X 0)), (2, .int (iI x8))]) rfl ?_
        refine v_iincN E d_M_tripped_62 2 rfl (by decide) (fun y => [(2, .int (iI y)), (1, .int (iI x11)), (0, .ref (adX X 0))]) (fun _ => rfl) (fun x12 hx12 => ?_)
        replace h := h x12 hx12
        refine v_goto E 21 d_M_tripped_65 (by decide) ?_
        obtain ⟨hb, hm⟩ := h
        exact v_sub [2, 1, 0] rfl (ih2 x11 x12 s10 hb hm)
theorem d_M_common_0 : decode prog_11_method_58_code 0 = .ok (.lload_n 0, 1) := by decide +kernel
theorem d_M_common_1 : decode prog_11_method_58_code 1 = .ok (.lstore 4, 2) := by decide +kernel
theorem d_M_common_3 : decode prog_11_method_58_code 3 = .ok (.lload_n 2, 1) := by decide +kernel
theorem d_M_common_4 : decode prog_11_method_58_code 4 = .ok (.lstore 6, 2) := by decide +kernel
theorem d_M_common_6 : decode prog_11_method_58_code 6 = .ok (.lload 6, 2) := by decide +kernel
theorem d_M_common_8 : decode prog_11_method_58_code 8 = .ok (.lconst 0, 1) := by decide +kernel
theorem d_M_common_9 : decode prog_11_method_58_code 9 = .ok (.lcmp, 1) := by decide +kernel
theorem d_M_common_10 : decode prog_11_method_58_code 10 = .ok (.ifCond .eq 21, 3) := by decide +kernel
theorem d_M_common_13 : decode prog_11_method_58_code 13 = .ok (.lload 4, 2) := by decide +kernel
theorem d_M_common_15 : decode prog_11_method_58_code 15 = .ok (.lload 6, 2) := by decide +kernel
theorem d_M_common_17 : decode prog_11_method_58_code 17 = .ok (.lrem, 1) := by decide +kernel
theorem d_M_common_18 : decode prog_11_method_58_code 18 = .ok (.lstore 8, 2) := by decide +kernel
theorem d_M_common_20 : decode prog_11_method_58_code 20 = .ok (.lload 6, 2) := by decide +kernel
theorem d_M_common_22 : decode prog_11_method_58_code 22 = .ok (.lstore 4, 2) := by decide +kernel
theorem d_M_common_24 : decode prog_11_method_58_code 24 = .ok (.lload 8, 2) := by decide +kernel
theorem d_M_common_26 : decode prog_11_method_58_code 26 = .ok (.lstore 6, 2) := by decide +kernel
theorem d_M_common_28 : decode prog_11_method_58_code 28 = .ok (.goto (-22), 3) := by decide +kernel
theorem d_M_common_31 : decode prog_11_method_58_code 31 = .ok (.lload 4, 2) := by decide +kernel
theorem d_M_common_33 : decode prog_11_method_58_code 33 = .ok (.lreturn, 1) := by decide +kernel
set_option maxHeartbeats 4000000 in
set_option maxRecDepth 20000 in
theorem c_M_common (dsc : List CD) (p1 : Int64) (p2 : Int64) (s0 : MS) (Q : Int64 → Prop) (h : wp_M_common p1 p2 Q) : MT dsc ⟨"BellSchoolModel", "common", "(JJ)J"⟩ prog_11_method_58_code 10 (some .long) 0 (fun ad => [.long p1, .long p2]) s0 (po_L dsc (fun r z => z = s0 ∧ Q r)) := by
  refine met_of (by decide) (fun _ => Nat.le_of_ble_eq_true rfl) (fun X E hR => ?_)
  replace E : EV dsc X prog_11_method_58_code "BellSchoolModel" 10 0 := E
  show VV dsc X 0 [(0, .long p1), (2, .long p2)] [] s0
  unfold wp_M_common at h
  refine v_lloadn E d_M_common_0 rfl 0 rfl ?_
  refine v_lstore E d_M_common_1 (by decide) (L' := [(4, .long p1), (0, .long p1), (2, .long p2)]) rfl ?_
  refine v_lloadn E d_M_common_3 rfl 2 rfl ?_
  refine v_lstore E d_M_common_4 (by decide) (L' := [(6, .long p2), (4, .long p1), (0, .long p1), (2, .long p2)]) rfl ?_
  refine v_sub [1, 0] (L' := [(4, .long p1), (6, .long p2)]) rfl ?_
  obtain ⟨I1, μ1, h01, h⟩ := h
  refine v_ploop2 s0 (fun (y1 : Int64) (y2 : Int64) => [(4, .long y1), (6, .long y2)]) I1 μ1 (fun y1 y2 hI1 ih1 => ?_) p1 p2 h01
  replace h := h y1 y2  hI1
  refine v_lload E d_M_common_6 1 rfl ?_
  refine v_lconst E (0 : Int64) rfl d_M_common_8 ?_
  refine v_lcmp_eq E 31 d_M_common_9 d_M_common_10 (by decide) (fun c1 => ?_) (fun c1 => ?_)
  · replace h := h.1 c1
    refine v_lload E d_M_common_31 0 rfl ?_
    exact v_lret E hR ⟨rfl, h⟩ d_M_common_33
  · replace h := h.2 c1
    refine v_lload E d_M_common_13 0 rfl ?_
    refine v_lload E d_M_common_15 1 rfl ?_
    refine v_lrem E d_M_common_17 c1 ?_
    refine v_nameL (fun y3 hy3 => ?_)
    replace h := h y3 hy3
    refine v_lstore E d_M_common_18 (by decide) (L' := [(8, .long y3), (4, .long y1), (6, .long y2)]) rfl ?_
    refine v_lload E d_M_common_20 2 rfl ?_
    refine v_lstore E d_M_common_22 (by decide) (L' := [(4, .long y2), (8, .long y3), (6, .long y2)]) rfl ?_
    refine v_lload E d_M_common_24 1 rfl ?_
    refine v_lstore E d_M_common_26 (by decide) (L' := [(6, .long y3), (4, .long y2), (8, .long y3)]) rfl ?_
    refine v_goto E 6 d_M_common_28 (by decide) ?_
    obtain ⟨hb, hm⟩ := h
    exact v_sub [1, 0] rfl (ih1 y2 y3 hb hm)
theorem d_M_spreads_0 : decode prog_11_method_59_code 0 = .ok (.iconst 0, 1) := by decide +kernel
theorem d_M_spreads_1 : decode prog_11_method_59_code 1 = .ok (.istore_n 3, 1) := by decide +kernel
theorem d_M_spreads_2 : decode prog_11_method_59_code 2 = .ok (.iload_n 3, 1) := by decide +kernel
theorem d_M_spreads_3 : decode prog_11_method_59_code 3 = .ok (.aload_n 0, 1) := by decide +kernel
theorem d_M_spreads_4 : decode prog_11_method_59_code 4 = .ok (.getfield 148, 3) := by decide +kernel
theorem d_M_spreads_7 : decode prog_11_method_59_code 7 = .ok (.if_icmp .ge 16, 3) := by decide +kernel
theorem d_M_spreads_10 : decode prog_11_method_59_code 10 = .ok (.aload_n 0, 1) := by decide +kernel
theorem d_M_spreads_11 : decode prog_11_method_59_code 11 = .ok (.getfield 71, 3) := by decide +kernel
theorem d_M_spreads_14 : decode prog_11_method_59_code 14 = .ok (.iload_n 3, 1) := by decide +kernel
theorem d_M_spreads_15 : decode prog_11_method_59_code 15 = .ok (.lconst 0, 1) := by decide +kernel
theorem d_M_spreads_16 : decode prog_11_method_59_code 16 = .ok (.lastore, 1) := by decide +kernel
theorem d_M_spreads_17 : decode prog_11_method_59_code 17 = .ok (.iinc 3 1, 3) := by decide +kernel
theorem d_M_spreads_20 : decode prog_11_method_59_code 20 = .ok (.goto (-18), 3) := by decide +kernel
theorem d_M_spreads_23 : decode prog_11_method_59_code 23 = .ok (.iconst 0, 1) := by decide +kernel
theorem d_M_spreads_24 : decode prog_11_method_59_code 24 = .ok (.istore_n 3, 1) := by decide +kernel
theorem d_M_spreads_25 : decode prog_11_method_59_code 25 = .ok (.iload_n 3, 1) := by decide +kernel
theorem d_M_spreads_26 : decode prog_11_method_59_code 26 = .ok (.aload_n 0, 1) := by decide +kernel
theorem d_M_spreads_27 : decode prog_11_method_59_code 27 = .ok (.getfield 148, 3) := by decide +kernel
theorem d_M_spreads_30 : decode prog_11_method_59_code 30 = .ok (.if_icmp .ge 194, 3) := by decide +kernel
theorem d_M_spreads_33 : decode prog_11_method_59_code 33 = .ok (.iconst 0, 1) := by decide +kernel
theorem d_M_spreads_34 : decode prog_11_method_59_code 34 = .ok (.istore 4, 2) := by decide +kernel
theorem d_M_spreads_36 : decode prog_11_method_59_code 36 = .ok (.iload 4, 2) := by decide +kernel
theorem d_M_spreads_38 : decode prog_11_method_59_code 38 = .ok (.iconst 1, 1) := by decide +kernel
theorem d_M_spreads_39 : decode prog_11_method_59_code 39 = .ok (.aload_n 0, 1) := by decide +kernel
theorem d_M_spreads_40 : decode prog_11_method_59_code 40 = .ok (.getfield 148, 3) := by decide +kernel
theorem d_M_spreads_43 : decode prog_11_method_59_code 43 = .ok (.ishl, 1) := by decide +kernel
theorem d_M_spreads_44 : decode prog_11_method_59_code 44 = .ok (.if_icmp .ge 174, 3) := by decide +kernel
theorem d_M_spreads_47 : decode prog_11_method_59_code 47 = .ok (.aload_n 0, 1) := by decide +kernel
theorem d_M_spreads_48 : decode prog_11_method_59_code 48 = .ok (.getfield 67, 3) := by decide +kernel
theorem d_M_spreads_51 : decode prog_11_method_59_code 51 = .ok (.iload_n 3, 1) := by decide +kernel
theorem d_M_spreads_52 : decode prog_11_method_59_code 52 = .ok (.laload, 1) := by decide +kernel
theorem d_M_spreads_53 : decode prog_11_method_59_code 53 = .ok (.lstore 5, 2) := by decide +kernel
theorem d_M_spreads_55 : decode prog_11_method_59_code 55 = .ok (.iconst 0, 1) := by decide +kernel
theorem d_M_spreads_56 : decode prog_11_method_59_code 56 = .ok (.istore 7, 2) := by decide +kernel
theorem d_M_spreads_58 : decode prog_11_method_59_code 58 = .ok (.iload 7, 2) := by decide +kernel
theorem d_M_spreads_60 : decode prog_11_method_59_code 60 = .ok (.aload_n 0, 1) := by decide +kernel
theorem d_M_spreads_61 : decode prog_11_method_59_code 61 = .ok (.getfield 148, 3) := by decide +kernel
theorem d_M_spreads_64 : decode prog_11_method_59_code 64 = .ok (.if_icmp .ge 65, 3) := by decide +kernel
theorem d_M_spreads_67 : decode prog_11_method_59_code 67 = .ok (.iload 4, 2) := by decide +kernel
theorem d_M_spreads_69 : decode prog_11_method_59_code 69 = .ok (.iload 7, 2) := by decide +kernel
theorem d_M_spreads_71 : decode prog_11_method_59_code 71 = .ok (.invokestatic 167, 3) := by decide +kernel
theorem d_M_spreads_74 : decode prog_11_method_59_code 74 = .ok (.istore 8, 2) := by decide +kernel
theorem d_M_spreads_76 : decode prog_11_method_59_code 76 = .ok (.lload 5, 2) := by decide +kernel
theorem d_M_spreads_78 : decode prog_11_method_59_code 78 = .ok (.aload_n 0, 1) := by decide +kernel
theorem d_M_spreads_79 : decode prog_11_method_59_code 79 = .ok (.getfield 46, 3) := by decide +kernel
theorem d_M_spreads_82 : decode prog_11_method_59_code 82 = .ok (.iconst 3, 1) := by decide +kernel
theorem d_M_spreads_83 : decode prog_11_method_59_code 83 = .ok (.iaload, 1) := by decide +kernel
theorem d_M_spreads_84 : decode prog_11_method_59_code 84 = .ok (.iload 7, 2) := by decide +kernel
theorem d_M_spreads_86 : decode prog_11_method_59_code 86 = .ok (.invokestatic 167, 3) := by decide +kernel
theorem d_M_spreads_89 : decode prog_11_method_59_code 89 = .ok (.ifCond .eq 16, 3) := by decide +kernel
theorem d_M_spreads_92 : decode prog_11_method_59_code 92 = .ok (.iload 8, 2) := by decide +kernel
theorem d_M_spreads_94 : decode prog_11_method_59_code 94 = .ok (.ifCond .eq 7, 3) := by decide +kernel
theorem d_M_spreads_97 : decode prog_11_method_59_code 97 = .ok (.lconst 0, 1) := by decide +kernel
theorem d_M_spreads_98 : decode prog_11_method_59_code 98 = .ok (.goto 22, 3) := by decide +kernel
theorem d_M_spreads_101 : decode prog_11_method_59_code 101 = .ok (.lconst 1, 1) := by decide +kernel
theorem d_M_spreads_102 : decode prog_11_method_59_code 102 = .ok (.goto 18, 3) := by decide +kernel
theorem d_M_spreads_105 : decode prog_11_method_59_code 105 = .ok (.iload 8, 2) := by decide +kernel
theorem d_M_spreads_107 : decode prog_11_method_59_code 107 = .ok (.ifCond .eq 8, 3) := by decide +kernel
theorem d_M_spreads_110 : decode prog_11_method_59_code 110 = .ok (.iload_n 2, 1) := by decide +kernel
theorem d_M_spreads_111 : decode prog_11_method_59_code 111 = .ok (.i2l, 1) := by decide +kernel
theorem d_M_spreads_112 : decode prog_11_method_59_code 112 = .ok (.goto 8, 3) := by decide +kernel
theorem d_M_spreads_115 : decode prog_11_method_59_code 115 = .ok (.bipush 10, 2) := by decide +kernel
theorem d_M_spreads_117 : decode prog_11_method_59_code 117 = .ok (.iload_n 2, 1) := by decide +kernel
theorem d_M_spreads_118 : decode prog_11_method_59_code 118 = .ok (.isub, 1) := by decide +kernel
theorem d_M_spreads_119 : decode prog_11_method_59_code 119 = .ok (.i2l, 1) := by decide +kernel
theorem d_M_spreads_120 : decode prog_11_method_59_code 120 = .ok (.lmul, 1) := by decide +kernel
theorem d_M_spreads_121 : decode prog_11_method_59_code 121 = .ok (.lstore 5, 2) := by decide +kernel
theorem d_M_spreads_123 : decode prog_11_method_59_code 123 = .ok (.iinc 7 1, 3) := by decide +kernel
theorem d_M_spreads_126 : decode prog_11_method_59_code 126 = .ok (.goto (-68), 3) := by decide +kernel
theorem d_M_spreads_129 : decode prog_11_method_59_code 129 = .ok (.lload 5, 2) := by decide +kernel
theorem d_M_spreads_131 : decode prog_11_method_59_code 131 = .ok (.lconst 0, 1) := by decide +kernel
theorem d_M_spreads_132 : decode prog_11_method_59_code 132 = .ok (.lcmp, 1) := by decide +kernel
theorem d_M_spreads_133 : decode prog_11_method_59_code 133 = .ok (.ifCond .le 79, 3) := by decide +kernel
theorem d_M_spreads_136 : decode prog_11_method_59_code 136 = .ok (.aload_n 0, 1) := by decide +kernel
theorem d_M_spreads_137 : decode prog_11_method_59_code 137 = .ok (.invokevirtual 200, 3) := by decide +kernel
theorem d_M_spreads_140 : decode prog_11_method_59_code 140 = .ok (.aload_n 0, 1) := by decide +kernel
theorem d_M_spreads_141 : decode prog_11_method_59_code 141 = .ok (.getfield 49, 3) := by decide +kernel
theorem d_M_spreads_144 : decode prog_11_method_59_code 144 = .ok (.iconst 1, 1) := by decide +kernel
theorem d_M_spreads_145 : decode prog_11_method_59_code 145 = .ok (.dup2, 1) := by decide +kernel
theorem d_M_spreads_146 : decode prog_11_method_59_code 146 = .ok (.iaload, 1) := by decide +kernel
theorem d_M_spreads_147 : decode prog_11_method_59_code 147 = .ok (.iload_n 1, 1) := by decide +kernel
theorem d_M_spreads_148 : decode prog_11_method_59_code 148 = .ok (.iadd, 1) := by decide +kernel
theorem d_M_spreads_149 : decode prog_11_method_59_code 149 = .ok (.iastore, 1) := by decide +kernel
theorem d_M_spreads_150 : decode prog_11_method_59_code 150 = .ok (.aload_n 0, 1) := by decide +kernel
theorem d_M_spreads_151 : decode prog_11_method_59_code 151 = .ok (.getfield 49, 3) := by decide +kernel
theorem d_M_spreads_154 : decode prog_11_method_59_code 154 = .ok (.iconst 0, 1) := by decide +kernel
theorem d_M_spreads_155 : decode prog_11_method_59_code 155 = .ok (.iload_n 3, 1) := by decide +kernel
theorem d_M_spreads_156 : decode prog_11_method_59_code 156 = .ok (.iastore, 1) := by decide +kernel
theorem d_M_spreads_157 : decode prog_11_method_59_code 157 = .ok (.aload_n 0, 1) := by decide +kernel
theorem d_M_spreads_158 : decode prog_11_method_59_code 158 = .ok (.getfield 49, 3) := by decide +kernel
theorem d_M_spreads_161 : decode prog_11_method_59_code 161 = .ok (.iconst 2, 1) := by decide +kernel
theorem d_M_spreads_162 : decode prog_11_method_59_code 162 = .ok (.iload_n 1, 1) := by decide +kernel
theorem d_M_spreads_163 : decode prog_11_method_59_code 163 = .ok (.ifCond .ne 12, 3) := by decide +kernel
theorem d_M_spreads_166 : decode prog_11_method_59_code 166 = .ok (.aload_n 0, 1) := by decide +kernel
theorem d_M_spreads_167 : decode prog_11_method_59_code 167 = .ok (.getfield 46, 3) := by decide +kernel
theorem d_M_spreads_170 : decode prog_11_method_59_code 170 = .ok (.iconst 2, 1) := by decide +kernel
theorem d_M_spreads_171 : decode prog_11_method_59_code 171 = .ok (.iaload, 1) := by decide +kernel
theorem d_M_spreads_172 : decode prog_11_method_59_code 172 = .ok (.goto 4, 3) := by decide +kernel
theorem d_M_spreads_175 : decode prog_11_method_59_code 175 = .ok (.iconst 0, 1) := by decide +kernel
theorem d_M_spreads_176 : decode prog_11_method_59_code 176 = .ok (.iastore, 1) := by decide +kernel
theorem d_M_spreads_177 : decode prog_11_method_59_code 177 = .ok (.aload_n 0, 1) := by decide +kernel
theorem d_M_spreads_178 : decode prog_11_method_59_code 178 = .ok (.aload_n 0, 1) := by decide +kernel
theorem d_M_spreads_179 : decode prog_11_method_59_code 179 = .ok (.getfield 49, 3) := by decide +kernel
theorem d_M_spreads_182 : decode prog_11_method_59_code 182 = .ok (.iload 4, 2) := by decide +kernel
theorem d_M_spreads_184 : decode prog_11_method_59_code 184 = .ok (.invokevirtual 184, 3) := by decide +kernel
theorem d_M_spreads_187 : decode prog_11_method_59_code 187 = .ok (.istore 7, 2) := by decide +kernel
theorem d_M_spreads_189 : decode prog_11_method_59_code 189 = .ok (.aload_n 0, 1) := by decide +kernel
theorem d_M_spreads_190 : decode prog_11_method_59_code 190 = .ok (.getfield 71, 3) := by decide +kernel
theorem d_M_spreads_193 : decode prog_11_method_59_code 193 = .ok (.iload 7, 2) := by decide +kernel
theorem d_M_spreads_195 : decode prog_11_method_59_code 195 = .ok (.bipush (-4), 2) := by decide +kernel
theorem d_M_spreads_197 : decode prog_11_method_59_code 197 = .ok (.if_icmp .ne 7, 3) := by decide +kernel
theorem d_M_spreads_200 : decode prog_11_method_59_code 200 = .ok (.iload_n 3, 1) := by decide +kernel
theorem d_M_spreads_201 : decode prog_11_method_59_code 201 = .ok (.goto 5, 3) := by decide +kernel
theorem d_M_spreads_204 : decode prog_11_method_59_code 204 = .ok (.iload 7, 2) := by decide +kernel
theorem d_M_spreads_206 : decode prog_11_method_59_code 206 = .ok (.dup2, 1) := by decide +kernel
theorem d_M_spreads_207 : decode prog_11_method_59_code 207 = .ok (.laload, 1) := by decide +kernel
theorem d_M_spreads_208 : decode prog_11_method_59_code 208 = .ok (.lload 5, 2) := by decide +kernel
theorem d_M_spreads_210 : decode prog_11_method_59_code 210 = .ok (.ladd, 1) := by decide +kernel
theorem d_M_spreads_211 : decode prog_11_method_59_code 211 = .ok (.lastore, 1) := by decide +kernel
theorem d_M_spreads_212 : decode prog_11_method_59_code 212 = .ok (.iinc 4 1, 3) := by decide +kernel
theorem d_M_spreads_215 : decode prog_11_method_59_code 215 = .ok (.goto (-179), 3) := by decide +kernel
theorem d_M_spreads_218 : decode prog_11_method_59_code 218 = .ok (.iinc 3 1, 3) := by decide +kernel
theorem d_M_spreads_221 : decode prog_11_method_59_code 221 = .ok (.goto (-196), 3) := by decide +kernel
theorem d_M_spreads_224 : decode prog_11_method_59_code 224 = .ok (.iconst 0, 1) := by decide +kernel
theorem d_M_spreads_225 : decode prog_11_method_59_code 225 = .ok (.istore_n 3, 1) := by decide +kernel
theorem d_M_spreads_226 : decode prog_11_method_59_code 226 = .ok (.iload_n 3, 1) := by decide +kernel
theorem d_M_spreads_227 : decode prog_11_method_59_code 227 = .ok (.aload_n 0, 1) := by decide +kernel
theorem d_M_spreads_228 : decode prog_11_method_59_code 228 = .ok (.getfield 148, 3) := by decide +kernel
theorem d_M_spreads_231 : decode prog_11_method_59_code 231 = .ok (.if_icmp .ge 21, 3) := by decide +kernel
theorem d_M_spreads_234 : decode prog_11_method_59_code 234 = .ok (.aload_n 0, 1) := by decide +kernel
theorem d_M_spreads_235 : decode prog_11_method_59_code 235 = .ok (.getfield 67, 3) := by decide +kernel
theorem d_M_spreads_238 : decode prog_11_method_59_code 238 = .ok (.iload_n 3, 1) := by decide +kernel
theorem d_M_spreads_239 : decode prog_11_method_59_code 239 = .ok (.aload_n 0, 1) := by decide +kernel
theorem d_M_spreads_240 : decode prog_11_method_59_code 240 = .ok (.getfield 71, 3) := by decide +kernel
theorem d_M_spreads_243 : decode prog_11_method_59_code 243 = .ok (.iload_n 3, 1) := by decide +kernel
theorem d_M_spreads_244 : decode prog_11_method_59_code 244 = .ok (.laload, 1) := by decide +kernel
theorem d_M_spreads_245 : decode prog_11_method_59_code 245 = .ok (.lastore, 1) := by decide +kernel
theorem d_M_spreads_246 : decode prog_11_method_59_code 246 = .ok (.iinc 3 1, 3) := by decide +kernel
theorem d_M_spreads_249 : decode prog_11_method_59_code 249 = .ok (.goto (-23), 3) := by decide +kernel
theorem d_M_spreads_252 : decode prog_11_method_59_code 252 = .ok (.return_, 1) := by decide +kernel
set_option maxHeartbeats 4000000 in
set_option maxRecDepth 20000 in
theorem c_M_spreads (p1 : Int) (hp1 : Rng p1) (p2 : Int) (hp2 : Rng p2) (s0 : MS) (Q : MS → Prop) (h : wp_M_spreads p1 p2 s0 Q) : MT dscM ⟨"BellSchoolModel", "spreads", "(II)V"⟩ prog_11_method_59_code 9 none 4 (fun ad => [.ref (ad 0), .int (iI p1), .int (iI p2)]) s0 (po_V dscM Q) := by
  refine met_of (by decide) (fun _ => Nat.le_of_ble_eq_true rfl) (fun X E hR => ?_)
  replace E : EV dscM X prog_11_method_59_code "BellSchoolModel" 9 4 := E
  show VV dscM X 0 [(0, .ref (adX X 0)), (1, .int (iI p1)), (2, .int (iI p2))] [] s0
  unfold wp_M_spreads at h
  refine v_iconst E d_M_spreads_0 ?_
  refine v_istoren E d_M_spreads_1 rfl (by decide) (L' := [(3, .int (iI 0)), (0, .ref (adX X 0)), (1, .int (iI p1)), (2, .int (iI p2))]) rfl ?_
  refine v_sub [1, 2, 3, 0] (L' := [(0, .ref (adX X 0)), (1, .int (iI p1)), (2, .int (iI p2)), (3, .int (iI 0))]) rfl ?_
  obtain ⟨I1, μ1, h01, h⟩ := h
  refine v_loop1 (fun (x1 : Int) => [(0, .ref (adX X 0)), (1, .int (iI p1)), (2, .int (iI p2)), (3, .int (iI x1))]) I1 μ1 (fun x1 s1 hI1 ih1 => ?_) 0 s0 h01
  replace h := h x1 s1 hI1
  refine v_iloadn E d_M_spreads_2 rfl 3 rfl ?_
  refine v_aloadn E d_M_spreads_3 rfl 0 rfl ?_
  refine v_getI E cf9 dM_0 12 (by decide) rfl mw554 d_M_spreads_4 rfl ?_
  obtain ⟨q1, h⟩ := h
  refine v_wt (fun wt1 => ?_)
  refine v_icmp_ge E 23 d_M_spreads_7 (by decide) q1 (wt1 0 12) (fun c1 => ?_) (fun c1 => ?_)
  · replace h := h.1 c1
    refine v_iconst E d_M_spreads_23 ?_
    refine v_istoren E d_M_spreads_24 rfl (by decide) (L' := [(3, .int (iI 0)), (0, .ref (adX X 0)), (1, .int (iI p1)), (2, .int (iI p2))]) rfl ?_
    refine v_sub [1, 2, 3, 0] (L' := [(0, .ref (adX X 0)), (1, .int (iI p1)), (2, .int (iI p2)), (3, .int (iI 0))]) rfl ?_
    obtain ⟨I2, μ2, h02, h⟩ := h
    refine v_loop1 (fun (x2 : Int) => [(0, .ref (adX X 0)), (1, .int (iI p1)), (2, .int (iI p2)), (3, .int (iI x2))]) I2 μ2 (fun x2 s2 hI2 ih2 => ?_) 0 s1 h02
    replace h := h x2 s2 hI2
    refine v_iloadn E d_M_spreads_25 rfl 3 rfl ?_
    refine v_aloadn E d_M_spreads_26 rfl 0 rfl ?_
    refine v_getI E cf9 dM_0 12 (by decide) rfl mw554 d_M_spreads_27 rfl ?_
    obtain ⟨q2, h⟩ := h
    refine v_wt (fun wt2 => ?_)
    refine v_icmp_ge E 224 d_M_spreads_30 (by decide) q2 (wt2 0 12) (fun c2 => ?_) (fun c2 => ?_)
    · replace h := h.1 c2
      refine v_iconst E d_M_spreads_224 ?_
      refine v_istoren E d_M_spreads_225 rfl (by decide) (L' := [(3, .int (iI 0)), (0, .ref (adX X 0)), (1, .int (iI p1)), (2, .int (iI p2))]) rfl ?_
      refine v_sub [1, 0] (L' := [(0, .ref (adX X 0)), (3, .int (iI 0))]) rfl ?_
      obtain ⟨I3, μ3, h03, h⟩ := h
      refine v_loop1 (fun (x3 : Int) => [(0, .ref (adX X 0)), (3, .int (iI x3))]) I3 μ3 (fun x3 s3 hI3 ih3 => ?_) 0 s2 h03
      replace h := h x3 s3 hI3
      refine v_iloadn E d_M_spreads_226 rfl 1 rfl ?_
      refine v_aloadn E d_M_spreads_227 rfl 0 rfl ?_
      refine v_getI E cf9 dM_0 12 (by decide) rfl mw554 d_M_spreads_228 rfl ?_
      obtain ⟨q3, h⟩ := h
      refine v_wt (fun wt3 => ?_)
      refine v_icmp_ge E 252 d_M_spreads_231 (by decide) q3 (wt3 0 12) (fun c3 => ?_) (fun c3 => ?_)
      · replace h := h.1 c3
        exact v_vret E hR h d_M_spreads_252
      · replace h := h.2 c3
        refine v_aloadn E d_M_spreads_234 rfl 0 rfl ?_
        refine v_getA E cf9 dM_0 29 (by decide) rfl mw697 d_M_spreads_235 rfl ?_
        refine v_iloadn E d_M_spreads_238 rfl 1 rfl ?_
        refine v_aloadn E d_M_spreads_239 rfl 0 rfl ?_
        refine v_getA E cf9 dM_0 30 (by decide) rfl mw698 d_M_spreads_240 rfl ?_
        refine v_iloadn E d_M_spreads_243 rfl 1 rfl ?_
        obtain ⟨q4, h⟩ := h
        refine v_lald E dM_21 (by decide) q4.1 q4.2 d_M_spreads_244 ?_
        refine v_last E dM_20 (by decide) q4.1 q4.2 d_M_spreads_245 ?_
        refine v_nameS (fun s4 hs4 => ?_)
        replace h := h s4 hs4
        refine v_iincN E d_M_spreads_246 1 rfl (by decide) (fun y => [(3, .int (iI y)), (0, .ref (adX X 0))]) (fun _ => rfl) (fun x4 hx4 => ?_)
        replace h := h x4 hx4
        refine v_goto E 226 d_M_spreads_249 (by decide) ?_
        obtain ⟨hb, hm⟩ := h
        exact v_sub [1, 0] rfl (ih3 x4 s4 hb hm)
    · replace h := h.2 c2
      refine v_iconst E d_M_spreads_33 ?_
      refine v_istore E d_M_spreads_34 (by decide) (L' := [(4, .int (iI 0)), (0, .ref (adX X 0)), (1, .int (iI p1)), (2, .int (iI p2)), (3, .int (iI x2))]) rfl ?_
      refine v_sub [1, 2, 3, 4, 0] (L' := [(0, .ref (adX X 0)), (1, .int (iI p1)), (2, .int (iI p2)), (3, .int (iI x2)), (4, .int (iI 0))]) rfl ?_
      obtain ⟨I4, μ4, h04, h⟩ := h
      refine v_loop1 (fun (x5 : Int) => [(0, .ref (adX X 0)), (1, .int (iI p1)), (2, .int (iI p2)), (3, .int (iI x2)), (4, .int (iI x5))]) I4 μ4 (fun x5 s5 hI4 ih4 => ?_) 0 s2 h04
      replace h := h x5 s5 hI4
      refine v_iload E d_M_spreads_36 4 rfl ?_
      refine v_iconst E d_M_spreads_38 ?_
      refine v_aloadn E d_M_spreads_39 rfl 0 rfl ?_
      refine v_getI E cf9 dM_0 12 (by decide) rfl mw554 d_M_spreads_40 rfl ?_
      refine v_ishl E d_M_spreads_43 ?_
      obtain ⟨q5, h⟩ := h
      refine v_icmp_ge E 218 d_M_spreads_44 (by decide) q5 (Rng_of _) (fun c4 => ?_) (fun c4 => ?_)
      · replace h := h.1 c4
        refine v_iincN E d_M_spreads_218 3 rfl (by decide) (fun y => [(3, .int (iI y)), (0, .ref (adX X 0)), (1, .int (iI p1)), (2, .int (iI p2)), (4, .int (iI x5))]) (fun _ => rfl) (fun x6 hx6 => ?_)
        replace h := h x6 hx6
        refine v_goto E 25 d_M_spreads_221 (by decide) ?_
        obtain ⟨hb, hm⟩ := h
        exact v_sub [1, 2, 3, 0] rfl (ih2 x6 s5 hb hm)
      · replace h := h.2 c4
        refine v_aloadn E d_M_spreads_47 rfl 0 rfl ?_
        refine v_getA E cf9 dM_0 29 (by decide) rfl mw697 d_M_spreads_48 rfl ?_
        refine v_iloadn E d_M_spreads_51 rfl 3 rfl ?_
        obtain ⟨q6, h⟩ := h
        refine v_lald E dM_20 (by decide) q6.1 q6.2 d_M_spreads_52 ?_
        refine v_nameL (fun y1 hy1 => ?_)
        replace h := h y1 hy1
        refine v_lstore E d_M_spreads_53 (by decide) (L' := [(5, .long y1), (0, .ref (adX X 0)), (1, .int (iI p1)), (2, .int (iI p2)), (3, .int (iI x2)), (4, .int (iI x5))]) rfl ?_
        refine v_iconst E d_M_spreads_55 ?_
        refine v_istore E d_M_spreads_56 (by decide) (L' := [(7, .int (iI 0)), (5, .long y1), (0, .ref (adX X 0)), (1, .int (iI p1)), (2, .int (iI p2)), (3, .int (iI x2)), (4, .int (iI x5))]) rfl ?_
        refine v_sub [2, 3, 4, 5, 6, 1, 0] (L' := [(0, .ref (adX X 0)), (1, .int (iI p1)), (2, .int (iI p2)), (3, .int (iI x2)), (4, .int (iI x5)), (5, .long y1), (7, .int (iI 0))]) rfl ?_
        obtain ⟨I5, μ5, h05, h⟩ := h
        refine v_ploop2 s5 (fun (y2 : Int64) (x7 : Int) => [(0, .ref (adX X 0)), (1, .int (iI p1)), (2, .int (iI p2)), (3, .int (iI x2)), (4, .int (iI x5)), (5, .long y2), (7, .int (iI x7))]) I5 μ5 (fun y2 x7 hI5 ih5 => ?_) y1 0 h05
        replace h := h y2 x7  hI5
        refine v_iload E d_M_spreads_58 6 rfl ?_
        refine v_aloadn E d_M_spreads_60 rfl 0 rfl ?_
        refine v_getI E cf9 dM_0 12 (by decide) rfl mw554 d_M_spreads_61 rfl ?_
        obtain ⟨q7, h⟩ := h
        refine v_wt (fun wt4 => ?_)
        refine v_icmp_ge E 129 d_M_spreads_64 (by decide) q7 (wt4 0 12) (fun c5 => ?_) (fun c5 => ?_)
        · replace h := h.1 c5
          refine v_lload E d_M_spreads_129 5 rfl ?_
          refine v_lconst E (0 : Int64) rfl d_M_spreads_131 ?_
          refine v_lcmp_le E 212 d_M_spreads_132 d_M_spreads_133 (by decide) (fun c6 => ?_) (fun c6 => ?_)
          · replace h := h.1 c6
            refine v_iincN E d_M_spreads_212 4 rfl (by decide) (fun y => [(4, .int (iI y)), (0, .ref (adX X 0)), (1, .int (iI p1)), (2, .int (iI p2)), (3, .int (iI x2)), (5, .long y2), (7, .int (iI x7))]) (fun _ => rfl) (fun x8 hx8 => ?_)
            replace h := h x8 hx8
            refine v_goto E 36 d_M_spreads_215 (by decide) ?_
            obtain ⟨hb, hm⟩ := h
            exact v_sub [1, 2, 3, 4, 0] rfl (ih4 x8 s5 hb hm)
          · replace h := h.2 c6
            refine v_aloadn E d_M_spreads_136 rfl 0 rfl ?_
            refine v_callVV E md_M_copyNow (c_M_copyNow s5 _ h) dM_0 rfl ⟨by decide, by decide⟩ mw642 d_M_spreads_137 (fun _ => rfl) (st := []) rfl (Nat.le_of_ble_eq_true rfl) (fun s6 h => ?_)
            refine v_aloadn E d_M_spreads_140 rfl 0 rfl ?_
            refine v_getA E cf9 dM_0 20 (by decide) rfl mw600 d_M_spreads_141 rfl ?_
            refine v_iconst E d_M_spreads_144 ?_
            refine v_dup2 E d_M_spreads_145 rfl rfl ?_
            refine v_iald E dM_14 (by decide) (by decide) (by decide) d_M_spreads_146 ?_
            refine v_iloadn E d_M_spreads_147 rfl 1 rfl ?_
            refine v_iadd E d_M_spreads_148 ?_
            obtain ⟨q8, h⟩ := h
            refine v_iast E dM_14 (by decide) (by decide) (by decide) q8 d_M_spreads_149 ?_
            refine v_nameS (fun s7 hs7 => ?_)
            replace h := h s7 hs7
            refine v_aloadn E d_M_spreads_150 rfl 0 rfl ?_
            refine v_getA E cf9 dM_0 20 (by decide) rfl mw600 d_M_spreads_151 rfl ?_
            refine v_iconst E d_M_spreads_154 ?_
            refine v_iloadn E d_M_spreads_155 rfl 3 rfl ?_
            refine v_iast E dM_14 (by decide) (by decide) (by decide) q2 d_M_spreads_156 ?_
            refine v_nameS (fun s8 hs8 => ?_)
            replace h := h s8 hs8
            refine v_aloadn E d_M_spreads_157 rfl 0 rfl ?_
            refine v_getA E cf9 dM_0 20 (by decide) rfl mw600 d_M_spreads_158 rfl ?_
            refine v_iconst E d_M_spreads_161 ?_
            refine v_iloadn E d_M_spreads_162 rfl 1 rfl ?_
            refine v_if_ne E 175 d_M_spreads_163 (by decide) hp1 (fun c7 => ?_) (fun c7 => ?_)
            · replace h := h.1 c7
              refine v_iconst E d_M_spreads_175 ?_
              refine v_iast E dM_14 (by decide) (by decide) (by decide) (by decide) d_M_spreads_176 ?_
              refine v_nameS (fun s9 hs9 => ?_)
              replace h := h s9 hs9
              refine v_aloadn E d_M_spreads_177 rfl 0 rfl ?_
              refine v_aloadn E d_M_spreads_178 rfl 0 rfl ?_
              refine v_getA E cf9 dM_0 20 (by decide) rfl mw600 d_M_spreads_179 rfl ?_
              refine v_iload E d_M_spreads_182 4 rfl ?_
              refine v_callVI E md_M_latest (c_M_latest 14 dM_14 x5 q5 s9 _ h) dM_0 rfl ⟨by decide, by decide⟩ mw596 d_M_spreads_184 (fun _ => rfl) (st := []) rfl (Nat.le_of_ble_eq_true rfl) (fun r2 s10 hr2 h => ?_)
              refine v_istore E d_M_spreads_187 (by decide) (L' := [(7, .int (iI r2)), (0, .ref (adX X 0)), (1, .int (iI p1)), (2, .int (iI p2)), (3, .int (iI x2)), (4, .int (iI x5)), (5, .long y2)]) rfl ?_
              refine v_aloadn E d_M_spreads_189 rfl 1 rfl ?_
              refine v_getA E cf9 dM_0 30 (by decide) rfl mw698 d_M_spreads_190 rfl ?_
              refine v_iload E d_M_spreads_193 0 rfl ?_
              refine v_bipush E d_M_spreads_195 rfl ?_
              refine v_icmp_ne E 204 d_M_spreads_197 (by decide) hr2 (by decide) (fun c8 => ?_) (fun c8 => ?_)
              · replace h := h.1 c8
                refine v_iload E d_M_spreads_204 0 rfl ?_
                refine v_dup2 E d_M_spreads_206 rfl rfl ?_
                obtain ⟨q9, h⟩ := h
                refine v_lald E dM_21 (by decide) q9.1 q9.2 d_M_spreads_207 ?_
                refine v_lload E d_M_spreads_208 6 rfl ?_
                refine v_ladd E d_M_spreads_210 ?_
                refine v_last E dM_21 (by decide) q9.1 q9.2 d_M_spreads_211 ?_
                refine v_nameS (fun s11 hs11 => ?_)
                replace h := h s11 hs11
                refine v_iincN E d_M_spreads_212 5 rfl (by decide) (fun y => [(4, .int (iI y)), (7, .int (iI r2)), (0, .ref (adX X 0)), (1, .int (iI p1)), (2, .int (iI p2)), (3, .int (iI x2)), (5, .long y2)]) (fun _ => rfl) (fun x9 hx9 => ?_)
                replace h := h x9 hx9
                refine v_goto E 36 d_M_spreads_215 (by decide) ?_
                obtain ⟨hb, hm⟩ := h
                exact v_sub [2, 3, 4, 5, 0] rfl (ih4 x9 s11 hb hm)
              · replace h := h.2 c8
                refine v_iloadn E d_M_spreads_200 rfl 4 rfl ?_
                refine v_goto E 206 d_M_spreads_201 (by decide) ?_
                refine v_dup2 E d_M_spreads_206 rfl rfl ?_
                refine v_lald E dM_21 (by decide) q6.1 q6.2 d_M_spreads_207 ?_
                refine v_lload E d_M_spreads_208 6 rfl ?_
                refine v_ladd E d_M_spreads_210 ?_
                refine v_last E dM_21 (by decide) q6.1 q6.2 d_M_spreads_211 ?_
                refine v_nameS (fun s12 hs12 => ?_)
                replace h := h s12 hs12
                refine v_iincN E d_M_spreads_212 5 rfl (by decide) (fun y => [(4, .int (iI y)), (7, .int (iI r2)), (0, .ref (adX X 0)), (1, .int (iI p1)), (2, .int (iI p2)), (3, .int (iI x2)), (5, .long y2)]) (fun _ => rfl) (fun x10 hx10 => ?_)
                replace h := h x10 hx10
                refine v_goto E 36 d_M_spreads_215 (by decide) ?_
                obtain ⟨hb, hm⟩ := h
                exact v_sub [2, 3, 4, 5, 0] rfl (ih4 x10 s12 hb hm)
            · replace h := h.2 c7
              refine v_aloadn E d_M_spreads_166 rfl 0 rfl ?_
              refine v_getA E cf9 dM_0 19 (by decide) rfl mw556 d_M_spreads_167 rfl ?_
              refine v_iconst E d_M_spreads_170 ?_
              refine v_iald E dM_13 (by decide) (by decide) (by decide) d_M_spreads_171 ?_
              refine v_goto E 176 d_M_spreads_172 (by decide) ?_
              refine v_wt (fun wt5 => ?_)
              refine v_iast E dM_14 (by decide) (by decide) (by decide) (wt5 13 2) d_M_spreads_176 ?_
              refine v_nameS (fun s13 hs13 => ?_)
              replace h := h s13 hs13
              refine v_aloadn E d_M_spreads_177 rfl 0 rfl ?_
              refine v_aloadn E d_M_spreads_178 rfl 0 rfl ?_
              refine v_getA E cf9 dM_0 20 (by decide) rfl mw600 d_M_spreads_179 rfl ?_
              refine v_iload E d_M_spreads_182 4 rfl ?_
              refine v_callVI E md_M_latest (c_M_latest 14 dM_14 x5 q5 s13 _ h) dM_0 rfl ⟨by decide, by decide⟩ mw596 d_M_spreads_184 (fun _ => rfl) (st := []) rfl (Nat.le_of_ble_eq_true rfl) (fun r3 s14 hr3 h => ?_)
              refine v_istore E d_M_spreads_187 (by decide) (L' := [(7, .int (iI r3)), (0, .ref (adX X 0)), (1, .int (iI p1)), (2, .int (iI p2)), (3, .int (iI x2)), (4, .int (iI x5)), (5, .long y2)]) rfl ?_
              refine v_aloadn E d_M_spreads_189 rfl 1 rfl ?_
              refine v_getA E cf9 dM_0 30 (by decide) rfl mw698 d_M_spreads_190 rfl ?_
              refine v_iload E d_M_spreads_193 0 rfl ?_
              refine v_bipush E d_M_spreads_195 rfl ?_
              refine v_icmp_ne E 204 d_M_spreads_197 (by decide) hr3 (by decide) (fun c9 => ?_) (fun c9 => ?_)
              · replace h := h.1 c9
                refine v_iload E d_M_spreads_204 0 rfl ?_
                refine v_dup2 E d_M_spreads_206 rfl rfl ?_
                obtain ⟨q10, h⟩ := h
                refine v_lald E dM_21 (by decide) q10.1 q10.2 d_M_spreads_207 ?_
                refine v_lload E d_M_spreads_208 6 rfl ?_
                refine v_ladd E d_M_spreads_210 ?_
                refine v_last E dM_21 (by decide) q10.1 q10.2 d_M_spreads_211 ?_
                refine v_nameS (fun s15 hs15 => ?_)
                replace h := h s15 hs15
                refine v_iincN E d_M_spreads_212 5 rfl (by decide) (fun y => [(4, .int (iI y)), (7, .int (iI r3)), (0, .ref (adX X 0)), (1, .int (iI p1)), (2, .int (iI p2)), (3, .int (iI x2)), (5, .long y2)]) (fun _ => rfl) (fun x11 hx11 => ?_)
                replace h := h x11 hx11
                refine v_goto E 36 d_M_spreads_215 (by decide) ?_
                obtain ⟨hb, hm⟩ := h
                exact v_sub [2, 3, 4, 5, 0] rfl (ih4 x11 s15 hb hm)
              · replace h := h.2 c9
                refine v_iloadn E d_M_spreads_200 rfl 4 rfl ?_
                refine v_goto E 206 d_M_spreads_201 (by decide) ?_
                refine v_dup2 E d_M_spreads_206 rfl rfl ?_
                refine v_lald E dM_21 (by decide) q6.1 q6.2 d_M_spreads_207 ?_
                refine v_lload E d_M_spreads_208 6 rfl ?_
                refine v_ladd E d_M_spreads_210 ?_
                refine v_last E dM_21 (by decide) q6.1 q6.2 d_M_spreads_211 ?_
                refine v_nameS (fun s16 hs16 => ?_)
                replace h := h s16 hs16
                refine v_iincN E d_M_spreads_212 5 rfl (by decide) (fun y => [(4, .int (iI y)), (7, .int (iI r3)), (0, .ref (adX X 0)), (1, .int (iI p1)), (2, .int (iI p2)), (3, .int (iI x2)), (5, .long y2)]) (fun _ => rfl) (fun x12 hx12 => ?_)
                replace h := h x12 hx12
                refine v_goto E 36 d_M_spreads_215 (by decide) ?_
                obtain ⟨hb, hm⟩ := h
                exact v_sub [2, 3, 4, 5, 0] rfl (ih4 x12 s16 hb hm)
        · replace h := h.2 c5
          refine v_iload E d_M_spreads_67 4 rfl ?_
          refine v_iload E d_M_spreads_69 6 rfl ?_
          refine v_callSIpz E md_M_has (c_M_has dscM x5 q5 x7 q7 s5 _ h) ⟨by decide, by decide⟩ mw578 d_M_spreads_71 (fun _ => rfl) (st := []) rfl (Nat.le_of_ble_eq_true rfl) (fun r4 hr4 hz4 h => ?_)
          refine v_istore E d_M_spreads_74 (by decide) (L' := [(8, .int (iI r4)), (0, .ref (adX X 0)), (1, .int (iI p1)), (2, .int (iI p2)), (3, .int (iI x2)), (4, .int (iI x5)), (5, .long y2), (7, .int (iI x7))]) rfl ?_
          refine v_lload E d_M_spreads_76 6 rfl ?_
          refine v_aloadn E d_M_spreads_78 rfl 1 rfl ?_
          refine v_getA E cf9 dM_0 19 (by decide) rfl mw556 d_M_spreads_79 rfl ?_
          refine v_iconst E d_M_spreads_82 ?_
          refine v_iald E dM_13 (by decide) (by decide) (by decide) d_M_spreads_83 ?_
          refine v_iload E d_M_spreads_84 7 rfl ?_
          refine v_callSIpz E md_M_has (c_M_has dscM (gI s5 13 3) (wt4 13 3) x7 q7 s5 _ h) ⟨by decide, by decide⟩ mw578 d_M_spreads_86 (fun _ => rfl) (st := [.long y2]) rfl (Nat.le_of_ble_eq_true rfl) (fun r5 hr5 hz5 h => ?_)
          refine v_if_eq E 105 d_M_spreads_89 (by decide) hr5 (fun c10 => ?_) (fun c10 => ?_)
          · replace h := h.1 c10
            refine v_iload E d_M_spreads_105 0 rfl ?_
            refine v_if_eq E 115 d_M_spreads_107 (by decide) hr4 (fun c11 => ?_) (fun c11 => ?_)
            · replace h := h.1 c11
              refine v_bipush E d_M_spreads_115 rfl ?_
              refine v_iloadn E d_M_spreads_117 rfl 3 rfl ?_
              refine v_isub E d_M_spreads_118 ?_
              refine v_i2l E d_M_spreads_119 ?_
              refine v_lmul E d_M_spreads_120 ?_
              refine v_nameL (fun y3 hy3 => ?_)
              replace h := h y3 hy3
              refine v_lstore E d_M_spreads_121 (by decide) (L' := [(5, .long y3), (8, .int (iI r4)), (0, .ref (adX X 0)), (1, .int (iI p1)), (2, .int (iI p2)), (3, .int (iI x2)), (4, .int (iI x5)), (7, .int (iI x7))]) rfl ?_
              refine v_iincN E d_M_spreads_123 7 rfl (by decide) (fun y => [(7, .int (iI y)), (5, .long y3), (8, .int (iI r4)), (0, .ref (adX X 0)), (1, .int (iI p1)), (2, .int (iI p2)), (3, .int (iI x2)), (4, .int (iI x5))]) (fun _ => rfl) (fun x13 hx13 => ?_)
              replace h := h x13 hx13
              refine v_goto E 58 d_M_spreads_126 (by decide) ?_
              obtain ⟨hb, hm⟩ := h
              exact v_sub [3, 4, 5, 6, 7, 1, 0] rfl (ih5 y3 x13 hb hm)
            · replace h := h.2 c11
              refine v_iloadn E d_M_spreads_110 rfl 3 rfl ?_
              refine v_i2l E d_M_spreads_111 ?_
              refine v_goto E 120 d_M_spreads_112 (by decide) ?_
              refine v_lmul E d_M_spreads_120 ?_
              refine v_nameL (fun y4 hy4 => ?_)
              replace h := h y4 hy4
              refine v_lstore E d_M_spreads_121 (by decide) (L' := [(5, .long y4), (8, .int (iI r4)), (0, .ref (adX X 0)), (1, .int (iI p1)), (2, .int (iI p2)), (3, .int (iI x2)), (4, .int (iI x5)), (7, .int (iI x7))]) rfl ?_
              refine v_iincN E d_M_spreads_123 7 rfl (by decide) (fun y => [(7, .int (iI y)), (5, .long y4), (8, .int (iI r4)), (0, .ref (adX X 0)), (1, .int (iI p1)), (2, .int (iI p2)), (3, .int (iI x2)), (4, .int (iI x5))]) (fun _ => rfl) (fun x14 hx14 => ?_)
              replace h := h x14 hx14
              refine v_goto E 58 d_M_spreads_126 (by decide) ?_
              obtain ⟨hb, hm⟩ := h
              exact v_sub [3, 4, 5, 6, 7, 1, 0] rfl (ih5 y4 x14 hb hm)
          · replace h := h.2 c10
            refine v_iload E d_M_spreads_92 0 rfl ?_
            refine v_if_eq E 101 d_M_spreads_94 (by decide) hr4 (fun c12 => ?_) (fun c12 => ?_)
            · replace h := h.1 c12
              refine v_lconst E (1 : Int64) rfl d_M_spreads_101 ?_
              refine v_goto E 120 d_M_spreads_102 (by decide) ?_
              refine v_lmul E d_M_spreads_120 ?_
              refine v_nameL (fun y5 hy5 => ?_)
              replace h := h y5 hy5
              refine v_lstore E d_M_spreads_121 (by decide) (L' := [(5, .long y5), (8, .int (iI r4)), (0, .ref (adX X 0)), (1, .int (iI p1)), (2, .int (iI p2)), (3, .int (iI x2)), (4, .int (iI x5)), (7, .int (iI x7))]) rfl ?_
              refine v_iincN E d_M_spreads_123 7 rfl (by decide) (fun y => [(7, .int (iI y)), (5, .long y5), (8, .int (iI r4)), (0, .ref (adX X 0)), (1, .int (iI p1)), (2, .int (iI p2)), (3, .int (iI x2)), (4, .int (iI x5))]) (fun _ => rfl) (fun x15 hx15 => ?_)
              replace h := h x15 hx15
              refine v_goto E 58 d_M_spreads_126 (by decide) ?_
              obtain ⟨hb, hm⟩ := h
              exact v_sub [3, 4, 5, 6, 7, 1, 0] rfl (ih5 y5 x15 hb hm)
            · replace h := h.2 c12
              refine v_lconst E (0 : Int64) rfl d_M_spreads_97 ?_
              refine v_goto E 120 d_M_spreads_98 (by decide) ?_
              refine v_lmul E d_M_spreads_120 ?_
              refine v_nameL (fun y6 hy6 => ?_)
              replace h := h y6 hy6
              refine v_lstore E d_M_spreads_121 (by decide) (L' := [(5, .long y6), (8, .int (iI r4)), (0, .ref (adX X 0)), (1, .int (iI p1)), (2, .int (iI p2)), (3, .int (iI x2)), (4, .int (iI x5)), (7, .int (iI x7))]) rfl ?_
              refine v_iincN E d_M_spreads_123 7 rfl (by decide) (fun y => [(7, .int (iI y)), (5, .long y6), (8, .int (iI r4)), (0, .ref (adX X 0)), (1, .int (iI p1)), (2, .int (iI p2)), (3, .int (iI x2)), (4, .int (iI x5))]) (fun _ => rfl) (fun x16 hx16 => ?_)
              replace h := h x16 hx16
              refine v_goto E 58 d_M_spreads_126 (by decide) ?_
              obtain ⟨hb, hm⟩ := h
              exact v_sub [3, 4, 5, 6, 7, 1, 0] rfl (ih5 y6 x16 hb hm)
  · replace h := h.2 c1
    refine v_aloadn E d_M_spreads_10 rfl 0 rfl ?_
    refine v_getA E cf9 dM_0 30 (by decide) rfl mw698 d_M_spreads_11 rfl ?_
    refine v_iloadn E d_M_spreads_14 rfl 3 rfl ?_
    refine v_lconst E (0 : Int64) rfl d_M_spreads_15 ?_
    obtain ⟨q11, h⟩ := h
    refine v_last E dM_21 (by decide) q11.1 q11.2 d_M_spreads_16 ?_
    refine v_nameS (fun s17 hs17 => ?_)
    replace h := h s17 hs17
    refine v_iincN E d_M_spreads_17 3 rfl (by decide) (fun y => [(3, .int (iI y)), (0, .ref (adX X 0)), (1, .int (iI p1)), (2, .int (iI p2))]) (fun _ => rfl) (fun x17 hx17 => ?_)
    replace h := h x17 hx17
    refine v_goto E 2 d_M_spreads_20 (by decide) ?_
    obtain ⟨hb, hm⟩ := h
    exact v_sub [1, 2, 3, 0] rfl (ih1 x17 s17 hb hm)
theorem d_M_measles_0 : decode prog_11_method_60_code 0 = .ok (.aload_n 0, 1) := by decide +kernel
theorem d_M_measles_1 : decode prog_11_method_60_code 1 = .ok (.iload_n 1, 1) := by decide +kernel
theorem d_M_measles_2 : decode prog_11_method_60_code 2 = .ok (.invokevirtual 187, 3) := by decide +kernel
theorem d_M_measles_5 : decode prog_11_method_60_code 5 = .ok (.ifCond .eq 32, 3) := by decide +kernel
theorem d_M_measles_8 : decode prog_11_method_60_code 8 = .ok (.iload_n 2, 1) := by decide +kernel
theorem d_M_measles_9 : decode prog_11_method_60_code 9 = .ok (.iconst 0, 1) := by decide +kernel
theorem d_M_measles_10 : decode prog_11_method_60_code 10 = .ok (.iconst 2, 1) := by decide +kernel
theorem d_M_measles_11 : decode prog_11_method_60_code 11 = .ok (.invokestatic 105, 3) := by decide +kernel
theorem d_M_measles_14 : decode prog_11_method_60_code 14 = .ok (.ifCond .eq 23, 3) := by decide +kernel
theorem d_M_measles_17 : decode prog_11_method_60_code 17 = .ok (.iload_n 3, 1) := by decide +kernel
theorem d_M_measles_18 : decode prog_11_method_60_code 18 = .ok (.iconst 0, 1) := by decide +kernel
theorem d_M_measles_19 : decode prog_11_method_60_code 19 = .ok (.bipush 10, 2) := by decide +kernel
theorem d_M_measles_21 : decode prog_11_method_60_code 21 = .ok (.invokestatic 105, 3) := by decide +kernel
theorem d_M_measles_24 : decode prog_11_method_60_code 24 = .ok (.ifCond .eq 13, 3) := by decide +kernel
theorem d_M_measles_27 : decode prog_11_method_60_code 27 = .ok (.iload 4, 2) := by decide +kernel
theorem d_M_measles_29 : decode prog_11_method_60_code 29 = .ok (.iconst 0, 1) := by decide +kernel
theorem d_M_measles_30 : decode prog_11_method_60_code 30 = .ok (.iconst 1, 1) := by decide +kernel
theorem d_M_measles_31 : decode prog_11_method_60_code 31 = .ok (.invokestatic 105, 3) := by decide +kernel
theorem d_M_measles_34 : decode prog_11_method_60_code 34 = .ok (.ifCond .ne 7, 3) := by decide +kernel
theorem d_M_measles_37 : decode prog_11_method_60_code 37 = .ok (.ldc2_w 223, 3) := by decide +kernel
theorem d_M_measles_40 : decode prog_11_method_60_code 40 = .ok (.lreturn, 1) := by decide +kernel
theorem d_M_measles_41 : decode prog_11_method_60_code 41 = .ok (.lconst 1, 1) := by decide +kernel
theorem d_M_measles_42 : decode prog_11_method_60_code 42 = .ok (.lstore 5, 2) := by decide +kernel
theorem d_M_measles_44 : decode prog_11_method_60_code 44 = .ok (.iconst 0, 1) := by decide +kernel
theorem d_M_measles_45 : decode prog_11_method_60_code 45 = .ok (.istore 7, 2) := by decide +kernel
theorem d_M_measles_47 : decode prog_11_method_60_code 47 = .ok (.iload 7, 2) := by decide +kernel
theorem d_M_measles_49 : decode prog_11_method_60_code 49 = .ok (.aload_n 0, 1) := by decide +kernel
theorem d_M_measles_50 : decode prog_11_method_60_code 50 = .ok (.getfield 148, 3) := by decide +kernel
theorem d_M_measles_53 : decode prog_11_method_60_code 53 = .ok (.if_icmp .ge 32, 3) := by decide +kernel
theorem d_M_measles_56 : decode prog_11_method_60_code 56 = .ok (.aload_n 0, 1) := by decide +kernel
theorem d_M_measles_57 : decode prog_11_method_60_code 57 = .ok (.getfield 67, 3) := by decide +kernel
theorem d_M_measles_60 : decode prog_11_method_60_code 60 = .ok (.iload 7, 2) := by decide +kernel
theorem d_M_measles_62 : decode prog_11_method_60_code 62 = .ok (.iload 7, 2) := by decide +kernel
theorem d_M_measles_64 : decode prog_11_method_60_code 64 = .ok (.aload_n 0, 1) := by decide +kernel
theorem d_M_measles_65 : decode prog_11_method_60_code 65 = .ok (.getfield 46, 3) := by decide +kernel
theorem d_M_measles_68 : decode prog_11_method_60_code 68 = .ok (.iconst 0, 1) := by decide +kernel
theorem d_M_measles_69 : decode prog_11_method_60_code 69 = .ok (.iaload, 1) := by decide +kernel
theorem d_M_measles_70 : decode prog_11_method_60_code 70 = .ok (.if_icmp .ne 7, 3) := by decide +kernel
theorem d_M_measles_73 : decode prog_11_method_60_code 73 = .ok (.lconst 1, 1) := by decide +kernel
theorem d_M_measles_74 : decode prog_11_method_60_code 74 = .ok (.goto 4, 3) := by decide +kernel
theorem d_M_measles_77 : decode prog_11_method_60_code 77 = .ok (.lconst 0, 1) := by decide +kernel
theorem d_M_measles_78 : decode prog_11_method_60_code 78 = .ok (.lastore, 1) := by decide +kernel
theorem d_M_measles_79 : decode prog_11_method_60_code 79 = .ok (.iinc 7 1, 3) := by decide +kernel
theorem d_M_measles_82 : decode prog_11_method_60_code 82 = .ok (.goto (-35), 3) := by decide +kernel
theorem d_M_measles_85 : decode prog_11_method_60_code 85 = .ok (.iconst 0, 1) := by decide +kernel
theorem d_M_measles_86 : decode prog_11_method_60_code 86 = .ok (.istore 7, 2) := by decide +kernel
theorem d_M_measles_88 : decode prog_11_method_60_code 88 = .ok (.iload 7, 2) := by decide +kernel
theorem d_M_measles_90 : decode prog_11_method_60_code 90 = .ok (.iload_n 2, 1) := by decide +kernel
theorem d_M_measles_91 : decode prog_11_method_60_code 91 = .ok (.if_icmp .ge 60, 3) := by decide +kernel
theorem d_M_measles_94 : decode prog_11_method_60_code 94 = .ok (.aload_n 0, 1) := by decide +kernel
theorem d_M_measles_95 : decode prog_11_method_60_code 95 = .ok (.iload 7, 2) := by decide +kernel
theorem d_M_measles_97 : decode prog_11_method_60_code 97 = .ok (.iload_n 3, 1) := by decide +kernel
theorem d_M_measles_98 : decode prog_11_method_60_code 98 = .ok (.invokevirtual 225, 3) := by decide +kernel
theorem d_M_measles_101 : decode prog_11_method_60_code 101 = .ok (.iconst 0, 1) := by decide +kernel
theorem d_M_measles_102 : decode prog_11_method_60_code 102 = .ok (.istore 8, 2) := by decide +kernel
theorem d_M_measles_104 : decode prog_11_method_60_code 104 = .ok (.iload 8, 2) := by decide +kernel
theorem d_M_measles_106 : decode prog_11_method_60_code 106 = .ok (.aload_n 0, 1) := by decide +kernel
theorem d_M_measles_107 : decode prog_11_method_60_code 107 = .ok (.getfield 148, 3) := by decide +kernel
theorem d_M_measles_110 : decode prog_11_method_60_code 110 = .ok (.if_icmp .ge 35, 3) := by decide +kernel
theorem d_M_measles_113 : decode prog_11_method_60_code 113 = .ok (.lload 5, 2) := by decide +kernel
theorem d_M_measles_115 : decode prog_11_method_60_code 115 = .ok (.aload_n 0, 1) := by decide +kernel
theorem d_M_measles_116 : decode prog_11_method_60_code 116 = .ok (.getfield 46, 3) := by decide +kernel
theorem d_M_measles_119 : decode prog_11_method_60_code 119 = .ok (.iconst 3, 1) := by decide +kernel
theorem d_M_measles_120 : decode prog_11_method_60_code 120 = .ok (.iaload, 1) := by decide +kernel
theorem d_M_measles_121 : decode prog_11_method_60_code 121 = .ok (.iload 8, 2) := by decide +kernel
theorem d_M_measles_123 : decode prog_11_method_60_code 123 = .ok (.invokestatic 167, 3) := by decide +kernel
theorem d_M_measles_126 : decode prog_11_method_60_code 126 = .ok (.ifCond .eq 7, 3) := by decide +kernel
theorem d_M_measles_129 : decode prog_11_method_60_code 129 = .ok (.lconst 1, 1) := by decide +kernel
theorem d_M_measles_130 : decode prog_11_method_60_code 130 = .ok (.goto 6, 3) := by decide +kernel
theorem d_M_measles_133 : decode prog_11_method_60_code 133 = .ok (.ldc2_w 228, 3) := by decide +kernel
theorem d_M_measles_136 : decode prog_11_method_60_code 136 = .ok (.lmul, 1) := by decide +kernel
theorem d_M_measles_137 : decode prog_11_method_60_code 137 = .ok (.lstore 5, 2) := by decide +kernel
theorem d_M_measles_139 : decode prog_11_method_60_code 139 = .ok (.iinc 8 1, 3) := by decide +kernel
theorem d_M_measles_142 : decode prog_11_method_60_code 142 = .ok (.goto (-38), 3) := by decide +kernel
theorem d_M_measles_145 : decode prog_11_method_60_code 145 = .ok (.iinc 7 1, 3) := by decide +kernel
theorem d_M_measles_148 : decode prog_11_method_60_code 148 = .ok (.goto (-60), 3) := by decide +kernel
theorem d_M_measles_151 : decode prog_11_method_60_code 151 = .ok (.aload_n 0, 1) := by decide +kernel
theorem d_M_measles_152 : decode prog_11_method_60_code 152 = .ok (.getfield 67, 3) := by decide +kernel
theorem d_M_measles_155 : decode prog_11_method_60_code 155 = .ok (.iload_n 1, 1) := by decide +kernel
theorem d_M_measles_156 : decode prog_11_method_60_code 156 = .ok (.laload, 1) := by decide +kernel
theorem d_M_measles_157 : decode prog_11_method_60_code 157 = .ok (.lload 5, 2) := by decide +kernel
theorem d_M_measles_159 : decode prog_11_method_60_code 159 = .ok (.invokestatic 230, 3) := by decide +kernel
theorem d_M_measles_162 : decode prog_11_method_60_code 162 = .ok (.lstore 7, 2) := by decide +kernel
theorem d_M_measles_164 : decode prog_11_method_60_code 164 = .ok (.iload 4, 2) := by decide +kernel
theorem d_M_measles_166 : decode prog_11_method_60_code 166 = .ok (.ifCond .ne 15, 3) := by decide +kernel
theorem d_M_measles_169 : decode prog_11_method_60_code 169 = .ok (.aload_n 0, 1) := by decide +kernel
theorem d_M_measles_170 : decode prog_11_method_60_code 170 = .ok (.getfield 67, 3) := by decide +kernel
theorem d_M_measles_173 : decode prog_11_method_60_code 173 = .ok (.iload_n 1, 1) := by decide +kernel
theorem d_M_measles_174 : decode prog_11_method_60_code 174 = .ok (.laload, 1) := by decide +kernel
theorem d_M_measles_175 : decode prog_11_method_60_code 175 = .ok (.lload 7, 2) := by decide +kernel
theorem d_M_measles_177 : decode prog_11_method_60_code 177 = .ok (.ldiv, 1) := by decide +kernel
theorem d_M_measles_178 : decode prog_11_method_60_code 178 = .ok (.goto 8, 3) := by decide +kernel
theorem d_M_measles_181 : decode prog_11_method_60_code 181 = .ok (.lload 5, 2) := by decide +kernel
theorem d_M_measles_183 : decode prog_11_method_60_code 183 = .ok (.lload 7, 2) := by decide +kernel
theorem d_M_measles_185 : decode prog_11_method_60_code 185 = .ok (.ldiv, 1) := by decide +kernel
theorem d_M_measles_186 : decode prog_11_method_60_code 186 = .ok (.lreturn, 1) := by decide +kernel
set_option maxHeartbeats 4000000 in
set_option maxRecDepth 20000 in
theorem c_M_measles (p1 : Int) (hp1 : Rng p1) (p2 : Int) (hp2 : Rng p2) (p3 : Int) (hp3 : Rng p3) (p4 : Int) (hp4 : Rng p4) (s0 : MS) (Q : Int64 → MS → Prop) (h : wp_M_measles p1 p2 p3 p4 s0 Q) : MT dscM ⟨"BellSchoolModel", "measles", "(IIII)J"⟩ prog_11_method_60_code 9 (some .long) 5 (fun ad => [.ref (ad 0), .int (iI p1), .int (iI p2), .int (iI p3), .int (iI p4)]) s0 (po_L dscM Q) := by
  refine met_of (by decide) (fun _ => Nat.le_of_ble_eq_true rfl) (fun X E hR => ?_)
  replace E : EV dscM X prog_11_method_60_code "BellSchoolModel" 9 5 := E
  show VV dscM X 0 [(0, .ref (adX X 0)), (1, .int (iI p1)), (2, .int (iI p2)), (3, .int (iI p3)), (4, .int (iI p4))] [] s0
  unfold wp_M_measles at h
  refine v_aloadn E d_M_measles_0 rfl 0 rfl ?_
  refine v_iloadn E d_M_measles_1 rfl 1 rfl ?_
  refine v_callVIpz E md_M_isHome (c_M_isHome p1 hp1 s0 _ h) dM_0 rfl ⟨by decide, by decide⟩ mw604 d_M_measles_2 (fun _ => rfl) (st := []) rfl (Nat.le_of_ble_eq_true rfl) (fun r1 hr1 hz1 h => ?_)
  refine v_if_eq E 37 d_M_measles_5 (by decide) hr1 (fun c1 => ?_) (fun c1 => ?_)
  · replace h := h.1 c1
    refine v_ldc2 E mw702 d_M_measles_37 ?_
    exact v_lret E hR h d_M_measles_40
  · replace h := h.2 c1
    refine v_iloadn E d_M_measles_8 rfl 2 rfl ?_
    refine v_iconst E d_M_measles_9 ?_
    refine v_iconst E d_M_measles_10 ?_
    refine v_callSIpz E md_M_in (c_M_in dscM p2 hp2 0 (by decide) 2 (by decide) s0 _ h) ⟨by decide, by decide⟩ mw496 d_M_measles_11 (fun _ => rfl) (st := []) rfl (Nat.le_of_ble_eq_true rfl) (fun r2 hr2 hz2 h => ?_)
    refine v_if_eq E 37 d_M_measles_14 (by decide) hr2 (fun c2 => ?_) (fun c2 => ?_)
    · replace h := h.1 c2
      refine v_ldc2 E mw702 d_M_measles_37 ?_
      exact v_lret E hR h d_M_measles_40
    · replace h := h.2 c2
      refine v_iloadn E d_M_measles_17 rfl 3 rfl ?_
      refine v_iconst E d_M_measles_18 ?_
      refine v_bipush E d_M_measles_19 rfl ?_
      refine v_callSIpz E md_M_in (c_M_in dscM p3 hp3 0 (by decide) 10 (by decide) s0 _ h) ⟨by decide, by decide⟩ mw496 d_M_measles_21 (fun _ => rfl) (st := []) rfl (Nat.le_of_ble_eq_true rfl) (fun r3 hr3 hz3 h => ?_)
      refine v_if_eq E 37 d_M_measles_24 (by decide) hr3 (fun c3 => ?_) (fun c3 => ?_)
      · replace h := h.1 c3
        refine v_ldc2 E mw702 d_M_measles_37 ?_
        exact v_lret E hR h d_M_measles_40
      · replace h := h.2 c3
        refine v_iload E d_M_measles_27 4 rfl ?_
        refine v_iconst E d_M_measles_29 ?_
        refine v_iconst E d_M_measles_30 ?_
        refine v_callSIpz E md_M_in (c_M_in dscM p4 hp4 0 (by decide) 1 (by decide) s0 _ h) ⟨by decide, by decide⟩ mw496 d_M_measles_31 (fun _ => rfl) (st := []) rfl (Nat.le_of_ble_eq_true rfl) (fun r4 hr4 hz4 h => ?_)
        refine v_if_ne E 41 d_M_measles_34 (by decide) hr4 (fun c4 => ?_) (fun c4 => ?_)
        · replace h := h.1 c4
          refine v_lconst E (1 : Int64) rfl d_M_measles_41 ?_
          refine v_lstore E d_M_measles_42 (by decide) (L' := [(5, .long (1 : Int64)), (0, .ref (adX X 0)), (1, .int (iI p1)), (2, .int (iI p2)), (3, .int (iI p3)), (4, .int (iI p4))]) rfl ?_
          refine v_iconst E d_M_measles_44 ?_
          refine v_istore E d_M_measles_45 (by decide) (L' := [(7, .int (iI 0)), (5, .long (1 : Int64)), (0, .ref (adX X 0)), (1, .int (iI p1)), (2, .int (iI p2)), (3, .int (iI p3)), (4, .int (iI p4))]) rfl ?_
          refine v_sub [2, 3, 4, 5, 6, 1, 0] (L' := [(0, .ref (adX X 0)), (1, .int (iI p1)), (2, .int (iI p2)), (3, .int (iI p3)), (4, .int (iI p4)), (5, .long (1 : Int64)), (7, .int (iI 0))]) rfl ?_
          obtain ⟨I1, μ1, h01, h⟩ := h
          refine v_loop1 (fun (x1 : Int) => [(0, .ref (adX X 0)), (1, .int (iI p1)), (2, .int (iI p2)), (3, .int (iI p3)), (4, .int (iI p4)), (5, .long (1 : Int64)), (7, .int (iI x1))]) I1 μ1 (fun x1 s1 hI1 ih1 => ?_) 0 s0 h01
          replace h := h x1 s1 hI1
          refine v_iload E d_M_measles_47 6 rfl ?_
          refine v_aloadn E d_M_measles_49 rfl 0 rfl ?_
          refine v_getI E cf9 dM_0 12 (by decide) rfl mw554 d_M_measles_50 rfl ?_
          obtain ⟨q1, h⟩ := h
          refine v_wt (fun wt1 => ?_)
          refine v_icmp_ge E 85 d_M_measles_53 (by decide) q1 (wt1 0 12) (fun c5 => ?_) (fun c5 => ?_)
          · replace h := h.1 c5
            refine v_iconst E d_M_measles_85 ?_
            refine v_istore E d_M_measles_86 (by decide) (L' := [(7, .int (iI 0)), (0, .ref (adX X 0)), (1, .int (iI p1)), (2, .int (iI p2)), (3, .int (iI p3)), (4, .int (iI p4)), (5, .long (1 : Int64))]) rfl ?_
            refine v_sub [1, 2, 3, 4, 5, 6, 0] (L' := [(0, .ref (adX X 0)), (1, .int (iI p1)), (2, .int (iI p2)), (3, .int (iI p3)), (4, .int (iI p4)), (5, .long (1 : Int64)), (7, .int (iI 0))]) rfl ?_
            obtain ⟨I2, μ2, h02, h⟩ := h
            refine v_loop2 (fun (y1 : Int64) (x2 : Int) => [(0, .ref (adX X 0)), (1, .int (iI p1)), (2, .int (iI p2)), (3, .int (iI p3)), (4, .int (iI p4)), (5, .long y1), (7, .int (iI x2))]) I2 μ2 (fun y1 x2 s2 hI2 ih2 => ?_) (1 : Int64) 0 s1 h02
            replace h := h y1 x2 s2 hI2
            refine v_iload E d_M_measles_88 6 rfl ?_
            refine v_iloadn E d_M_measles_90 rfl 2 rfl ?_
            obtain ⟨q2, h⟩ := h
            refine v_icmp_ge E 151 d_M_measles_91 (by decide) q2 hp2 (fun c6 => ?_) (fun c6 => ?_)
            · replace h := h.1 c6
              refine v_aloadn E d_M_measles_151 rfl 0 rfl ?_
              refine v_getA E cf9 dM_0 29 (by decide) rfl mw697 d_M_measles_152 rfl ?_
              refine v_iloadn E d_M_measles_155 rfl 1 rfl ?_
              obtain ⟨q3, h⟩ := h
              refine v_lald E dM_20 (by decide) q3.1 q3.2 d_M_measles_156 ?_
              refine v_lload E d_M_measles_157 5 rfl ?_
              refine v_callSLp E md_M_common (c_M_common dscM (gL s2 20 p1) y1 s2 _ h) ⟨by decide, by decide⟩ mw703 d_M_measles_159 (fun _ => rfl) (st := []) rfl (Nat.le_of_ble_eq_true rfl) (fun r5 h => ?_)
              refine v_lstore E d_M_measles_162 (by decide) (L' := [(7, .long r5), (0, .ref (adX X 0)), (1, .int (iI p1)), (2, .int (iI p2)), (3, .int (iI p3)), (4, .int (iI p4)), (5, .long y1)]) rfl ?_
              refine v_iload E d_M_measles_164 5 rfl ?_
              refine v_if_ne E 181 d_M_measles_166 (by decide) hp4 (fun c7 => ?_) (fun c7 => ?_)
              · replace h := h.1 c7
                refine v_lload E d_M_measles_181 6 rfl ?_
                refine v_lload E d_M_measles_183 0 rfl ?_
                obtain ⟨q4, h⟩ := h
                refine v_ldiv E d_M_measles_185 q4 ?_
                exact v_lret E hR h d_M_measles_186
              · replace h := h.2 c7
                refine v_aloadn E d_M_measles_169 rfl 1 rfl ?_
                refine v_getA E cf9 dM_0 29 (by decide) rfl mw697 d_M_measles_170 rfl ?_
                refine v_iloadn E d_M_measles_173 rfl 2 rfl ?_
                refine v_lald E dM_20 (by decide) q3.1 q3.2 d_M_measles_174 ?_
                refine v_lload E d_M_measles_175 0 rfl ?_
                obtain ⟨q5, h⟩ := h
                refine v_ldiv E d_M_measles_177 q5 ?_
                refine v_goto E 186 d_M_measles_178 (by decide) ?_
                exact v_lret E hR h d_M_measles_186
            · replace h := h.2 c6
              refine v_aloadn E d_M_measles_94 rfl 0 rfl ?_
              refine v_iload E d_M_measles_95 6 rfl ?_
              refine v_iloadn E d_M_measles_97 rfl 3 rfl ?_
              refine v_callVV E md_M_spreads (c_M_spreads x2 q2 p3 hp3 s2 _ h) dM_0 rfl ⟨by decide, by decide⟩ mw704 d_M_measles_98 (fun _ => rfl) (st := []) rfl (Nat.le_of_ble_eq_true rfl) (fun s3 h => ?_)
              refine v_iconst E d_M_measles_101 ?_
              refine v_istore E d_M_measles_102 (by decide) (L' := [(8, .int (iI 0)), (0, .ref (adX X 0)), (1, .int (iI p1)), (2, .int (iI p2)), (3, .int (iI p3)), (4, .int (iI p4)), (5, .long y1), (7, .int (iI x2))]) rfl ?_
              refine v_sub [1, 2, 3, 4, 5, 6, 7, 0] (L' := [(0, .ref (adX X 0)), (1, .int (iI p1)), (2, .int (iI p2)), (3, .int (iI p3)), (4, .int (iI p4)), (5, .long y1), (7, .int (iI x2)), (8, .int (iI 0))]) rfl ?_
              obtain ⟨I3, μ3, h03, h⟩ := h
              refine v_ploop2 s3 (fun (y2 : Int64) (x3 : Int) => [(0, .ref (adX X 0)), (1, .int (iI p1)), (2, .int (iI p2)), (3, .int (iI p3)), (4, .int (iI p4)), (5, .long y2), (7, .int (iI x2)), (8, .int (iI x3))]) I3 μ3 (fun y2 x3 hI3 ih3 => ?_) y1 0 h03
              replace h := h y2 x3  hI3
              refine v_iload E d_M_measles_104 7 rfl ?_
              refine v_aloadn E d_M_measles_106 rfl 0 rfl ?_
              refine v_getI E cf9 dM_0 12 (by decide) rfl mw554 d_M_measles_107 rfl ?_
              obtain ⟨q6, h⟩ := h
              refine v_wt (fun wt2 => ?_)
              refine v_icmp_ge E 145 d_M_measles_110 (by decide) q6 (wt2 0 12) (fun c8 => ?_) (fun c8 => ?_)
              · replace h := h.1 c8
                refine v_iincN E d_M_measles_145 6 rfl (by decide) (fun y => [(7, .int (iI y)), (0, .ref (adX X 0)), (1, .int (iI p1)), (2, .int (iI p2)), (3, .int (iI p3)), (4, .int (iI p4)), (5, .long y2), (8, .int (iI x3))]) (fun _ => rfl) (fun x4 hx4 => ?_)
                replace h := h x4 hx4
                refine v_goto E 88 d_M_measles_148 (by decide) ?_
                obtain ⟨hb, hm⟩ := h
                exact v_sub [1, 2, 3, 4, 5, 6, 0] rfl (ih2 y2 x4 s3 hb hm)
              · replace h := h.2 c8
                refine v_lload E d_M_measles_113 5 rfl ?_
                refine v_aloadn E d_M_measles_115 rfl 0 rfl ?_
                refine v_getA E cf9 dM_0 19 (by decide) rfl mw556 d_M_measles_116 rfl ?_
                refine v_iconst E d_M_measles_119 ?_
                refine v_iald E dM_13 (by decide) (by decide) (by decide) d_M_measles_120 ?_
                refine v_iload E d_M_measles_121 7 rfl ?_
                refine v_callSIpz E md_M_has (c_M_has dscM (gI s3 13 3) (wt2 13 3) x3 q6 s3 _ h) ⟨by decide, by decide⟩ mw578 d_M_measles_123 (fun _ => rfl) (st := [.long y2]) rfl (Nat.le_of_ble_eq_true rfl) (fun r7 hr7 hz7 h => ?_)
                refine v_if_eq E 133 d_M_measles_126 (by decide) hr7 (fun c9 => ?_) (fun c9 => ?_)
                · replace h := h.1 c9
                  refine v_ldc2 E mw705 d_M_measles_133 ?_
                  refine v_lmul E d_M_measles_136 ?_
                  refine v_nameL (fun y3 hy3 => ?_)
                  replace h := h y3 hy3
                  refine v_lstore E d_M_measles_137 (by decide) (L' := [(5, .long y3), (0, .ref (adX X 0)), (1, .int (iI p1)), (2, .int (iI p2)), (3, .int (iI p3)), (4, .int (iI p4)), (7, .int (iI x2)), (8, .int (iI x3))]) rfl ?_
                  refine v_iincN E d_M_measles_139 7 rfl (by decide) (fun y => [(8, .int (iI y)), (5, .long y3), (0, .ref (adX X 0)), (1, .int (iI p1)), (2, .int (iI p2)), (3, .int (iI p3)), (4, .int (iI p4)), (7, .int (iI x2))]) (fun _ => rfl) (fun x5 hx5 => ?_)
                  replace h := h x5 hx5
                  refine v_goto E 104 d_M_measles_142 (by decide) ?_
                  obtain ⟨hb, hm⟩ := h
                  exact v_sub [2, 3, 4, 5, 6, 1, 7, 0] rfl (ih3 y3 x5 hb hm)
                · replace h := h.2 c9
                  refine v_lconst E (1 : Int64) rfl d_M_measles_129 ?_
                  refine v_goto E 136 d_M_measles_130 (by decide) ?_
                  refine v_lmul E d_M_measles_136 ?_
                  refine v_nameL (fun y4 hy4 => ?_)
                  replace h := h y4 hy4
                  refine v_lstore E d_M_measles_137 (by decide) (L' := [(5, .long y4), (0, .ref (adX X 0)), (1, .int (iI p1)), (2, .int (iI p2)), (3, .int (iI p3)), (4, .int (iI p4)), (7, .int (iI x2)), (8, .int (iI x3))]) rfl ?_
                  refine v_iincN E d_M_measles_139 7 rfl (by decide) (fun y => [(8, .int (iI y)), (5, .long y4), (0, .ref (adX X 0)), (1, .int (iI p1)), (2, .int (iI p2)), (3, .int (iI p3)), (4, .int (iI p4)), (7, .int (iI x2))]) (fun _ => rfl) (fun x6 hx6 => ?_)
                  replace h := h x6 hx6
                  refine v_goto E 104 d_M_measles_142 (by decide) ?_
                  obtain ⟨hb, hm⟩ := h
                  exact v_sub [2, 3, 4, 5, 6, 1, 7, 0] rfl (ih3 y4 x6 hb hm)
          · replace h := h.2 c5
            refine v_aloadn E d_M_measles_56 rfl 0 rfl ?_
            refine v_getA E cf9 dM_0 29 (by decide) rfl mw697 d_M_measles_57 rfl ?_
            refine v_iload E d_M_measles_60 6 rfl ?_
            refine v_iload E d_M_measles_62 6 rfl ?_
            refine v_aloadn E d_M_measles_64 rfl 0 rfl ?_
            refine v_getA E cf9 dM_0 19 (by decide) rfl mw556 d_M_measles_65 rfl ?_
            refine v_iconst E d_M_measles_68 ?_
            refine v_iald E dM_13 (by decide) (by decide) (by decide) d_M_measles_69 ?_
            refine v_icmp_ne E 77 d_M_measles_70 (by decide) q1 (wt1 13 0) (fun c10 => ?_) (fun c10 => ?_)
            · replace h := h.1 c10
              refine v_lconst E (0 : Int64) rfl d_M_measles_77 ?_
              obtain ⟨q7, h⟩ := h
              refine v_last E dM_20 (by decide) q7.1 q7.2 d_M_measles_78 ?_
              refine v_nameS (fun s4 hs4 => ?_)
              replace h := h s4 hs4
              refine v_iincN E d_M_measles_79 6 rfl (by decide) (fun y => [(7, .int (iI y)), (0, .ref (adX X 0)), (1, .int (iI p1)), (2, .int (iI p2)), (3, .int (iI p3)), (4, .int (iI p4)), (5, .long (1 : Int64))]) (fun _ => rfl) (fun x7 hx7 => ?_)
              replace h := h x7 hx7
              refine v_goto E 47 d_M_measles_82 (by decide) ?_
              obtain ⟨hb, hm⟩ := h
              exact v_sub [1, 2, 3, 4, 5, 6, 0] rfl (ih1 x7 s4 hb hm)
            · replace h := h.2 c10
              refine v_lconst E (1 : Int64) rfl d_M_measles_73 ?_
              refine v_goto E 78 d_M_measles_74 (by decide) ?_
              obtain ⟨q8, h⟩ := h
              refine v_last E dM_20 (by decide) q8.1 q8.2 d_M_measles_78 ?_
              refine v_nameS (fun s5 hs5 => ?_)
              replace h := h s5 hs5
              refine v_iincN E d_M_measles_79 6 rfl (by decide) (fun y => [(7, .int (iI y)), (0, .ref (adX X 0)), (1, .int (iI p1)), (2, .int (iI p2)), (3, .int (iI p3)), (4, .int (iI p4)), (5, .long (1 : Int64))]) (fun _ => rfl) (fun x8 hx8 => ?_)
              replace h := h x8 hx8
              refine v_goto E 47 d_M_measles_82 (by decide) ?_
              obtain ⟨hb, hm⟩ := h
              exact v_sub [1, 2, 3, 4, 5, 6, 0] rfl (ih1 x8 s5 hb hm)
        · replace h := h.2 c4
          refine v_ldc2 E mw702 d_M_measles_37 ?_
          exact v_lret E hR h d_M_measles_40
theorem d_M_soups_0 : decode prog_11_method_61_code 0 = .ok (.iconst 0, 1) := by decide +kernel
theorem d_M_soups_1 : decode prog_11_method_61_code 1 = .ok (.istore_n 1, 1) := by decide +kernel
theorem d_M_soups_2 : decode prog_11_method_61_code 2 = .ok (.iconst 0, 1) := by decide +kernel
theorem d_M_soups_3 : decode prog_11_method_61_code 3 = .ok (.istore_n 2, 1) := by decide +kernel
theorem d_M_soups_4 : decode prog_11_method_61_code 4 = .ok (.iload_n 2, 1) := by decide +kernel
theorem d_M_soups_5 : decode prog_11_method_61_code 5 = .ok (.bipush 7, 2) := by decide +kernel
theorem d_M_soups_7 : decode prog_11_method_61_code 7 = .ok (.if_icmp .ge 18, 3) := by decide +kernel
theorem d_M_soups_10 : decode prog_11_method_61_code 10 = .ok (.iload_n 1, 1) := by decide +kernel
theorem d_M_soups_11 : decode prog_11_method_61_code 11 = .ok (.aload_n 0, 1) := by decide +kernel
theorem d_M_soups_12 : decode prog_11_method_61_code 12 = .ok (.bipush 6, 2) := by decide +kernel
theorem d_M_soups_14 : decode prog_11_method_61_code 14 = .ok (.iload_n 2, 1) := by decide +kernel
theorem d_M_soups_15 : decode prog_11_method_61_code 15 = .ok (.iadd, 1) := by decide +kernel
theorem d_M_soups_16 : decode prog_11_method_61_code 16 = .ok (.iaload, 1) := by decide +kernel
theorem d_M_soups_17 : decode prog_11_method_61_code 17 = .ok (.iadd, 1) := by decide +kernel
theorem d_M_soups_18 : decode prog_11_method_61_code 18 = .ok (.istore_n 1, 1) := by decide +kernel
theorem d_M_soups_19 : decode prog_11_method_61_code 19 = .ok (.iinc 2 1, 3) := by decide +kernel
theorem d_M_soups_22 : decode prog_11_method_61_code 22 = .ok (.goto (-18), 3) := by decide +kernel
theorem d_M_soups_25 : decode prog_11_method_61_code 25 = .ok (.iload_n 1, 1) := by decide +kernel
theorem d_M_soups_26 : decode prog_11_method_61_code 26 = .ok (.ireturn, 1) := by decide +kernel
set_option maxHeartbeats 4000000 in
set_option maxRecDepth 20000 in
theorem c_M_soups (p1 : Nat) (hp1 : dscM[p1]? = some (.inl (0, 13))) (s0 : MS) (Q : Int → Prop) (h : wp_M_soups p1 s0 Q) : MT dscM ⟨"BellSchoolModel", "soups", "([I)I"⟩ prog_11_method_61_code 3 (some .int) 0 (fun ad => [.ref (ad p1)]) s0 (po_I dscM (fun r z => z = s0 ∧ Q r)) := by
  refine met_of (by decide) (fun _ => Nat.le_of_ble_eq_true rfl) (fun X E hR => ?_)
  replace E : EV dscM X prog_11_method_61_code "BellSchoolModel" 3 0 := E
  show VV dscM X 0 [(0, .ref (adX X p1))] [] s0
  unfold wp_M_soups at h
  refine v_iconst E d_M_soups_0 ?_
  refine v_istoren E d_M_soups_1 rfl (by decide) (L' := [(1, .int (iI 0)), (0, .ref (adX X p1))]) rfl ?_
  refine v_iconst E d_M_soups_2 ?_
  refine v_istoren E d_M_soups_3 rfl (by decide) (L' := [(2, .int (iI 0)), (1, .int (iI 0)), (0, .ref (adX X p1))]) rfl ?_
  refine v_sub [2, 1, 0] (L' := [(0, .ref (adX X p1)), (1, .int (iI 0)), (2, .int (iI 0))]) rfl ?_
  obtain ⟨I1, μ1, h01, h⟩ := h
  refine v_ploop2 s0 (fun (x1 : Int) (x2 : Int) => [(0, .ref (adX X p1)), (1, .int (iI x1)), (2, .int (iI x2))]) I1 μ1 (fun x1 x2 hI1 ih1 => ?_) 0 0 h01
  replace h := h x1 x2  hI1
  refine v_iloadn E d_M_soups_4 rfl 2 rfl ?_
  refine v_bipush E d_M_soups_5 rfl ?_
  obtain ⟨q1, h⟩ := h
  refine v_icmp_ge E 25 d_M_soups_7 (by decide) q1 (by decide) (fun c1 => ?_) (fun c1 => ?_)
  · replace h := h.1 c1
    refine v_iloadn E d_M_soups_25 rfl 1 rfl ?_
    obtain ⟨q2, h⟩ := h
    exact v_iret E hR rfl q2 ⟨rfl, h⟩ d_M_soups_26
  · replace h := h.2 c1
    refine v_iloadn E d_M_soups_10 rfl 1 rfl ?_
    refine v_aloadn E d_M_soups_11 rfl 0 rfl ?_
    refine v_bipush E d_M_soups_12 rfl ?_
    refine v_iloadn E d_M_soups_14 rfl 2 rfl ?_
    refine v_iadd E d_M_soups_15 ?_
    obtain ⟨q3, h⟩ := h
    refine v_iald E hp1 (by decide) q3.1 q3.2 d_M_soups_16 ?_
    refine v_iadd E d_M_soups_17 ?_
    refine v_nameI (fun x3 hx3 => ?_)
    replace h := h x3 hx3
    refine v_istoren E d_M_soups_18 rfl (by decide) (L' := [(1, .int (iI x3)), (0, .ref (adX X p1)), (2, .int (iI x2))]) rfl ?_
    refine v_iincN E d_M_soups_19 2 rfl (by decide) (fun y => [(2, .int (iI y)), (1, .int (iI x3)), (0, .ref (adX X p1))]) (fun _ => rfl) (fun x4 hx4 => ?_)
    replace h := h x4 hx4
    refine v_goto E 4 d_M_soups_22 (by decide) ?_
    obtain ⟨hb, hm⟩ := h
    exact v_sub [2, 1, 0] rfl (ih1 x3 x4 hb hm)
theorem d_M_year_0 : decode prog_11_method_62_code 0 = .ok (.iload_n 1, 1) := by decide +kernel
theorem d_M_year_1 : decode prog_11_method_62_code 1 = .ok (.iconst 0, 1) := by decide +kernel
theorem d_M_year_2 : decode prog_11_method_62_code 2 = .ok (.sipush 9999, 3) := by decide +kernel
theorem d_M_year_5 : decode prog_11_method_62_code 5 = .ok (.invokestatic 105, 3) := by decide +kernel
theorem d_M_year_8 : decode prog_11_method_62_code 8 = .ok (.ifCond .eq 22, 3) := by decide +kernel
theorem d_M_year_11 : decode prog_11_method_62_code 11 = .ok (.iload_n 2, 1) := by decide +kernel
theorem d_M_year_12 : decode prog_11_method_62_code 12 = .ok (.iconst 1, 1) := by decide +kernel
theorem d_M_year_13 : decode prog_11_method_62_code 13 = .ok (.bipush 60, 2) := by decide +kernel
theorem d_M_year_15 : decode prog_11_method_62_code 15 = .ok (.invokestatic 105, 3) := by decide +kernel
theorem d_M_year_18 : decode prog_11_method_62_code 18 = .ok (.ifCond .eq 12, 3) := by decide +kernel
theorem d_M_year_21 : decode prog_11_method_62_code 21 = .ok (.iload_n 3, 1) := by decide +kernel
theorem d_M_year_22 : decode prog_11_method_62_code 22 = .ok (.iconst 0, 1) := by decide +kernel
theorem d_M_year_23 : decode prog_11_method_62_code 23 = .ok (.iconst 1, 1) := by decide +kernel
theorem d_M_year_24 : decode prog_11_method_62_code 24 = .ok (.invokestatic 105, 3) := by decide +kernel
theorem d_M_year_27 : decode prog_11_method_62_code 27 = .ok (.ifCond .ne 5, 3) := by decide +kernel
theorem d_M_year_30 : decode prog_11_method_62_code 30 = .ok (.iconst (-1), 1) := by decide +kernel
theorem d_M_year_31 : decode prog_11_method_62_code 31 = .ok (.ireturn, 1) := by decide +kernel
theorem d_M_year_32 : decode prog_11_method_62_code 32 = .ok (.aload_n 0, 1) := by decide +kernel
theorem d_M_year_33 : decode prog_11_method_62_code 33 = .ok (.invokevirtual 200, 3) := by decide +kernel
theorem d_M_year_36 : decode prog_11_method_62_code 36 = .ok (.iconst 0, 1) := by decide +kernel
theorem d_M_year_37 : decode prog_11_method_62_code 37 = .ok (.istore 4, 2) := by decide +kernel
theorem d_M_year_39 : decode prog_11_method_62_code 39 = .ok (.iload 4, 2) := by decide +kernel
theorem d_M_year_41 : decode prog_11_method_62_code 41 = .ok (.iload_n 2, 1) := by decide +kernel
theorem d_M_year_42 : decode prog_11_method_62_code 42 = .ok (.if_icmp .ge 83, 3) := by decide +kernel
theorem d_M_year_45 : decode prog_11_method_62_code 45 = .ok (.ldc2_w 234, 3) := by decide +kernel
theorem d_M_year_48 : decode prog_11_method_62_code 48 = .ok (.iload_n 1, 1) := by decide +kernel
theorem d_M_year_49 : decode prog_11_method_62_code 49 = .ok (.i2l, 1) := by decide +kernel
theorem d_M_year_50 : decode prog_11_method_62_code 50 = .ok (.lmul, 1) := by decide +kernel
theorem d_M_year_51 : decode prog_11_method_62_code 51 = .ok (.ldc2_w 236, 3) := by decide +kernel
theorem d_M_year_54 : decode prog_11_method_62_code 54 = .ok (.iload 4, 2) := by decide +kernel
theorem d_M_year_56 : decode prog_11_method_62_code 56 = .ok (.i2l, 1) := by decide +kernel
theorem d_M_year_57 : decode prog_11_method_62_code 57 = .ok (.lmul, 1) := by decide +kernel
theorem d_M_year_58 : decode prog_11_method_62_code 58 = .ok (.ladd, 1) := by decide +kernel
theorem d_M_year_59 : decode prog_11_method_62_code 59 = .ok (.lconst 1, 1) := by decide +kernel
theorem d_M_year_60 : decode prog_11_method_62_code 60 = .ok (.ladd, 1) := by decide +kernel
theorem d_M_year_61 : decode prog_11_method_62_code 61 = .ok (.lstore 5, 2) := by decide +kernel
theorem d_M_year_63 : decode prog_11_method_62_code 63 = .ok (.lload 5, 2) := by decide +kernel
theorem d_M_year_65 : decode prog_11_method_62_code 65 = .ok (.lload 5, 2) := by decide +kernel
theorem d_M_year_67 : decode prog_11_method_62_code 67 = .ok (.lmul, 1) := by decide +kernel
theorem d_M_year_68 : decode prog_11_method_62_code 68 = .ok (.ldc2_w 238, 3) := by decide +kernel
theorem d_M_year_71 : decode prog_11_method_62_code 71 = .ok (.lrem, 1) := by decide +kernel
theorem d_M_year_72 : decode prog_11_method_62_code 72 = .ok (.ldc2_w 240, 3) := by decide +kernel
theorem d_M_year_75 : decode prog_11_method_62_code 75 = .ok (.ldiv, 1) := by decide +kernel
theorem d_M_year_76 : decode prog_11_method_62_code 76 = .ok (.l2i, 1) := by decide +kernel
theorem d_M_year_77 : decode prog_11_method_62_code 77 = .ok (.istore 7, 2) := by decide +kernel
theorem d_M_year_79 : decode prog_11_method_62_code 79 = .ok (.aload_n 0, 1) := by decide +kernel
theorem d_M_year_80 : decode prog_11_method_62_code 80 = .ok (.getfield 49, 3) := by decide +kernel
theorem d_M_year_83 : decode prog_11_method_62_code 83 = .ok (.iconst 2, 1) := by decide +kernel
theorem d_M_year_84 : decode prog_11_method_62_code 84 = .ok (.dup2, 1) := by decide +kernel
theorem d_M_year_85 : decode prog_11_method_62_code 85 = .ok (.iaload, 1) := by decide +kernel
theorem d_M_year_86 : decode prog_11_method_62_code 86 = .ok (.iload 7, 2) := by decide +kernel
theorem d_M_year_88 : decode prog_11_method_62_code 88 = .ok (.bipush 8, 2) := by decide +kernel
theorem d_M_year_90 : decode prog_11_method_62_code 90 = .ok (.idiv, 1) := by decide +kernel
theorem d_M_year_91 : decode prog_11_method_62_code 91 = .ok (.iconst 2, 1) := by decide +kernel
theorem d_M_year_92 : decode prog_11_method_62_code 92 = .ok (.irem, 1) := by decide +kernel
theorem d_M_year_93 : decode prog_11_method_62_code 93 = .ok (.ifCond .ne 15, 3) := by decide +kernel
theorem d_M_year_96 : decode prog_11_method_62_code 96 = .ok (.iconst 1, 1) := by decide +kernel
theorem d_M_year_97 : decode prog_11_method_62_code 97 = .ok (.iload 7, 2) := by decide +kernel
theorem d_M_year_99 : decode prog_11_method_62_code 99 = .ok (.aload_n 0, 1) := by decide +kernel
theorem d_M_year_100 : decode prog_11_method_62_code 100 = .ok (.getfield 148, 3) := by decide +kernel
theorem d_M_year_103 : decode prog_11_method_62_code 103 = .ok (.irem, 1) := by decide +kernel
theorem d_M_year_104 : decode prog_11_method_62_code 104 = .ok (.ishl, 1) := by decide +kernel
theorem d_M_year_105 : decode prog_11_method_62_code 105 = .ok (.goto 4, 3) := by decide +kernel
theorem d_M_year_108 : decode prog_11_method_62_code 108 = .ok (.iconst 0, 1) := by decide +kernel
theorem d_M_year_109 : decode prog_11_method_62_code 109 = .ok (.ior, 1) := by decide +kernel
theorem d_M_year_110 : decode prog_11_method_62_code 110 = .ok (.iastore, 1) := by decide +kernel
theorem d_M_year_111 : decode prog_11_method_62_code 111 = .ok (.aload_n 0, 1) := by decide +kernel
theorem d_M_year_112 : decode prog_11_method_62_code 112 = .ok (.aload_n 0, 1) := by decide +kernel
theorem d_M_year_113 : decode prog_11_method_62_code 113 = .ok (.getfield 49, 3) := by decide +kernel
theorem d_M_year_116 : decode prog_11_method_62_code 116 = .ok (.invokevirtual 196, 3) := by decide +kernel
theorem d_M_year_119 : decode prog_11_method_62_code 119 = .ok (.iinc 4 1, 3) := by decide +kernel
theorem d_M_year_122 : decode prog_11_method_62_code 122 = .ok (.goto (-83), 3) := by decide +kernel
theorem d_M_year_125 : decode prog_11_method_62_code 125 = .ok (.iload_n 3, 1) := by decide +kernel
theorem d_M_year_126 : decode prog_11_method_62_code 126 = .ok (.ifCond .ne 12, 3) := by decide +kernel
theorem d_M_year_129 : decode prog_11_method_62_code 129 = .ok (.aload_n 0, 1) := by decide +kernel
theorem d_M_year_130 : decode prog_11_method_62_code 130 = .ok (.getfield 49, 3) := by decide +kernel
theorem d_M_year_133 : decode prog_11_method_62_code 133 = .ok (.iconst 0, 1) := by decide +kernel
theorem d_M_year_134 : decode prog_11_method_62_code 134 = .ok (.iaload, 1) := by decide +kernel
theorem d_M_year_135 : decode prog_11_method_62_code 135 = .ok (.goto 18, 3) := by decide +kernel
theorem d_M_year_138 : decode prog_11_method_62_code 138 = .ok (.aload_n 0, 1) := by decide +kernel
theorem d_M_year_139 : decode prog_11_method_62_code 139 = .ok (.getfield 49, 3) := by decide +kernel
theorem d_M_year_142 : decode prog_11_method_62_code 142 = .ok (.invokestatic 242, 3) := by decide +kernel
theorem d_M_year_145 : decode prog_11_method_62_code 145 = .ok (.aload_n 0, 1) := by decide +kernel
theorem d_M_year_146 : decode prog_11_method_62_code 146 = .ok (.getfield 46, 3) := by decide +kernel
theorem d_M_year_149 : decode prog_11_method_62_code 149 = .ok (.invokestatic 242, 3) := by decide +kernel
theorem d_M_year_152 : decode prog_11_method_62_code 152 = .ok (.isub, 1) := by decide +kernel
theorem d_M_year_153 : decode prog_11_method_62_code 153 = .ok (.ireturn, 1) := by decide +kernel
set_option maxHeartbeats 4000000 in
set_option maxRecDepth 20000 in
theorem c_M_year (p1 : Int) (hp1 : Rng p1) (p2 : Int) (hp2 : Rng p2) (p3 : Int) (hp3 : Rng p3) (s0 : MS) (Q : Int → MS → Prop) (h : wp_M_year p1 p2 p3 s0 Q) : MT dscM ⟨"BellSchoolModel", "year", "(III)I"⟩ prog_11_method_62_code 8 (some .int) 5 (fun ad => [.ref (ad 0), .int (iI p1), .int (iI p2), .int (iI p3)]) s0 (po_I dscM Q) := by
  refine met_of (by decide) (fun _ => Nat.le_of_ble_eq_true rfl) (fun X E hR => ?_)
  replace E : EV dscM X prog_11_method_62_code "BellSchoolModel" 8 5 := E
  show VV dscM X 0 [(0, .ref (adX X 0)), (1, .int (iI p1)), (2, .int (iI p2)), (3, .int (iI p3))] [] s0
  unfold wp_M_year at h
  refine v_iloadn E d_M_year_0 rfl 1 rfl ?_
  refine v_iconst E d_M_year_1 ?_
  refine v_sipush E d_M_year_2 rfl ?_
  refine v_callSIpz E md_M_in (c_M_in dscM p1 hp1 0 (by decide) 9999 (by decide) s0 _ h) ⟨by decide, by decide⟩ mw496 d_M_year_5 (fun _ => rfl) (st := []) rfl (Nat.le_of_ble_eq_true rfl) (fun r1 hr1 hz1 h => ?_)
  refine v_if_eq E 30 d_M_year_8 (by decide) hr1 (fun c1 => ?_) (fun c1 => ?_)
  · replace h := h.1 c1
    refine v_iconst E d_M_year_30 ?_
    exact v_iret E hR rfl (by decide) h d_M_year_31
  · replace h := h.2 c1
    refine v_iloadn E d_M_year_11 rfl 2 rfl ?_
    refine v_iconst E d_M_year_12 ?_
    refine v_bipush E d_M_year_13 rfl ?_
    refine v_callSIpz E md_M_in (c_M_in dscM p2 hp2 1 (by decide) 60 (by decide) s0 _ h) ⟨by decide, by decide⟩ mw496 d_M_year_15 (fun _ => rfl) (st := []) rfl (Nat.le_of_ble_eq_true rfl) (fun r2 hr2 hz2 h => ?_)
    refine v_if_eq E 30 d_M_year_18 (by decide) hr2 (fun c2 => ?_) (fun c2 => ?_)
    · replace h := h.1 c2
      refine v_iconst E d_M_year_30 ?_
      exact v_iret E hR rfl (by decide) h d_M_year_31
    · replace h := h.2 c2
      refine v_iloadn E d_M_year_21 rfl 3 rfl ?_
      refine v_iconst E d_M_year_22 ?_
      refine v_iconst E d_M_year_23 ?_
      refine v_callSIpz E md_M_in (c_M_in dscM p3 hp3 0 (by decide) 1 (by decide) s0 _ h) ⟨by decide, by decide⟩ mw496 d_M_year_24 (fun _ => rfl) (st := []) rfl (Nat.le_of_ble_eq_true rfl) (fun r3 hr3 hz3 h => ?_)
      refine v_if_ne E 32 d_M_year_27 (by decide) hr3 (fun c3 => ?_) (fun c3 => ?_)
      · replace h := h.1 c3
        refine v_aloadn E d_M_year_32 rfl 0 rfl ?_
        refine v_callVV E md_M_copyNow (c_M_copyNow s0 _ h) dM_0 rfl ⟨by decide, by decide⟩ mw642 d_M_year_33 (fun _ => rfl) (st := []) rfl (Nat.le_of_ble_eq_true rfl) (fun s1 h => ?_)
        refine v_iconst E d_M_year_36 ?_
        refine v_istore E d_M_year_37 (by decide) (L' := [(4, .int (iI 0)), (0, .ref (adX X 0)), (1, .int (iI p1)), (2, .int (iI p2)), (3, .int (iI p3))]) rfl ?_
        refine v_sub [1, 2, 3, 4, 0] (L' := [(0, .ref (adX X 0)), (1, .int (iI p1)), (2, .int (iI p2)), (3, .int (iI p3)), (4, .int (iI 0))]) rfl ?_
        obtain ⟨I1, μ1, h01, h⟩ := h
        refine v_loop1 (fun (x1 : Int) => [(0, .ref (adX X 0)), (1, .int (iI p1)), (2, .int (iI p2)), (3, .int (iI p3)), (4, .int (iI x1))]) I1 μ1 (fun x1 s2 hI1 ih1 => ?_) 0 s1 h01
        replace h := h x1 s2 hI1
        refine v_iload E d_M_year_39 4 rfl ?_
        refine v_iloadn E d_M_year_41 rfl 2 rfl ?_
        obtain ⟨q1, h⟩ := h
        refine v_icmp_ge E 125 d_M_year_42 (by decide) q1 hp2 (fun c4 => ?_) (fun c4 => ?_)
        · replace h := h.1 c4
          refine v_iloadn E d_M_year_125 rfl 3 rfl ?_
          refine v_if_ne E 138 d_M_year_126 (by decide) hp3 (fun c5 => ?_) (fun c5 => ?_)
          · replace h := h.1 c5
            refine v_aloadn E d_M_year_138 rfl 0 rfl ?_
            refine v_getA E cf9 dM_0 20 (by decide) rfl mw600 d_M_year_139 rfl ?_
            refine v_callSIp E md_M_soups (c_M_soups 14 dM_14 s2 _ h) ⟨by decide, by decide⟩ mw711 d_M_year_142 (fun _ => rfl) (st := []) rfl (Nat.le_of_ble_eq_true rfl) (fun r5 hr5 h => ?_)
            refine v_aloadn E d_M_year_145 rfl 0 rfl ?_
            refine v_getA E cf9 dM_0 19 (by decide) rfl mw556 d_M_year_146 rfl ?_
            refine v_callSIp E md_M_soups (c_M_soups 13 dM_13 s2 _ h) ⟨by decide, by decide⟩ mw711 d_M_year_149 (fun _ => rfl) (st := [.int (iI r5)]) rfl (Nat.le_of_ble_eq_true rfl) (fun r6 hr6 h => ?_)
            refine v_isub E d_M_year_152 ?_
            obtain ⟨q2, h⟩ := h
            exact v_iret E hR rfl q2 h d_M_year_153
          · replace h := h.2 c5
            refine v_aloadn E d_M_year_129 rfl 0 rfl ?_
            refine v_getA E cf9 dM_0 20 (by decide) rfl mw600 d_M_year_130 rfl ?_
            refine v_iconst E d_M_year_133 ?_
            refine v_iald E dM_14 (by decide) (by decide) (by decide) d_M_year_134 ?_
            refine v_goto E 153 d_M_year_135 (by decide) ?_
            refine v_wt (fun wt1 => ?_)
            exact v_iret E hR rfl (wt1 14 0) h d_M_year_153
        · replace h := h.2 c4
          refine v_ldc2 E mw712 d_M_year_45 ?_
          refine v_iloadn E d_M_year_48 rfl 1 rfl ?_
          refine v_i2l E d_M_year_49 ?_
          refine v_lmul E d_M_year_50 ?_
          refine v_ldc2 E mw713 d_M_year_51 ?_
          refine v_iload E d_M_year_54 4 rfl ?_
          refine v_i2l E d_M_year_56 ?_
          refine v_lmul E d_M_year_57 ?_
          refine v_ladd E d_M_year_58 ?_
          refine v_lconst E (1 : Int64) rfl d_M_year_59 ?_
          refine v_ladd E d_M_year_60 ?_
          refine v_nameL (fun y1 hy1 => ?_)
          replace h := h y1 hy1
          refine v_lstore E d_M_year_61 (by decide) (L' := [(5, .long y1), (0, .ref (adX X 0)), (1, .int (iI p1)), (2, .int (iI p2)), (3, .int (iI p3)), (4, .int (iI x1))]) rfl ?_
          refine v_lload E d_M_year_63 0 rfl ?_
          refine v_lload E d_M_year_65 0 rfl ?_
          refine v_lmul E d_M_year_67 ?_
          refine v_ldc2 E mw714 d_M_year_68 ?_
          refine v_lrem E d_M_year_71 (by decide) ?_
          refine v_ldc2 E mw715 d_M_year_72 ?_
          refine v_ldiv E d_M_year_75 (by decide) ?_
          refine v_l2i E d_M_year_76 ?_
          refine v_nameI (fun x2 hx2 => ?_)
          replace h := h x2 hx2
          refine v_istore E d_M_year_77 (by decide) (L' := [(7, .int (iI x2)), (5, .long y1), (0, .ref (adX X 0)), (1, .int (iI p1)), (2, .int (iI p2)), (3, .int (iI p3)), (4, .int (iI x1))]) rfl ?_
          refine v_aloadn E d_M_year_79 rfl 2 rfl ?_
          refine v_getA E cf9 dM_0 20 (by decide) rfl mw600 d_M_year_80 rfl ?_
          refine v_iconst E d_M_year_83 ?_
          refine v_dup2 E d_M_year_84 rfl rfl ?_
          refine v_iald E dM_14 (by decide) (by decide) (by decide) d_M_year_85 ?_
          refine v_iload E d_M_year_86 0 rfl ?_
          refine v_bipush E d_M_year_88 rfl ?_
          obtain ⟨q3, h⟩ := h
          refine v_idiv E d_M_year_90 q3 (by decide) ?_
          refine v_iconst E d_M_year_91 ?_
          obtain ⟨q4, h⟩ := h
          refine v_irem E d_M_year_92 q4 (by decide) ?_
          refine v_if_ne E 108 d_M_year_93 (by decide) (Rng_rm q4 (by decide)) (fun c6 => ?_) (fun c6 => ?_)
          · replace h := h.1 c6
            refine v_iconst E d_M_year_108 ?_
            refine v_ior E d_M_year_109 ?_
            refine v_iast E dM_14 (by decide) (by decide) (by decide) (Rng_of _) d_M_year_110 ?_
            refine v_nameS (fun s3 hs3 => ?_)
            replace h := h s3 hs3
            refine v_aloadn E d_M_year_111 rfl 2 rfl ?_
            refine v_aloadn E d_M_year_112 rfl 2 rfl ?_
            refine v_getA E cf9 dM_0 20 (by decide) rfl mw600 d_M_year_113 rfl ?_
            refine v_callVV E md_M_goesBy (c_M_goesBy 14 dM_14 s3 _ h) dM_0 rfl ⟨by decide, by decide⟩ mw626 d_M_year_116 (fun _ => rfl) (st := []) rfl (Nat.le_of_ble_eq_true rfl) (fun s4 h => ?_)
            refine v_iincN E d_M_year_119 6 rfl (by decide) (fun y => [(4, .int (iI y)), (7, .int (iI x2)), (5, .long y1), (0, .ref (adX X 0)), (1, .int (iI p1)), (2, .int (iI p2)), (3, .int (iI p3))]) (fun _ => rfl) (fun x3 hx3 => ?_)
            replace h := h x3 hx3
            refine v_goto E 39 d_M_year_122 (by decide) ?_
            obtain ⟨hb, hm⟩ := h
            exact v_sub [3, 4, 5, 6, 0] rfl (ih1 x3 s4 hb hm)
          · replace h := h.2 c6
            refine v_iconst E d_M_year_96 ?_
            refine v_iload E d_M_year_97 0 rfl ?_
            refine v_aloadn E d_M_year_99 rfl 2 rfl ?_
            refine v_getI E cf9 dM_0 12 (by decide) rfl mw554 d_M_year_100 rfl ?_
            obtain ⟨q5, h⟩ := h
            obtain ⟨q6, h⟩ := h
            refine v_irem E d_M_year_103 q5 q6 ?_
            refine v_ishl E d_M_year_104 ?_
            refine v_goto E 109 d_M_year_105 (by decide) ?_
            refine v_ior E d_M_year_109 ?_
            refine v_iast E dM_14 (by decide) (by decide) (by decide) (Rng_of _) d_M_year_110 ?_
            refine v_nameS (fun s5 hs5 => ?_)
            replace h := h s5 hs5
            refine v_aloadn E d_M_year_111 rfl 2 rfl ?_
            refine v_aloadn E d_M_year_112 rfl 2 rfl ?_
            refine v_getA E cf9 dM_0 20 (by decide) rfl mw600 d_M_year_113 rfl ?_
            refine v_callVV E md_M_goesBy (c_M_goesBy 14 dM_14 s5 _ h) dM_0 rfl ⟨by decide, by decide⟩ mw626 d_M_year_116 (fun _ => rfl) (st := []) rfl (Nat.le_of_ble_eq_true rfl) (fun s6 h => ?_)
            refine v_iincN E d_M_year_119 6 rfl (by decide) (fun y => [(4, .int (iI y)), (7, .int (iI x2)), (5, .long y1), (0, .ref (adX X 0)), (1, .int (iI p1)), (2, .int (iI p2)), (3, .int (iI p3))]) (fun _ => rfl) (fun x4 hx4 => ?_)
            replace h := h x4 hx4
            refine v_goto E 39 d_M_year_122 (by decide) ?_
            obtain ⟨hb, hm⟩ := h
            exact v_sub [3, 4, 5, 6, 0] rfl (ih1 x4 s6 hb hm)
      · replace h := h.2 c3
        refine v_iconst E d_M_year_30 ?_
        exact v_iret E hR rfl (by decide) h d_M_year_31
theorem d_M_keep_0 : decode prog_11_method_63_code 0 = .ok (.aload_n 0, 1) := by decide +kernel
theorem d_M_keep_1 : decode prog_11_method_63_code 1 = .ok (.getfield 157, 3) := by decide +kernel
theorem d_M_keep_4 : decode prog_11_method_63_code 4 = .ok (.iconst 2, 1) := by decide +kernel
theorem d_M_keep_5 : decode prog_11_method_63_code 5 = .ok (.if_icmp .ne 6, 3) := by decide +kernel
theorem d_M_keep_8 : decode prog_11_method_63_code 8 = .ok (.bipush (-3), 2) := by decide +kernel
theorem d_M_keep_10 : decode prog_11_method_63_code 10 = .ok (.ireturn, 1) := by decide +kernel
theorem d_M_keep_11 : decode prog_11_method_63_code 11 = .ok (.iconst 0, 1) := by decide +kernel
theorem d_M_keep_12 : decode prog_11_method_63_code 12 = .ok (.istore_n 1, 1) := by decide +kernel
theorem d_M_keep_13 : decode prog_11_method_63_code 13 = .ok (.iload_n 1, 1) := by decide +kernel
theorem d_M_keep_14 : decode prog_11_method_63_code 14 = .ok (.bipush 13, 2) := by decide +kernel
theorem d_M_keep_16 : decode prog_11_method_63_code 16 = .ok (.if_icmp .ge 29, 3) := by decide +kernel
theorem d_M_keep_19 : decode prog_11_method_63_code 19 = .ok (.aload_n 0, 1) := by decide +kernel
theorem d_M_keep_20 : decode prog_11_method_63_code 20 = .ok (.getfield 74, 3) := by decide +kernel
theorem d_M_keep_23 : decode prog_11_method_63_code 23 = .ok (.bipush 13, 2) := by decide +kernel
theorem d_M_keep_25 : decode prog_11_method_63_code 25 = .ok (.aload_n 0, 1) := by decide +kernel
theorem d_M_keep_26 : decode prog_11_method_63_code 26 = .ok (.getfield 157, 3) := by decide +kernel
theorem d_M_keep_29 : decode prog_11_method_63_code 29 = .ok (.imul, 1) := by decide +kernel
theorem d_M_keep_30 : decode prog_11_method_63_code 30 = .ok (.iload_n 1, 1) := by decide +kernel
theorem d_M_keep_31 : decode prog_11_method_63_code 31 = .ok (.iadd, 1) := by decide +kernel
theorem d_M_keep_32 : decode prog_11_method_63_code 32 = .ok (.aload_n 0, 1) := by decide +kernel
theorem d_M_keep_33 : decode prog_11_method_63_code 33 = .ok (.getfield 46, 3) := by decide +kernel
theorem d_M_keep_36 : decode prog_11_method_63_code 36 = .ok (.iload_n 1, 1) := by decide +kernel
theorem d_M_keep_37 : decode prog_11_method_63_code 37 = .ok (.iaload, 1) := by decide +kernel
theorem d_M_keep_38 : decode prog_11_method_63_code 38 = .ok (.iastore, 1) := by decide +kernel
theorem d_M_keep_39 : decode prog_11_method_63_code 39 = .ok (.iinc 1 1, 3) := by decide +kernel
theorem d_M_keep_42 : decode prog_11_method_63_code 42 = .ok (.goto (-29), 3) := by decide +kernel
theorem d_M_keep_45 : decode prog_11_method_63_code 45 = .ok (.aload_n 0, 1) := by decide +kernel
theorem d_M_keep_46 : decode prog_11_method_63_code 46 = .ok (.dup, 1) := by decide +kernel
theorem d_M_keep_47 : decode prog_11_method_63_code 47 = .ok (.getfield 157, 3) := by decide +kernel
theorem d_M_keep_50 : decode prog_11_method_63_code 50 = .ok (.iconst 1, 1) := by decide +kernel
theorem d_M_keep_51 : decode prog_11_method_63_code 51 = .ok (.iadd, 1) := by decide +kernel
theorem d_M_keep_52 : decode prog_11_method_63_code 52 = .ok (.putfield 157, 3) := by decide +kernel
theorem d_M_keep_55 : decode prog_11_method_63_code 55 = .ok (.aload_n 0, 1) := by decide +kernel
theorem d_M_keep_56 : decode prog_11_method_63_code 56 = .ok (.getfield 157, 3) := by decide +kernel
theorem d_M_keep_59 : decode prog_11_method_63_code 59 = .ok (.ireturn, 1) := by decide +kernel
set_option maxHeartbeats 4000000 in
set_option maxRecDepth 20000 in
theorem c_M_keep (s0 : MS) (Q : Int → MS → Prop) (h : wp_M_keep s0 Q) : MT dscM ⟨"BellSchoolModel", "keep", "()I"⟩ prog_11_method_63_code 2 (some .int) 0 (fun ad => [.ref (ad 0)]) s0 (po_I dscM Q) := by
  refine met_of (by decide) (fun _ => Nat.le_of_ble_eq_true rfl) (fun X E hR => ?_)
  replace E : EV dscM X prog_11_method_63_code "BellSchoolModel" 2 0 := E
  show VV dscM X 0 [(0, .ref (adX X 0))] [] s0
  unfold wp_M_keep at h
  refine v_aloadn E d_M_keep_0 rfl 0 rfl ?_
  refine v_getI E cf9 dM_0 31 (by decide) rfl mw558 d_M_keep_1 rfl ?_
  refine v_iconst E d_M_keep_4 ?_
  refine v_wt (fun wt1 => ?_)
  refine v_icmp_ne E 11 d_M_keep_5 (by decide) (wt1 0 31) (by decide) (fun c1 => ?_) (fun c1 => ?_)
  · replace h := h.1 c1
    refine v_iconst E d_M_keep_11 ?_
    refine v_istoren E d_M_keep_12 rfl (by decide) (L' := [(1, .int (iI 0)), (0, .ref (adX X 0))]) rfl ?_
    refine v_sub [1, 0] (L' := [(0, .ref (adX X 0)), (1, .int (iI 0))]) rfl ?_
    obtain ⟨I1, μ1, h01, h⟩ := h
    refine v_loop1 (fun (x1 : Int) => [(0, .ref (adX X 0)), (1, .int (iI x1))]) I1 μ1 (fun x1 s1 hI1 ih1 => ?_) 0 s0 h01
    replace h := h x1 s1 hI1
    refine v_iloadn E d_M_keep_13 rfl 1 rfl ?_
    refine v_bipush E d_M_keep_14 rfl ?_
    obtain ⟨q1, h⟩ := h
    refine v_icmp_ge E 45 d_M_keep_16 (by decide) q1 (by decide) (fun c2 => ?_) (fun c2 => ?_)
    · replace h := h.1 c2
      refine v_aloadn E d_M_keep_45 rfl 0 rfl ?_
      refine v_dup E d_M_keep_46 rfl ?_
      refine v_getI E cf9 dM_0 31 (by decide) rfl mw558 d_M_keep_47 rfl ?_
      refine v_iconst E d_M_keep_50 ?_
      refine v_iadd E d_M_keep_51 ?_
      obtain ⟨q2, h⟩ := h
      refine v_putI E cf9 dM_0 31 (by decide) rfl rfl mw558 d_M_keep_52 rfl rfl rfl q2 ?_
      refine v_nameS (fun s2 hs2 => ?_)
      replace h := h s2 hs2
      refine v_aloadn E d_M_keep_55 rfl 0 rfl ?_
      refine v_getI E cf9 dM_0 31 (by decide) rfl mw558 d_M_keep_56 rfl ?_
      refine v_wt (fun wt2 => ?_)
      exact v_iret E hR rfl (wt2 0 31) h d_M_keep_59
    · replace h := h.2 c2
      refine v_aloadn E d_M_keep_19 rfl 0 rfl ?_
      refine v_getA E cf9 dM_0 32 (by decide) rfl mw719 d_M_keep_20 rfl ?_
      refine v_bipush E d_M_keep_23 rfl ?_
      refine v_aloadn E d_M_keep_25 rfl 0 rfl ?_
      refine v_getI E cf9 dM_0 31 (by decide) rfl mw558 d_M_keep_26 rfl ?_
      refine v_imul E d_M_keep_29 ?_
      refine v_iloadn E d_M_keep_30 rfl 1 rfl ?_
      refine v_iadd E d_M_keep_31 ?_
      refine v_aloadn E d_M_keep_32 rfl 0 rfl ?_
      refine v_getA E cf9 dM_0 19 (by decide) rfl mw556 d_M_keep_33 rfl ?_
      refine v_iloadn E d_M_keep_36 rfl 1 rfl ?_
      obtain ⟨q3, h⟩ := h
      refine v_iald E dM_13 (by decide) q3.1 q3.2 d_M_keep_37 ?_
      obtain ⟨q4, h⟩ := h
      refine v_wt (fun wt3 => ?_)
      refine v_iast E dM_22 (by decide) q4.1 q4.2 (wt3 13 x1) d_M_keep_38 ?_
      refine v_nameS (fun s3 hs3 => ?_)
      replace h := h s3 hs3
      refine v_iincN E d_M_keep_39 1 rfl (by decide) (fun y => [(1, .int (iI y)), (0, .ref (adX X 0))]) (fun _ => rfl) (fun x2 hx2 => ?_)
      replace h := h x2 hx2
      refine v_goto E 13 d_M_keep_42 (by decide) ?_
      obtain ⟨hb, hm⟩ := h
      exact v_sub [1, 0] rfl (ih1 x2 s3 hb hm)
  · replace h := h.2 c1
    refine v_bipush E d_M_keep_8 rfl ?_
    exact v_iret E hR rfl (by decide) h d_M_keep_10
theorem d_M_back_0 : decode prog_11_method_64_code 0 = .ok (.aload_n 0, 1) := by decide +kernel
theorem d_M_back_1 : decode prog_11_method_64_code 1 = .ok (.getfield 157, 3) := by decide +kernel
theorem d_M_back_4 : decode prog_11_method_64_code 4 = .ok (.ifCond .ne 6, 3) := by decide +kernel
theorem d_M_back_7 : decode prog_11_method_64_code 7 = .ok (.bipush (-2), 2) := by decide +kernel
theorem d_M_back_9 : decode prog_11_method_64_code 9 = .ok (.ireturn, 1) := by decide +kernel
theorem d_M_back_10 : decode prog_11_method_64_code 10 = .ok (.aload_n 0, 1) := by decide +kernel
theorem d_M_back_11 : decode prog_11_method_64_code 11 = .ok (.dup, 1) := by decide +kernel
theorem d_M_back_12 : decode prog_11_method_64_code 12 = .ok (.getfield 157, 3) := by decide +kernel
theorem d_M_back_15 : decode prog_11_method_64_code 15 = .ok (.iconst 1, 1) := by decide +kernel
theorem d_M_back_16 : decode prog_11_method_64_code 16 = .ok (.isub, 1) := by decide +kernel
theorem d_M_back_17 : decode prog_11_method_64_code 17 = .ok (.putfield 157, 3) := by decide +kernel
theorem d_M_back_20 : decode prog_11_method_64_code 20 = .ok (.iconst 0, 1) := by decide +kernel
theorem d_M_back_21 : decode prog_11_method_64_code 21 = .ok (.istore_n 1, 1) := by decide +kernel
theorem d_M_back_22 : decode prog_11_method_64_code 22 = .ok (.iload_n 1, 1) := by decide +kernel
theorem d_M_back_23 : decode prog_11_method_64_code 23 = .ok (.bipush 13, 2) := by decide +kernel
theorem d_M_back_25 : decode prog_11_method_64_code 25 = .ok (.if_icmp .ge 29, 3) := by decide +kernel
theorem d_M_back_28 : decode prog_11_method_64_code 28 = .ok (.aload_n 0, 1) := by decide +kernel
theorem d_M_back_29 : decode prog_11_method_64_code 29 = .ok (.getfield 46, 3) := by decide +kernel
theorem d_M_back_32 : decode prog_11_method_64_code 32 = .ok (.iload_n 1, 1) := by decide +kernel
theorem d_M_back_33 : decode prog_11_method_64_code 33 = .ok (.aload_n 0, 1) := by decide +kernel
theorem d_M_back_34 : decode prog_11_method_64_code 34 = .ok (.getfield 74, 3) := by decide +kernel
theorem d_M_back_37 : decode prog_11_method_64_code 37 = .ok (.bipush 13, 2) := by decide +kernel
theorem d_M_back_39 : decode prog_11_method_64_code 39 = .ok (.aload_n 0, 1) := by decide +kernel
theorem d_M_back_40 : decode prog_11_method_64_code 40 = .ok (.getfield 157, 3) := by decide +kernel
theorem d_M_back_43 : decode prog_11_method_64_code 43 = .ok (.imul, 1) := by decide +kernel
theorem d_M_back_44 : decode prog_11_method_64_code 44 = .ok (.iload_n 1, 1) := by decide +kernel
theorem d_M_back_45 : decode prog_11_method_64_code 45 = .ok (.iadd, 1) := by decide +kernel
theorem d_M_back_46 : decode prog_11_method_64_code 46 = .ok (.iaload, 1) := by decide +kernel
theorem d_M_back_47 : decode prog_11_method_64_code 47 = .ok (.iastore, 1) := by decide +kernel
theorem d_M_back_48 : decode prog_11_method_64_code 48 = .ok (.iinc 1 1, 3) := by decide +kernel
theorem d_M_back_51 : decode prog_11_method_64_code 51 = .ok (.goto (-29), 3) := by decide +kernel
theorem d_M_back_54 : decode prog_11_method_64_code 54 = .ok (.aload_n 0, 1) := by decide +kernel
theorem d_M_back_55 : decode prog_11_method_64_code 55 = .ok (.iconst 0, 1) := by decide +kernel
theorem d_M_back_56 : decode prog_11_method_64_code 56 = .ok (.putfield 154, 3) := by decide +kernel
theorem d_M_back_59 : decode prog_11_method_64_code 59 = .ok (.aload_n 0, 1) := by decide +kernel
theorem d_M_back_60 : decode prog_11_method_64_code 60 = .ok (.getfield 157, 3) := by decide +kernel
theorem d_M_back_63 : decode prog_11_method_64_code 63 = .ok (.ireturn, 1) := by decide +kernel
set_option maxHeartbeats 4000000 in
set_option maxRecDepth 20000 in
theorem c_M_back (s0 : MS) (Q : Int → MS → Prop) (h : wp_M_back s0 Q) : MT dscM ⟨"BellSchoolModel", "back", "()I"⟩ prog_11_method_64_code 2 (some .int) 0 (fun ad => [.ref (ad 0)]) s0 (po_I dscM Q) := by
  refine met_of (by decide) (fun _ => Nat.le_of_ble_eq_true rfl) (fun X E hR => ?_)
  replace E : EV dscM X prog_11_method_64_code "BellSchoolModel" 2 0 := E
  show VV dscM X 0 [(0, .ref (adX X 0))] [] s0
  unfold wp_M_back at h
  refine v_aloadn E d_M_back_0 rfl 0 rfl ?_
  refine v_getI E cf9 dM_0 31 (by decide) rfl mw558 d_M_back_1 rfl ?_
  refine v_wt (fun wt1 => ?_)
  refine v_if_ne E 10 d_M_back_4 (by decide) (wt1 0 31) (fun c1 => ?_) (fun c1 => ?_)
  · replace h := h.1 c1
    refine v_aloadn E d_M_back_10 rfl 0 rfl ?_
    refine v_dup E d_M_back_11 rfl ?_
    refine v_getI E cf9 dM_0 31 (by decide) rfl mw558 d_M_back_12 rfl ?_
    refine v_iconst E d_M_back_15 ?_
    refine v_isub E d_M_back_16 ?_
    obtain ⟨q1, h⟩ := h
    refine v_putI E cf9 dM_0 31 (by decide) rfl rfl mw558 d_M_back_17 rfl rfl rfl q1 ?_
    refine v_nameS (fun s1 hs1 => ?_)
    replace h := h s1 hs1
    refine v_iconst E d_M_back_20 ?_
    refine v_istoren E d_M_back_21 rfl (by decide) (L' := [(1, .int (iI 0)), (0, .ref (adX X 0))]) rfl ?_
    refine v_sub [1, 0] (L' := [(0, .ref (adX X 0)), (1, .int (iI 0))]) rfl ?_
    obtain ⟨I1, μ1, h01, h⟩ := h
    refine v_loop1 (fun (x1 : Int) => [(0, .ref (adX X 0)), (1, .int (iI x1))]) I1 μ1 (fun x1 s2 hI1 ih1 => ?_) 0 s1 h01
    replace h := h x1 s2 hI1
    refine v_iloadn E d_M_back_22 rfl 1 rfl ?_
    refine v_bipush E d_M_back_23 rfl ?_
    obtain ⟨q2, h⟩ := h
    refine v_icmp_ge E 54 d_M_back_25 (by decide) q2 (by decide) (fun c2 => ?_) (fun c2 => ?_)
    · replace h := h.1 c2
      refine v_aloadn E d_M_back_54 rfl 0 rfl ?_
      refine v_iconst E d_M_back_55 ?_
      refine v_putI E cf9 dM_0 22 (by decide) rfl rfl mw557 d_M_back_56 rfl rfl rfl (by decide) ?_
      refine v_nameS (fun s3 hs3 => ?_)
      replace h := h s3 hs3
      refine v_aloadn E d_M_back_59 rfl 0 rfl ?_
      refine v_getI E cf9 dM_0 31 (by decide) rfl mw558 d_M_back_60 rfl ?_
      refine v_wt (fun wt2 => ?_)
      exact v_iret E hR rfl (wt2 0 31) h d_M_back_63
    · replace h := h.2 c2
      refine v_aloadn E d_M_back_28 rfl 0 rfl ?_
      refine v_getA E cf9 dM_0 19 (by decide) rfl mw556 d_M_back_29 rfl ?_
      refine v_iloadn E d_M_back_32 rfl 1 rfl ?_
      refine v_aloadn E d_M_back_33 rfl 0 rfl ?_
      refine v_getA E cf9 dM_0 32 (by decide) rfl mw719 d_M_back_34 rfl ?_
      refine v_bipush E d_M_back_37 rfl ?_
      refine v_aloadn E d_M_back_39 rfl 0 rfl ?_
      refine v_getI E cf9 dM_0 31 (by decide) rfl mw558 d_M_back_40 rfl ?_
      refine v_imul E d_M_back_43 ?_
      refine v_iloadn E d_M_back_44 rfl 1 rfl ?_
      refine v_iadd E d_M_back_45 ?_
      obtain ⟨q3, h⟩ := h
      refine v_iald E dM_22 (by decide) q3.1 q3.2 d_M_back_46 ?_
      obtain ⟨q4, h⟩ := h
      refine v_wt (fun wt3 => ?_)
      refine v_iast E dM_13 (by decide) q4.1 q4.2 (wt3 22 ((13 * (gI s2 0 31)) + x1)) d_M_back_47 ?_
      refine v_nameS (fun s4 hs4 => ?_)
      replace h := h s4 hs4
      refine v_iincN E d_M_back_48 1 rfl (by decide) (fun y => [(1, .int (iI y)), (0, .ref (adX X 0))]) (fun _ => rfl) (fun x2 hx2 => ?_)
      replace h := h x2 hx2
      refine v_goto E 22 d_M_back_51 (by decide) ?_
      obtain ⟨hb, hm⟩ := h
      exact v_sub [1, 0] rfl (ih1 x2 s4 hb hm)
  · replace h := h.2 c1
    refine v_bipush E d_M_back_7 rfl ?_
    exact v_iret E hR rfl (by decide) h d_M_back_9
theorem d_M_wayMany_0 : decode prog_11_method_65_code 0 = .ok (.iconst 0, 1) := by decide +kernel
theorem d_M_wayMany_1 : decode prog_11_method_65_code 1 = .ok (.istore_n 1, 1) := by decide +kernel
theorem d_M_wayMany_2 : decode prog_11_method_65_code 2 = .ok (.iconst 0, 1) := by decide +kernel
theorem d_M_wayMany_3 : decode prog_11_method_65_code 3 = .ok (.istore_n 2, 1) := by decide +kernel
theorem d_M_wayMany_4 : decode prog_11_method_65_code 4 = .ok (.iload_n 2, 1) := by decide +kernel
theorem d_M_wayMany_5 : decode prog_11_method_65_code 5 = .ok (.bipush 49, 2) := by decide +kernel
theorem d_M_wayMany_7 : decode prog_11_method_65_code 7 = .ok (.if_icmp .ge 26, 3) := by decide +kernel
theorem d_M_wayMany_10 : decode prog_11_method_65_code 10 = .ok (.iload_n 1, 1) := by decide +kernel
theorem d_M_wayMany_11 : decode prog_11_method_65_code 11 = .ok (.aload_n 0, 1) := by decide +kernel
theorem d_M_wayMany_12 : decode prog_11_method_65_code 12 = .ok (.getfield 37, 3) := by decide +kernel
theorem d_M_wayMany_15 : decode prog_11_method_65_code 15 = .ok (.iload_n 2, 1) := by decide +kernel
theorem d_M_wayMany_16 : decode prog_11_method_65_code 16 = .ok (.iaload, 1) := by decide +kernel
theorem d_M_wayMany_17 : decode prog_11_method_65_code 17 = .ok (.ifCond .le 7, 3) := by decide +kernel
theorem d_M_wayMany_20 : decode prog_11_method_65_code 20 = .ok (.iconst 1, 1) := by decide +kernel
theorem d_M_wayMany_21 : decode prog_11_method_65_code 21 = .ok (.goto 4, 3) := by decide +kernel
theorem d_M_wayMany_24 : decode prog_11_method_65_code 24 = .ok (.iconst 0, 1) := by decide +kernel
theorem d_M_wayMany_25 : decode prog_11_method_65_code 25 = .ok (.iadd, 1) := by decide +kernel
theorem d_M_wayMany_26 : decode prog_11_method_65_code 26 = .ok (.istore_n 1, 1) := by decide +kernel
theorem d_M_wayMany_27 : decode prog_11_method_65_code 27 = .ok (.iinc 2 1, 3) := by decide +kernel
theorem d_M_wayMany_30 : decode prog_11_method_65_code 30 = .ok (.goto (-26), 3) := by decide +kernel
theorem d_M_wayMany_33 : decode prog_11_method_65_code 33 = .ok (.iload_n 1, 1) := by decide +kernel
theorem d_M_wayMany_34 : decode prog_11_method_65_code 34 = .ok (.iconst 2, 1) := by decide +kernel
theorem d_M_wayMany_35 : decode prog_11_method_65_code 35 = .ok (.idiv, 1) := by decide +kernel
theorem d_M_wayMany_36 : decode prog_11_method_65_code 36 = .ok (.ireturn, 1) := by decide +kernel
set_option maxHeartbeats 4000000 in
set_option maxRecDepth 20000 in
theorem c_M_wayMany (s0 : MS) (Q : Int → Prop) (h : wp_M_wayMany s0 Q) : MT dscM ⟨"BellSchoolModel", "wayMany", "()I"⟩ prog_11_method_65_code 3 (some .int) 0 (fun ad => [.ref (ad 0)]) s0 (po_I dscM (fun r z => z = s0 ∧ Q r)) := by
  refine met_of (by decide) (fun _ => Nat.le_of_ble_eq_true rfl) (fun X E hR => ?_)
  replace E : EV dscM X prog_11_method_65_code "BellSchoolModel" 3 0 := E
  show VV dscM X 0 [(0, .ref (adX X 0))] [] s0
  unfold wp_M_wayMany at h
  refine v_iconst E d_M_wayMany_0 ?_
  refine v_istoren E d_M_wayMany_1 rfl (by decide) (L' := [(1, .int (iI 0)), (0, .ref (adX X 0))]) rfl ?_
  refine v_iconst E d_M_wayMany_2 ?_
  refine v_istoren E d_M_wayMany_3 rfl (by decide) (L' := [(2, .int (iI 0)), (1, .int (iI 0)), (0, .ref (adX X 0))]) rfl ?_
  refine v_sub [2, 1, 0] (L' := [(0, .ref (adX X 0)), (1, .int (iI 0)), (2, .int (iI 0))]) rfl ?_
  obtain ⟨I1, μ1, h01, h⟩ := h
  refine v_ploop2 s0 (fun (x1 : Int) (x2 : Int) => [(0, .ref (adX X 0)), (1, .int (iI x1)), (2, .int (iI x2))]) I1 μ1 (fun x1 x2 hI1 ih1 => ?_) 0 0 h01
  replace h := h x1 x2  hI1
  refine v_iloadn E d_M_wayMany_4 rfl 2 rfl ?_
  refine v_bipush E d_M_wayMany_5 rfl ?_
  obtain ⟨q1, h⟩ := h
  refine v_icmp_ge E 33 d_M_wayMany_7 (by decide) q1 (by decide) (fun c1 => ?_) (fun c1 => ?_)
  · replace h := h.1 c1
    refine v_iloadn E d_M_wayMany_33 rfl 1 rfl ?_
    refine v_iconst E d_M_wayMany_34 ?_
    obtain ⟨q2, h⟩ := h
    refine v_idiv E d_M_wayMany_35 q2 (by decide) ?_
    exact v_iret E hR rfl (Rng_dv q2 (by decide)) ⟨rfl, h⟩ d_M_wayMany_36
  · replace h := h.2 c1
    refine v_iloadn E d_M_wayMany_10 rfl 1 rfl ?_
    refine v_aloadn E d_M_wayMany_11 rfl 0 rfl ?_
    refine v_getA E cf9 dM_0 16 (by decide) rfl mw560 d_M_wayMany_12 rfl ?_
    refine v_iloadn E d_M_wayMany_15 rfl 2 rfl ?_
    obtain ⟨q3, h⟩ := h
    refine v_iald E dM_10 (by decide) q3.1 q3.2 d_M_wayMany_16 ?_
    refine v_wt (fun wt1 => ?_)
    refine v_if_le E 24 d_M_wayMany_17 (by decide) (wt1 10 x2) (fun c2 => ?_) (fun c2 => ?_)
    · replace h := h.1 c2
      refine v_iconst E d_M_wayMany_24 ?_
      refine v_iadd E d_M_wayMany_25 ?_
      refine v_nameI (fun x3 hx3 => ?_)
      replace h := h x3 hx3
      refine v_istoren E d_M_wayMany_26 rfl (by decide) (L' := [(1, .int (iI x3)), (0, .ref (adX X 0)), (2, .int (iI x2))]) rfl ?_
      refine v_iincN E d_M_wayMany_27 2 rfl (by decide) (fun y => [(2, .int (iI y)), (1, .int (iI x3)), (0, .ref (adX X 0))]) (fun _ => rfl) (fun x4 hx4 => ?_)
      replace h := h x4 hx4
      refine v_goto E 4 d_M_wayMany_30 (by decide) ?_
      obtain ⟨hb, hm⟩ := h
      exact v_sub [2, 1, 0] rfl (ih1 x3 x4 hb hm)
    · replace h := h.2 c2
      refine v_iconst E d_M_wayMany_20 ?_
      refine v_goto E 25 d_M_wayMany_21 (by decide) ?_
      refine v_iadd E d_M_wayMany_25 ?_
      refine v_nameI (fun x5 hx5 => ?_)
      replace h := h x5 hx5
      refine v_istoren E d_M_wayMany_26 rfl (by decide) (L' := [(1, .int (iI x5)), (0, .ref (adX X 0)), (2, .int (iI x2))]) rfl ?_
      refine v_iincN E d_M_wayMany_27 2 rfl (by decide) (fun y => [(2, .int (iI y)), (1, .int (iI x5)), (0, .ref (adX X 0))]) (fun _ => rfl) (fun x6 hx6 => ?_)
      replace h := h x6 hx6
      refine v_goto E 4 d_M_wayMany_30 (by decide) ?_
      obtain ⟨hb, hm⟩ := h
      exact v_sub [2, 1, 0] rfl (ih1 x5 x6 hb hm)
theorem d_M_count_0 : decode prog_11_method_66_code 0 = .ok (.iload_n 1, 1) := by decide +kernel
theorem d_M_count_1 : decode prog_11_method_66_code 1 = .ok (.tableswitch 131 0 10 #[59, 64, 69, 79, 86, 93, 103, 111, 116, 121, 126], 59) := by decide +kernel
theorem d_M_count_60 : decode prog_11_method_66_code 60 = .ok (.aload_n 0, 1) := by decide +kernel
theorem d_M_count_61 : decode prog_11_method_66_code 61 = .ok (.getfield 148, 3) := by decide +kernel
theorem d_M_count_64 : decode prog_11_method_66_code 64 = .ok (.ireturn, 1) := by decide +kernel
theorem d_M_count_65 : decode prog_11_method_66_code 65 = .ok (.aload_n 0, 1) := by decide +kernel
theorem d_M_count_66 : decode prog_11_method_66_code 66 = .ok (.invokevirtual 246, 3) := by decide +kernel
theorem d_M_count_69 : decode prog_11_method_66_code 69 = .ok (.ireturn, 1) := by decide +kernel
theorem d_M_count_70 : decode prog_11_method_66_code 70 = .ok (.aload_n 0, 1) := by decide +kernel
theorem d_M_count_71 : decode prog_11_method_66_code 71 = .ok (.getfield 46, 3) := by decide +kernel
theorem d_M_count_74 : decode prog_11_method_66_code 74 = .ok (.iconst 4, 1) := by decide +kernel
theorem d_M_count_75 : decode prog_11_method_66_code 75 = .ok (.iaload, 1) := by decide +kernel
theorem d_M_count_76 : decode prog_11_method_66_code 76 = .ok (.invokestatic 249, 3) := by decide +kernel
theorem d_M_count_79 : decode prog_11_method_66_code 79 = .ok (.ireturn, 1) := by decide +kernel
theorem d_M_count_80 : decode prog_11_method_66_code 80 = .ok (.aload_n 0, 1) := by decide +kernel
theorem d_M_count_81 : decode prog_11_method_66_code 81 = .ok (.getfield 46, 3) := by decide +kernel
theorem d_M_count_84 : decode prog_11_method_66_code 84 = .ok (.iconst 1, 1) := by decide +kernel
theorem d_M_count_85 : decode prog_11_method_66_code 85 = .ok (.iaload, 1) := by decide +kernel
theorem d_M_count_86 : decode prog_11_method_66_code 86 = .ok (.ireturn, 1) := by decide +kernel
theorem d_M_count_87 : decode prog_11_method_66_code 87 = .ok (.aload_n 0, 1) := by decide +kernel
theorem d_M_count_88 : decode prog_11_method_66_code 88 = .ok (.getfield 46, 3) := by decide +kernel
theorem d_M_count_91 : decode prog_11_method_66_code 91 = .ok (.iconst 0, 1) := by decide +kernel
theorem d_M_count_92 : decode prog_11_method_66_code 92 = .ok (.iaload, 1) := by decide +kernel
theorem d_M_count_93 : decode prog_11_method_66_code 93 = .ok (.ireturn, 1) := by decide +kernel
theorem d_M_count_94 : decode prog_11_method_66_code 94 = .ok (.aload_n 0, 1) := by decide +kernel
theorem d_M_count_95 : decode prog_11_method_66_code 95 = .ok (.getfield 46, 3) := by decide +kernel
theorem d_M_count_98 : decode prog_11_method_66_code 98 = .ok (.iconst 3, 1) := by decide +kernel
theorem d_M_count_99 : decode prog_11_method_66_code 99 = .ok (.iaload, 1) := by decide +kernel
theorem d_M_count_100 : decode prog_11_method_66_code 100 = .ok (.invokestatic 249, 3) := by decide +kernel
theorem d_M_count_103 : decode prog_11_method_66_code 103 = .ok (.ireturn, 1) := by decide +kernel
theorem d_M_count_104 : decode prog_11_method_66_code 104 = .ok (.aload_n 0, 1) := by decide +kernel
theorem d_M_count_105 : decode prog_11_method_66_code 105 = .ok (.getfield 46, 3) := by decide +kernel
theorem d_M_count_108 : decode prog_11_method_66_code 108 = .ok (.invokestatic 242, 3) := by decide +kernel
theorem d_M_count_111 : decode prog_11_method_66_code 111 = .ok (.ireturn, 1) := by decide +kernel
theorem d_M_count_112 : decode prog_11_method_66_code 112 = .ok (.aload_n 0, 1) := by decide +kernel
theorem d_M_count_113 : decode prog_11_method_66_code 113 = .ok (.getfield 160, 3) := by decide +kernel
theorem d_M_count_116 : decode prog_11_method_66_code 116 = .ok (.ireturn, 1) := by decide +kernel
theorem d_M_count_117 : decode prog_11_method_66_code 117 = .ok (.aload_n 0, 1) := by decide +kernel
theorem d_M_count_118 : decode prog_11_method_66_code 118 = .ok (.getfield 154, 3) := by decide +kernel
theorem d_M_count_121 : decode prog_11_method_66_code 121 = .ok (.ireturn, 1) := by decide +kernel
theorem d_M_count_122 : decode prog_11_method_66_code 122 = .ok (.aload_n 0, 1) := by decide +kernel
theorem d_M_count_123 : decode prog_11_method_66_code 123 = .ok (.getfield 157, 3) := by decide +kernel
theorem d_M_count_126 : decode prog_11_method_66_code 126 = .ok (.ireturn, 1) := by decide +kernel
theorem d_M_count_127 : decode prog_11_method_66_code 127 = .ok (.aload_n 0, 1) := by decide +kernel
theorem d_M_count_128 : decode prog_11_method_66_code 128 = .ok (.getfield 109, 3) := by decide +kernel
theorem d_M_count_131 : decode prog_11_method_66_code 131 = .ok (.ireturn, 1) := by decide +kernel
theorem d_M_count_132 : decode prog_11_method_66_code 132 = .ok (.iconst (-1), 1) := by decide +kernel
theorem d_M_count_133 : decode prog_11_method_66_code 133 = .ok (.ireturn, 1) := by decide +kernel
set_option maxHeartbeats 4000000 in
set_option maxRecDepth 20000 in
theorem c_M_count (p1 : Int) (hp1 : Rng p1) (s0 : MS) (Q : Int → Prop) (h : wp_M_count p1 s0 Q) : MT dscM ⟨"BellSchoolModel", "count", "(I)I"⟩ prog_11_method_66_code 2 (some .int) 1 (fun ad => [.ref (ad 0), .int (iI p1)]) s0 (po_I dscM (fun r z => z = s0 ∧ Q r)) := by
  refine met_of (by decide) (fun _ => Nat.le_of_ble_eq_true rfl) (fun X E hR => ?_)
  replace E : EV dscM X prog_11_method_66_code "BellSchoolModel" 2 1 := E
  show VV dscM X 0 [(0, .ref (adX X 0)), (1, .int (iI p1))] [] s0
  unfold wp_M_count at h
  refine v_iloadn E d_M_count_0 rfl 1 rfl ?_
  by_cases c1 : p1 = 0
  · replace h := h.1 c1
    refine v_tableIn E d_M_count_1 hp1 (v := 0) c1 (by decide) (by decide) rfl 60 (by decide) ?_
    refine v_aloadn E d_M_count_60 rfl 0 rfl ?_
    refine v_getI E cf9 dM_0 12 (by decide) rfl mw554 d_M_count_61 rfl ?_
    refine v_wt (fun wt1 => ?_)
    exact v_iret E hR rfl (wt1 0 12) ⟨rfl, h⟩ d_M_count_64
  · skip
    by_cases c2 : p1 = 1
    · replace h := h.2.1 c2
      refine v_tableIn E d_M_count_1 hp1 (v := 1) c2 (by decide) (by decide) rfl 65 (by decide) ?_
      refine v_aloadn E d_M_count_65 rfl 0 rfl ?_
      refine v_callVIp E md_M_wayMany (c_M_wayMany s0 _ h) dM_0 rfl ⟨by decide, by decide⟩ mw729 d_M_count_66 (fun _ => rfl) (st := []) rfl (Nat.le_of_ble_eq_true rfl) (fun r1 hr1 h => ?_)
      exact v_iret E hR rfl hr1 ⟨rfl, h⟩ d_M_count_69
    · skip
      by_cases c3 : p1 = 2
      · replace h := h.2.2.1 c3
        refine v_tableIn E d_M_count_1 hp1 (v := 2) c3 (by decide) (by decide) rfl 70 (by decide) ?_
        refine v_aloadn E d_M_count_70 rfl 0 rfl ?_
        refine v_getA E cf9 dM_0 19 (by decide) rfl mw556 d_M_count_71 rfl ?_
        refine v_iconst E d_M_count_74 ?_
        refine v_iald E dM_13 (by decide) (by decide) (by decide) d_M_count_75 ?_
        refine v_wt (fun wt2 => ?_)
        refine v_callSIp E md_M_bits (c_M_bits dscM (gI s0 13 4) (wt2 13 4) s0 _ h) ⟨by decide, by decide⟩ mw730 d_M_count_76 (fun _ => rfl) (st := []) rfl (Nat.le_of_ble_eq_true rfl) (fun r2 hr2 h => ?_)
        exact v_iret E hR rfl hr2 ⟨rfl, h⟩ d_M_count_79
      · skip
        by_cases c4 : p1 = 3
        · replace h := h.2.2.2.1 c4
          refine v_tableIn E d_M_count_1 hp1 (v := 3) c4 (by decide) (by decide) rfl 80 (by decide) ?_
          refine v_aloadn E d_M_count_80 rfl 0 rfl ?_
          refine v_getA E cf9 dM_0 19 (by decide) rfl mw556 d_M_count_81 rfl ?_
          refine v_iconst E d_M_count_84 ?_
          refine v_iald E dM_13 (by decide) (by decide) (by decide) d_M_count_85 ?_
          refine v_wt (fun wt3 => ?_)
          exact v_iret E hR rfl (wt3 13 1) ⟨rfl, h⟩ d_M_count_86
        · skip
          by_cases c5 : p1 = 4
          · replace h := h.2.2.2.2.1 c5
            refine v_tableIn E d_M_count_1 hp1 (v := 4) c5 (by decide) (by decide) rfl 87 (by decide) ?_
            refine v_aloadn E d_M_count_87 rfl 0 rfl ?_
            refine v_getA E cf9 dM_0 19 (by decide) rfl mw556 d_M_count_88 rfl ?_
            refine v_iconst E d_M_count_91 ?_
            refine v_iald E dM_13 (by decide) (by decide) (by decide) d_M_count_92 ?_
            refine v_wt (fun wt4 => ?_)
            exact v_iret E hR rfl (wt4 13 0) ⟨rfl, h⟩ d_M_count_93
          · skip
            by_cases c6 : p1 = 5
            · replace h := h.2.2.2.2.2.1 c6
              refine v_tableIn E d_M_count_1 hp1 (v := 5) c6 (by decide) (by decide) rfl 94 (by decide) ?_
              refine v_aloadn E d_M_count_94 rfl 0 rfl ?_
              refine v_getA E cf9 dM_0 19 (by decide) rfl mw556 d_M_count_95 rfl ?_
              refine v_iconst E d_M_count_98 ?_
              refine v_iald E dM_13 (by decide) (by decide) (by decide) d_M_count_99 ?_
              refine v_wt (fun wt5 => ?_)
              refine v_callSIp E md_M_bits (c_M_bits dscM (gI s0 13 3) (wt5 13 3) s0 _ h) ⟨by decide, by decide⟩ mw730 d_M_count_100 (fun _ => rfl) (st := []) rfl (Nat.le_of_ble_eq_true rfl) (fun r3 hr3 h => ?_)
              exact v_iret E hR rfl hr3 ⟨rfl, h⟩ d_M_count_103
            · skip
              by_cases c7 : p1 = 6
              · replace h := h.2.2.2.2.2.2.1 c7
                refine v_tableIn E d_M_count_1 hp1 (v := 6) c7 (by decide) (by decide) rfl 104 (by decide) ?_
                refine v_aloadn E d_M_count_104 rfl 0 rfl ?_
                refine v_getA E cf9 dM_0 19 (by decide) rfl mw556 d_M_count_105 rfl ?_
                refine v_callSIp E md_M_soups (c_M_soups 13 dM_13 s0 _ h) ⟨by decide, by decide⟩ mw711 d_M_count_108 (fun _ => rfl) (st := []) rfl (Nat.le_of_ble_eq_true rfl) (fun r4 hr4 h => ?_)
                exact v_iret E hR rfl hr4 ⟨rfl, h⟩ d_M_count_111
              · skip
                by_cases c8 : p1 = 7
                · replace h := h.2.2.2.2.2.2.2.1 c8
                  refine v_tableIn E d_M_count_1 hp1 (v := 7) c8 (by decide) (by decide) rfl 112 (by decide) ?_
                  refine v_aloadn E d_M_count_112 rfl 0 rfl ?_
                  refine v_getI E cf9 dM_0 27 (by decide) rfl mw559 d_M_count_113 rfl ?_
                  refine v_wt (fun wt6 => ?_)
                  exact v_iret E hR rfl (wt6 0 27) ⟨rfl, h⟩ d_M_count_116
                · skip
                  by_cases c9 : p1 = 8
                  · replace h := h.2.2.2.2.2.2.2.2.1 c9
                    refine v_tableIn E d_M_count_1 hp1 (v := 8) c9 (by decide) (by decide) rfl 117 (by decide) ?_
                    refine v_aloadn E d_M_count_117 rfl 0 rfl ?_
                    refine v_getI E cf9 dM_0 22 (by decide) rfl mw557 d_M_count_118 rfl ?_
                    refine v_wt (fun wt7 => ?_)
                    exact v_iret E hR rfl (wt7 0 22) ⟨rfl, h⟩ d_M_count_121
                  · skip
                    by_cases c10 : p1 = 9
                    · replace h := h.2.2.2.2.2.2.2.2.2.1 c10
                      refine v_tableIn E d_M_count_1 hp1 (v := 9) c10 (by decide) (by decide) rfl 122 (by decide) ?_
                      refine v_aloadn E d_M_count_122 rfl 0 rfl ?_
                      refine v_getI E cf9 dM_0 31 (by decide) rfl mw558 d_M_count_123 rfl ?_
                      refine v_wt (fun wt8 => ?_)
                      exact v_iret E hR rfl (wt8 0 31) ⟨rfl, h⟩ d_M_count_126
                    · skip
                      by_cases c11 : p1 = 10
                      · replace h := h.2.2.2.2.2.2.2.2.2.2.1 c11
                        refine v_tableIn E d_M_count_1 hp1 (v := 10) c11 (by decide) (by decide) rfl 127 (by decide) ?_
                        refine v_aloadn E d_M_count_127 rfl 0 rfl ?_
                        refine v_getI E cf9 dM_0 0 (by decide) rfl mw497 d_M_count_128 rfl ?_
                        refine v_wt (fun wt9 => ?_)
                        exact v_iret E hR rfl (wt9 0 0) ⟨rfl, h⟩ d_M_count_131
                      · skip
                        replace h := h.2.2.2.2.2.2.2.2.2.2.2 c1 c2 c3 c4 c5 c6 c7 c8 c9 c10 c11
                        refine v_tableOut E d_M_count_1 hp1 (by omega) 132 (by decide) ?_
                        refine v_iconst E d_M_count_132 ?_
                        exact v_iret E hR rfl (by decide) ⟨rfl, h⟩ d_M_count_133
