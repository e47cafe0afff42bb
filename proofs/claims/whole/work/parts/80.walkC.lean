/-! ===== printed by wip/whole/gen.py: the methods keep their conditions ===== -/
theorem d_Text_add_0 : decode prog_8_method_2_code 0 = .ok (.aload_n 0, 1) := by decide +kernel
theorem d_Text_add_1 : decode prog_8_method_2_code 1 = .ok (.getfield 13, 3) := by decide +kernel
theorem d_Text_add_4 : decode prog_8_method_2_code 4 = .ok (.aload_n 0, 1) := by decide +kernel
theorem d_Text_add_5 : decode prog_8_method_2_code 5 = .ok (.getfield 7, 3) := by decide +kernel
theorem d_Text_add_8 : decode prog_8_method_2_code 8 = .ok (.arraylength, 1) := by decide +kernel
theorem d_Text_add_9 : decode prog_8_method_2_code 9 = .ok (.if_icmp .lt 5, 3) := by decide +kernel
theorem d_Text_add_12 : decode prog_8_method_2_code 12 = .ok (.iconst 0, 1) := by decide +kernel
theorem d_Text_add_13 : decode prog_8_method_2_code 13 = .ok (.ireturn, 1) := by decide +kernel
theorem d_Text_add_14 : decode prog_8_method_2_code 14 = .ok (.aload_n 0, 1) := by decide +kernel
theorem d_Text_add_15 : decode prog_8_method_2_code 15 = .ok (.getfield 7, 3) := by decide +kernel
theorem d_Text_add_18 : decode prog_8_method_2_code 18 = .ok (.aload_n 0, 1) := by decide +kernel
theorem d_Text_add_19 : decode prog_8_method_2_code 19 = .ok (.getfield 13, 3) := by decide +kernel
theorem d_Text_add_22 : decode prog_8_method_2_code 22 = .ok (.iload_n 1, 1) := by decide +kernel
theorem d_Text_add_23 : decode prog_8_method_2_code 23 = .ok (.castore, 1) := by decide +kernel
theorem d_Text_add_24 : decode prog_8_method_2_code 24 = .ok (.aload_n 0, 1) := by decide +kernel
theorem d_Text_add_25 : decode prog_8_method_2_code 25 = .ok (.dup, 1) := by decide +kernel
theorem d_Text_add_26 : decode prog_8_method_2_code 26 = .ok (.getfield 13, 3) := by decide +kernel
theorem d_Text_add_29 : decode prog_8_method_2_code 29 = .ok (.iconst 1, 1) := by decide +kernel
theorem d_Text_add_30 : decode prog_8_method_2_code 30 = .ok (.iadd, 1) := by decide +kernel
theorem d_Text_add_31 : decode prog_8_method_2_code 31 = .ok (.putfield 13, 3) := by decide +kernel
theorem d_Text_add_34 : decode prog_8_method_2_code 34 = .ok (.iconst 1, 1) := by decide +kernel
theorem d_Text_add_35 : decode prog_8_method_2_code 35 = .ok (.ireturn, 1) := by decide +kernel
set_option maxHeartbeats 4000000 in
set_option maxRecDepth 20000 in
theorem c_Text_add (p1 : Int) (hp1 : Rng p1) (s0 : MS) (Q : Int → MS → Prop) (h : wp_Text_add p1 s0 Q) : MT dscC ⟨"BellSchool$Text", "add", "(C)Z"⟩ prog_8_method_2_code 2 (some .boolean) 0 (fun ad => [.ref (ad 13), .int (iI p1)]) s0 (po_I dscC (fun r z => (r = 0 ∨ r = 1) ∧ Q r z)) := by
  refine met_of (by decide) (fun _ => Nat.le_of_ble_eq_true rfl) (fun X E hR => ?_)
  replace E : EV dscC X prog_8_method_2_code "BellSchool$Text" 2 0 := E
  show VV dscC X 0 [(0, .ref (adX X 13)), (1, .int (iI p1))] [] s0
  unfold wp_Text_add at h
  refine v_aloadn E d_Text_add_0 rfl 0 rfl ?_
  refine v_getI E cf6 dC_13 1 (by decide) rfl mw0 d_Text_add_1 rfl ?_
  refine v_aloadn E d_Text_add_4 rfl 0 rfl ?_
  refine v_getA E cf6 dC_13 0 (by decide) rfl mw1 d_Text_add_5 rfl ?_
  refine v_alen E (by decide) dC_14 d_Text_add_8 ?_
  refine v_wt (fun wt1 => ?_)
  refine v_icmp_lt E 14 d_Text_add_9 (by decide) (wt1 13 1) (by decide) (fun c1 => ?_) (fun c1 => ?_)
  · replace h := h.1 c1
    refine v_aloadn E d_Text_add_14 rfl 0 rfl ?_
    refine v_getA E cf6 dC_13 0 (by decide) rfl mw1 d_Text_add_15 rfl ?_
    refine v_aloadn E d_Text_add_18 rfl 0 rfl ?_
    refine v_getI E cf6 dC_13 1 (by decide) rfl mw0 d_Text_add_19 rfl ?_
    refine v_iloadn E d_Text_add_22 rfl 1 rfl ?_
    obtain ⟨q1, h⟩ := h
    obtain ⟨q2, h⟩ := h
    refine v_cast E dC_14 (by decide) q1.1 q1.2 q2.1 q2.2 d_Text_add_23 ?_
    refine v_nameS (fun s1 hs1 => ?_)
    replace h := h s1 hs1
    refine v_aloadn E d_Text_add_24 rfl 0 rfl ?_
    refine v_dup E d_Text_add_25 rfl ?_
    refine v_getI E cf6 dC_13 1 (by decide) rfl mw0 d_Text_add_26 rfl ?_
    refine v_iconst E d_Text_add_29 ?_
    refine v_iadd E d_Text_add_30 ?_
    obtain ⟨q3, h⟩ := h
    refine v_putI E cf6 dC_13 1 (by decide) rfl rfl mw0 d_Text_add_31 rfl rfl rfl q3 ?_
    refine v_nameS (fun s2 hs2 => ?_)
    replace h := h s2 hs2
    refine v_iconst E d_Text_add_34 ?_
    exact v_iret E hR (nar_Z (by decide)) (Rng_Z (by decide)) ⟨(by decide), h⟩ d_Text_add_35
  · replace h := h.2 c1
    refine v_iconst E d_Text_add_12 ?_
    exact v_iret E hR (nar_Z (by decide)) (Rng_Z (by decide)) ⟨(by decide), h⟩ d_Text_add_13
theorem d_B_write_0 : decode prog_1_method_2_code 0 = .ok (.iload_n 1, 1) := by decide +kernel
theorem d_B_write_1 : decode prog_1_method_2_code 1 = .ok (.bipush 32, 2) := by decide +kernel
theorem d_B_write_3 : decode prog_1_method_2_code 3 = .ok (.if_icmp .lt 9, 3) := by decide +kernel
theorem d_B_write_6 : decode prog_1_method_2_code 6 = .ok (.iload_n 1, 1) := by decide +kernel
theorem d_B_write_7 : decode prog_1_method_2_code 7 = .ok (.bipush 126, 2) := by decide +kernel
theorem d_B_write_9 : decode prog_1_method_2_code 9 = .ok (.if_icmp .le 5, 3) := by decide +kernel
theorem d_B_write_12 : decode prog_1_method_2_code 12 = .ok (.iconst (-1), 1) := by decide +kernel
theorem d_B_write_13 : decode prog_1_method_2_code 13 = .ok (.ireturn, 1) := by decide +kernel
theorem d_B_write_14 : decode prog_1_method_2_code 14 = .ok (.aload_n 0, 1) := by decide +kernel
theorem d_B_write_15 : decode prog_1_method_2_code 15 = .ok (.getfield 22, 3) := by decide +kernel
theorem d_B_write_18 : decode prog_1_method_2_code 18 = .ok (.iload_n 1, 1) := by decide +kernel
theorem d_B_write_19 : decode prog_1_method_2_code 19 = .ok (.i2c, 1) := by decide +kernel
theorem d_B_write_20 : decode prog_1_method_2_code 20 = .ok (.invokevirtual 101, 3) := by decide +kernel
theorem d_B_write_23 : decode prog_1_method_2_code 23 = .ok (.ifCond .eq 13, 3) := by decide +kernel
theorem d_B_write_26 : decode prog_1_method_2_code 26 = .ok (.aload_n 0, 1) := by decide +kernel
theorem d_B_write_27 : decode prog_1_method_2_code 27 = .ok (.getfield 22, 3) := by decide +kernel
theorem d_B_write_30 : decode prog_1_method_2_code 30 = .ok (.getfield 109, 3) := by decide +kernel
theorem d_B_write_33 : decode prog_1_method_2_code 33 = .ok (.goto 5, 3) := by decide +kernel
theorem d_B_write_36 : decode prog_1_method_2_code 36 = .ok (.bipush (-3), 2) := by decide +kernel
theorem d_B_write_38 : decode prog_1_method_2_code 38 = .ok (.ireturn, 1) := by decide +kernel
set_option maxHeartbeats 4000000 in
set_option maxRecDepth 20000 in
theorem c_B_write (p1 : Int) (hp1 : Rng p1) (s0 : MS) (Q : Int → MS → Prop) (h : wp_B_write p1 s0 Q) : MT dscC ⟨"BellSchool", "write", "(I)I"⟩ prog_1_method_2_code 2 (some .int) 1 (fun ad => [.ref (ad 0), .int (iI p1)]) s0 (po_I dscC Q) := by
  refine met_of (by decide) (fun _ => Nat.le_of_ble_eq_true rfl) (fun X E hR => ?_)
  replace E : EV dscC X prog_1_method_2_code "BellSchool" 2 1 := E
  show VV dscC X 0 [(0, .ref (adX X 0)), (1, .int (iI p1))] [] s0
  unfold wp_B_write at h
  refine v_iloadn E d_B_write_0 rfl 1 rfl ?_
  refine v_bipush E d_B_write_1 rfl ?_
  refine v_icmp_lt E 12 d_B_write_3 (by decide) hp1 (by decide) (fun c1 => ?_) (fun c1 => ?_)
  · replace h := h.1 c1
    refine v_iconst E d_B_write_12 ?_
    exact v_iret E hR rfl (by decide) h d_B_write_13
  · replace h := h.2 c1
    refine v_iloadn E d_B_write_6 rfl 1 rfl ?_
    refine v_bipush E d_B_write_7 rfl ?_
    refine v_icmp_le E 14 d_B_write_9 (by decide) hp1 (by decide) (fun c2 => ?_) (fun c2 => ?_)
    · replace h := h.1 c2
      refine v_aloadn E d_B_write_14 rfl 0 rfl ?_
      refine v_getA E cf8 dC_0 2 (by decide) rfl mw6 d_B_write_15 rfl ?_
      refine v_iloadn E d_B_write_18 rfl 1 rfl ?_
      refine v_i2c E d_B_write_19 hp1 ?_
      refine v_callVI E md_Text_add (c_Text_add (p1 % 65536) (Rng_c _) s0 _ h) dC_13 rfl ⟨by decide, by decide⟩ mw7 d_B_write_20 (fun _ => rfl) (st := []) rfl (Nat.le_of_ble_eq_true rfl) (fun r1 s1 hr1 h => ?_)
      obtain ⟨hz1, h⟩ := h
      refine v_if_eq E 36 d_B_write_23 (by decide) hr1 (fun c3 => ?_) (fun c3 => ?_)
      · replace h := h.1 c3
        refine v_bipush E d_B_write_36 rfl ?_
        exact v_iret E hR rfl (by decide) h d_B_write_38
      · replace h := h.2 c3
        refine v_aloadn E d_B_write_26 rfl 0 rfl ?_
        refine v_getA E cf8 dC_0 2 (by decide) rfl mw6 d_B_write_27 rfl ?_
        refine v_getI E cf6 dC_13 1 (by decide) rfl mw8 d_B_write_30 rfl ?_
        refine v_goto E 38 d_B_write_33 (by decide) ?_
        refine v_wt (fun wt1 => ?_)
        exact v_iret E hR rfl (wt1 13 1) h d_B_write_38
    · replace h := h.2 c2
      refine v_iconst E d_B_write_12 ?_
      exact v_iret E hR rfl (by decide) h d_B_write_13
theorem d_B_wipe_0 : decode prog_1_method_3_code 0 = .ok (.aload_n 0, 1) := by decide +kernel
theorem d_B_wipe_1 : decode prog_1_method_3_code 1 = .ok (.getfield 22, 3) := by decide +kernel
theorem d_B_wipe_4 : decode prog_1_method_3_code 4 = .ok (.getfield 109, 3) := by decide +kernel
theorem d_B_wipe_7 : decode prog_1_method_3_code 7 = .ok (.istore_n 1, 1) := by decide +kernel
theorem d_B_wipe_8 : decode prog_1_method_3_code 8 = .ok (.aload_n 0, 1) := by decide +kernel
theorem d_B_wipe_9 : decode prog_1_method_3_code 9 = .ok (.getfield 22, 3) := by decide +kernel
theorem d_B_wipe_12 : decode prog_1_method_3_code 12 = .ok (.iconst 0, 1) := by decide +kernel
theorem d_B_wipe_13 : decode prog_1_method_3_code 13 = .ok (.putfield 109, 3) := by decide +kernel
theorem d_B_wipe_16 : decode prog_1_method_3_code 16 = .ok (.iload_n 1, 1) := by decide +kernel
theorem d_B_wipe_17 : decode prog_1_method_3_code 17 = .ok (.ireturn, 1) := by decide +kernel
set_option maxHeartbeats 4000000 in
set_option maxRecDepth 20000 in
theorem c_B_wipe (s0 : MS) (Q : Int → MS → Prop) (h : wp_B_wipe s0 Q) : MT dscC ⟨"BellSchool", "wipe", "()I"⟩ prog_1_method_3_code 2 (some .int) 0 (fun ad => [.ref (ad 0)]) s0 (po_I dscC Q) := by
  refine met_of (by decide) (fun _ => Nat.le_of_ble_eq_true rfl) (fun X E hR => ?_)
  replace E : EV dscC X prog_1_method_3_code "BellSchool" 2 0 := E
  show VV dscC X 0 [(0, .ref (adX X 0))] [] s0
  unfold wp_B_wipe at h
  refine v_aloadn E d_B_wipe_0 rfl 0 rfl ?_
  refine v_getA E cf8 dC_0 2 (by decide) rfl mw6 d_B_wipe_1 rfl ?_
  refine v_getI E cf6 dC_13 1 (by decide) rfl mw8 d_B_wipe_4 rfl ?_
  refine v_istoren E d_B_wipe_7 rfl (by decide) (L' := [(1, .int (iI (gI s0 13 1))), (0, .ref (adX X 0))]) rfl ?_
  refine v_aloadn E d_B_wipe_8 rfl 1 rfl ?_
  refine v_getA E cf8 dC_0 2 (by decide) rfl mw6 d_B_wipe_9 rfl ?_
  refine v_iconst E d_B_wipe_12 ?_
  refine v_putI E cf6 dC_13 1 (by decide) rfl rfl mw8 d_B_wipe_13 rfl rfl rfl (by decide) ?_
  refine v_nameS (fun s1 hs1 => ?_)
  replace h := h s1 hs1
  refine v_iloadn E d_B_wipe_16 rfl 0 rfl ?_
  obtain ⟨q1, h⟩ := h
  exact v_iret E hR rfl q1 h d_B_wipe_17
theorem d_Valley_clear_0 : decode prog_9_method_2_code 0 = .ok (.aload_n 0, 1) := by decide +kernel
theorem d_Valley_clear_1 : decode prog_9_method_2_code 1 = .ok (.iconst 0, 1) := by decide +kernel
theorem d_Valley_clear_2 : decode prog_9_method_2_code 2 = .ok (.putfield 27, 3) := by decide +kernel
theorem d_Valley_clear_5 : decode prog_9_method_2_code 5 = .ok (.aload_n 0, 1) := by decide +kernel
theorem d_Valley_clear_6 : decode prog_9_method_2_code 6 = .ok (.iconst 0, 1) := by decide +kernel
theorem d_Valley_clear_7 : decode prog_9_method_2_code 7 = .ok (.putfield 31, 3) := by decide +kernel
theorem d_Valley_clear_10 : decode prog_9_method_2_code 10 = .ok (.aload_n 0, 1) := by decide +kernel
theorem d_Valley_clear_11 : decode prog_9_method_2_code 11 = .ok (.bipush 60, 2) := by decide +kernel
theorem d_Valley_clear_13 : decode prog_9_method_2_code 13 = .ok (.putfield 34, 3) := by decide +kernel
theorem d_Valley_clear_16 : decode prog_9_method_2_code 16 = .ok (.iconst 0, 1) := by decide +kernel
theorem d_Valley_clear_17 : decode prog_9_method_2_code 17 = .ok (.istore_n 1, 1) := by decide +kernel
theorem d_Valley_clear_18 : decode prog_9_method_2_code 18 = .ok (.iload_n 1, 1) := by decide +kernel
theorem d_Valley_clear_19 : decode prog_9_method_2_code 19 = .ok (.bipush 49, 2) := by decide +kernel
theorem d_Valley_clear_21 : decode prog_9_method_2_code 21 = .ok (.if_icmp .ge 31, 3) := by decide +kernel
theorem d_Valley_clear_24 : decode prog_9_method_2_code 24 = .ok (.aload_n 0, 1) := by decide +kernel
theorem d_Valley_clear_25 : decode prog_9_method_2_code 25 = .ok (.getfield 18, 3) := by decide +kernel
theorem d_Valley_clear_28 : decode prog_9_method_2_code 28 = .ok (.iload_n 1, 1) := by decide +kernel
theorem d_Valley_clear_29 : decode prog_9_method_2_code 29 = .ok (.iconst 0, 1) := by decide +kernel
theorem d_Valley_clear_30 : decode prog_9_method_2_code 30 = .ok (.iastore, 1) := by decide +kernel
theorem d_Valley_clear_31 : decode prog_9_method_2_code 31 = .ok (.aload_n 0, 1) := by decide +kernel
theorem d_Valley_clear_32 : decode prog_9_method_2_code 32 = .ok (.getfield 21, 3) := by decide +kernel
theorem d_Valley_clear_35 : decode prog_9_method_2_code 35 = .ok (.iload_n 1, 1) := by decide +kernel
theorem d_Valley_clear_36 : decode prog_9_method_2_code 36 = .ok (.bipush 28, 2) := by decide +kernel
theorem d_Valley_clear_38 : decode prog_9_method_2_code 38 = .ok (.iastore, 1) := by decide +kernel
theorem d_Valley_clear_39 : decode prog_9_method_2_code 39 = .ok (.aload_n 0, 1) := by decide +kernel
theorem d_Valley_clear_40 : decode prog_9_method_2_code 40 = .ok (.getfield 24, 3) := by decide +kernel
theorem d_Valley_clear_43 : decode prog_9_method_2_code 43 = .ok (.iload_n 1, 1) := by decide +kernel
theorem d_Valley_clear_44 : decode prog_9_method_2_code 44 = .ok (.iconst 0, 1) := by decide +kernel
theorem d_Valley_clear_45 : decode prog_9_method_2_code 45 = .ok (.iastore, 1) := by decide +kernel
theorem d_Valley_clear_46 : decode prog_9_method_2_code 46 = .ok (.iinc 1 1, 3) := by decide +kernel
theorem d_Valley_clear_49 : decode prog_9_method_2_code 49 = .ok (.goto (-31), 3) := by decide +kernel
theorem d_Valley_clear_52 : decode prog_9_method_2_code 52 = .ok (.return_, 1) := by decide +kernel
set_option maxHeartbeats 4000000 in
set_option maxRecDepth 20000 in
theorem c_Valley_clear (v0 : Nat) (hv0 : dscC[v0]? = some dVal) (s0 : MS) (Q : MS → Prop) (h : wp_Valley_clear v0 s0 Q) : MT dscC ⟨"BellSchool$Valley", "clear", "()V"⟩ prog_9_method_2_code 2 none 0 (fun ad => [.ref (ad v0)]) s0 (po_V dscC Q) := by
  refine met_of (by decide) (fun _ => Nat.le_of_ble_eq_true rfl) (fun X E hR => ?_)
  replace E : EV dscC X prog_9_method_2_code "BellSchool$Valley" 2 0 := E
  show VV dscC X 0 [(0, .ref (adX X v0))] [] s0
  unfold wp_Valley_clear at h
  refine v_aloadn E d_Valley_clear_0 rfl 0 rfl ?_
  refine v_iconst E d_Valley_clear_1 ?_
  refine v_putI E cf7 hv0 5 (by decide) rfl rfl mw16 d_Valley_clear_2 rfl rfl rfl (by decide) ?_
  refine v_nameS (fun s1 hs1 => ?_)
  replace h := h s1 hs1
  refine v_aloadn E d_Valley_clear_5 rfl 0 rfl ?_
  refine v_iconst E d_Valley_clear_6 ?_
  refine v_putI E cf7 hv0 6 (by decide) rfl rfl mw17 d_Valley_clear_7 rfl rfl rfl (by decide) ?_
  refine v_nameS (fun s2 hs2 => ?_)
  replace h := h s2 hs2
  refine v_aloadn E d_Valley_clear_10 rfl 0 rfl ?_
  refine v_bipush E d_Valley_clear_11 rfl ?_
  refine v_putI E cf7 hv0 7 (by decide) rfl rfl mw18 d_Valley_clear_13 rfl rfl rfl (by decide) ?_
  refine v_nameS (fun s3 hs3 => ?_)
  replace h := h s3 hs3
  refine v_iconst E d_Valley_clear_16 ?_
  refine v_istoren E d_Valley_clear_17 rfl (by decide) (L' := [(1, .int (iI 0)), (0, .ref (adX X v0))]) rfl ?_
  refine v_sub [1, 0] (L' := [(0, .ref (adX X v0)), (1, .int (iI 0))]) rfl ?_
  obtain ⟨I1, μ1, h01, h⟩ := h
  refine v_loop1 (fun (x1 : Int) => [(0, .ref (adX X v0)), (1, .int (iI x1))]) I1 μ1 (fun x1 s4 hI1 ih1 => ?_) 0 s3 h01
  replace h := h x1 s4 hI1
  refine v_iloadn E d_Valley_clear_18 rfl 1 rfl ?_
  refine v_bipush E d_Valley_clear_19 rfl ?_
  obtain ⟨q1, h⟩ := h
  refine v_icmp_ge E 52 d_Valley_clear_21 (by decide) q1 (by decide) (fun c1 => ?_) (fun c1 => ?_)
  · replace h := h.1 c1
    exact v_vret E hR h d_Valley_clear_52
  · replace h := h.2 c1
    refine v_aloadn E d_Valley_clear_24 rfl 0 rfl ?_
    refine v_getO E cf7 hv0 2 (by decide) rfl mw19 d_Valley_clear_25 rfl ?_
    refine v_iloadn E d_Valley_clear_28 rfl 1 rfl ?_
    refine v_iconst E d_Valley_clear_29 ?_
    obtain ⟨q2, h⟩ := h
    refine v_iast E (dC_o7_3 hv0) (by decide) q2.1 q2.2 (by decide) d_Valley_clear_30 ?_
    refine v_nameS (fun s5 hs5 => ?_)
    replace h := h s5 hs5
    refine v_aloadn E d_Valley_clear_31 rfl 0 rfl ?_
    refine v_getO E cf7 hv0 3 (by decide) rfl mw20 d_Valley_clear_32 rfl ?_
    refine v_iloadn E d_Valley_clear_35 rfl 1 rfl ?_
    refine v_bipush E d_Valley_clear_36 rfl ?_
    refine v_iast E (dC_o7_4 hv0) (by decide) q2.1 q2.2 (by decide) d_Valley_clear_38 ?_
    refine v_nameS (fun s6 hs6 => ?_)
    replace h := h s6 hs6
    refine v_aloadn E d_Valley_clear_39 rfl 0 rfl ?_
    refine v_getO E cf7 hv0 4 (by decide) rfl mw21 d_Valley_clear_40 rfl ?_
    refine v_iloadn E d_Valley_clear_43 rfl 1 rfl ?_
    refine v_iconst E d_Valley_clear_44 ?_
    refine v_iast E (dC_o7_5 hv0) (by decide) q2.1 q2.2 (by decide) d_Valley_clear_45 ?_
    refine v_nameS (fun s7 hs7 => ?_)
    replace h := h s7 hs7
    refine v_iincN E d_Valley_clear_46 1 rfl (by decide) (fun y => [(1, .int (iI y)), (0, .ref (adX X v0))]) (fun _ => rfl) (fun x2 hx2 => ?_)
    replace h := h x2 hx2
    refine v_goto E 18 d_Valley_clear_49 (by decide) ?_
    obtain ⟨hb, hm⟩ := h
    exact v_sub [1, 0] rfl (ih1 x2 s7 hb hm)
theorem d_Text_at_0 : decode prog_8_method_3_code 0 = .ok (.iload_n 1, 1) := by decide +kernel
theorem d_Text_at_1 : decode prog_8_method_3_code 1 = .ok (.ifCond .lt 20, 3) := by decide +kernel
theorem d_Text_at_4 : decode prog_8_method_3_code 4 = .ok (.iload_n 1, 1) := by decide +kernel
theorem d_Text_at_5 : decode prog_8_method_3_code 5 = .ok (.aload_n 0, 1) := by decide +kernel
theorem d_Text_at_6 : decode prog_8_method_3_code 6 = .ok (.getfield 13, 3) := by decide +kernel
theorem d_Text_at_9 : decode prog_8_method_3_code 9 = .ok (.if_icmp .ge 12, 3) := by decide +kernel
theorem d_Text_at_12 : decode prog_8_method_3_code 12 = .ok (.aload_n 0, 1) := by decide +kernel
theorem d_Text_at_13 : decode prog_8_method_3_code 13 = .ok (.getfield 7, 3) := by decide +kernel
theorem d_Text_at_16 : decode prog_8_method_3_code 16 = .ok (.iload_n 1, 1) := by decide +kernel
theorem d_Text_at_17 : decode prog_8_method_3_code 17 = .ok (.caload, 1) := by decide +kernel
theorem d_Text_at_18 : decode prog_8_method_3_code 18 = .ok (.goto 5, 3) := by decide +kernel
theorem d_Text_at_21 : decode prog_8_method_3_code 21 = .ok (.bipush 32, 2) := by decide +kernel
theorem d_Text_at_23 : decode prog_8_method_3_code 23 = .ok (.ireturn, 1) := by decide +kernel
set_option maxHeartbeats 4000000 in
set_option maxRecDepth 20000 in
theorem c_Text_at (p1 : Int) (hp1 : Rng p1) (s0 : MS) (Q : Int → Prop) (h : wp_Text_at p1 s0 Q) : MT dscC ⟨"BellSchool$Text", "at", "(I)C"⟩ prog_8_method_3_code 2 (some .char) 0 (fun ad => [.ref (ad 13), .int (iI p1)]) s0 (po_I dscC (fun r z => z = s0 ∧ Q r)) := by
  refine met_of (by decide) (fun _ => Nat.le_of_ble_eq_true rfl) (fun X E hR => ?_)
  replace E : EV dscC X prog_8_method_3_code "BellSchool$Text" 2 0 := E
  show VV dscC X 0 [(0, .ref (adX X 13)), (1, .int (iI p1))] [] s0
  unfold wp_Text_at at h
  refine v_iloadn E d_Text_at_0 rfl 1 rfl ?_
  refine v_if_lt E 21 d_Text_at_1 (by decide) hp1 (fun c1 => ?_) (fun c1 => ?_)
  · replace h := h.1 c1
    refine v_bipush E d_Text_at_21 rfl ?_
    exact v_iret E hR (nar_C (by decide) (by decide)) (by decide) ⟨rfl, h⟩ d_Text_at_23
  · replace h := h.2 c1
    refine v_iloadn E d_Text_at_4 rfl 1 rfl ?_
    refine v_aloadn E d_Text_at_5 rfl 0 rfl ?_
    refine v_getI E cf6 dC_13 1 (by decide) rfl mw0 d_Text_at_6 rfl ?_
    refine v_wt (fun wt1 => ?_)
    refine v_icmp_ge E 21 d_Text_at_9 (by decide) hp1 (wt1 13 1) (fun c2 => ?_) (fun c2 => ?_)
    · replace h := h.1 c2
      refine v_bipush E d_Text_at_21 rfl ?_
      exact v_iret E hR (nar_C (by decide) (by decide)) (by decide) ⟨rfl, h⟩ d_Text_at_23
    · replace h := h.2 c2
      refine v_aloadn E d_Text_at_12 rfl 0 rfl ?_
      refine v_getA E cf6 dC_13 0 (by decide) rfl mw1 d_Text_at_13 rfl ?_
      refine v_iloadn E d_Text_at_16 rfl 1 rfl ?_
      obtain ⟨q1, h⟩ := h
      refine v_cald E dC_14 (by decide) q1.1 q1.2 d_Text_at_17 ?_
      refine v_goto E 23 d_Text_at_18 (by decide) ?_
      obtain ⟨q2, h⟩ := h
      exact v_iret E hR (nar_C q2.1 q2.2) (Rng_b q2 (by decide)) ⟨rfl, h⟩ d_Text_at_23
theorem d_Reader_numbersOf_0 : decode prog_4_method_3_code 0 = .ok (.iload_n 0, 1) := by decide +kernel
theorem d_Reader_numbersOf_1 : decode prog_4_method_3_code 1 = .ok (.lookupswitch 61 #[(98, 57), (104, 51), (110, 59), (115, 55), (119, 53)], 51) := by decide +kernel
theorem d_Reader_numbersOf_52 : decode prog_4_method_3_code 52 = .ok (.iconst 2, 1) := by decide +kernel
theorem d_Reader_numbersOf_53 : decode prog_4_method_3_code 53 = .ok (.ireturn, 1) := by decide +kernel
theorem d_Reader_numbersOf_54 : decode prog_4_method_3_code 54 = .ok (.iconst 3, 1) := by decide +kernel
theorem d_Reader_numbersOf_55 : decode prog_4_method_3_code 55 = .ok (.ireturn, 1) := by decide +kernel
theorem d_Reader_numbersOf_56 : decode prog_4_method_3_code 56 = .ok (.iconst 4, 1) := by decide +kernel
theorem d_Reader_numbersOf_57 : decode prog_4_method_3_code 57 = .ok (.ireturn, 1) := by decide +kernel
theorem d_Reader_numbersOf_58 : decode prog_4_method_3_code 58 = .ok (.iconst 1, 1) := by decide +kernel
theorem d_Reader_numbersOf_59 : decode prog_4_method_3_code 59 = .ok (.ireturn, 1) := by decide +kernel
theorem d_Reader_numbersOf_60 : decode prog_4_method_3_code 60 = .ok (.iconst 1, 1) := by decide +kernel
theorem d_Reader_numbersOf_61 : decode prog_4_method_3_code 61 = .ok (.ireturn, 1) := by decide +kernel
theorem d_Reader_numbersOf_62 : decode prog_4_method_3_code 62 = .ok (.iconst 0, 1) := by decide +kernel
theorem d_Reader_numbersOf_63 : decode prog_4_method_3_code 63 = .ok (.ireturn, 1) := by decide +kernel
set_option maxHeartbeats 4000000 in
set_option maxRecDepth 20000 in
theorem c_Reader_numbersOf (dsc : List CD) (p1 : Int) (hp1 : Rng p1) (s0 : MS) (Q : Int → Prop) (h : wp_Reader_numbersOf p1 Q) : MT dsc ⟨"BellSchool$Reader", "numbersOf", "(I)I"⟩ prog_4_method_3_code 1 (some .int) 0 (fun ad => [.int (iI p1)]) s0 (po_I dsc (fun r z => z = s0 ∧ Q r)) := by
  refine met_of (by decide) (fun _ => Nat.le_of_ble_eq_true rfl) (fun X E hR => ?_)
  replace E : EV dsc X prog_4_method_3_code "BellSchool$Reader" 1 0 := E
  show VV dsc X 0 [(0, .int (iI p1))] [] s0
  unfold wp_Reader_numbersOf at h
  refine v_iloadn E d_Reader_numbersOf_0 rfl 0 rfl ?_
  by_cases c1 : p1 = 98
  · replace h := h.1 c1
    refine v_lookup E (off := 57) d_Reader_numbersOf_1 rfl hp1 58 (by rw [c1] <;> rfl) (by decide) ?_
    refine v_iconst E d_Reader_numbersOf_58 ?_
    exact v_iret E hR rfl (by decide) ⟨rfl, h⟩ d_Reader_numbersOf_59
  · skip
    by_cases c2 : p1 = 104
    · replace h := h.2.1 c2
      refine v_lookup E (off := 51) d_Reader_numbersOf_1 rfl hp1 52 (by rw [c2] <;> rfl) (by decide) ?_
      refine v_iconst E d_Reader_numbersOf_52 ?_
      exact v_iret E hR rfl (by decide) ⟨rfl, h⟩ d_Reader_numbersOf_53
    · skip
      by_cases c3 : p1 = 110
      · replace h := h.2.2.1 c3
        refine v_lookup E (off := 59) d_Reader_numbersOf_1 rfl hp1 60 (by rw [c3] <;> rfl) (by decide) ?_
        refine v_iconst E d_Reader_numbersOf_60 ?_
        exact v_iret E hR rfl (by decide) ⟨rfl, h⟩ d_Reader_numbersOf_61
      · skip
        by_cases c4 : p1 = 115
        · replace h := h.2.2.2.1 c4
          refine v_lookup E (off := 55) d_Reader_numbersOf_1 rfl hp1 56 (by rw [c4] <;> rfl) (by decide) ?_
          refine v_iconst E d_Reader_numbersOf_56 ?_
          exact v_iret E hR rfl (by decide) ⟨rfl, h⟩ d_Reader_numbersOf_57
        · skip
          by_cases c5 : p1 = 119
          · replace h := h.2.2.2.2.1 c5
            refine v_lookup E (off := 53) d_Reader_numbersOf_1 rfl hp1 54 (by rw [c5] <;> rfl) (by decide) ?_
            refine v_iconst E d_Reader_numbersOf_54 ?_
            exact v_iret E hR rfl (by decide) ⟨rfl, h⟩ d_Reader_numbersOf_55
          · skip
            replace h := h.2.2.2.2.2 c1 c2 c3 c4 c5
            refine v_lookup E (off := 61) d_Reader_numbersOf_1 rfl hp1 62 (by simp [Op.lookupswitch.offset_cons, Op.lookupswitch.offset_nil, Ne.symm c1, Ne.symm c2, Ne.symm c3, Ne.symm c4, Ne.symm c5]) (by decide) ?_
            refine v_iconst E d_Reader_numbersOf_62 ?_
            exact v_iret E hR rfl (by decide) ⟨rfl, h⟩ d_Reader_numbersOf_63
theorem d_Reader_isFigure_0 : decode prog_4_method_5_code 0 = .ok (.iload_n 0, 1) := by decide +kernel
theorem d_Reader_isFigure_1 : decode prog_4_method_5_code 1 = .ok (.bipush 48, 2) := by decide +kernel
theorem d_Reader_isFigure_3 : decode prog_4_method_5_code 3 = .ok (.if_icmp .lt 13, 3) := by decide +kernel
theorem d_Reader_isFigure_6 : decode prog_4_method_5_code 6 = .ok (.iload_n 0, 1) := by decide +kernel
theorem d_Reader_isFigure_7 : decode prog_4_method_5_code 7 = .ok (.bipush 57, 2) := by decide +kernel
theorem d_Reader_isFigure_9 : decode prog_4_method_5_code 9 = .ok (.if_icmp .gt 7, 3) := by decide +kernel
theorem d_Reader_isFigure_12 : decode prog_4_method_5_code 12 = .ok (.iconst 1, 1) := by decide +kernel
theorem d_Reader_isFigure_13 : decode prog_4_method_5_code 13 = .ok (.goto 4, 3) := by decide +kernel
theorem d_Reader_isFigure_16 : decode prog_4_method_5_code 16 = .ok (.iconst 0, 1) := by decide +kernel
theorem d_Reader_isFigure_17 : decode prog_4_method_5_code 17 = .ok (.ireturn, 1) := by decide +kernel
set_option maxHeartbeats 4000000 in
set_option maxRecDepth 20000 in
theorem c_Reader_isFigure (dsc : List CD) (p1 : Int) (hp1 : Rng p1) (s0 : MS) (Q : Int → Prop) (h : wp_Reader_isFigure p1 Q) : MT dsc ⟨"BellSchool$Reader", "isFigure", "(C)Z"⟩ prog_4_method_5_code 1 (some .boolean) 0 (fun ad => [.int (iI p1)]) s0 (po_I dsc (fun r z => (r = 0 ∨ r = 1) ∧ z = s0 ∧ Q r)) := by
  refine met_of (by decide) (fun _ => Nat.le_of_ble_eq_true rfl) (fun X E hR => ?_)
  replace E : EV dsc X prog_4_method_5_code "BellSchool$Reader" 1 0 := E
  show VV dsc X 0 [(0, .int (iI p1))] [] s0
  unfold wp_Reader_isFigure at h
  refine v_iloadn E d_Reader_isFigure_0 rfl 0 rfl ?_
  refine v_bipush E d_Reader_isFigure_1 rfl ?_
  refine v_icmp_lt E 16 d_Reader_isFigure_3 (by decide) hp1 (by decide) (fun c1 => ?_) (fun c1 => ?_)
  · replace h := h.1 c1
    refine v_iconst E d_Reader_isFigure_16 ?_
    exact v_iret E hR (nar_Z (by decide)) (Rng_Z (by decide)) ⟨(by decide), rfl, h⟩ d_Reader_isFigure_17
  · replace h := h.2 c1
    refine v_iloadn E d_Reader_isFigure_6 rfl 0 rfl ?_
    refine v_bipush E d_Reader_isFigure_7 rfl ?_
    refine v_icmp_gt E 16 d_Reader_isFigure_9 (by decide) hp1 (by decide) (fun c2 => ?_) (fun c2 => ?_)
    · replace h := h.1 c2
      refine v_iconst E d_Reader_isFigure_16 ?_
      exact v_iret E hR (nar_Z (by decide)) (Rng_Z (by decide)) ⟨(by decide), rfl, h⟩ d_Reader_isFigure_17
    · replace h := h.2 c2
      refine v_iconst E d_Reader_isFigure_12 ?_
      refine v_goto E 17 d_Reader_isFigure_13 (by decide) ?_
      exact v_iret E hR (nar_Z (by decide)) (Rng_Z (by decide)) ⟨(by decide), rfl, h⟩ d_Reader_isFigure_17
theorem d_Reader_readNumbers_0 : decode prog_4_method_4_code 0 = .ok (.iload_n 2, 1) := by decide +kernel
theorem d_Reader_readNumbers_1 : decode prog_4_method_4_code 1 = .ok (.iconst 1, 1) := by decide +kernel
theorem d_Reader_readNumbers_2 : decode prog_4_method_4_code 2 = .ok (.if_icmp .lt 12, 3) := by decide +kernel
theorem d_Reader_readNumbers_5 : decode prog_4_method_4_code 5 = .ok (.iload_n 2, 1) := by decide +kernel
theorem d_Reader_readNumbers_6 : decode prog_4_method_4_code 6 = .ok (.aload_n 0, 1) := by decide +kernel
theorem d_Reader_readNumbers_7 : decode prog_4_method_4_code 7 = .ok (.getfield 9, 3) := by decide +kernel
theorem d_Reader_readNumbers_10 : decode prog_4_method_4_code 10 = .ok (.arraylength, 1) := by decide +kernel
theorem d_Reader_readNumbers_11 : decode prog_4_method_4_code 11 = .ok (.if_icmp .le 5, 3) := by decide +kernel
theorem d_Reader_readNumbers_14 : decode prog_4_method_4_code 14 = .ok (.iconst 0, 1) := by decide +kernel
theorem d_Reader_readNumbers_15 : decode prog_4_method_4_code 15 = .ok (.ireturn, 1) := by decide +kernel
theorem d_Reader_readNumbers_16 : decode prog_4_method_4_code 16 = .ok (.aload_n 0, 1) := by decide +kernel
theorem d_Reader_readNumbers_17 : decode prog_4_method_4_code 17 = .ok (.dup, 1) := by decide +kernel
theorem d_Reader_readNumbers_18 : decode prog_4_method_4_code 18 = .ok (.getfield 15, 3) := by decide +kernel
theorem d_Reader_readNumbers_21 : decode prog_4_method_4_code 21 = .ok (.iconst 1, 1) := by decide +kernel
theorem d_Reader_readNumbers_22 : decode prog_4_method_4_code 22 = .ok (.iadd, 1) := by decide +kernel
theorem d_Reader_readNumbers_23 : decode prog_4_method_4_code 23 = .ok (.putfield 15, 3) := by decide +kernel
theorem d_Reader_readNumbers_26 : decode prog_4_method_4_code 26 = .ok (.iconst 0, 1) := by decide +kernel
theorem d_Reader_readNumbers_27 : decode prog_4_method_4_code 27 = .ok (.istore_n 3, 1) := by decide +kernel
theorem d_Reader_readNumbers_28 : decode prog_4_method_4_code 28 = .ok (.iload_n 3, 1) := by decide +kernel
theorem d_Reader_readNumbers_29 : decode prog_4_method_4_code 29 = .ok (.iload_n 2, 1) := by decide +kernel
theorem d_Reader_readNumbers_30 : decode prog_4_method_4_code 30 = .ok (.if_icmp .ge 140, 3) := by decide +kernel
theorem d_Reader_readNumbers_33 : decode prog_4_method_4_code 33 = .ok (.aload_n 1, 1) := by decide +kernel
theorem d_Reader_readNumbers_34 : decode prog_4_method_4_code 34 = .ok (.aload_n 0, 1) := by decide +kernel
theorem d_Reader_readNumbers_35 : decode prog_4_method_4_code 35 = .ok (.getfield 15, 3) := by decide +kernel
theorem d_Reader_readNumbers_38 : decode prog_4_method_4_code 38 = .ok (.invokevirtual 33, 3) := by decide +kernel
theorem d_Reader_readNumbers_41 : decode prog_4_method_4_code 41 = .ok (.invokestatic 49, 3) := by decide +kernel
theorem d_Reader_readNumbers_44 : decode prog_4_method_4_code 44 = .ok (.ifCond .ne 5, 3) := by decide +kernel
theorem d_Reader_readNumbers_47 : decode prog_4_method_4_code 47 = .ok (.iconst 0, 1) := by decide +kernel
theorem d_Reader_readNumbers_48 : decode prog_4_method_4_code 48 = .ok (.ireturn, 1) := by decide +kernel
theorem d_Reader_readNumbers_49 : decode prog_4_method_4_code 49 = .ok (.aload_n 0, 1) := by decide +kernel
theorem d_Reader_readNumbers_50 : decode prog_4_method_4_code 50 = .ok (.getfield 9, 3) := by decide +kernel
theorem d_Reader_readNumbers_53 : decode prog_4_method_4_code 53 = .ok (.iload_n 3, 1) := by decide +kernel
theorem d_Reader_readNumbers_54 : decode prog_4_method_4_code 54 = .ok (.aload_n 1, 1) := by decide +kernel
theorem d_Reader_readNumbers_55 : decode prog_4_method_4_code 55 = .ok (.aload_n 0, 1) := by decide +kernel
theorem d_Reader_readNumbers_56 : decode prog_4_method_4_code 56 = .ok (.getfield 15, 3) := by decide +kernel
theorem d_Reader_readNumbers_59 : decode prog_4_method_4_code 59 = .ok (.invokevirtual 33, 3) := by decide +kernel
theorem d_Reader_readNumbers_62 : decode prog_4_method_4_code 62 = .ok (.bipush 48, 2) := by decide +kernel
theorem d_Reader_readNumbers_64 : decode prog_4_method_4_code 64 = .ok (.isub, 1) := by decide +kernel
theorem d_Reader_readNumbers_65 : decode prog_4_method_4_code 65 = .ok (.iastore, 1) := by decide +kernel
theorem d_Reader_readNumbers_66 : decode prog_4_method_4_code 66 = .ok (.aload_n 0, 1) := by decide +kernel
theorem d_Reader_readNumbers_67 : decode prog_4_method_4_code 67 = .ok (.dup, 1) := by decide +kernel
theorem d_Reader_readNumbers_68 : decode prog_4_method_4_code 68 = .ok (.getfield 15, 3) := by decide +kernel
theorem d_Reader_readNumbers_71 : decode prog_4_method_4_code 71 = .ok (.iconst 1, 1) := by decide +kernel
theorem d_Reader_readNumbers_72 : decode prog_4_method_4_code 72 = .ok (.iadd, 1) := by decide +kernel
theorem d_Reader_readNumbers_73 : decode prog_4_method_4_code 73 = .ok (.putfield 15, 3) := by decide +kernel
theorem d_Reader_readNumbers_76 : decode prog_4_method_4_code 76 = .ok (.aload_n 1, 1) := by decide +kernel
theorem d_Reader_readNumbers_77 : decode prog_4_method_4_code 77 = .ok (.aload_n 0, 1) := by decide +kernel
theorem d_Reader_readNumbers_78 : decode prog_4_method_4_code 78 = .ok (.getfield 15, 3) := by decide +kernel
theorem d_Reader_readNumbers_81 : decode prog_4_method_4_code 81 = .ok (.invokevirtual 33, 3) := by decide +kernel
theorem d_Reader_readNumbers_84 : decode prog_4_method_4_code 84 = .ok (.invokestatic 49, 3) := by decide +kernel
theorem d_Reader_readNumbers_87 : decode prog_4_method_4_code 87 = .ok (.ifCond .eq 40, 3) := by decide +kernel
theorem d_Reader_readNumbers_90 : decode prog_4_method_4_code 90 = .ok (.aload_n 0, 1) := by decide +kernel
theorem d_Reader_readNumbers_91 : decode prog_4_method_4_code 91 = .ok (.getfield 9, 3) := by decide +kernel
theorem d_Reader_readNumbers_94 : decode prog_4_method_4_code 94 = .ok (.iload_n 3, 1) := by decide +kernel
theorem d_Reader_readNumbers_95 : decode prog_4_method_4_code 95 = .ok (.aload_n 0, 1) := by decide +kernel
theorem d_Reader_readNumbers_96 : decode prog_4_method_4_code 96 = .ok (.getfield 9, 3) := by decide +kernel
theorem d_Reader_readNumbers_99 : decode prog_4_method_4_code 99 = .ok (.iload_n 3, 1) := by decide +kernel
theorem d_Reader_readNumbers_100 : decode prog_4_method_4_code 100 = .ok (.iaload, 1) := by decide +kernel
theorem d_Reader_readNumbers_101 : decode prog_4_method_4_code 101 = .ok (.bipush 10, 2) := by decide +kernel
theorem d_Reader_readNumbers_103 : decode prog_4_method_4_code 103 = .ok (.imul, 1) := by decide +kernel
theorem d_Reader_readNumbers_104 : decode prog_4_method_4_code 104 = .ok (.aload_n 1, 1) := by decide +kernel
theorem d_Reader_readNumbers_105 : decode prog_4_method_4_code 105 = .ok (.aload_n 0, 1) := by decide +kernel
theorem d_Reader_readNumbers_106 : decode prog_4_method_4_code 106 = .ok (.getfield 15, 3) := by decide +kernel
theorem d_Reader_readNumbers_109 : decode prog_4_method_4_code 109 = .ok (.invokevirtual 33, 3) := by decide +kernel
theorem d_Reader_readNumbers_112 : decode prog_4_method_4_code 112 = .ok (.bipush 48, 2) := by decide +kernel
theorem d_Reader_readNumbers_114 : decode prog_4_method_4_code 114 = .ok (.isub, 1) := by decide +kernel
theorem d_Reader_readNumbers_115 : decode prog_4_method_4_code 115 = .ok (.iadd, 1) := by decide +kernel
theorem d_Reader_readNumbers_116 : decode prog_4_method_4_code 116 = .ok (.iastore, 1) := by decide +kernel
theorem d_Reader_readNumbers_117 : decode prog_4_method_4_code 117 = .ok (.aload_n 0, 1) := by decide +kernel
theorem d_Reader_readNumbers_118 : decode prog_4_method_4_code 118 = .ok (.dup, 1) := by decide +kernel
theorem d_Reader_readNumbers_119 : decode prog_4_method_4_code 119 = .ok (.getfield 15, 3) := by decide +kernel
theorem d_Reader_readNumbers_122 : decode prog_4_method_4_code 122 = .ok (.iconst 1, 1) := by decide +kernel
theorem d_Reader_readNumbers_123 : decode prog_4_method_4_code 123 = .ok (.iadd, 1) := by decide +kernel
theorem d_Reader_readNumbers_124 : decode prog_4_method_4_code 124 = .ok (.putfield 15, 3) := by decide +kernel
theorem d_Reader_readNumbers_127 : decode prog_4_method_4_code 127 = .ok (.aload_n 1, 1) := by decide +kernel
theorem d_Reader_readNumbers_128 : decode prog_4_method_4_code 128 = .ok (.aload_n 0, 1) := by decide +kernel
theorem d_Reader_readNumbers_129 : decode prog_4_method_4_code 129 = .ok (.getfield 15, 3) := by decide +kernel
theorem d_Reader_readNumbers_132 : decode prog_4_method_4_code 132 = .ok (.invokevirtual 33, 3) := by decide +kernel
theorem d_Reader_readNumbers_135 : decode prog_4_method_4_code 135 = .ok (.iload_n 3, 1) := by decide +kernel
theorem d_Reader_readNumbers_136 : decode prog_4_method_4_code 136 = .ok (.iload_n 2, 1) := by decide +kernel
theorem d_Reader_readNumbers_137 : decode prog_4_method_4_code 137 = .ok (.iconst 1, 1) := by decide +kernel
theorem d_Reader_readNumbers_138 : decode prog_4_method_4_code 138 = .ok (.isub, 1) := by decide +kernel
theorem d_Reader_readNumbers_139 : decode prog_4_method_4_code 139 = .ok (.if_icmp .ne 8, 3) := by decide +kernel
theorem d_Reader_readNumbers_142 : decode prog_4_method_4_code 142 = .ok (.bipush 59, 2) := by decide +kernel
theorem d_Reader_readNumbers_144 : decode prog_4_method_4_code 144 = .ok (.goto 5, 3) := by decide +kernel
theorem d_Reader_readNumbers_147 : decode prog_4_method_4_code 147 = .ok (.bipush 44, 2) := by decide +kernel
theorem d_Reader_readNumbers_149 : decode prog_4_method_4_code 149 = .ok (.if_icmp .eq 5, 3) := by decide +kernel
theorem d_Reader_readNumbers_152 : decode prog_4_method_4_code 152 = .ok (.iconst 0, 1) := by decide +kernel
theorem d_Reader_readNumbers_153 : decode prog_4_method_4_code 153 = .ok (.ireturn, 1) := by decide +kernel
theorem d_Reader_readNumbers_154 : decode prog_4_method_4_code 154 = .ok (.aload_n 0, 1) := by decide +kernel
theorem d_Reader_readNumbers_155 : decode prog_4_method_4_code 155 = .ok (.dup, 1) := by decide +kernel
theorem d_Reader_readNumbers_156 : decode prog_4_method_4_code 156 = .ok (.getfield 15, 3) := by decide +kernel
theorem d_Reader_readNumbers_159 : decode prog_4_method_4_code 159 = .ok (.iconst 1, 1) := by decide +kernel
theorem d_Reader_readNumbers_160 : decode prog_4_method_4_code 160 = .ok (.iadd, 1) := by decide +kernel
theorem d_Reader_readNumbers_161 : decode prog_4_method_4_code 161 = .ok (.putfield 15, 3) := by decide +kernel
theorem d_Reader_readNumbers_164 : decode prog_4_method_4_code 164 = .ok (.iinc 3 1, 3) := by decide +kernel
theorem d_Reader_readNumbers_167 : decode prog_4_method_4_code 167 = .ok (.goto (-139), 3) := by decide +kernel
theorem d_Reader_readNumbers_170 : decode prog_4_method_4_code 170 = .ok (.iconst 1, 1) := by decide +kernel
theorem d_Reader_readNumbers_171 : decode prog_4_method_4_code 171 = .ok (.ireturn, 1) := by decide +kernel
set_option maxHeartbeats 4000000 in
set_option maxRecDepth 20000 in
theorem c_Reader_readNumbers (p2 : Int) (hp2 : Rng p2) (s0 : MS) (Q : Int → MS → Prop) (h : wp_Reader_readNumbers p2 s0 Q) : MT dscC ⟨"BellSchool$Reader", "readNumbers", "(LBellSchool$Text;I)Z"⟩ prog_4_method_4_code 4 (some .boolean) 1 (fun ad => [.ref (ad 15), .ref (ad 13), .int (iI p2)]) s0 (po_I dscC (fun r z => (r = 0 ∨ r = 1) ∧ Q r z)) := by
  refine met_of (by decide) (fun _ => Nat.le_of_ble_eq_true rfl) (fun X E hR => ?_)
  replace E : EV dscC X prog_4_method_4_code "BellSchool$Reader" 4 1 := E
  show VV dscC X 0 [(0, .ref (adX X 15)), (1, .ref (adX X 13)), (2, .int (iI p2))] [] s0
  unfold wp_Reader_readNumbers at h
  refine v_iloadn E d_Reader_readNumbers_0 rfl 2 rfl ?_
  refine v_iconst E d_Reader_readNumbers_1 ?_
  refine v_icmp_lt E 14 d_Reader_readNumbers_2 (by decide) hp2 (by decide) (fun c1 => ?_) (fun c1 => ?_)
  · replace h := h.1 c1
    refine v_iconst E d_Reader_readNumbers_14 ?_
    exact v_iret E hR (nar_Z (by decide)) (Rng_Z (by decide)) ⟨(by decide), h⟩ d_Reader_readNumbers_15
  · replace h := h.2 c1
    refine v_iloadn E d_Reader_readNumbers_5 rfl 2 rfl ?_
    refine v_aloadn E d_Reader_readNumbers_6 rfl 0 rfl ?_
    refine v_getA E cf2 dC_15 0 (by decide) rfl mw34 d_Reader_readNumbers_7 rfl ?_
    refine v_alen E (by decide) dC_16 d_Reader_readNumbers_10 ?_
    refine v_icmp_le E 16 d_Reader_readNumbers_11 (by decide) hp2 (by decide) (fun c2 => ?_) (fun c2 => ?_)
    · replace h := h.1 c2
      refine v_aloadn E d_Reader_readNumbers_16 rfl 0 rfl ?_
      refine v_dup E d_Reader_readNumbers_17 rfl ?_
      refine v_getI E cf2 dC_15 1 (by decide) rfl mw35 d_Reader_readNumbers_18 rfl ?_
      refine v_iconst E d_Reader_readNumbers_21 ?_
      refine v_iadd E d_Reader_readNumbers_22 ?_
      obtain ⟨q1, h⟩ := h
      refine v_putI E cf2 dC_15 1 (by decide) rfl rfl mw35 d_Reader_readNumbers_23 rfl rfl rfl q1 ?_
      refine v_nameS (fun s1 hs1 => ?_)
      replace h := h s1 hs1
      refine v_iconst E d_Reader_readNumbers_26 ?_
      refine v_istoren E d_Reader_readNumbers_27 rfl (by decide) (L' := [(3, .int (iI 0)), (0, .ref (adX X 15)), (1, .ref (adX X 13)), (2, .int (iI p2))]) rfl ?_
      refine v_sub [1, 2, 3, 0] (L' := [(0, .ref (adX X 15)), (1, .ref (adX X 13)), (2, .int (iI p2)), (3, .int (iI 0))]) rfl ?_
      obtain ⟨I1, μ1, h01, h⟩ := h
      refine v_loop1 (fun (x1 : Int) => [(0, .ref (adX X 15)), (1, .ref (adX X 13)), (2, .int (iI p2)), (3, .int (iI x1))]) I1 μ1 (fun x1 s2 hI1 ih1 => ?_) 0 s1 h01
      replace h := h x1 s2 hI1
      refine v_iloadn E d_Reader_readNumbers_28 rfl 3 rfl ?_
      refine v_iloadn E d_Reader_readNumbers_29 rfl 2 rfl ?_
      obtain ⟨q2, h⟩ := h
      refine v_icmp_ge E 170 d_Reader_readNumbers_30 (by decide) q2 hp2 (fun c3 => ?_) (fun c3 => ?_)
      · replace h := h.1 c3
        refine v_iconst E d_Reader_readNumbers_170 ?_
        exact v_iret E hR (nar_Z (by decide)) (Rng_Z (by decide)) ⟨(by decide), h⟩ d_Reader_readNumbers_171
      · replace h := h.2 c3
        refine v_aloadn E d_Reader_readNumbers_33 rfl 1 rfl ?_
        refine v_aloadn E d_Reader_readNumbers_34 rfl 0 rfl ?_
        refine v_getI E cf2 dC_15 1 (by decide) rfl mw35 d_Reader_readNumbers_35 rfl ?_
        refine v_wt (fun wt1 => ?_)
        refine v_callVIp E md_Text_at (c_Text_at (gI s2 15 1) (wt1 15 1) s2 _ h) dC_13 rfl ⟨by decide, by decide⟩ mw36 d_Reader_readNumbers_38 (fun _ => rfl) (st := []) rfl (Nat.le_of_ble_eq_true rfl) (fun r1 hr1 h => ?_)
        refine v_callSIpz E md_Reader_isFigure (c_Reader_isFigure dscC r1 hr1 s2 _ h) ⟨by decide, by decide⟩ mw37 d_Reader_readNumbers_41 (fun _ => rfl) (st := []) rfl (Nat.le_of_ble_eq_true rfl) (fun r2 hr2 hz2 h => ?_)
        refine v_if_ne E 49 d_Reader_readNumbers_44 (by decide) hr2 (fun c4 => ?_) (fun c4 => ?_)
        · replace h := h.1 c4
          refine v_aloadn E d_Reader_readNumbers_49 rfl 0 rfl ?_
          refine v_getA E cf2 dC_15 0 (by decide) rfl mw34 d_Reader_readNumbers_50 rfl ?_
          refine v_iloadn E d_Reader_readNumbers_53 rfl 3 rfl ?_
          refine v_aloadn E d_Reader_readNumbers_54 rfl 1 rfl ?_
          refine v_aloadn E d_Reader_readNumbers_55 rfl 0 rfl ?_
          refine v_getI E cf2 dC_15 1 (by decide) rfl mw35 d_Reader_readNumbers_56 rfl ?_
          refine v_callVIp E md_Text_at (c_Text_at (gI s2 15 1) (wt1 15 1) s2 _ h) dC_13 rfl ⟨by decide, by decide⟩ mw36 d_Reader_readNumbers_59 (fun _ => rfl) (st := [.int (iI x1), .ref (adX X 16)]) rfl (Nat.le_of_ble_eq_true rfl) (fun r3 hr3 h => ?_)
          refine v_bipush E d_Reader_readNumbers_62 rfl ?_
          refine v_isub E d_Reader_readNumbers_64 ?_
          obtain ⟨q3, h⟩ := h
          obtain ⟨q4, h⟩ := h
          refine v_iast E dC_16 (by decide) q3.1 q3.2 q4 d_Reader_readNumbers_65 ?_
          refine v_nameS (fun s3 hs3 => ?_)
          replace h := h s3 hs3
          refine v_aloadn E d_Reader_readNumbers_66 rfl 0 rfl ?_
          refine v_dup E d_Reader_readNumbers_67 rfl ?_
          refine v_getI E cf2 dC_15 1 (by decide) rfl mw35 d_Reader_readNumbers_68 rfl ?_
          refine v_iconst E d_Reader_readNumbers_71 ?_
          refine v_iadd E d_Reader_readNumbers_72 ?_
          obtain ⟨q5, h⟩ := h
          refine v_putI E cf2 dC_15 1 (by decide) rfl rfl mw35 d_Reader_readNumbers_73 rfl rfl rfl q5 ?_
          refine v_nameS (fun s4 hs4 => ?_)
          replace h := h s4 hs4
          refine v_aloadn E d_Reader_readNumbers_76 rfl 1 rfl ?_
          refine v_aloadn E d_Reader_readNumbers_77 rfl 0 rfl ?_
          refine v_getI E cf2 dC_15 1 (by decide) rfl mw35 d_Reader_readNumbers_78 rfl ?_
          refine v_wt (fun wt2 => ?_)
          refine v_callVIp E md_Text_at (c_Text_at (gI s4 15 1) (wt2 15 1) s4 _ h) dC_13 rfl ⟨by decide, by decide⟩ mw36 d_Reader_readNumbers_81 (fun _ => rfl) (st := []) rfl (Nat.le_of_ble_eq_true rfl) (fun r4 hr4 h => ?_)
          refine v_callSIpz E md_Reader_isFigure (c_Reader_isFigure dscC r4 hr4 s4 _ h) ⟨by decide, by decide⟩ mw37 d_Reader_readNumbers_84 (fun _ => rfl) (st := []) rfl (Nat.le_of_ble_eq_true rfl) (fun r5 hr5 hz5 h => ?_)
          refine v_if_eq E 127 d_Reader_readNumbers_87 (by decide) hr5 (fun c5 => ?_) (fun c5 => ?_)
          · replace h := h.1 c5
            refine v_aloadn E d_Reader_readNumbers_127 rfl 1 rfl ?_
            refine v_aloadn E d_Reader_readNumbers_128 rfl 0 rfl ?_
            refine v_getI E cf2 dC_15 1 (by decide) rfl mw35 d_Reader_readNumbers_129 rfl ?_
            refine v_callVIp E md_Text_at (c_Text_at (gI s4 15 1) (wt2 15 1) s4 _ h) dC_13 rfl ⟨by decide, by decide⟩ mw36 d_Reader_readNumbers_132 (fun _ => rfl) (st := []) rfl (Nat.le_of_ble_eq_true rfl) (fun r6 hr6 h => ?_)
            refine v_iloadn E d_Reader_readNumbers_135 rfl 3 rfl ?_
            refine v_iloadn E d_Reader_readNumbers_136 rfl 2 rfl ?_
            refine v_iconst E d_Reader_readNumbers_137 ?_
            refine v_isub E d_Reader_readNumbers_138 ?_
            obtain ⟨q6, h⟩ := h
            refine v_icmp_ne E 147 d_Reader_readNumbers_139 (by decide) q2 q6 (fun c6 => ?_) (fun c6 => ?_)
            · replace h := h.1 c6
              refine v_bipush E d_Reader_readNumbers_147 rfl ?_
              refine v_icmp_eq E 154 d_Reader_readNumbers_149 (by decide) hr6 (by decide) (fun c7 => ?_) (fun c7 => ?_)
              · replace h := h.1 c7
                refine v_aloadn E d_Reader_readNumbers_154 rfl 0 rfl ?_
                refine v_dup E d_Reader_readNumbers_155 rfl ?_
                refine v_getI E cf2 dC_15 1 (by decide) rfl mw35 d_Reader_readNumbers_156 rfl ?_
                refine v_iconst E d_Reader_readNumbers_159 ?_
                refine v_iadd E d_Reader_readNumbers_160 ?_
                obtain ⟨q7, h⟩ := h
                refine v_putI E cf2 dC_15 1 (by decide) rfl rfl mw35 d_Reader_readNumbers_161 rfl rfl rfl q7 ?_
                refine v_nameS (fun s5 hs5 => ?_)
                replace h := h s5 hs5
                refine v_iincN E d_Reader_readNumbers_164 3 rfl (by decide) (fun y => [(3, .int (iI y)), (0, .ref (adX X 15)), (1, .ref (adX X 13)), (2, .int (iI p2))]) (fun _ => rfl) (fun x2 hx2 => ?_)
                replace h := h x2 hx2
                refine v_goto E 28 d_Reader_readNumbers_167 (by decide) ?_
                obtain ⟨hb, hm⟩ := h
                exact v_sub [1, 2, 3, 0] rfl (ih1 x2 s5 hb hm)
              · replace h := h.2 c7
                refine v_iconst E d_Reader_readNumbers_152 ?_
                exact v_iret E hR (nar_Z (by decide)) (Rng_Z (by decide)) ⟨(by decide), h⟩ d_Reader_readNumbers_153
            · replace h := h.2 c6
              refine v_bipush E d_Reader_readNumbers_142 rfl ?_
              refine v_goto E 149 d_Reader_readNumbers_144 (by decide) ?_
              refine v_icmp_eq E 154 d_Reader_readNumbers_149 (by decide) hr6 (by decide) (fun c8 => ?_) (fun c8 => ?_)
              · replace h := h.1 c8
                refine v_aloadn E d_Reader_readNumbers_154 rfl 0 rfl ?_
                refine v_dup E d_Reader_readNumbers_155 rfl ?_
                refine v_getI E cf2 dC_15 1 (by decide) rfl mw35 d_Reader_readNumbers_156 rfl ?_
                refine v_iconst E d_Reader_readNumbers_159 ?_
                refine v_iadd E d_Reader_readNumbers_160 ?_
                obtain ⟨q8, h⟩ := h
                refine v_putI E cf2 dC_15 1 (by decide) rfl rfl mw35 d_Reader_readNumbers_161 rfl rfl rfl q8 ?_
                refine v_nameS (fun s6 hs6 => ?_)
                replace h := h s6 hs6
                refine v_iincN E d_Reader_readNumbers_164 3 rfl (by decide) (fun y => [(3, .int (iI y)), (0, .ref (adX X 15)), (1, .ref (adX X 13)), (2, .int (iI p2))]) (fun _ => rfl) (fun x3 hx3 => ?_)
                replace h := h x3 hx3
                refine v_goto E 28 d_Reader_readNumbers_167 (by decide) ?_
                obtain ⟨hb, hm⟩ := h
                exact v_sub [1, 2, 3, 0] rfl (ih1 x3 s6 hb hm)
              · replace h := h.2 c8
                refine v_iconst E d_Reader_readNumbers_152 ?_
                exact v_iret E hR (nar_Z (by decide)) (Rng_Z (by decide)) ⟨(by decide), h⟩ d_Reader_readNumbers_153
          · replace h := h.2 c5
            refine v_aloadn E d_Reader_readNumbers_90 rfl 0 rfl ?_
            refine v_getA E cf2 dC_15 0 (by decide) rfl mw34 d_Reader_readNumbers_91 rfl ?_
            refine v_iloadn E d_Reader_readNumbers_94 rfl 3 rfl ?_
            refine v_aloadn E d_Reader_readNumbers_95 rfl 0 rfl ?_
            refine v_getA E cf2 dC_15 0 (by decide) rfl mw34 d_Reader_readNumbers_96 rfl ?_
            refine v_iloadn E d_Reader_readNumbers_99 rfl 3 rfl ?_
            refine v_iald E dC_16 (by decide) q3.1 q3.2 d_Reader_readNumbers_100 ?_
            refine v_bipush E d_Reader_readNumbers_101 rfl ?_
            refine v_imul E d_Reader_readNumbers_103 ?_
            refine v_aloadn E d_Reader_readNumbers_104 rfl 1 rfl ?_
            refine v_aloadn E d_Reader_readNumbers_105 rfl 0 rfl ?_
            refine v_getI E cf2 dC_15 1 (by decide) rfl mw35 d_Reader_readNumbers_106 rfl ?_
            refine v_callVIp E md_Text_at (c_Text_at (gI s4 15 1) (wt2 15 1) s4 _ h) dC_13 rfl ⟨by decide, by decide⟩ mw36 d_Reader_readNumbers_109 (fun _ => rfl) (st := [.int (iI ((gI s4 16 x1) * 10)), .int (iI x1), .ref (adX X 16)]) rfl (Nat.le_of_ble_eq_true rfl) (fun r7 hr7 h => ?_)
            refine v_bipush E d_Reader_readNumbers_112 rfl ?_
            refine v_isub E d_Reader_readNumbers_114 ?_
            refine v_iadd E d_Reader_readNumbers_115 ?_
            obtain ⟨q9, h⟩ := h
            refine v_iast E dC_16 (by decide) q3.1 q3.2 q9 d_Reader_readNumbers_116 ?_
            refine v_nameS (fun s7 hs7 => ?_)
            replace h := h s7 hs7
            refine v_aloadn E d_Reader_readNumbers_117 rfl 0 rfl ?_
            refine v_dup E d_Reader_readNumbers_118 rfl ?_
            refine v_getI E cf2 dC_15 1 (by decide) rfl mw35 d_Reader_readNumbers_119 rfl ?_
            refine v_iconst E d_Reader_readNumbers_122 ?_
            refine v_iadd E d_Reader_readNumbers_123 ?_
            obtain ⟨q10, h⟩ := h
            refine v_putI E cf2 dC_15 1 (by decide) rfl rfl mw35 d_Reader_readNumbers_124 rfl rfl rfl q10 ?_
            refine v_nameS (fun s8 hs8 => ?_)
            replace h := h s8 hs8
            refine v_aloadn E d_Reader_readNumbers_127 rfl 1 rfl ?_
            refine v_aloadn E d_Reader_readNumbers_128 rfl 0 rfl ?_
            refine v_getI E cf2 dC_15 1 (by decide) rfl mw35 d_Reader_readNumbers_129 rfl ?_
            refine v_wt (fun wt3 => ?_)
            refine v_callVIp E md_Text_at (c_Text_at (gI s8 15 1) (wt3 15 1) s8 _ h) dC_13 rfl ⟨by decide, by decide⟩ mw36 d_Reader_readNumbers_132 (fun _ => rfl) (st := []) rfl (Nat.le_of_ble_eq_true rfl) (fun r8 hr8 h => ?_)
            refine v_iloadn E d_Reader_readNumbers_135 rfl 3 rfl ?_
            refine v_iloadn E d_Reader_readNumbers_136 rfl 2 rfl ?_
            refine v_iconst E d_Reader_readNumbers_137 ?_
            refine v_isub E d_Reader_readNumbers_138 ?_
            obtain ⟨q11, h⟩ := h
            refine v_icmp_ne E 147 d_Reader_readNumbers_139 (by decide) q2 q11 (fun c9 => ?_) (fun c9 => ?_)
            · replace h := h.1 c9
              refine v_bipush E d_Reader_readNumbers_147 rfl ?_
              refine v_icmp_eq E 154 d_Reader_readNumbers_149 (by decide) hr8 (by decide) (fun c10 => ?_) (fun c10 => ?_)
              · replace h := h.1 c10
                refine v_aloadn E d_Reader_readNumbers_154 rfl 0 rfl ?_
                refine v_dup E d_Reader_readNumbers_155 rfl ?_
                refine v_getI E cf2 dC_15 1 (by decide) rfl mw35 d_Reader_readNumbers_156 rfl ?_
                refine v_iconst E d_Reader_readNumbers_159 ?_
                refine v_iadd E d_Reader_readNumbers_160 ?_
                obtain ⟨q12, h⟩ := h
                refine v_putI E cf2 dC_15 1 (by decide) rfl rfl mw35 d_Reader_readNumbers_161 rfl rfl rfl q12 ?_
                refine v_nameS (fun s9 hs9 => ?_)
                replace h := h s9 hs9
                refine v_iincN E d_Reader_readNumbers_164 3 rfl (by decide) (fun y => [(3, .int (iI y)), (0, .ref (adX X 15)), (1, .ref (adX X 13)), (2, .int (iI p2))]) (fun _ => rfl) (fun x4 hx4 => ?_)
                replace h := h x4 hx4
                refine v_goto E 28 d_Reader_readNumbers_167 (by decide) ?_
                obtain ⟨hb, hm⟩ := h
                exact v_sub [1, 2, 3, 0] rfl (ih1 x4 s9 hb hm)
              · replace h := h.2 c10
                refine v_iconst E d_Reader_readNumbers_152 ?_
                exact v_iret E hR (nar_Z (by decide)) (Rng_Z (by decide)) ⟨(by decide), h⟩ d_Reader_readNumbers_153
            · replace h := h.2 c9
              refine v_bipush E d_Reader_readNumbers_142 rfl ?_
              refine v_goto E 149 d_Reader_readNumbers_144 (by decide) ?_
              refine v_icmp_eq E 154 d_Reader_readNumbers_149 (by decide) hr8 (by decide) (fun c11 => ?_) (fun c11 => ?_)
              · replace h := h.1 c11
                refine v_aloadn E d_Reader_readNumbers_154 rfl 0 rfl ?_
                refine v_dup E d_Reader_readNumbers_155 rfl ?_
                refine v_getI E cf2 dC_15 1 (by decide) rfl mw35 d_Reader_readNumbers_156 rfl ?_
                refine v_iconst E d_Reader_readNumbers_159 ?_
                refine v_iadd E d_Reader_readNumbers_160 ?_
                obtain ⟨q13, h⟩ := h
                refine v_putI E cf2 dC_15 1 (by decide) rfl rfl mw35 d_Reader_readNumbers_161 rfl rfl rfl q13 ?_
                refine v_nameS (fun s10 hs10 => ?_)
                replace h := h s10 hs10
                refine v_iincN E d_Reader_readNumbers_164 3 rfl (by decide) (fun y => [(3, .int (iI y)), (0, .ref (adX X 15)), (1, .ref (adX X 13)), (2, .int (iI p2))]) (fun _ => rfl) (fun x5 hx5 => ?_)
                replace h := h x5 hx5
                refine v_goto E 28 d_Reader_readNumbers_167 (by decide) ?_
                obtain ⟨hb, hm⟩ := h
                exact v_sub [1, 2, 3, 0] rfl (ih1 x5 s10 hb hm)
              · replace h := h.2 c11
                refine v_iconst E d_Reader_readNumbers_152 ?_
                exact v_iret E hR (nar_Z (by decide)) (Rng_Z (by decide)) ⟨(by decide), h⟩ d_Reader_readNumbers_153
        · replace h := h.2 c4
          refine v_iconst E d_Reader_readNumbers_47 ?_
          exact v_iret E hR (nar_Z (by decide)) (Rng_Z (by decide)) ⟨(by decide), h⟩ d_Reader_readNumbers_48
    · replace h := h.2 c2
      refine v_iconst E d_Reader_readNumbers_14 ?_
      exact v_iret E hR (nar_Z (by decide)) (Rng_Z (by decide)) ⟨(by decide), h⟩ d_Reader_readNumbers_15
theorem d_Valley_addHome_0 : decode prog_9_method_5_code 0 = .ok (.aload_n 0, 1) := by decide +kernel
theorem d_Valley_addHome_1 : decode prog_9_method_5_code 1 = .ok (.getfield 27, 3) := by decide +kernel
theorem d_Valley_addHome_4 : decode prog_9_method_5_code 4 = .ok (.bipush 7, 2) := by decide +kernel
theorem d_Valley_addHome_6 : decode prog_9_method_5_code 6 = .ok (.if_icmp .ge 14, 3) := by decide +kernel
theorem d_Valley_addHome_9 : decode prog_9_method_5_code 9 = .ok (.iload_n 1, 1) := by decide +kernel
theorem d_Valley_addHome_10 : decode prog_9_method_5_code 10 = .ok (.iconst 3, 1) := by decide +kernel
theorem d_Valley_addHome_11 : decode prog_9_method_5_code 11 = .ok (.if_icmp .gt 9, 3) := by decide +kernel
theorem d_Valley_addHome_14 : decode prog_9_method_5_code 14 = .ok (.iload_n 2, 1) := by decide +kernel
theorem d_Valley_addHome_15 : decode prog_9_method_5_code 15 = .ok (.bipush 40, 2) := by decide +kernel
theorem d_Valley_addHome_17 : decode prog_9_method_5_code 17 = .ok (.if_icmp .le 5, 3) := by decide +kernel
theorem d_Valley_addHome_20 : decode prog_9_method_5_code 20 = .ok (.iconst 0, 1) := by decide +kernel
theorem d_Valley_addHome_21 : decode prog_9_method_5_code 21 = .ok (.ireturn, 1) := by decide +kernel
theorem d_Valley_addHome_22 : decode prog_9_method_5_code 22 = .ok (.aload_n 0, 1) := by decide +kernel
theorem d_Valley_addHome_23 : decode prog_9_method_5_code 23 = .ok (.getfield 9, 3) := by decide +kernel
theorem d_Valley_addHome_26 : decode prog_9_method_5_code 26 = .ok (.aload_n 0, 1) := by decide +kernel
theorem d_Valley_addHome_27 : decode prog_9_method_5_code 27 = .ok (.getfield 27, 3) := by decide +kernel
theorem d_Valley_addHome_30 : decode prog_9_method_5_code 30 = .ok (.iload_n 1, 1) := by decide +kernel
theorem d_Valley_addHome_31 : decode prog_9_method_5_code 31 = .ok (.iastore, 1) := by decide +kernel
theorem d_Valley_addHome_32 : decode prog_9_method_5_code 32 = .ok (.aload_n 0, 1) := by decide +kernel
theorem d_Valley_addHome_33 : decode prog_9_method_5_code 33 = .ok (.getfield 15, 3) := by decide +kernel
theorem d_Valley_addHome_36 : decode prog_9_method_5_code 36 = .ok (.aload_n 0, 1) := by decide +kernel
theorem d_Valley_addHome_37 : decode prog_9_method_5_code 37 = .ok (.getfield 27, 3) := by decide +kernel
theorem d_Valley_addHome_40 : decode prog_9_method_5_code 40 = .ok (.iload_n 2, 1) := by decide +kernel
theorem d_Valley_addHome_41 : decode prog_9_method_5_code 41 = .ok (.iastore, 1) := by decide +kernel
theorem d_Valley_addHome_42 : decode prog_9_method_5_code 42 = .ok (.aload_n 0, 1) := by decide +kernel
theorem d_Valley_addHome_43 : decode prog_9_method_5_code 43 = .ok (.dup, 1) := by decide +kernel
theorem d_Valley_addHome_44 : decode prog_9_method_5_code 44 = .ok (.getfield 27, 3) := by decide +kernel
theorem d_Valley_addHome_47 : decode prog_9_method_5_code 47 = .ok (.iconst 1, 1) := by decide +kernel
theorem d_Valley_addHome_48 : decode prog_9_method_5_code 48 = .ok (.iadd, 1) := by decide +kernel
theorem d_Valley_addHome_49 : decode prog_9_method_5_code 49 = .ok (.putfield 27, 3) := by decide +kernel
theorem d_Valley_addHome_52 : decode prog_9_method_5_code 52 = .ok (.iconst 1, 1) := by decide +kernel
theorem d_Valley_addHome_53 : decode prog_9_method_5_code 53 = .ok (.ireturn, 1) := by decide +kernel
set_option maxHeartbeats 4000000 in
set_option maxRecDepth 20000 in
theorem c_Valley_addHome (v0 : Nat) (hv0 : dscC[v0]? = some dVal) (p1 : Int) (hp1 : Rng p1) (p2 : Int) (hp2 : Rng p2) (s0 : MS) (Q : Int → MS → Prop) (h : wp_Valley_addHome v0 p1 p2 s0 Q) : MT dscC ⟨"BellSchool$Valley", "addHome", "(II)Z"⟩ prog_9_method_5_code 3 (some .boolean) 0 (fun ad => [.ref (ad v0), .int (iI p1), .int (iI p2)]) s0 (po_I dscC (fun r z => (r = 0 ∨ r = 1) ∧ Q r z)) := by
  refine met_of (by decide) (fun _ => Nat.le_of_ble_eq_true rfl) (fun X E hR => ?_)
  replace E : EV dscC X prog_9_method_5_code "BellSchool$Valley" 3 0 := E
  show VV dscC X 0 [(0, .ref (adX X v0)), (1, .int (iI p1)), (2, .int (iI p2))] [] s0
  unfold wp_Valley_addHome at h
  refine v_aloadn E d_Valley_addHome_0 rfl 0 rfl ?_
  refine v_getI E cf7 hv0 5 (by decide) rfl mw16 d_Valley_addHome_1 rfl ?_
  refine v_bipush E d_Valley_addHome_4 rfl ?_
  refine v_wt (fun wt1 => ?_)
  refine v_icmp_ge E 20 d_Valley_addHome_6 (by decide) (wt1 v0 5) (by decide) (fun c1 => ?_) (fun c1 => ?_)
  · replace h := h.1 c1
    refine v_iconst E d_Valley_addHome_20 ?_
    exact v_iret E hR (nar_Z (by decide)) (Rng_Z (by decide)) ⟨(by decide), h⟩ d_Valley_addHome_21
  · replace h := h.2 c1
    refine v_iloadn E d_Valley_addHome_9 rfl 1 rfl ?_
    refine v_iconst E d_Valley_addHome_10 ?_
    refine v_icmp_gt E 20 d_Valley_addHome_11 (by decide) hp1 (by decide) (fun c2 => ?_) (fun c2 => ?_)
    · replace h := h.1 c2
      refine v_iconst E d_Valley_addHome_20 ?_
      exact v_iret E hR (nar_Z (by decide)) (Rng_Z (by decide)) ⟨(by decide), h⟩ d_Valley_addHome_21
    · replace h := h.2 c2
      refine v_iloadn E d_Valley_addHome_14 rfl 2 rfl ?_
      refine v_bipush E d_Valley_addHome_15 rfl ?_
      refine v_icmp_le E 22 d_Valley_addHome_17 (by decide) hp2 (by decide) (fun c3 => ?_) (fun c3 => ?_)
      · replace h := h.1 c3
        refine v_aloadn E d_Valley_addHome_22 rfl 0 rfl ?_
        refine v_getO E cf7 hv0 0 (by decide) rfl mw41 d_Valley_addHome_23 rfl ?_
        refine v_aloadn E d_Valley_addHome_26 rfl 0 rfl ?_
        refine v_getI E cf7 hv0 5 (by decide) rfl mw16 d_Valley_addHome_27 rfl ?_
        refine v_iloadn E d_Valley_addHome_30 rfl 1 rfl ?_
        obtain ⟨q1, h⟩ := h
        refine v_iast E (dC_o7_1 hv0) (by decide) q1.1 q1.2 hp1 d_Valley_addHome_31 ?_
        refine v_nameS (fun s1 hs1 => ?_)
        replace h := h s1 hs1
        refine v_aloadn E d_Valley_addHome_32 rfl 0 rfl ?_
        refine v_getO E cf7 hv0 1 (by decide) rfl mw42 d_Valley_addHome_33 rfl ?_
        refine v_aloadn E d_Valley_addHome_36 rfl 0 rfl ?_
        refine v_getI E cf7 hv0 5 (by decide) rfl mw16 d_Valley_addHome_37 rfl ?_
        refine v_iloadn E d_Valley_addHome_40 rfl 2 rfl ?_
        obtain ⟨q2, h⟩ := h
        refine v_iast E (dC_o7_2 hv0) (by decide) q2.1 q2.2 hp2 d_Valley_addHome_41 ?_
        refine v_nameS (fun s2 hs2 => ?_)
        replace h := h s2 hs2
        refine v_aloadn E d_Valley_addHome_42 rfl 0 rfl ?_
        refine v_dup E d_Valley_addHome_43 rfl ?_
        refine v_getI E cf7 hv0 5 (by decide) rfl mw16 d_Valley_addHome_44 rfl ?_
        refine v_iconst E d_Valley_addHome_47 ?_
        refine v_iadd E d_Valley_addHome_48 ?_
        obtain ⟨q3, h⟩ := h
        refine v_putI E cf7 hv0 5 (by decide) rfl rfl mw16 d_Valley_addHome_49 rfl rfl rfl q3 ?_
        refine v_nameS (fun s3 hs3 => ?_)
        replace h := h s3 hs3
        refine v_iconst E d_Valley_addHome_52 ?_
        exact v_iret E hR (nar_Z (by decide)) (Rng_Z (by decide)) ⟨(by decide), h⟩ d_Valley_addHome_53
      · replace h := h.2 c3
        refine v_iconst E d_Valley_addHome_20 ?_
        exact v_iret E hR (nar_Z (by decide)) (Rng_Z (by decide)) ⟨(by decide), h⟩ d_Valley_addHome_21
theorem d_Valley_has_0 : decode prog_9_method_3_code 0 = .ok (.iload_n 1, 1) := by decide +kernel
theorem d_Valley_has_1 : decode prog_9_method_3_code 1 = .ok (.ifCond .lt 15, 3) := by decide +kernel
theorem d_Valley_has_4 : decode prog_9_method_3_code 4 = .ok (.iload_n 1, 1) := by decide +kernel
theorem d_Valley_has_5 : decode prog_9_method_3_code 5 = .ok (.aload_n 0, 1) := by decide +kernel
theorem d_Valley_has_6 : decode prog_9_method_3_code 6 = .ok (.getfield 27, 3) := by decide +kernel
theorem d_Valley_has_9 : decode prog_9_method_3_code 9 = .ok (.if_icmp .ge 7, 3) := by decide +kernel
theorem d_Valley_has_12 : decode prog_9_method_3_code 12 = .ok (.iconst 1, 1) := by decide +kernel
theorem d_Valley_has_13 : decode prog_9_method_3_code 13 = .ok (.goto 4, 3) := by decide +kernel
theorem d_Valley_has_16 : decode prog_9_method_3_code 16 = .ok (.iconst 0, 1) := by decide +kernel
theorem d_Valley_has_17 : decode prog_9_method_3_code 17 = .ok (.ireturn, 1) := by decide +kernel
set_option maxHeartbeats 4000000 in
set_option maxRecDepth 20000 in
theorem c_Valley_has (v0 : Nat) (hv0 : dscC[v0]? = some dVal) (p1 : Int) (hp1 : Rng p1) (s0 : MS) (Q : Int → Prop) (h : wp_Valley_has v0 p1 s0 Q) : MT dscC ⟨"BellSchool$Valley", "has", "(I)Z"⟩ prog_9_method_3_code 2 (some .boolean) 0 (fun ad => [.ref (ad v0), .int (iI p1)]) s0 (po_I dscC (fun r z => (r = 0 ∨ r = 1) ∧ z = s0 ∧ Q r)) := by
  refine met_of (by decide) (fun _ => Nat.le_of_ble_eq_true rfl) (fun X E hR => ?_)
  replace E : EV dscC X prog_9_method_3_code "BellSchool$Valley" 2 0 := E
  show VV dscC X 0 [(0, .ref (adX X v0)), (1, .int (iI p1))] [] s0
  unfold wp_Valley_has at h
  refine v_iloadn E d_Valley_has_0 rfl 1 rfl ?_
  refine v_if_lt E 16 d_Valley_has_1 (by decide) hp1 (fun c1 => ?_) (fun c1 => ?_)
  · replace h := h.1 c1
    refine v_iconst E d_Valley_has_16 ?_
    exact v_iret E hR (nar_Z (by decide)) (Rng_Z (by decide)) ⟨(by decide), rfl, h⟩ d_Valley_has_17
  · replace h := h.2 c1
    refine v_iloadn E d_Valley_has_4 rfl 1 rfl ?_
    refine v_aloadn E d_Valley_has_5 rfl 0 rfl ?_
    refine v_getI E cf7 hv0 5 (by decide) rfl mw16 d_Valley_has_6 rfl ?_
    refine v_wt (fun wt1 => ?_)
    refine v_icmp_ge E 16 d_Valley_has_9 (by decide) hp1 (wt1 v0 5) (fun c2 => ?_) (fun c2 => ?_)
    · replace h := h.1 c2
      refine v_iconst E d_Valley_has_16 ?_
      exact v_iret E hR (nar_Z (by decide)) (Rng_Z (by decide)) ⟨(by decide), rfl, h⟩ d_Valley_has_17
    · replace h := h.2 c2
      refine v_iconst E d_Valley_has_12 ?_
      refine v_goto E 17 d_Valley_has_13 (by decide) ?_
      exact v_iret E hR (nar_Z (by decide)) (Rng_Z (by decide)) ⟨(by decide), rfl, h⟩ d_Valley_has_17
theorem d_Valley_hasTwo_0 : decode prog_9_method_4_code 0 = .ok (.aload_n 0, 1) := by decide +kernel
theorem d_Valley_hasTwo_1 : decode prog_9_method_4_code 1 = .ok (.iload_n 1, 1) := by decide +kernel
theorem d_Valley_hasTwo_2 : decode prog_9_method_4_code 2 = .ok (.invokevirtual 37, 3) := by decide +kernel
theorem d_Valley_hasTwo_5 : decode prog_9_method_4_code 5 = .ok (.ifCond .eq 20, 3) := by decide +kernel
theorem d_Valley_hasTwo_8 : decode prog_9_method_4_code 8 = .ok (.aload_n 0, 1) := by decide +kernel
theorem d_Valley_hasTwo_9 : decode prog_9_method_4_code 9 = .ok (.iload_n 2, 1) := by decide +kernel
theorem d_Valley_hasTwo_10 : decode prog_9_method_4_code 10 = .ok (.invokevirtual 37, 3) := by decide +kernel
theorem d_Valley_hasTwo_13 : decode prog_9_method_4_code 13 = .ok (.ifCond .eq 12, 3) := by decide +kernel
theorem d_Valley_hasTwo_16 : decode prog_9_method_4_code 16 = .ok (.iload_n 1, 1) := by decide +kernel
theorem d_Valley_hasTwo_17 : decode prog_9_method_4_code 17 = .ok (.iload_n 2, 1) := by decide +kernel
theorem d_Valley_hasTwo_18 : decode prog_9_method_4_code 18 = .ok (.if_icmp .eq 7, 3) := by decide +kernel
theorem d_Valley_hasTwo_21 : decode prog_9_method_4_code 21 = .ok (.iconst 1, 1) := by decide +kernel
theorem d_Valley_hasTwo_22 : decode prog_9_method_4_code 22 = .ok (.goto 4, 3) := by decide +kernel
theorem d_Valley_hasTwo_25 : decode prog_9_method_4_code 25 = .ok (.iconst 0, 1) := by decide +kernel
theorem d_Valley_hasTwo_26 : decode prog_9_method_4_code 26 = .ok (.ireturn, 1) := by decide +kernel
set_option maxHeartbeats 4000000 in
set_option maxRecDepth 20000 in
theorem c_Valley_hasTwo (v0 : Nat) (hv0 : dscC[v0]? = some dVal) (p1 : Int) (hp1 : Rng p1) (p2 : Int) (hp2 : Rng p2) (s0 : MS) (Q : Int → Prop) (h : wp_Valley_hasTwo v0 p1 p2 s0 Q) : MT dscC ⟨"BellSchool$Valley", "hasTwo", "(II)Z"⟩ prog_9_method_4_code 3 (some .boolean) 1 (fun ad => [.ref (ad v0), .int (iI p1), .int (iI p2)]) s0 (po_I dscC (fun r z => (r = 0 ∨ r = 1) ∧ z = s0 ∧ Q r)) := by
  refine met_of (by decide) (fun _ => Nat.le_of_ble_eq_true rfl) (fun X E hR => ?_)
  replace E : EV dscC X prog_9_method_4_code "BellSchool$Valley" 3 1 := E
  show VV dscC X 0 [(0, .ref (adX X v0)), (1, .int (iI p1)), (2, .int (iI p2))] [] s0
  unfold wp_Valley_hasTwo at h
  refine v_aloadn E d_Valley_hasTwo_0 rfl 0 rfl ?_
  refine v_iloadn E d_Valley_hasTwo_1 rfl 1 rfl ?_
  refine v_callVIpz E md_Valley_has (c_Valley_has v0 hv0 p1 hp1 s0 _ h) hv0 rfl ⟨by decide, by decide⟩ mw49 d_Valley_hasTwo_2 (fun _ => rfl) (st := []) rfl (Nat.le_of_ble_eq_true rfl) (fun r1 hr1 hz1 h => ?_)
  refine v_if_eq E 25 d_Valley_hasTwo_5 (by decide) hr1 (fun c1 => ?_) (fun c1 => ?_)
  · replace h := h.1 c1
    refine v_iconst E d_Valley_hasTwo_25 ?_
    exact v_iret E hR (nar_Z (by decide)) (Rng_Z (by decide)) ⟨(by decide), rfl, h⟩ d_Valley_hasTwo_26
  · replace h := h.2 c1
    refine v_aloadn E d_Valley_hasTwo_8 rfl 0 rfl ?_
    refine v_iloadn E d_Valley_hasTwo_9 rfl 2 rfl ?_
    refine v_callVIpz E md_Valley_has (c_Valley_has v0 hv0 p2 hp2 s0 _ h) hv0 rfl ⟨by decide, by decide⟩ mw49 d_Valley_hasTwo_10 (fun _ => rfl) (st := []) rfl (Nat.le_of_ble_eq_true rfl) (fun r2 hr2 hz2 h => ?_)
    refine v_if_eq E 25 d_Valley_hasTwo_13 (by decide) hr2 (fun c2 => ?_) (fun c2 => ?_)
    · replace h := h.1 c2
      refine v_iconst E d_Valley_hasTwo_25 ?_
      exact v_iret E hR (nar_Z (by decide)) (Rng_Z (by decide)) ⟨(by decide), rfl, h⟩ d_Valley_hasTwo_26
    · replace h := h.2 c2
      refine v_iloadn E d_Valley_hasTwo_16 rfl 1 rfl ?_
      refine v_iloadn E d_Valley_hasTwo_17 rfl 2 rfl ?_
      refine v_icmp_eq E 25 d_Valley_hasTwo_18 (by decide) hp1 hp2 (fun c3 => ?_) (fun c3 => ?_)
      · replace h := h.1 c3
        refine v_iconst E d_Valley_hasTwo_25 ?_
        exact v_iret E hR (nar_Z (by decide)) (Rng_Z (by decide)) ⟨(by decide), rfl, h⟩ d_Valley_hasTwo_26
      · replace h := h.2 c3
        refine v_iconst E d_Valley_hasTwo_21 ?_
        refine v_goto E 26 d_Valley_hasTwo_22 (by decide) ?_
        exact v_iret E hR (nar_Z (by decide)) (Rng_Z (by decide)) ⟨(by decide), rfl, h⟩ d_Valley_hasTwo_26
theorem d_B_pairOf_0 : decode prog_1_method_37_code 0 = .ok (.iload_n 0, 1) := by decide +kernel
theorem d_B_pairOf_1 : decode prog_1_method_37_code 1 = .ok (.iload_n 1, 1) := by decide +kernel
theorem d_B_pairOf_2 : decode prog_1_method_37_code 2 = .ok (.invokestatic 287, 3) := by decide +kernel
theorem d_B_pairOf_5 : decode prog_1_method_37_code 5 = .ok (.bipush 7, 2) := by decide +kernel
theorem d_B_pairOf_7 : decode prog_1_method_37_code 7 = .ok (.imul, 1) := by decide +kernel
theorem d_B_pairOf_8 : decode prog_1_method_37_code 8 = .ok (.iload_n 0, 1) := by decide +kernel
theorem d_B_pairOf_9 : decode prog_1_method_37_code 9 = .ok (.iload_n 1, 1) := by decide +kernel
theorem d_B_pairOf_10 : decode prog_1_method_37_code 10 = .ok (.invokestatic 275, 3) := by decide +kernel
theorem d_B_pairOf_13 : decode prog_1_method_37_code 13 = .ok (.iadd, 1) := by decide +kernel
theorem d_B_pairOf_14 : decode prog_1_method_37_code 14 = .ok (.ireturn, 1) := by decide +kernel
set_option maxHeartbeats 4000000 in
set_option maxRecDepth 20000 in
theorem c_B_pairOf (dsc : List CD) (p1 : Int) (hp1 : Rng p1) (p2 : Int) (hp2 : Rng p2) (s0 : MS) (Q : Int → Prop) (h : wp_B_pairOf p1 p2 Q) : MT dsc ⟨"BellSchool", "pairOf", "(II)I"⟩ prog_1_method_37_code 2 (some .int) 1 (fun ad => [.int (iI p1), .int (iI p2)]) s0 (po_I dsc (fun r z => z = s0 ∧ Q r)) := by
  refine met_of (by decide) (fun _ => Nat.le_of_ble_eq_true rfl) (fun X E hR => ?_)
  replace E : EV dsc X prog_1_method_37_code "BellSchool" 2 1 := E
  show VV dsc X 0 [(0, .int (iI p1)), (1, .int (iI p2))] [] s0
  unfold wp_B_pairOf at h
  refine v_iloadn E d_B_pairOf_0 rfl 0 rfl ?_
  refine v_iloadn E d_B_pairOf_1 rfl 1 rfl ?_
  refine v_mmin E mw53 mw54 mw55 mw56 hp1 hp2 d_B_pairOf_2 (Nat.le_of_ble_eq_true rfl) (by decide) ?_
  refine v_bipush E d_B_pairOf_5 rfl ?_
  refine v_imul E d_B_pairOf_7 ?_
  refine v_iloadn E d_B_pairOf_8 rfl 0 rfl ?_
  refine v_iloadn E d_B_pairOf_9 rfl 1 rfl ?_
  refine v_mmax E mw57 mw58 mw55 mw59 hp1 hp2 d_B_pairOf_10 (Nat.le_of_ble_eq_true rfl) (by decide) ?_
  refine v_iadd E d_B_pairOf_13 ?_
  obtain ⟨q1, h⟩ := h
  exact v_iret E hR rfl q1 ⟨rfl, h⟩ d_B_pairOf_14
theorem d_Valley_addWay_0 : decode prog_9_method_6_code 0 = .ok (.aload_n 0, 1) := by decide +kernel
theorem d_Valley_addWay_1 : decode prog_9_method_6_code 1 = .ok (.iload_n 1, 1) := by decide +kernel
theorem d_Valley_addWay_2 : decode prog_9_method_6_code 2 = .ok (.iload_n 2, 1) := by decide +kernel
theorem d_Valley_addWay_3 : decode prog_9_method_6_code 3 = .ok (.invokevirtual 41, 3) := by decide +kernel
theorem d_Valley_addWay_6 : decode prog_9_method_6_code 6 = .ok (.ifCond .eq 14, 3) := by decide +kernel
theorem d_Valley_addWay_9 : decode prog_9_method_6_code 9 = .ok (.iload_n 3, 1) := by decide +kernel
theorem d_Valley_addWay_10 : decode prog_9_method_6_code 10 = .ok (.iconst 1, 1) := by decide +kernel
theorem d_Valley_addWay_11 : decode prog_9_method_6_code 11 = .ok (.if_icmp .lt 9, 3) := by decide +kernel
theorem d_Valley_addWay_14 : decode prog_9_method_6_code 14 = .ok (.iload_n 3, 1) := by decide +kernel
theorem d_Valley_addWay_15 : decode prog_9_method_6_code 15 = .ok (.bipush 60, 2) := by decide +kernel
theorem d_Valley_addWay_17 : decode prog_9_method_6_code 17 = .ok (.if_icmp .le 5, 3) := by decide +kernel
theorem d_Valley_addWay_20 : decode prog_9_method_6_code 20 = .ok (.iconst 0, 1) := by decide +kernel
theorem d_Valley_addWay_21 : decode prog_9_method_6_code 21 = .ok (.ireturn, 1) := by decide +kernel
theorem d_Valley_addWay_22 : decode prog_9_method_6_code 22 = .ok (.aload_n 0, 1) := by decide +kernel
theorem d_Valley_addWay_23 : decode prog_9_method_6_code 23 = .ok (.getfield 18, 3) := by decide +kernel
theorem d_Valley_addWay_26 : decode prog_9_method_6_code 26 = .ok (.iload_n 1, 1) := by decide +kernel
theorem d_Valley_addWay_27 : decode prog_9_method_6_code 27 = .ok (.iload_n 2, 1) := by decide +kernel
theorem d_Valley_addWay_28 : decode prog_9_method_6_code 28 = .ok (.invokestatic 45, 3) := by decide +kernel
theorem d_Valley_addWay_31 : decode prog_9_method_6_code 31 = .ok (.iload_n 3, 1) := by decide +kernel
theorem d_Valley_addWay_32 : decode prog_9_method_6_code 32 = .ok (.iastore, 1) := by decide +kernel
theorem d_Valley_addWay_33 : decode prog_9_method_6_code 33 = .ok (.iconst 1, 1) := by decide +kernel
theorem d_Valley_addWay_34 : decode prog_9_method_6_code 34 = .ok (.ireturn, 1) := by decide +kernel
set_option maxHeartbeats 4000000 in
set_option maxRecDepth 20000 in
theorem c_Valley_addWay (v0 : Nat) (hv0 : dscC[v0]? = some dVal) (p1 : Int) (hp1 : Rng p1) (p2 : Int) (hp2 : Rng p2) (p3 : Int) (hp3 : Rng p3) (s0 : MS) (Q : Int → MS → Prop) (h : wp_Valley_addWay v0 p1 p2 p3 s0 Q) : MT dscC ⟨"BellSchool$Valley", "addWay", "(III)Z"⟩ prog_9_method_6_code 4 (some .boolean) 2 (fun ad => [.ref (ad v0), .int (iI p1), .int (iI p2), .int (iI p3)]) s0 (po_I dscC (fun r z => (r = 0 ∨ r = 1) ∧ Q r z)) := by
  refine met_of (by decide) (fun _ => Nat.le_of_ble_eq_true rfl) (fun X E hR => ?_)
  replace E : EV dscC X prog_9_method_6_code "BellSchool$Valley" 4 2 := E
  show VV dscC X 0 [(0, .ref (adX X v0)), (1, .int (iI p1)), (2, .int (iI p2)), (3, .int (iI p3))] [] s0
  unfold wp_Valley_addWay at h
  refine v_aloadn E d_Valley_addWay_0 rfl 0 rfl ?_
  refine v_iloadn E d_Valley_addWay_1 rfl 1 rfl ?_
  refine v_iloadn E d_Valley_addWay_2 rfl 2 rfl ?_
  refine v_callVIpz E md_Valley_hasTwo (c_Valley_hasTwo v0 hv0 p1 hp1 p2 hp2 s0 _ h) hv0 rfl ⟨by decide, by decide⟩ mw62 d_Valley_addWay_3 (fun _ => rfl) (st := []) rfl (Nat.le_of_ble_eq_true rfl) (fun r1 hr1 hz1 h => ?_)
  refine v_if_eq E 20 d_Valley_addWay_6 (by decide) hr1 (fun c1 => ?_) (fun c1 => ?_)
  · replace h := h.1 c1
    refine v_iconst E d_Valley_addWay_20 ?_
    exact v_iret E hR (nar_Z (by decide)) (Rng_Z (by decide)) ⟨(by decide), h⟩ d_Valley_addWay_21
  · replace h := h.2 c1
    refine v_iloadn E d_Valley_addWay_9 rfl 3 rfl ?_
    refine v_iconst E d_Valley_addWay_10 ?_
    refine v_icmp_lt E 20 d_Valley_addWay_11 (by decide) hp3 (by decide) (fun c2 => ?_) (fun c2 => ?_)
    · replace h := h.1 c2
      refine v_iconst E d_Valley_addWay_20 ?_
      exact v_iret E hR (nar_Z (by decide)) (Rng_Z (by decide)) ⟨(by decide), h⟩ d_Valley_addWay_21
    · replace h := h.2 c2
      refine v_iloadn E d_Valley_addWay_14 rfl 3 rfl ?_
      refine v_bipush E d_Valley_addWay_15 rfl ?_
      refine v_icmp_le E 22 d_Valley_addWay_17 (by decide) hp3 (by decide) (fun c3 => ?_) (fun c3 => ?_)
      · replace h := h.1 c3
        refine v_aloadn E d_Valley_addWay_22 rfl 0 rfl ?_
        refine v_getO E cf7 hv0 2 (by decide) rfl mw19 d_Valley_addWay_23 rfl ?_
        refine v_iloadn E d_Valley_addWay_26 rfl 1 rfl ?_
        refine v_iloadn E d_Valley_addWay_27 rfl 2 rfl ?_
        refine v_callNIp E md_B_pairOf (c_B_pairOf dscC p1 hp1 p2 hp2 s0 _ h) ⟨by decide, by decide⟩ E.2.2.2.2.2.2.2.2.1.1 d_Valley_addWay_28 (fun _ => rfl) (st := [.ref (adX X (v0 + 3))]) rfl (Nat.le_of_ble_eq_true rfl) (fun r2 hr2 h => ?_)
        refine v_iloadn E d_Valley_addWay_31 rfl 3 rfl ?_
        obtain ⟨q1, h⟩ := h
        refine v_iast E (dC_o7_3 hv0) (by decide) q1.1 q1.2 hp3 d_Valley_addWay_32 ?_
        refine v_nameS (fun s1 hs1 => ?_)
        replace h := h s1 hs1
        refine v_iconst E d_Valley_addWay_33 ?_
        exact v_iret E hR (nar_Z (by decide)) (Rng_Z (by decide)) ⟨(by decide), h⟩ d_Valley_addWay_34
      · replace h := h.2 c3
        refine v_iconst E d_Valley_addWay_20 ?_
        exact v_iret E hR (nar_Z (by decide)) (Rng_Z (by decide)) ⟨(by decide), h⟩ d_Valley_addWay_21
theorem d_Valley_addSnow_0 : decode prog_9_method_7_code 0 = .ok (.aload_n 0, 1) := by decide +kernel
theorem d_Valley_addSnow_1 : decode prog_9_method_7_code 1 = .ok (.iload_n 1, 1) := by decide +kernel
theorem d_Valley_addSnow_2 : decode prog_9_method_7_code 2 = .ok (.iload_n 2, 1) := by decide +kernel
theorem d_Valley_addSnow_3 : decode prog_9_method_7_code 3 = .ok (.invokevirtual 41, 3) := by decide +kernel
theorem d_Valley_addSnow_6 : decode prog_9_method_7_code 6 = .ok (.ifCond .eq 16, 3) := by decide +kernel
theorem d_Valley_addSnow_9 : decode prog_9_method_7_code 9 = .ok (.iload 4, 2) := by decide +kernel
theorem d_Valley_addSnow_11 : decode prog_9_method_7_code 11 = .ok (.bipush 28, 2) := by decide +kernel
theorem d_Valley_addSnow_13 : decode prog_9_method_7_code 13 = .ok (.if_icmp .ge 9, 3) := by decide +kernel
theorem d_Valley_addSnow_16 : decode prog_9_method_7_code 16 = .ok (.iload_n 3, 1) := by decide +kernel
theorem d_Valley_addSnow_17 : decode prog_9_method_7_code 17 = .ok (.iload 4, 2) := by decide +kernel
theorem d_Valley_addSnow_19 : decode prog_9_method_7_code 19 = .ok (.if_icmp .le 5, 3) := by decide +kernel
theorem d_Valley_addSnow_22 : decode prog_9_method_7_code 22 = .ok (.iconst 0, 1) := by decide +kernel
theorem d_Valley_addSnow_23 : decode prog_9_method_7_code 23 = .ok (.ireturn, 1) := by decide +kernel
theorem d_Valley_addSnow_24 : decode prog_9_method_7_code 24 = .ok (.aload_n 0, 1) := by decide +kernel
theorem d_Valley_addSnow_25 : decode prog_9_method_7_code 25 = .ok (.getfield 21, 3) := by decide +kernel
theorem d_Valley_addSnow_28 : decode prog_9_method_7_code 28 = .ok (.iload_n 1, 1) := by decide +kernel
theorem d_Valley_addSnow_29 : decode prog_9_method_7_code 29 = .ok (.iload_n 2, 1) := by decide +kernel
theorem d_Valley_addSnow_30 : decode prog_9_method_7_code 30 = .ok (.invokestatic 45, 3) := by decide +kernel
theorem d_Valley_addSnow_33 : decode prog_9_method_7_code 33 = .ok (.iload_n 3, 1) := by decide +kernel
theorem d_Valley_addSnow_34 : decode prog_9_method_7_code 34 = .ok (.iastore, 1) := by decide +kernel
theorem d_Valley_addSnow_35 : decode prog_9_method_7_code 35 = .ok (.aload_n 0, 1) := by decide +kernel
theorem d_Valley_addSnow_36 : decode prog_9_method_7_code 36 = .ok (.getfield 24, 3) := by decide +kernel
theorem d_Valley_addSnow_39 : decode prog_9_method_7_code 39 = .ok (.iload_n 1, 1) := by decide +kernel
theorem d_Valley_addSnow_40 : decode prog_9_method_7_code 40 = .ok (.iload_n 2, 1) := by decide +kernel
theorem d_Valley_addSnow_41 : decode prog_9_method_7_code 41 = .ok (.invokestatic 45, 3) := by decide +kernel
theorem d_Valley_addSnow_44 : decode prog_9_method_7_code 44 = .ok (.iload 4, 2) := by decide +kernel
theorem d_Valley_addSnow_46 : decode prog_9_method_7_code 46 = .ok (.iastore, 1) := by decide +kernel
theorem d_Valley_addSnow_47 : decode prog_9_method_7_code 47 = .ok (.iconst 1, 1) := by decide +kernel
theorem d_Valley_addSnow_48 : decode prog_9_method_7_code 48 = .ok (.ireturn, 1) := by decide +kernel
set_option maxHeartbeats 4000000 in
set_option maxRecDepth 20000 in
theorem c_Valley_addSnow (v0 : Nat) (hv0 : dscC[v0]? = some dVal) (p1 : Int) (hp1 : Rng p1) (p2 : Int) (hp2 : Rng p2) (p3 : Int) (hp3 : Rng p3) (p4 : Int) (hp4 : Rng p4) (s0 : MS) (Q : Int → MS → Prop) (h : wp_Valley_addSnow v0 p1 p2 p3 p4 s0 Q) : MT dscC ⟨"BellSchool$Valley", "addSnow", "(IIII)Z"⟩ prog_9_method_7_code 5 (some .boolean) 2 (fun ad => [.ref (ad v0), .int (iI p1), .int (iI p2), .int (iI p3), .int (iI p4)]) s0 (po_I dscC (fun r z => (r = 0 ∨ r = 1) ∧ Q r z)) := by
  refine met_of (by decide) (fun _ => Nat.le_of_ble_eq_true rfl) (fun X E hR => ?_)
  replace E : EV dscC X prog_9_method_7_code "BellSchool$Valley" 5 2 := E
  show VV dscC X 0 [(0, .ref (adX X v0)), (1, .int (iI p1)), (2, .int (iI p2)), (3, .int (iI p3)), (4, .int (iI p4))] [] s0
  unfold wp_Valley_addSnow at h
  refine v_aloadn E d_Valley_addSnow_0 rfl 0 rfl ?_
  refine v_iloadn E d_Valley_addSnow_1 rfl 1 rfl ?_
  refine v_iloadn E d_Valley_addSnow_2 rfl 2 rfl ?_
  refine v_callVIpz E md_Valley_hasTwo (c_Valley_hasTwo v0 hv0 p1 hp1 p2 hp2 s0 _ h) hv0 rfl ⟨by decide, by decide⟩ mw62 d_Valley_addSnow_3 (fun _ => rfl) (st := []) rfl (Nat.le_of_ble_eq_true rfl) (fun r1 hr1 hz1 h => ?_)
  refine v_if_eq E 22 d_Valley_addSnow_6 (by decide) hr1 (fun c1 => ?_) (fun c1 => ?_)
  · replace h := h.1 c1
    refine v_iconst E d_Valley_addSnow_22 ?_
    exact v_iret E hR (nar_Z (by decide)) (Rng_Z (by decide)) ⟨(by decide), h⟩ d_Valley_addSnow_23
  · replace h := h.2 c1
    refine v_iload E d_Valley_addSnow_9 4 rfl ?_
    refine v_bipush E d_Valley_addSnow_11 rfl ?_
    refine v_icmp_ge E 22 d_Valley_addSnow_13 (by decide) hp4 (by decide) (fun c2 => ?_) (fun c2 => ?_)
    · replace h := h.1 c2
      refine v_iconst E d_Valley_addSnow_22 ?_
      exact v_iret E hR (nar_Z (by decide)) (Rng_Z (by decide)) ⟨(by decide), h⟩ d_Valley_addSnow_23
    · replace h := h.2 c2
      refine v_iloadn E d_Valley_addSnow_16 rfl 3 rfl ?_
      refine v_iload E d_Valley_addSnow_17 4 rfl ?_
      refine v_icmp_le E 24 d_Valley_addSnow_19 (by decide) hp3 hp4 (fun c3 => ?_) (fun c3 => ?_)
      · replace h := h.1 c3
        refine v_aloadn E d_Valley_addSnow_24 rfl 0 rfl ?_
        refine v_getO E cf7 hv0 3 (by decide) rfl mw20 d_Valley_addSnow_25 rfl ?_
        refine v_iloadn E d_Valley_addSnow_28 rfl 1 rfl ?_
        refine v_iloadn E d_Valley_addSnow_29 rfl 2 rfl ?_
        refine v_callNIp E md_B_pairOf (c_B_pairOf dscC p1 hp1 p2 hp2 s0 _ h) ⟨by decide, by decide⟩ E.2.2.2.2.2.2.2.2.1.1 d_Valley_addSnow_30 (fun _ => rfl) (st := [.ref (adX X (v0 + 4))]) rfl (Nat.le_of_ble_eq_true rfl) (fun r2 hr2 h => ?_)
        refine v_iloadn E d_Valley_addSnow_33 rfl 3 rfl ?_
        obtain ⟨q1, h⟩ := h
        refine v_iast E (dC_o7_4 hv0) (by decide) q1.1 q1.2 hp3 d_Valley_addSnow_34 ?_
        refine v_nameS (fun s1 hs1 => ?_)
        replace h := h s1 hs1
        refine v_aloadn E d_Valley_addSnow_35 rfl 0 rfl ?_
        refine v_getO E cf7 hv0 4 (by decide) rfl mw21 d_Valley_addSnow_36 rfl ?_
        refine v_iloadn E d_Valley_addSnow_39 rfl 1 rfl ?_
        refine v_iloadn E d_Valley_addSnow_40 rfl 2 rfl ?_
        refine v_callNIp E md_B_pairOf (c_B_pairOf dscC p1 hp1 p2 hp2 s1 _ h) ⟨by decide, by decide⟩ E.2.2.2.2.2.2.2.2.1.1 d_Valley_addSnow_41 (fun _ => rfl) (st := [.ref (adX X (v0 + 5))]) rfl (Nat.le_of_ble_eq_true rfl) (fun r3 hr3 h => ?_)
        refine v_iload E d_Valley_addSnow_44 4 rfl ?_
        obtain ⟨q2, h⟩ := h
        refine v_iast E (dC_o7_5 hv0) (by decide) q2.1 q2.2 hp4 d_Valley_addSnow_46 ?_
        refine v_nameS (fun s2 hs2 => ?_)
        replace h := h s2 hs2
        refine v_iconst E d_Valley_addSnow_47 ?_
        exact v_iret E hR (nar_Z (by decide)) (Rng_Z (by decide)) ⟨(by decide), h⟩ d_Valley_addSnow_48
      · replace h := h.2 c3
        refine v_iconst E d_Valley_addSnow_22 ?_
        exact v_iret E hR (nar_Z (by decide)) (Rng_Z (by decide)) ⟨(by decide), h⟩ d_Valley_addSnow_23
theorem d_Valley_putBell_0 : decode prog_9_method_8_code 0 = .ok (.aload_n 0, 1) := by decide +kernel
theorem d_Valley_putBell_1 : decode prog_9_method_8_code 1 = .ok (.iload_n 1, 1) := by decide +kernel
theorem d_Valley_putBell_2 : decode prog_9_method_8_code 2 = .ok (.putfield 31, 3) := by decide +kernel
theorem d_Valley_putBell_5 : decode prog_9_method_8_code 5 = .ok (.iload_n 1, 1) := by decide +kernel
theorem d_Valley_putBell_6 : decode prog_9_method_8_code 6 = .ok (.bipush 7, 2) := by decide +kernel
theorem d_Valley_putBell_8 : decode prog_9_method_8_code 8 = .ok (.if_icmp .ge 7, 3) := by decide +kernel
theorem d_Valley_putBell_11 : decode prog_9_method_8_code 11 = .ok (.iconst 1, 1) := by decide +kernel
theorem d_Valley_putBell_12 : decode prog_9_method_8_code 12 = .ok (.goto 4, 3) := by decide +kernel
theorem d_Valley_putBell_15 : decode prog_9_method_8_code 15 = .ok (.iconst 0, 1) := by decide +kernel
theorem d_Valley_putBell_16 : decode prog_9_method_8_code 16 = .ok (.ireturn, 1) := by decide +kernel
set_option maxHeartbeats 4000000 in
set_option maxRecDepth 20000 in
theorem c_Valley_putBell (v0 : Nat) (hv0 : dscC[v0]? = some dVal) (p1 : Int) (hp1 : Rng p1) (s0 : MS) (Q : Int → MS → Prop) (h : wp_Valley_putBell v0 p1 s0 Q) : MT dscC ⟨"BellSchool$Valley", "putBell", "(I)Z"⟩ prog_9_method_8_code 2 (some .boolean) 0 (fun ad => [.ref (ad v0), .int (iI p1)]) s0 (po_I dscC (fun r z => (r = 0 ∨ r = 1) ∧ Q r z)) := by
  refine met_of (by decide) (fun _ => Nat.le_of_ble_eq_true rfl) (fun X E hR => ?_)
  replace E : EV dscC X prog_9_method_8_code "BellSchool$Valley" 2 0 := E
  show VV dscC X 0 [(0, .ref (adX X v0)), (1, .int (iI p1))] [] s0
  unfold wp_Valley_putBell at h
  refine v_aloadn E d_Valley_putBell_0 rfl 0 rfl ?_
  refine v_iloadn E d_Valley_putBell_1 rfl 1 rfl ?_
  refine v_putI E cf7 hv0 6 (by decide) rfl rfl mw17 d_Valley_putBell_2 rfl rfl rfl hp1 ?_
  refine v_nameS (fun s1 hs1 => ?_)
  replace h := h s1 hs1
  refine v_iloadn E d_Valley_putBell_5 rfl 1 rfl ?_
  refine v_bipush E d_Valley_putBell_6 rfl ?_
  refine v_icmp_ge E 15 d_Valley_putBell_8 (by decide) hp1 (by decide) (fun c1 => ?_) (fun c1 => ?_)
  · replace h := h.1 c1
    refine v_iconst E d_Valley_putBell_15 ?_
    exact v_iret E hR (nar_Z (by decide)) (Rng_Z (by decide)) ⟨(by decide), h⟩ d_Valley_putBell_16
  · replace h := h.2 c1
    refine v_iconst E d_Valley_putBell_11 ?_
    refine v_goto E 16 d_Valley_putBell_12 (by decide) ?_
    exact v_iret E hR (nar_Z (by decide)) (Rng_Z (by decide)) ⟨(by decide), h⟩ d_Valley_putBell_16
theorem d_Valley_limit_0 : decode prog_9_method_9_code 0 = .ok (.aload_n 0, 1) := by decide +kernel
theorem d_Valley_limit_1 : decode prog_9_method_9_code 1 = .ok (.iload_n 1, 1) := by decide +kernel
theorem d_Valley_limit_2 : decode prog_9_method_9_code 2 = .ok (.putfield 34, 3) := by decide +kernel
theorem d_Valley_limit_5 : decode prog_9_method_9_code 5 = .ok (.iload_n 1, 1) := by decide +kernel
theorem d_Valley_limit_6 : decode prog_9_method_9_code 6 = .ok (.iconst 1, 1) := by decide +kernel
theorem d_Valley_limit_7 : decode prog_9_method_9_code 7 = .ok (.if_icmp .lt 7, 3) := by decide +kernel
theorem d_Valley_limit_10 : decode prog_9_method_9_code 10 = .ok (.iconst 1, 1) := by decide +kernel
theorem d_Valley_limit_11 : decode prog_9_method_9_code 11 = .ok (.goto 4, 3) := by decide +kernel
theorem d_Valley_limit_14 : decode prog_9_method_9_code 14 = .ok (.iconst 0, 1) := by decide +kernel
theorem d_Valley_limit_15 : decode prog_9_method_9_code 15 = .ok (.ireturn, 1) := by decide +kernel
set_option maxHeartbeats 4000000 in
set_option maxRecDepth 20000 in
theorem c_Valley_limit (v0 : Nat) (hv0 : dscC[v0]? = some dVal) (p1 : Int) (hp1 : Rng p1) (s0 : MS) (Q : Int → MS → Prop) (h : wp_Valley_limit v0 p1 s0 Q) : MT dscC ⟨"BellSchool$Valley", "limit", "(I)Z"⟩ prog_9_method_9_code 2 (some .boolean) 0 (fun ad => [.ref (ad v0), .int (iI p1)]) s0 (po_I dscC (fun r z => (r = 0 ∨ r = 1) ∧ Q r z)) := by
  refine met_of (by decide) (fun _ => Nat.le_of_ble_eq_true rfl) (fun X E hR => ?_)
  replace E : EV dscC X prog_9_method_9_code "BellSchool$Valley" 2 0 := E
  show VV dscC X 0 [(0, .ref (adX X v0)), (1, .int (iI p1))] [] s0
  unfold wp_Valley_limit at h
  refine v_aloadn E d_Valley_limit_0 rfl 0 rfl ?_
  refine v_iloadn E d_Valley_limit_1 rfl 1 rfl ?_
  refine v_putI E cf7 hv0 7 (by decide) rfl rfl mw18 d_Valley_limit_2 rfl rfl rfl hp1 ?_
  refine v_nameS (fun s1 hs1 => ?_)
  replace h := h s1 hs1
  refine v_iloadn E d_Valley_limit_5 rfl 1 rfl ?_
  refine v_iconst E d_Valley_limit_6 ?_
  refine v_icmp_lt E 14 d_Valley_limit_7 (by decide) hp1 (by decide) (fun c1 => ?_) (fun c1 => ?_)
  · replace h := h.1 c1
    refine v_iconst E d_Valley_limit_14 ?_
    exact v_iret E hR (nar_Z (by decide)) (Rng_Z (by decide)) ⟨(by decide), h⟩ d_Valley_limit_15
  · replace h := h.2 c1
    refine v_iconst E d_Valley_limit_10 ?_
    refine v_goto E 15 d_Valley_limit_11 (by decide) ?_
    exact v_iret E hR (nar_Z (by decide)) (Rng_Z (by decide)) ⟨(by decide), h⟩ d_Valley_limit_15
theorem d_Reader_told_0 : decode prog_4_method_6_code 0 = .ok (.iload_n 2, 1) := by decide +kernel
theorem d_Reader_told_1 : decode prog_4_method_6_code 1 = .ok (.lookupswitch 142 #[(98, 120), (104, 51), (110, 131), (115, 91), (119, 68)], 51) := by decide +kernel
theorem d_Reader_told_52 : decode prog_4_method_6_code 52 = .ok (.aload_n 1, 1) := by decide +kernel
theorem d_Reader_told_53 : decode prog_4_method_6_code 53 = .ok (.aload_n 0, 1) := by decide +kernel
theorem d_Reader_told_54 : decode prog_4_method_6_code 54 = .ok (.getfield 9, 3) := by decide +kernel
theorem d_Reader_told_57 : decode prog_4_method_6_code 57 = .ok (.iconst 0, 1) := by decide +kernel
theorem d_Reader_told_58 : decode prog_4_method_6_code 58 = .ok (.iaload, 1) := by decide +kernel
theorem d_Reader_told_59 : decode prog_4_method_6_code 59 = .ok (.aload_n 0, 1) := by decide +kernel
theorem d_Reader_told_60 : decode prog_4_method_6_code 60 = .ok (.getfield 9, 3) := by decide +kernel
theorem d_Reader_told_63 : decode prog_4_method_6_code 63 = .ok (.iconst 1, 1) := by decide +kernel
theorem d_Reader_told_64 : decode prog_4_method_6_code 64 = .ok (.iaload, 1) := by decide +kernel
theorem d_Reader_told_65 : decode prog_4_method_6_code 65 = .ok (.invokevirtual 53, 3) := by decide +kernel
theorem d_Reader_told_68 : decode prog_4_method_6_code 68 = .ok (.ireturn, 1) := by decide +kernel
theorem d_Reader_told_69 : decode prog_4_method_6_code 69 = .ok (.aload_n 1, 1) := by decide +kernel
theorem d_Reader_told_70 : decode prog_4_method_6_code 70 = .ok (.aload_n 0, 1) := by decide +kernel
theorem d_Reader_told_71 : decode prog_4_method_6_code 71 = .ok (.getfield 9, 3) := by decide +kernel
theorem d_Reader_told_74 : decode prog_4_method_6_code 74 = .ok (.iconst 0, 1) := by decide +kernel
theorem d_Reader_told_75 : decode prog_4_method_6_code 75 = .ok (.iaload, 1) := by decide +kernel
theorem d_Reader_told_76 : decode prog_4_method_6_code 76 = .ok (.aload_n 0, 1) := by decide +kernel
theorem d_Reader_told_77 : decode prog_4_method_6_code 77 = .ok (.getfield 9, 3) := by decide +kernel
theorem d_Reader_told_80 : decode prog_4_method_6_code 80 = .ok (.iconst 1, 1) := by decide +kernel
theorem d_Reader_told_81 : decode prog_4_method_6_code 81 = .ok (.iaload, 1) := by decide +kernel
theorem d_Reader_told_82 : decode prog_4_method_6_code 82 = .ok (.aload_n 0, 1) := by decide +kernel
theorem d_Reader_told_83 : decode prog_4_method_6_code 83 = .ok (.getfield 9, 3) := by decide +kernel
theorem d_Reader_told_86 : decode prog_4_method_6_code 86 = .ok (.iconst 2, 1) := by decide +kernel
theorem d_Reader_told_87 : decode prog_4_method_6_code 87 = .ok (.iaload, 1) := by decide +kernel
theorem d_Reader_told_88 : decode prog_4_method_6_code 88 = .ok (.invokevirtual 57, 3) := by decide +kernel
theorem d_Reader_told_91 : decode prog_4_method_6_code 91 = .ok (.ireturn, 1) := by decide +kernel
theorem d_Reader_told_92 : decode prog_4_method_6_code 92 = .ok (.aload_n 1, 1) := by decide +kernel
theorem d_Reader_told_93 : decode prog_4_method_6_code 93 = .ok (.aload_n 0, 1) := by decide +kernel
theorem d_Reader_told_94 : decode prog_4_method_6_code 94 = .ok (.getfield 9, 3) := by decide +kernel
theorem d_Reader_told_97 : decode prog_4_method_6_code 97 = .ok (.iconst 0, 1) := by decide +kernel
theorem d_Reader_told_98 : decode prog_4_method_6_code 98 = .ok (.iaload, 1) := by decide +kernel
theorem d_Reader_told_99 : decode prog_4_method_6_code 99 = .ok (.aload_n 0, 1) := by decide +kernel
theorem d_Reader_told_100 : decode prog_4_method_6_code 100 = .ok (.getfield 9, 3) := by decide +kernel
theorem d_Reader_told_103 : decode prog_4_method_6_code 103 = .ok (.iconst 1, 1) := by decide +kernel
theorem d_Reader_told_104 : decode prog_4_method_6_code 104 = .ok (.iaload, 1) := by decide +kernel
theorem d_Reader_told_105 : decode prog_4_method_6_code 105 = .ok (.aload_n 0, 1) := by decide +kernel
theorem d_Reader_told_106 : decode prog_4_method_6_code 106 = .ok (.getfield 9, 3) := by decide +kernel
theorem d_Reader_told_109 : decode prog_4_method_6_code 109 = .ok (.iconst 2, 1) := by decide +kernel
theorem d_Reader_told_110 : decode prog_4_method_6_code 110 = .ok (.iaload, 1) := by decide +kernel
theorem d_Reader_told_111 : decode prog_4_method_6_code 111 = .ok (.aload_n 0, 1) := by decide +kernel
theorem d_Reader_told_112 : decode prog_4_method_6_code 112 = .ok (.getfield 9, 3) := by decide +kernel
theorem d_Reader_told_115 : decode prog_4_method_6_code 115 = .ok (.iconst 3, 1) := by decide +kernel
theorem d_Reader_told_116 : decode prog_4_method_6_code 116 = .ok (.iaload, 1) := by decide +kernel
theorem d_Reader_told_117 : decode prog_4_method_6_code 117 = .ok (.invokevirtual 61, 3) := by decide +kernel
theorem d_Reader_told_120 : decode prog_4_method_6_code 120 = .ok (.ireturn, 1) := by decide +kernel
theorem d_Reader_told_121 : decode prog_4_method_6_code 121 = .ok (.aload_n 1, 1) := by decide +kernel
theorem d_Reader_told_122 : decode prog_4_method_6_code 122 = .ok (.aload_n 0, 1) := by decide +kernel
theorem d_Reader_told_123 : decode prog_4_method_6_code 123 = .ok (.getfield 9, 3) := by decide +kernel
theorem d_Reader_told_126 : decode prog_4_method_6_code 126 = .ok (.iconst 0, 1) := by decide +kernel
theorem d_Reader_told_127 : decode prog_4_method_6_code 127 = .ok (.iaload, 1) := by decide +kernel
theorem d_Reader_told_128 : decode prog_4_method_6_code 128 = .ok (.invokevirtual 65, 3) := by decide +kernel
theorem d_Reader_told_131 : decode prog_4_method_6_code 131 = .ok (.ireturn, 1) := by decide +kernel
theorem d_Reader_told_132 : decode prog_4_method_6_code 132 = .ok (.aload_n 1, 1) := by decide +kernel
theorem d_Reader_told_133 : decode prog_4_method_6_code 133 = .ok (.aload_n 0, 1) := by decide +kernel
theorem d_Reader_told_134 : decode prog_4_method_6_code 134 = .ok (.getfield 9, 3) := by decide +kernel
theorem d_Reader_told_137 : decode prog_4_method_6_code 137 = .ok (.iconst 0, 1) := by decide +kernel
theorem d_Reader_told_138 : decode prog_4_method_6_code 138 = .ok (.iaload, 1) := by decide +kernel
theorem d_Reader_told_139 : decode prog_4_method_6_code 139 = .ok (.invokevirtual 69, 3) := by decide +kernel
theorem d_Reader_told_142 : decode prog_4_method_6_code 142 = .ok (.ireturn, 1) := by decide +kernel
theorem d_Reader_told_143 : decode prog_4_method_6_code 143 = .ok (.iconst 0, 1) := by decide +kernel
theorem d_Reader_told_144 : decode prog_4_method_6_code 144 = .ok (.ireturn, 1) := by decide +kernel
set_option maxHeartbeats 4000000 in
set_option maxRecDepth 20000 in
theorem c_Reader_told (p1 : Nat) (hp1 : dscC[p1]? = some dVal) (p2 : Int) (hp2 : Rng p2) (s0 : MS) (Q : Int → MS → Prop) (h : wp_Reader_told p1 p2 s0 Q) : MT dscC ⟨"BellSchool$Reader", "told", "(LBellSchool$Valley;I)Z"⟩ prog_4_method_6_code 3 (some .boolean) 3 (fun ad => [.ref (ad 15), .ref (ad p1), .int (iI p2)]) s0 (po_I dscC (fun r z => (r = 0 ∨ r = 1) ∧ Q r z)) := by
  refine met_of (by decide) (fun _ => Nat.le_of_ble_eq_true rfl) (fun X E hR => ?_)
  replace E : EV dscC X prog_4_method_6_code "BellSchool$Reader" 3 3 := E
  show VV dscC X 0 [(0, .ref (adX X 15)), (1, .ref (adX X p1)), (2, .int (iI p2))] [] s0
  unfold wp_Reader_told at h
  refine v_iloadn E d_Reader_told_0 rfl 2 rfl ?_
  by_cases c1 : p2 = 98
  · replace h := h.1 c1
    refine v_lookup E (off := 120) d_Reader_told_1 rfl hp2 121 (by rw [c1] <;> rfl) (by decide) ?_
    refine v_aloadn E d_Reader_told_121 rfl 1 rfl ?_
    refine v_aloadn E d_Reader_told_122 rfl 0 rfl ?_
    refine v_getA E cf2 dC_15 0 (by decide) rfl mw34 d_Reader_told_123 rfl ?_
    refine v_iconst E d_Reader_told_126 ?_
    refine v_iald E dC_16 (by decide) (by decide) (by decide) d_Reader_told_127 ?_
    refine v_wt (fun wt1 => ?_)
    refine v_callVI E md_Valley_putBell (c_Valley_putBell p1 hp1 (gI s0 16 0) (wt1 16 0) s0 _ h) hp1 rfl ⟨by decide, by decide⟩ mw75 d_Reader_told_128 (fun _ => rfl) (st := []) rfl (Nat.le_of_ble_eq_true rfl) (fun r1 s1 hr1 h => ?_)
    obtain ⟨hz1, h⟩ := h
    exact v_iret E hR (nar_Z hz1) (Rng_Z hz1) ⟨hz1, h⟩ d_Reader_told_131
  · skip
    by_cases c2 : p2 = 104
    · replace h := h.2.1 c2
      refine v_lookup E (off := 51) d_Reader_told_1 rfl hp2 52 (by rw [c2] <;> rfl) (by decide) ?_
      refine v_aloadn E d_Reader_told_52 rfl 1 rfl ?_
      refine v_aloadn E d_Reader_told_53 rfl 0 rfl ?_
      refine v_getA E cf2 dC_15 0 (by decide) rfl mw34 d_Reader_told_54 rfl ?_
      refine v_iconst E d_Reader_told_57 ?_
      refine v_iald E dC_16 (by decide) (by decide) (by decide) d_Reader_told_58 ?_
      refine v_aloadn E d_Reader_told_59 rfl 0 rfl ?_
      refine v_getA E cf2 dC_15 0 (by decide) rfl mw34 d_Reader_told_60 rfl ?_
      refine v_iconst E d_Reader_told_63 ?_
      refine v_iald E dC_16 (by decide) (by decide) (by decide) d_Reader_told_64 ?_
      refine v_wt (fun wt2 => ?_)
      refine v_callVI E md_Valley_addHome (c_Valley_addHome p1 hp1 (gI s0 16 0) (wt2 16 0) (gI s0 16 1) (wt2 16 1) s0 _ h) hp1 rfl ⟨by decide, by decide⟩ mw76 d_Reader_told_65 (fun _ => rfl) (st := []) rfl (Nat.le_of_ble_eq_true rfl) (fun r2 s2 hr2 h => ?_)
      obtain ⟨hz2, h⟩ := h
      exact v_iret E hR (nar_Z hz2) (Rng_Z hz2) ⟨hz2, h⟩ d_Reader_told_68
    · skip
      by_cases c3 : p2 = 110
      · replace h := h.2.2.1 c3
        refine v_lookup E (off := 131) d_Reader_told_1 rfl hp2 132 (by rw [c3] <;> rfl) (by decide) ?_
        refine v_aloadn E d_Reader_told_132 rfl 1 rfl ?_
        refine v_aloadn E d_Reader_told_133 rfl 0 rfl ?_
        refine v_getA E cf2 dC_15 0 (by decide) rfl mw34 d_Reader_told_134 rfl ?_
        refine v_iconst E d_Reader_told_137 ?_
        refine v_iald E dC_16 (by decide) (by decide) (by decide) d_Reader_told_138 ?_
        refine v_wt (fun wt3 => ?_)
        refine v_callVI E md_Valley_limit (c_Valley_limit p1 hp1 (gI s0 16 0) (wt3 16 0) s0 _ h) hp1 rfl ⟨by decide, by decide⟩ mw77 d_Reader_told_139 (fun _ => rfl) (st := []) rfl (Nat.le_of_ble_eq_true rfl) (fun r3 s3 hr3 h => ?_)
        obtain ⟨hz3, h⟩ := h
        exact v_iret E hR (nar_Z hz3) (Rng_Z hz3) ⟨hz3, h⟩ d_Reader_told_142
      · skip
        by_cases c4 : p2 = 115
        · replace h := h.2.2.2.1 c4
          refine v_lookup E (off := 91) d_Reader_told_1 rfl hp2 92 (by rw [c4] <;> rfl) (by decide) ?_
          refine v_aloadn E d_Reader_told_92 rfl 1 rfl ?_
          refine v_aloadn E d_Reader_told_93 rfl 0 rfl ?_
          refine v_getA E cf2 dC_15 0 (by decide) rfl mw34 d_Reader_told_94 rfl ?_
          refine v_iconst E d_Reader_told_97 ?_
          refine v_iald E dC_16 (by decide) (by decide) (by decide) d_Reader_told_98 ?_
          refine v_aloadn E d_Reader_told_99 rfl 0 rfl ?_
          refine v_getA E cf2 dC_15 0 (by decide) rfl mw34 d_Reader_told_100 rfl ?_
          refine v_iconst E d_Reader_told_103 ?_
          refine v_iald E dC_16 (by decide) (by decide) (by decide) d_Reader_told_104 ?_
          refine v_aloadn E d_Reader_told_105 rfl 0 rfl ?_
          refine v_getA E cf2 dC_15 0 (by decide) rfl mw34 d_Reader_told_106 rfl ?_
          refine v_iconst E d_Reader_told_109 ?_
          refine v_iald E dC_16 (by decide) (by decide) (by decide) d_Reader_told_110 ?_
          refine v_aloadn E d_Reader_told_111 rfl 0 rfl ?_
          refine v_getA E cf2 dC_15 0 (by decide) rfl mw34 d_Reader_told_112 rfl ?_
          refine v_iconst E d_Reader_told_115 ?_
          refine v_iald E dC_16 (by decide) (by decide) (by decide) d_Reader_told_116 ?_
          refine v_wt (fun wt4 => ?_)
          refine v_callVI E md_Valley_addSnow (c_Valley_addSnow p1 hp1 (gI s0 16 0) (wt4 16 0) (gI s0 16 1) (wt4 16 1) (gI s0 16 2) (wt4 16 2) (gI s0 16 3) (wt4 16 3) s0 _ h) hp1 rfl ⟨by decide, by decide⟩ mw78 d_Reader_told_117 (fun _ => rfl) (st := []) rfl (Nat.le_of_ble_eq_true rfl) (fun r4 s4 hr4 h => ?_)
          obtain ⟨hz4, h⟩ := h
          exact v_iret E hR (nar_Z hz4) (Rng_Z hz4) ⟨hz4, h⟩ d_Reader_told_120
        · skip
          by_cases c5 : p2 = 119
          · replace h := h.2.2.2.2.1 c5
            refine v_lookup E (off := 68) d_Reader_told_1 rfl hp2 69 (by rw [c5] <;> rfl) (by decide) ?_
            refine v_aloadn E d_Reader_told_69 rfl 1 rfl ?_
            refine v_aloadn E d_Reader_told_70 rfl 0 rfl ?_
            refine v_getA E cf2 dC_15 0 (by decide) rfl mw34 d_Reader_told_71 rfl ?_
            refine v_iconst E d_Reader_told_74 ?_
            refine v_iald E dC_16 (by decide) (by decide) (by decide) d_Reader_told_75 ?_
            refine v_aloadn E d_Reader_told_76 rfl 0 rfl ?_
            refine v_getA E cf2 dC_15 0 (by decide) rfl mw34 d_Reader_told_77 rfl ?_
            refine v_iconst E d_Reader_told_80 ?_
            refine v_iald E dC_16 (by decide) (by decide) (by decide) d_Reader_told_81 ?_
            refine v_aloadn E d_Reader_told_82 rfl 0 rfl ?_
            refine v_getA E cf2 dC_15 0 (by decide) rfl mw34 d_Reader_told_83 rfl ?_
            refine v_iconst E d_Reader_told_86 ?_
            refine v_iald E dC_16 (by decide) (by decide) (by decide) d_Reader_told_87 ?_
            refine v_wt (fun wt5 => ?_)
            refine v_callVI E md_Valley_addWay (c_Valley_addWay p1 hp1 (gI s0 16 0) (wt5 16 0) (gI s0 16 1) (wt5 16 1) (gI s0 16 2) (wt5 16 2) s0 _ h) hp1 rfl ⟨by decide, by decide⟩ mw79 d_Reader_told_88 (fun _ => rfl) (st := []) rfl (Nat.le_of_ble_eq_true rfl) (fun r5 s5 hr5 h => ?_)
            obtain ⟨hz5, h⟩ := h
            exact v_iret E hR (nar_Z hz5) (Rng_Z hz5) ⟨hz5, h⟩ d_Reader_told_91
          · skip
            replace h := h.2.2.2.2.2 c1 c2 c3 c4 c5
            refine v_lookup E (off := 142) d_Reader_told_1 rfl hp2 143 (by simp [Op.lookupswitch.offset_cons, Op.lookupswitch.offset_nil, Ne.symm c1, Ne.symm c2, Ne.symm c3, Ne.symm c4, Ne.symm c5]) (by decide) ?_
            refine v_iconst E d_Reader_told_143 ?_
            exact v_iret E hR (nar_Z (by decide)) (Rng_Z (by decide)) ⟨(by decide), h⟩ d_Reader_told_144
theorem d_Reader_readInto_0 : decode prog_4_method_2_code 0 = .ok (.aload_n 1, 1) := by decide +kernel
theorem d_Reader_readInto_1 : decode prog_4_method_2_code 1 = .ok (.invokevirtual 19, 3) := by decide +kernel
theorem d_Reader_readInto_4 : decode prog_4_method_2_code 4 = .ok (.aload_n 0, 1) := by decide +kernel
theorem d_Reader_readInto_5 : decode prog_4_method_2_code 5 = .ok (.iconst 0, 1) := by decide +kernel
theorem d_Reader_readInto_6 : decode prog_4_method_2_code 6 = .ok (.putfield 15, 3) := by decide +kernel
theorem d_Reader_readInto_9 : decode prog_4_method_2_code 9 = .ok (.iconst 0, 1) := by decide +kernel
theorem d_Reader_readInto_10 : decode prog_4_method_2_code 10 = .ok (.istore_n 3, 1) := by decide +kernel
theorem d_Reader_readInto_11 : decode prog_4_method_2_code 11 = .ok (.iload_n 3, 1) := by decide +kernel
theorem d_Reader_readInto_12 : decode prog_4_method_2_code 12 = .ok (.aload_n 2, 1) := by decide +kernel
theorem d_Reader_readInto_13 : decode prog_4_method_2_code 13 = .ok (.getfield 24, 3) := by decide +kernel
theorem d_Reader_readInto_16 : decode prog_4_method_2_code 16 = .ok (.arraylength, 1) := by decide +kernel
theorem d_Reader_readInto_17 : decode prog_4_method_2_code 17 = .ok (.if_icmp .ge 60, 3) := by decide +kernel
theorem d_Reader_readInto_20 : decode prog_4_method_2_code 20 = .ok (.aload_n 0, 1) := by decide +kernel
theorem d_Reader_readInto_21 : decode prog_4_method_2_code 21 = .ok (.getfield 15, 3) := by decide +kernel
theorem d_Reader_readInto_24 : decode prog_4_method_2_code 24 = .ok (.aload_n 2, 1) := by decide +kernel
theorem d_Reader_readInto_25 : decode prog_4_method_2_code 25 = .ok (.getfield 30, 3) := by decide +kernel
theorem d_Reader_readInto_28 : decode prog_4_method_2_code 28 = .ok (.if_icmp .ge 49, 3) := by decide +kernel
theorem d_Reader_readInto_31 : decode prog_4_method_2_code 31 = .ok (.aload_n 0, 1) := by decide +kernel
theorem d_Reader_readInto_32 : decode prog_4_method_2_code 32 = .ok (.getfield 15, 3) := by decide +kernel
theorem d_Reader_readInto_35 : decode prog_4_method_2_code 35 = .ok (.istore 4, 2) := by decide +kernel
theorem d_Reader_readInto_37 : decode prog_4_method_2_code 37 = .ok (.aload_n 2, 1) := by decide +kernel
theorem d_Reader_readInto_38 : decode prog_4_method_2_code 38 = .ok (.iload 4, 2) := by decide +kernel
theorem d_Reader_readInto_40 : decode prog_4_method_2_code 40 = .ok (.invokevirtual 33, 3) := by decide +kernel
theorem d_Reader_readInto_43 : decode prog_4_method_2_code 43 = .ok (.istore 5, 2) := by decide +kernel
theorem d_Reader_readInto_45 : decode prog_4_method_2_code 45 = .ok (.aload_n 0, 1) := by decide +kernel
theorem d_Reader_readInto_46 : decode prog_4_method_2_code 46 = .ok (.aload_n 2, 1) := by decide +kernel
theorem d_Reader_readInto_47 : decode prog_4_method_2_code 47 = .ok (.iload 5, 2) := by decide +kernel
theorem d_Reader_readInto_49 : decode prog_4_method_2_code 49 = .ok (.invokestatic 37, 3) := by decide +kernel
theorem d_Reader_readInto_52 : decode prog_4_method_2_code 52 = .ok (.invokevirtual 41, 3) := by decide +kernel
theorem d_Reader_readInto_55 : decode prog_4_method_2_code 55 = .ok (.ifCond .eq 13, 3) := by decide +kernel
theorem d_Reader_readInto_58 : decode prog_4_method_2_code 58 = .ok (.aload_n 0, 1) := by decide +kernel
theorem d_Reader_readInto_59 : decode prog_4_method_2_code 59 = .ok (.aload_n 1, 1) := by decide +kernel
theorem d_Reader_readInto_60 : decode prog_4_method_2_code 60 = .ok (.iload 5, 2) := by decide +kernel
theorem d_Reader_readInto_62 : decode prog_4_method_2_code 62 = .ok (.invokevirtual 45, 3) := by decide +kernel
theorem d_Reader_readInto_65 : decode prog_4_method_2_code 65 = .ok (.ifCond .ne 6, 3) := by decide +kernel
theorem d_Reader_readInto_68 : decode prog_4_method_2_code 68 = .ok (.iload 4, 2) := by decide +kernel
theorem d_Reader_readInto_70 : decode prog_4_method_2_code 70 = .ok (.ireturn, 1) := by decide +kernel
theorem d_Reader_readInto_71 : decode prog_4_method_2_code 71 = .ok (.iinc 3 1, 3) := by decide +kernel
theorem d_Reader_readInto_74 : decode prog_4_method_2_code 74 = .ok (.goto (-63), 3) := by decide +kernel
theorem d_Reader_readInto_77 : decode prog_4_method_2_code 77 = .ok (.bipush (-4), 2) := by decide +kernel
theorem d_Reader_readInto_79 : decode prog_4_method_2_code 79 = .ok (.ireturn, 1) := by decide +kernel
set_option maxHeartbeats 4000000 in
set_option maxRecDepth 20000 in
theorem c_Reader_readInto (p1 : Nat) (hp1 : dscC[p1]? = some dVal) (s0 : MS) (Q : Int → MS → Prop) (h : wp_Reader_readInto p1 s0 Q) : MT dscC ⟨"BellSchool$Reader", "readInto", "(LBellSchool$Valley;LBellSchool$Text;)I"⟩ prog_4_method_2_code 6 (some .int) 4 (fun ad => [.ref (ad 15), .ref (ad p1), .ref (ad 13)]) s0 (po_I dscC Q) := by
  refine met_of (by decide) (fun _ => Nat.le_of_ble_eq_true rfl) (fun X E hR => ?_)
  replace E : EV dscC X prog_4_method_2_code "BellSchool$Reader" 6 4 := E
  show VV dscC X 0 [(0, .ref (adX X 15)), (1, .ref (adX X p1)), (2, .ref (adX X 13))] [] s0
  unfold wp_Reader_readInto at h
  refine v_aloadn E d_Reader_readInto_0 rfl 1 rfl ?_
  refine v_callVV E md_Valley_clear (c_Valley_clear p1 hp1 s0 _ h) hp1 rfl ⟨by decide, by decide⟩ mw83 d_Reader_readInto_1 (fun _ => rfl) (st := []) rfl (Nat.le_of_ble_eq_true rfl) (fun s1 h => ?_)
  refine v_aloadn E d_Reader_readInto_4 rfl 0 rfl ?_
  refine v_iconst E d_Reader_readInto_5 ?_
  refine v_putI E cf2 dC_15 1 (by decide) rfl rfl mw35 d_Reader_readInto_6 rfl rfl rfl (by decide) ?_
  refine v_nameS (fun s2 hs2 => ?_)
  replace h := h s2 hs2
  refine v_iconst E d_Reader_readInto_9 ?_
  refine v_istoren E d_Reader_readInto_10 rfl (by decide) (L' := [(3, .int (iI 0)), (0, .ref (adX X 15)), (1, .ref (adX X p1)), (2, .ref (adX X 13))]) rfl ?_
  refine v_sub [1, 2, 3, 0] (L' := [(0, .ref (adX X 15)), (1, .ref (adX X p1)), (2, .ref (adX X 13)), (3, .int (iI 0))]) rfl ?_
  obtain ⟨I1, μ1, h01, h⟩ := h
  refine v_loop1 (fun (x1 : Int) => [(0, .ref (adX X 15)), (1, .ref (adX X p1)), (2, .ref (adX X 13)), (3, .int (iI x1))]) I1 μ1 (fun x1 s3 hI1 ih1 => ?_) 0 s2 h01
  replace h := h x1 s3 hI1
  refine v_iloadn E d_Reader_readInto_11 rfl 3 rfl ?_
  refine v_aloadn E d_Reader_readInto_12 rfl 2 rfl ?_
  refine v_getA E cf6 dC_13 0 (by decide) rfl mw84 d_Reader_readInto_13 rfl ?_
  refine v_alen E (by decide) dC_14 d_Reader_readInto_16 ?_
  obtain ⟨q1, h⟩ := h
  refine v_icmp_ge E 77 d_Reader_readInto_17 (by decide) q1 (by decide) (fun c1 => ?_) (fun c1 => ?_)
  · replace h := h.1 c1
    refine v_bipush E d_Reader_readInto_77 rfl ?_
    exact v_iret E hR rfl (by decide) h d_Reader_readInto_79
  · replace h := h.2 c1
    refine v_aloadn E d_Reader_readInto_20 rfl 0 rfl ?_
    refine v_getI E cf2 dC_15 1 (by decide) rfl mw35 d_Reader_readInto_21 rfl ?_
    refine v_aloadn E d_Reader_readInto_24 rfl 2 rfl ?_
    refine v_getI E cf6 dC_13 1 (by decide) rfl mw85 d_Reader_readInto_25 rfl ?_
    refine v_wt (fun wt1 => ?_)
    refine v_icmp_ge E 77 d_Reader_readInto_28 (by decide) (wt1 15 1) (wt1 13 1) (fun c2 => ?_) (fun c2 => ?_)
    · replace h := h.1 c2
      refine v_bipush E d_Reader_readInto_77 rfl ?_
      exact v_iret E hR rfl (by decide) h d_Reader_readInto_79
    · replace h := h.2 c2
      refine v_aloadn E d_Reader_readInto_31 rfl 0 rfl ?_
      refine v_getI E cf2 dC_15 1 (by decide) rfl mw35 d_Reader_readInto_32 rfl ?_
      refine v_istore E d_Reader_readInto_35 (by decide) (L' := [(4, .int (iI (gI s3 15 1))), (0, .ref (adX X 15)), (1, .ref (adX X p1)), (2, .ref (adX X 13)), (3, .int (iI x1))]) rfl ?_
      refine v_aloadn E d_Reader_readInto_37 rfl 3 rfl ?_
      refine v_iload E d_Reader_readInto_38 0 rfl ?_
      refine v_callVIp E md_Text_at (c_Text_at (gI s3 15 1) (wt1 15 1) s3 _ h) dC_13 rfl ⟨by decide, by decide⟩ mw36 d_Reader_readInto_40 (fun _ => rfl) (st := []) rfl (Nat.le_of_ble_eq_true rfl) (fun r2 hr2 h => ?_)
      refine v_istore E d_Reader_readInto_43 (by decide) (L' := [(5, .int (iI r2)), (4, .int (iI (gI s3 15 1))), (0, .ref (adX X 15)), (1, .ref (adX X p1)), (2, .ref (adX X 13)), (3, .int (iI x1))]) rfl ?_
      refine v_aloadn E d_Reader_readInto_45 rfl 2 rfl ?_
      refine v_aloadn E d_Reader_readInto_46 rfl 4 rfl ?_
      refine v_iload E d_Reader_readInto_47 0 rfl ?_
      refine v_callSIp E md_Reader_numbersOf (c_Reader_numbersOf dscC r2 hr2 s3 _ h) ⟨by decide, by decide⟩ mw86 d_Reader_readInto_49 (fun _ => rfl) (st := [.ref (adX X 13), .ref (adX X 15)]) rfl (Nat.le_of_ble_eq_true rfl) (fun r3 hr3 h => ?_)
      refine v_callVI E md_Reader_readNumbers (c_Reader_readNumbers r3 hr3 s3 _ h) dC_15 rfl ⟨by decide, by decide⟩ mw87 d_Reader_readInto_52 (fun _ => rfl) (st := []) rfl (Nat.le_of_ble_eq_true rfl) (fun r4 s4 hr4 h => ?_)
      obtain ⟨hz4, h⟩ := h
      refine v_if_eq E 68 d_Reader_readInto_55 (by decide) hr4 (fun c3 => ?_) (fun c3 => ?_)
      · replace h := h.1 c3
        refine v_iload E d_Reader_readInto_68 1 rfl ?_
        exact v_iret E hR rfl (wt1 15 1) h d_Reader_readInto_70
      · replace h := h.2 c3
        refine v_aloadn E d_Reader_readInto_58 rfl 2 rfl ?_
        refine v_aloadn E d_Reader_readInto_59 rfl 3 rfl ?_
        refine v_iload E d_Reader_readInto_60 0 rfl ?_
        refine v_callVI E md_Reader_told (c_Reader_told p1 hp1 r2 hr2 s4 _ h) dC_15 rfl ⟨by decide, by decide⟩ mw88 d_Reader_readInto_62 (fun _ => rfl) (st := []) rfl (Nat.le_of_ble_eq_true rfl) (fun r5 s5 hr5 h => ?_)
        obtain ⟨hz5, h⟩ := h
        refine v_if_ne E 71 d_Reader_readInto_65 (by decide) hr5 (fun c4 => ?_) (fun c4 => ?_)
        · replace h := h.1 c4
          refine v_iincN E d_Reader_readInto_71 5 rfl (by decide) (fun y => [(3, .int (iI y)), (5, .int (iI r2)), (4, .int (iI (gI s3 15 1))), (0, .ref (adX X 15)), (1, .ref (adX X p1)), (2, .ref (adX X 13))]) (fun _ => rfl) (fun x2 hx2 => ?_)
          replace h := h x2 hx2
          refine v_goto E 11 d_Reader_readInto_74 (by decide) ?_
          obtain ⟨hb, hm⟩ := h
          exact v_sub [3, 4, 5, 0] rfl (ih1 x2 s5 hb hm)
        · replace h := h.2 c4
          refine v_iload E d_Reader_readInto_68 1 rfl ?_
          exact v_iret E hR rfl (wt1 15 1) h d_Reader_readInto_70
theorem d_B_fault_0 : decode prog_1_method_4_code 0 = .ok (.aload_n 0, 1) := by decide +kernel
theorem d_B_fault_1 : decode prog_1_method_4_code 1 = .ok (.getfield 29, 3) := by decide +kernel
theorem d_B_fault_4 : decode prog_1_method_4_code 4 = .ok (.aload_n 0, 1) := by decide +kernel
theorem d_B_fault_5 : decode prog_1_method_4_code 5 = .ok (.getfield 16, 3) := by decide +kernel
theorem d_B_fault_8 : decode prog_1_method_4_code 8 = .ok (.aload_n 0, 1) := by decide +kernel
theorem d_B_fault_9 : decode prog_1_method_4_code 9 = .ok (.getfield 22, 3) := by decide +kernel
theorem d_B_fault_12 : decode prog_1_method_4_code 12 = .ok (.invokevirtual 111, 3) := by decide +kernel
theorem d_B_fault_15 : decode prog_1_method_4_code 15 = .ok (.ireturn, 1) := by decide +kernel
set_option maxHeartbeats 4000000 in
set_option maxRecDepth 20000 in
theorem c_B_fault (s0 : MS) (Q : Int → MS → Prop) (h : wp_B_fault s0 Q) : MT dscC ⟨"BellSchool", "fault", "()I"⟩ prog_1_method_4_code 1 (some .int) 5 (fun ad => [.ref (ad 0)]) s0 (po_I dscC Q) := by
  refine met_of (by decide) (fun _ => Nat.le_of_ble_eq_true rfl) (fun X E hR => ?_)
  replace E : EV dscC X prog_1_method_4_code "BellSchool" 1 5 := E
  show VV dscC X 0 [(0, .ref (adX X 0))] [] s0
  unfold wp_B_fault at h
  refine v_aloadn E d_B_fault_0 rfl 0 rfl ?_
  refine v_getA E cf8 dC_0 3 (by decide) rfl mw92 d_B_fault_1 rfl ?_
  refine v_aloadn E d_B_fault_4 rfl 0 rfl ?_
  refine v_getR E cf8 dC_0 1 (by decide) rfl mw93 d_B_fault_5 rfl (fun hv1 => ?_)
  refine v_aloadn E d_B_fault_8 rfl 0 rfl ?_
  refine v_getA E cf8 dC_0 2 (by decide) rfl mw6 d_B_fault_9 rfl ?_
  refine v_callVI E md_Reader_readInto (c_Reader_readInto (gR s0 0 1) hv1 s0 _ h) dC_15 rfl ⟨by decide, by decide⟩ mw94 d_B_fault_12 (fun _ => rfl) (st := []) rfl (Nat.le_of_ble_eq_true rfl) (fun r1 s1 hr1 h => ?_)
  exact v_iret E hR rfl hr1 h d_B_fault_15
theorem d_Noon_settle_0 : decode prog_3_method_2_code 0 = .ok (.aload_n 0, 1) := by decide +kernel
theorem d_Noon_settle_1 : decode prog_3_method_2_code 1 = .ok (.aload_n 1, 1) := by decide +kernel
theorem d_Noon_settle_2 : decode prog_3_method_2_code 2 = .ok (.putfield 29, 3) := by decide +kernel
theorem d_Noon_settle_5 : decode prog_3_method_2_code 5 = .ok (.iconst 0, 1) := by decide +kernel
theorem d_Noon_settle_6 : decode prog_3_method_2_code 6 = .ok (.istore_n 2, 1) := by decide +kernel
theorem d_Noon_settle_7 : decode prog_3_method_2_code 7 = .ok (.iload_n 2, 1) := by decide +kernel
theorem d_Noon_settle_8 : decode prog_3_method_2_code 8 = .ok (.bipush 28, 2) := by decide +kernel
theorem d_Noon_settle_10 : decode prog_3_method_2_code 10 = .ok (.if_icmp .ge 18, 3) := by decide +kernel
theorem d_Noon_settle_13 : decode prog_3_method_2_code 13 = .ok (.aload_n 0, 1) := by decide +kernel
theorem d_Noon_settle_14 : decode prog_3_method_2_code 14 = .ok (.getfield 15, 3) := by decide +kernel
theorem d_Noon_settle_17 : decode prog_3_method_2_code 17 = .ok (.iload_n 2, 1) := by decide +kernel
theorem d_Noon_settle_18 : decode prog_3_method_2_code 18 = .ok (.ldc2_w 33, 3) := by decide +kernel
theorem d_Noon_settle_21 : decode prog_3_method_2_code 21 = .ok (.lastore, 1) := by decide +kernel
theorem d_Noon_settle_22 : decode prog_3_method_2_code 22 = .ok (.iinc 2 1, 3) := by decide +kernel
theorem d_Noon_settle_25 : decode prog_3_method_2_code 25 = .ok (.goto (-18), 3) := by decide +kernel
theorem d_Noon_settle_28 : decode prog_3_method_2_code 28 = .ok (.return_, 1) := by decide +kernel
set_option maxHeartbeats 4000000 in
set_option maxRecDepth 20000 in
theorem c_Noon_settle (p1 : Nat) (hp1 : dscC[p1]? = some dVal) (s0 : MS) (Q : MS → Prop) (h : wp_Noon_settle p1 s0 Q) : MT dscC ⟨"BellSchool$Noon", "settle", "(LBellSchool$Valley;)V"⟩ prog_3_method_2_code 3 none 0 (fun ad => [.ref (ad 17), .ref (ad p1)]) s0 (po_V dscC Q) := by
  refine met_of (by decide) (fun _ => Nat.le_of_ble_eq_true rfl) (fun X E hR => ?_)
  replace E : EV dscC X prog_3_method_2_code "BellSchool$Noon" 3 0 := E
  show VV dscC X 0 [(0, .ref (adX X 17)), (1, .ref (adX X p1))] [] s0
  unfold wp_Noon_settle at h
  refine v_aloadn E d_Noon_settle_0 rfl 0 rfl ?_
  refine v_aloadn E d_Noon_settle_1 rfl 1 rfl ?_
  refine v_putR E cf1 dC_17 2 (by decide) rfl rfl mw98 d_Noon_settle_2 rfl (fun _ => rfl) (fun _ => rfl) hp1 ?_
  refine v_nameS (fun s1 hs1 => ?_)
  replace h := h s1 hs1
  refine v_iconst E d_Noon_settle_5 ?_
  refine v_istoren E d_Noon_settle_6 rfl (by decide) (L' := [(2, .int (iI 0)), (0, .ref (adX X 17)), (1, .ref (adX X p1))]) rfl ?_
  refine v_sub [1, 0] (L' := [(0, .ref (adX X 17)), (2, .int (iI 0))]) rfl ?_
  obtain ⟨I1, μ1, h01, h⟩ := h
  refine v_loop1 (fun (x1 : Int) => [(0, .ref (adX X 17)), (2, .int (iI x1))]) I1 μ1 (fun x1 s2 hI1 ih1 => ?_) 0 s1 h01
  replace h := h x1 s2 hI1
  refine v_iloadn E d_Noon_settle_7 rfl 1 rfl ?_
  refine v_bipush E d_Noon_settle_8 rfl ?_
  obtain ⟨q1, h⟩ := h
  refine v_icmp_ge E 28 d_Noon_settle_10 (by decide) q1 (by decide) (fun c1 => ?_) (fun c1 => ?_)
  · replace h := h.1 c1
    exact v_vret E hR h d_Noon_settle_28
  · replace h := h.2 c1
    refine v_aloadn E d_Noon_settle_13 rfl 0 rfl ?_
    refine v_getA E cf1 dC_17 1 (by decide) rfl mw99 d_Noon_settle_14 rfl ?_
    refine v_iloadn E d_Noon_settle_17 rfl 1 rfl ?_
    refine v_ldc2 E mw100 d_Noon_settle_18 ?_
    obtain ⟨q2, h⟩ := h
    refine v_last E dC_19 (by decide) q2.1 q2.2 d_Noon_settle_21 ?_
    refine v_nameS (fun s3 hs3 => ?_)
    replace h := h s3 hs3
    refine v_iincN E d_Noon_settle_22 1 rfl (by decide) (fun y => [(2, .int (iI y)), (0, .ref (adX X 17))]) (fun _ => rfl) (fun x2 hx2 => ?_)
    replace h := h x2 hx2
    refine v_goto E 7 d_Noon_settle_25 (by decide) ?_
    obtain ⟨hb, hm⟩ := h
    exact v_sub [1, 0] rfl (ih1 x2 s3 hb hm)
theorem d_Standing_begin_0 : decode prog_7_method_2_code 0 = .ok (.aload_n 0, 1) := by decide +kernel
theorem d_Standing_begin_1 : decode prog_7_method_2_code 1 = .ok (.iconst 0, 1) := by decide +kernel
theorem d_Standing_begin_2 : decode prog_7_method_2_code 2 = .ok (.putfield 15, 3) := by decide +kernel
theorem d_Standing_begin_5 : decode prog_7_method_2_code 5 = .ok (.aload_n 0, 1) := by decide +kernel
theorem d_Standing_begin_6 : decode prog_7_method_2_code 6 = .ok (.iload_n 1, 1) := by decide +kernel
theorem d_Standing_begin_7 : decode prog_7_method_2_code 7 = .ok (.putfield 19, 3) := by decide +kernel
theorem d_Standing_begin_10 : decode prog_7_method_2_code 10 = .ok (.aload_n 0, 1) := by decide +kernel
theorem d_Standing_begin_11 : decode prog_7_method_2_code 11 = .ok (.iconst 0, 1) := by decide +kernel
theorem d_Standing_begin_12 : decode prog_7_method_2_code 12 = .ok (.putfield 22, 3) := by decide +kernel
theorem d_Standing_begin_15 : decode prog_7_method_2_code 15 = .ok (.aload_n 0, 1) := by decide +kernel
theorem d_Standing_begin_16 : decode prog_7_method_2_code 16 = .ok (.iconst 0, 1) := by decide +kernel
theorem d_Standing_begin_17 : decode prog_7_method_2_code 17 = .ok (.putfield 25, 3) := by decide +kernel
theorem d_Standing_begin_20 : decode prog_7_method_2_code 20 = .ok (.aload_n 0, 1) := by decide +kernel
theorem d_Standing_begin_21 : decode prog_7_method_2_code 21 = .ok (.iconst 1, 1) := by decide +kernel
theorem d_Standing_begin_22 : decode prog_7_method_2_code 22 = .ok (.iload_n 1, 1) := by decide +kernel
theorem d_Standing_begin_23 : decode prog_7_method_2_code 23 = .ok (.ishl, 1) := by decide +kernel
theorem d_Standing_begin_24 : decode prog_7_method_2_code 24 = .ok (.putfield 28, 3) := by decide +kernel
theorem d_Standing_begin_27 : decode prog_7_method_2_code 27 = .ok (.aload_n 0, 1) := by decide +kernel
theorem d_Standing_begin_28 : decode prog_7_method_2_code 28 = .ok (.lconst 0, 1) := by decide +kernel
theorem d_Standing_begin_29 : decode prog_7_method_2_code 29 = .ok (.putfield 31, 3) := by decide +kernel
theorem d_Standing_begin_32 : decode prog_7_method_2_code 32 = .ok (.iconst 0, 1) := by decide +kernel
theorem d_Standing_begin_33 : decode prog_7_method_2_code 33 = .ok (.istore_n 2, 1) := by decide +kernel
theorem d_Standing_begin_34 : decode prog_7_method_2_code 34 = .ok (.iload_n 2, 1) := by decide +kernel
theorem d_Standing_begin_35 : decode prog_7_method_2_code 35 = .ok (.bipush 7, 2) := by decide +kernel
theorem d_Standing_begin_37 : decode prog_7_method_2_code 37 = .ok (.if_icmp .ge 16, 3) := by decide +kernel
theorem d_Standing_begin_40 : decode prog_7_method_2_code 40 = .ok (.aload_n 0, 1) := by decide +kernel
theorem d_Standing_begin_41 : decode prog_7_method_2_code 41 = .ok (.getfield 9, 3) := by decide +kernel
theorem d_Standing_begin_44 : decode prog_7_method_2_code 44 = .ok (.iload_n 2, 1) := by decide +kernel
theorem d_Standing_begin_45 : decode prog_7_method_2_code 45 = .ok (.iconst 0, 1) := by decide +kernel
theorem d_Standing_begin_46 : decode prog_7_method_2_code 46 = .ok (.iastore, 1) := by decide +kernel
theorem d_Standing_begin_47 : decode prog_7_method_2_code 47 = .ok (.iinc 2 1, 3) := by decide +kernel
theorem d_Standing_begin_50 : decode prog_7_method_2_code 50 = .ok (.goto (-16), 3) := by decide +kernel
theorem d_Standing_begin_53 : decode prog_7_method_2_code 53 = .ok (.return_, 1) := by decide +kernel
set_option maxHeartbeats 4000000 in
set_option maxRecDepth 20000 in
theorem c_Standing_begin (v0 : Nat) (hv0 : dscC[v0]? = some dSt) (p1 : Int) (hp1 : Rng p1) (s0 : MS) (Q : MS → Prop) (h : wp_Standing_begin v0 p1 s0 Q) : MT dscC ⟨"BellSchool$Standing", "begin", "(I)V"⟩ prog_7_method_2_code 3 none 0 (fun ad => [.ref (ad v0), .int (iI p1)]) s0 (po_V dscC Q) := by
  refine met_of (by decide) (fun _ => Nat.le_of_ble_eq_true rfl) (fun X E hR => ?_)
  replace E : EV dscC X prog_7_method_2_code "BellSchool$Standing" 3 0 := E
  show VV dscC X 0 [(0, .ref (adX X v0)), (1, .int (iI p1))] [] s0
  unfold wp_Standing_begin at h
  refine v_aloadn E d_Standing_begin_0 rfl 0 rfl ?_
  refine v_iconst E d_Standing_begin_1 ?_
  refine v_putI E cf5 hv0 1 (by decide) rfl rfl mw105 d_Standing_begin_2 rfl rfl rfl (by decide) ?_
  refine v_nameS (fun s1 hs1 => ?_)
  replace h := h s1 hs1
  refine v_aloadn E d_Standing_begin_5 rfl 0 rfl ?_
  refine v_iloadn E d_Standing_begin_6 rfl 1 rfl ?_
  refine v_putI E cf5 hv0 2 (by decide) rfl rfl mw106 d_Standing_begin_7 rfl rfl rfl hp1 ?_
  refine v_nameS (fun s2 hs2 => ?_)
  replace h := h s2 hs2
  refine v_aloadn E d_Standing_begin_10 rfl 0 rfl ?_
  refine v_iconst E d_Standing_begin_11 ?_
  refine v_putI E cf5 hv0 3 (by decide) rfl rfl mw107 d_Standing_begin_12 rfl rfl rfl (by decide) ?_
  refine v_nameS (fun s3 hs3 => ?_)
  replace h := h s3 hs3
  refine v_aloadn E d_Standing_begin_15 rfl 0 rfl ?_
  refine v_iconst E d_Standing_begin_16 ?_
  refine v_putI E cf5 hv0 4 (by decide) rfl rfl mw108 d_Standing_begin_17 rfl rfl rfl (by decide) ?_
  refine v_nameS (fun s4 hs4 => ?_)
  replace h := h s4 hs4
  refine v_aloadn E d_Standing_begin_20 rfl 0 rfl ?_
  refine v_iconst E d_Standing_begin_21 ?_
  refine v_iloadn E d_Standing_begin_22 rfl 1 rfl ?_
  refine v_ishl E d_Standing_begin_23 ?_
  refine v_putI E cf5 hv0 5 (by decide) rfl rfl mw109 d_Standing_begin_24 rfl rfl rfl (Rng_of _) ?_
  refine v_nameS (fun s5 hs5 => ?_)
  replace h := h s5 hs5
  refine v_aloadn E d_Standing_begin_27 rfl 0 rfl ?_
  refine v_lconst E (0 : Int64) rfl d_Standing_begin_28 ?_
  refine v_putL E cf5 hv0 6 (by decide) rfl rfl mw110 d_Standing_begin_29 rfl rfl rfl ?_
  refine v_nameS (fun s6 hs6 => ?_)
  replace h := h s6 hs6
  refine v_iconst E d_Standing_begin_32 ?_
  refine v_istoren E d_Standing_begin_33 rfl (by decide) (L' := [(2, .int (iI 0)), (0, .ref (adX X v0)), (1, .int (iI p1))]) rfl ?_
  refine v_sub [1, 0] (L' := [(0, .ref (adX X v0)), (2, .int (iI 0))]) rfl ?_
  obtain ⟨I1, μ1, h01, h⟩ := h
  refine v_loop1 (fun (x1 : Int) => [(0, .ref (adX X v0)), (2, .int (iI x1))]) I1 μ1 (fun x1 s7 hI1 ih1 => ?_) 0 s6 h01
  replace h := h x1 s7 hI1
  refine v_iloadn E d_Standing_begin_34 rfl 1 rfl ?_
  refine v_bipush E d_Standing_begin_35 rfl ?_
  obtain ⟨q1, h⟩ := h
  refine v_icmp_ge E 53 d_Standing_begin_37 (by decide) q1 (by decide) (fun c1 => ?_) (fun c1 => ?_)
  · replace h := h.1 c1
    exact v_vret E hR h d_Standing_begin_53
  · replace h := h.2 c1
    refine v_aloadn E d_Standing_begin_40 rfl 0 rfl ?_
    refine v_getO E cf5 hv0 0 (by decide) rfl mw111 d_Standing_begin_41 rfl ?_
    refine v_iloadn E d_Standing_begin_44 rfl 1 rfl ?_
    refine v_iconst E d_Standing_begin_45 ?_
    obtain ⟨q2, h⟩ := h
    refine v_iast E (dC_o5_1 hv0) (by decide) q2.1 q2.2 (by decide) d_Standing_begin_46 ?_
    refine v_nameS (fun s8 hs8 => ?_)
    replace h := h s8 hs8
    refine v_iincN E d_Standing_begin_47 1 rfl (by decide) (fun y => [(2, .int (iI y)), (0, .ref (adX X v0))]) (fun _ => rfl) (fun x2 hx2 => ?_)
    replace h := h x2 hx2
    refine v_goto E 34 d_Standing_begin_50 (by decide) ?_
    obtain ⟨hb, hm⟩ := h
    exact v_sub [1, 0] rfl (ih1 x2 s8 hb hm)
theorem d_B_layText_0 : decode prog_1_method_30_code 0 = .ok (.aload_n 0, 1) := by decide +kernel
theorem d_B_layText_1 : decode prog_1_method_30_code 1 = .ok (.getfield 29, 3) := by decide +kernel
theorem d_B_layText_4 : decode prog_1_method_30_code 4 = .ok (.aload_n 0, 1) := by decide +kernel
theorem d_B_layText_5 : decode prog_1_method_30_code 5 = .ok (.getfield 16, 3) := by decide +kernel
theorem d_B_layText_8 : decode prog_1_method_30_code 8 = .ok (.aload_n 0, 1) := by decide +kernel
theorem d_B_layText_9 : decode prog_1_method_30_code 9 = .ok (.getfield 22, 3) := by decide +kernel
theorem d_B_layText_12 : decode prog_1_method_30_code 12 = .ok (.invokevirtual 111, 3) := by decide +kernel
theorem d_B_layText_15 : decode prog_1_method_30_code 15 = .ok (.bipush (-4), 2) := by decide +kernel
theorem d_B_layText_17 : decode prog_1_method_30_code 17 = .ok (.if_icmp .ne 20, 3) := by decide +kernel
theorem d_B_layText_20 : decode prog_1_method_30_code 20 = .ok (.aload_n 0, 1) := by decide +kernel
theorem d_B_layText_21 : decode prog_1_method_30_code 21 = .ok (.getfield 16, 3) := by decide +kernel
theorem d_B_layText_24 : decode prog_1_method_30_code 24 = .ok (.aload_n 0, 1) := by decide +kernel
theorem d_B_layText_25 : decode prog_1_method_30_code 25 = .ok (.getfield 16, 3) := by decide +kernel
theorem d_B_layText_28 : decode prog_1_method_30_code 28 = .ok (.getfield 258, 3) := by decide +kernel
theorem d_B_layText_31 : decode prog_1_method_30_code 31 = .ok (.invokevirtual 118, 3) := by decide +kernel
theorem d_B_layText_34 : decode prog_1_method_30_code 34 = .ok (.ifCond .ne 5, 3) := by decide +kernel
theorem d_B_layText_37 : decode prog_1_method_30_code 37 = .ok (.iconst 0, 1) := by decide +kernel
theorem d_B_layText_38 : decode prog_1_method_30_code 38 = .ok (.ireturn, 1) := by decide +kernel
theorem d_B_layText_39 : decode prog_1_method_30_code 39 = .ok (.aload_n 0, 1) := by decide +kernel
theorem d_B_layText_40 : decode prog_1_method_30_code 40 = .ok (.getfield 10, 3) := by decide +kernel
theorem d_B_layText_43 : decode prog_1_method_30_code 43 = .ok (.astore_n 1, 1) := by decide +kernel
theorem d_B_layText_44 : decode prog_1_method_30_code 44 = .ok (.aload_n 0, 1) := by decide +kernel
theorem d_B_layText_45 : decode prog_1_method_30_code 45 = .ok (.aload_n 0, 1) := by decide +kernel
theorem d_B_layText_46 : decode prog_1_method_30_code 46 = .ok (.getfield 16, 3) := by decide +kernel
theorem d_B_layText_49 : decode prog_1_method_30_code 49 = .ok (.putfield 10, 3) := by decide +kernel
theorem d_B_layText_52 : decode prog_1_method_30_code 52 = .ok (.aload_n 0, 1) := by decide +kernel
theorem d_B_layText_53 : decode prog_1_method_30_code 53 = .ok (.aload_n 1, 1) := by decide +kernel
theorem d_B_layText_54 : decode prog_1_method_30_code 54 = .ok (.putfield 16, 3) := by decide +kernel
theorem d_B_layText_57 : decode prog_1_method_30_code 57 = .ok (.aload_n 0, 1) := by decide +kernel
theorem d_B_layText_58 : decode prog_1_method_30_code 58 = .ok (.getfield 38, 3) := by decide +kernel
theorem d_B_layText_61 : decode prog_1_method_30_code 61 = .ok (.aload_n 0, 1) := by decide +kernel
theorem d_B_layText_62 : decode prog_1_method_30_code 62 = .ok (.getfield 10, 3) := by decide +kernel
theorem d_B_layText_65 : decode prog_1_method_30_code 65 = .ok (.invokevirtual 259, 3) := by decide +kernel
theorem d_B_layText_68 : decode prog_1_method_30_code 68 = .ok (.aload_n 0, 1) := by decide +kernel
theorem d_B_layText_69 : decode prog_1_method_30_code 69 = .ok (.getfield 67, 3) := by decide +kernel
theorem d_B_layText_72 : decode prog_1_method_30_code 72 = .ok (.iconst 0, 1) := by decide +kernel
theorem d_B_layText_73 : decode prog_1_method_30_code 73 = .ok (.putfield 262, 3) := by decide +kernel
theorem d_B_layText_76 : decode prog_1_method_30_code 76 = .ok (.aload_n 0, 1) := by decide +kernel
theorem d_B_layText_77 : decode prog_1_method_30_code 77 = .ok (.getfield 45, 3) := by decide +kernel
theorem d_B_layText_80 : decode prog_1_method_30_code 80 = .ok (.aload_n 0, 1) := by decide +kernel
theorem d_B_layText_81 : decode prog_1_method_30_code 81 = .ok (.getfield 10, 3) := by decide +kernel
theorem d_B_layText_84 : decode prog_1_method_30_code 84 = .ok (.getfield 258, 3) := by decide +kernel
theorem d_B_layText_87 : decode prog_1_method_30_code 87 = .ok (.invokevirtual 266, 3) := by decide +kernel
theorem d_B_layText_90 : decode prog_1_method_30_code 90 = .ok (.aload_n 0, 1) := by decide +kernel
theorem d_B_layText_91 : decode prog_1_method_30_code 91 = .ok (.getfield 57, 3) := by decide +kernel
theorem d_B_layText_94 : decode prog_1_method_30_code 94 = .ok (.iconst 0, 1) := by decide +kernel
theorem d_B_layText_95 : decode prog_1_method_30_code 95 = .ok (.putfield 190, 3) := by decide +kernel
theorem d_B_layText_98 : decode prog_1_method_30_code 98 = .ok (.aload_n 0, 1) := by decide +kernel
theorem d_B_layText_99 : decode prog_1_method_30_code 99 = .ok (.getfield 61, 3) := by decide +kernel
theorem d_B_layText_102 : decode prog_1_method_30_code 102 = .ok (.iconst 0, 1) := by decide +kernel
theorem d_B_layText_103 : decode prog_1_method_30_code 103 = .ok (.putfield 190, 3) := by decide +kernel
theorem d_B_layText_106 : decode prog_1_method_30_code 106 = .ok (.aload_n 0, 1) := by decide +kernel
theorem d_B_layText_107 : decode prog_1_method_30_code 107 = .ok (.iconst 0, 1) := by decide +kernel
theorem d_B_layText_108 : decode prog_1_method_30_code 108 = .ok (.putfield 85, 3) := by decide +kernel
theorem d_B_layText_111 : decode prog_1_method_30_code 111 = .ok (.iconst 1, 1) := by decide +kernel
theorem d_B_layText_112 : decode prog_1_method_30_code 112 = .ok (.ireturn, 1) := by decide +kernel
set_option maxHeartbeats 4000000 in
set_option maxRecDepth 20000 in
theorem c_B_layText (s0 : MS) (Q : Int → MS → Prop) (h : wp_B_layText s0 Q) : MT dscC ⟨"BellSchool", "layText", "()Z"⟩ prog_1_method_30_code 2 (some .boolean) 5 (fun ad => [.ref (ad 0)]) s0 (po_I dscC (fun r z => (r = 0 ∨ r = 1) ∧ Q r z)) := by
  refine met_of (by decide) (fun _ => Nat.le_of_ble_eq_true rfl) (fun X E hR => ?_)
  replace E : EV dscC X prog_1_method_30_code "BellSchool" 2 5 := E
  show VV dscC X 0 [(0, .ref (adX X 0))] [] s0
  unfold wp_B_layText at h
  refine v_aloadn E d_B_layText_0 rfl 0 rfl ?_
  refine v_getA E cf8 dC_0 3 (by decide) rfl mw92 d_B_layText_1 rfl ?_
  refine v_aloadn E d_B_layText_4 rfl 0 rfl ?_
  refine v_getR E cf8 dC_0 1 (by decide) rfl mw93 d_B_layText_5 rfl (fun hv1 => ?_)
  refine v_aloadn E d_B_layText_8 rfl 0 rfl ?_
  refine v_getA E cf8 dC_0 2 (by decide) rfl mw6 d_B_layText_9 rfl ?_
  refine v_callVI E md_Reader_readInto (c_Reader_readInto (gR s0 0 1) hv1 s0 _ h) dC_15 rfl ⟨by decide, by decide⟩ mw94 d_B_layText_12 (fun _ => rfl) (st := []) rfl (Nat.le_of_ble_eq_true rfl) (fun r1 s1 hr1 h => ?_)
  refine v_bipush E d_B_layText_15 rfl ?_
  refine v_icmp_ne E 37 d_B_layText_17 (by decide) hr1 (by decide) (fun c1 => ?_) (fun c1 => ?_)
  · replace h := h.1 c1
    refine v_iconst E d_B_layText_37 ?_
    exact v_iret E hR (nar_Z (by decide)) (Rng_Z (by decide)) ⟨(by decide), h⟩ d_B_layText_38
  · replace h := h.2 c1
    refine v_aloadn E d_B_layText_20 rfl 0 rfl ?_
    refine v_getR E cf8 dC_0 1 (by decide) rfl mw93 d_B_layText_21 rfl (fun hv2 => ?_)
    refine v_aloadn E d_B_layText_24 rfl 0 rfl ?_
    refine v_getR E cf8 dC_0 1 (by decide) rfl mw93 d_B_layText_25 rfl (fun hv3 => ?_)
    refine v_getI E cf7 hv3 6 (by decide) rfl mw116 d_B_layText_28 rfl ?_
    refine v_wt (fun wt1 => ?_)
    refine v_callVIpz E md_Valley_has (c_Valley_has (gR s1 0 1) hv2 (gI s1 (gR s1 0 1) 6) (wt1 (gR s1 0 1) 6) s1 _ h) hv2 rfl ⟨by decide, by decide⟩ mw117 d_B_layText_31 (fun _ => rfl) (st := []) rfl (Nat.le_of_ble_eq_true rfl) (fun r2 hr2 hz2 h => ?_)
    refine v_if_ne E 39 d_B_layText_34 (by decide) hr2 (fun c2 => ?_) (fun c2 => ?_)
    · replace h := h.1 c2
      refine v_aloadn E d_B_layText_39 rfl 0 rfl ?_
      refine v_getR E cf8 dC_0 0 (by decide) rfl mw118 d_B_layText_40 rfl (fun hv4 => ?_)
      refine v_astoren E d_B_layText_43 rfl (by decide) (L' := [(1, .ref (adX X (gR s1 0 0))), (0, .ref (adX X 0))]) rfl ?_
      refine v_aloadn E d_B_layText_44 rfl 1 rfl ?_
      refine v_aloadn E d_B_layText_45 rfl 1 rfl ?_
      refine v_getR E cf8 dC_0 1 (by decide) rfl mw93 d_B_layText_46 rfl (fun hv5 => ?_)
      refine v_putR E cf8 dC_0 0 (by decide) rfl rfl mw118 d_B_layText_49 rfl (fun _ => rfl) (fun _ => rfl) hv5 ?_
      refine v_nameS (fun s2 hs2 => ?_)
      replace h := h s2 hs2
      refine v_aloadn E d_B_layText_52 rfl 1 rfl ?_
      refine v_aloadn E d_B_layText_53 rfl 0 rfl ?_
      refine v_putR E cf8 dC_0 1 (by decide) rfl rfl mw93 d_B_layText_54 rfl (fun _ => rfl) (fun _ => rfl) hv4 ?_
      refine v_nameS (fun s3 hs3 => ?_)
      replace h := h s3 hs3
      refine v_aloadn E d_B_layText_57 rfl 1 rfl ?_
      refine v_getA E cf8 dC_0 4 (by decide) rfl mw119 d_B_layText_58 rfl ?_
      refine v_aloadn E d_B_layText_61 rfl 1 rfl ?_
      refine v_getR E cf8 dC_0 0 (by decide) rfl mw118 d_B_layText_62 rfl (fun hv6 => ?_)
      refine v_callVV E md_Noon_settle (c_Noon_settle (gR s3 0 0) hv6 s3 _ h) dC_17 rfl ⟨by decide, by decide⟩ mw120 d_B_layText_65 (fun _ => rfl) (st := []) rfl (Nat.le_of_ble_eq_true rfl) (fun s4 h => ?_)
      refine v_aloadn E d_B_layText_68 rfl 1 rfl ?_
      refine v_getA E cf8 dC_0 9 (by decide) rfl mw121 d_B_layText_69 rfl ?_
      refine v_iconst E d_B_layText_72 ?_
      refine v_putI E cf3 dC_25 10 (by decide) rfl rfl mw122 d_B_layText_73 rfl (nar_Z (by decide)) rfl (by decide) ?_
      refine v_nameS (fun s5 hs5 => ?_)
      replace h := h s5 hs5
      refine v_aloadn E d_B_layText_76 rfl 1 rfl ?_
      refine v_getA E cf8 dC_0 5 (by decide) rfl mw123 d_B_layText_77 rfl ?_
      refine v_aloadn E d_B_layText_80 rfl 1 rfl ?_
      refine v_getR E cf8 dC_0 0 (by decide) rfl mw118 d_B_layText_81 rfl (fun hv7 => ?_)
      refine v_getI E cf7 hv7 6 (by decide) rfl mw116 d_B_layText_84 rfl ?_
      refine v_wt (fun wt2 => ?_)
      refine v_callVV E md_Standing_begin (c_Standing_begin 36 dC_36 (gI s5 (gR s5 0 0) 6) (wt2 (gR s5 0 0) 6) s5 _ h) dC_36 rfl ⟨by decide, by decide⟩ mw124 d_B_layText_87 (fun _ => rfl) (st := []) rfl (Nat.le_of_ble_eq_true rfl) (fun s6 h => ?_)
      refine v_aloadn E d_B_layText_90 rfl 1 rfl ?_
      refine v_getA E cf8 dC_0 7 (by decide) rfl mw125 d_B_layText_91 rfl ?_
      refine v_iconst E d_B_layText_94 ?_
      refine v_putI E cf4 dC_21 1 (by decide) rfl rfl mw126 d_B_layText_95 rfl rfl rfl (by decide) ?_
      refine v_nameS (fun s7 hs7 => ?_)
      replace h := h s7 hs7
      refine v_aloadn E d_B_layText_98 rfl 1 rfl ?_
      refine v_getA E cf8 dC_0 8 (by decide) rfl mw127 d_B_layText_99 rfl ?_
      refine v_iconst E d_B_layText_102 ?_
      refine v_putI E cf4 dC_23 1 (by decide) rfl rfl mw126 d_B_layText_103 rfl rfl rfl (by decide) ?_
      refine v_nameS (fun s8 hs8 => ?_)
      replace h := h s8 hs8
      refine v_aloadn E d_B_layText_106 rfl 1 rfl ?_
      refine v_iconst E d_B_layText_107 ?_
      refine v_putI E cf8 dC_0 13 (by decide) rfl rfl mw128 d_B_layText_108 rfl rfl rfl (by decide) ?_
      refine v_nameS (fun s9 hs9 => ?_)
      replace h := h s9 hs9
      refine v_iconst E d_B_layText_111 ?_
      exact v_iret E hR (nar_Z (by decide)) (Rng_Z (by decide)) ⟨(by decide), h⟩ d_B_layText_112
    · replace h := h.2 c2
      refine v_iconst E d_B_layText_37 ?_
      exact v_iret E hR (nar_Z (by decide)) (Rng_Z (by decide)) ⟨(by decide), h⟩ d_B_layText_38
theorem d_B_lay_0 : decode prog_1_method_5_code 0 = .ok (.aload_n 0, 1) := by decide +kernel
theorem d_B_lay_1 : decode prog_1_method_5_code 1 = .ok (.invokevirtual 105, 3) := by decide +kernel
theorem d_B_lay_4 : decode prog_1_method_5_code 4 = .ok (.ifCond .eq 13, 3) := by decide +kernel
theorem d_B_lay_7 : decode prog_1_method_5_code 7 = .ok (.aload_n 0, 1) := by decide +kernel
theorem d_B_lay_8 : decode prog_1_method_5_code 8 = .ok (.getfield 10, 3) := by decide +kernel
theorem d_B_lay_11 : decode prog_1_method_5_code 11 = .ok (.getfield 115, 3) := by decide +kernel
theorem d_B_lay_14 : decode prog_1_method_5_code 14 = .ok (.goto 5, 3) := by decide +kernel
theorem d_B_lay_17 : decode prog_1_method_5_code 17 = .ok (.bipush (-2), 2) := by decide +kernel
theorem d_B_lay_19 : decode prog_1_method_5_code 19 = .ok (.ireturn, 1) := by decide +kernel
set_option maxHeartbeats 4000000 in
set_option maxRecDepth 20000 in
theorem c_B_lay (s0 : MS) (Q : Int → MS → Prop) (h : wp_B_lay s0 Q) : MT dscC ⟨"BellSchool", "lay", "()I"⟩ prog_1_method_5_code 1 (some .int) 6 (fun ad => [.ref (ad 0)]) s0 (po_I dscC Q) := by
  refine met_of (by decide) (fun _ => Nat.le_of_ble_eq_true rfl) (fun X E hR => ?_)
  replace E : EV dscC X prog_1_method_5_code "BellSchool" 1 6 := E
  show VV dscC X 0 [(0, .ref (adX X 0))] [] s0
  unfold wp_B_lay at h
  refine v_aloadn E d_B_lay_0 rfl 0 rfl ?_
  refine v_callVI E md_B_layText (c_B_layText s0 _ h) dC_0 rfl ⟨by decide, by decide⟩ mw132 d_B_lay_1 (fun _ => rfl) (st := []) rfl (Nat.le_of_ble_eq_true rfl) (fun r1 s1 hr1 h => ?_)
  obtain ⟨hz1, h⟩ := h
  refine v_if_eq E 17 d_B_lay_4 (by decide) hr1 (fun c1 => ?_) (fun c1 => ?_)
  · replace h := h.1 c1
    refine v_bipush E d_B_lay_17 rfl ?_
    exact v_iret E hR rfl (by decide) h d_B_lay_19
  · replace h := h.2 c1
    refine v_aloadn E d_B_lay_7 rfl 0 rfl ?_
    refine v_getR E cf8 dC_0 0 (by decide) rfl mw118 d_B_lay_8 rfl (fun hv1 => ?_)
    refine v_getI E cf7 hv1 5 (by decide) rfl mw133 d_B_lay_11 rfl ?_
    refine v_goto E 19 d_B_lay_14 (by decide) ?_
    refine v_wt (fun wt1 => ?_)
    exact v_iret E hR rfl (wt1 (gR s1 0 0) 5) h d_B_lay_19
theorem d_B_home_0 : decode prog_1_method_6_code 0 = .ok (.aload_n 0, 1) := by decide +kernel
theorem d_B_home_1 : decode prog_1_method_6_code 1 = .ok (.getfield 10, 3) := by decide +kernel
theorem d_B_home_4 : decode prog_1_method_6_code 4 = .ok (.iload_n 1, 1) := by decide +kernel
theorem d_B_home_5 : decode prog_1_method_6_code 5 = .ok (.invokevirtual 118, 3) := by decide +kernel
theorem d_B_home_8 : decode prog_1_method_6_code 8 = .ok (.ifCond .eq 13, 3) := by decide +kernel
theorem d_B_home_11 : decode prog_1_method_6_code 11 = .ok (.iload_n 2, 1) := by decide +kernel
theorem d_B_home_12 : decode prog_1_method_6_code 12 = .ok (.ifCond .lt 9, 3) := by decide +kernel
theorem d_B_home_15 : decode prog_1_method_6_code 15 = .ok (.iload_n 2, 1) := by decide +kernel
theorem d_B_home_16 : decode prog_1_method_6_code 16 = .ok (.bipush 6, 2) := by decide +kernel
theorem d_B_home_18 : decode prog_1_method_6_code 18 = .ok (.if_icmp .le 5, 3) := by decide +kernel
theorem d_B_home_21 : decode prog_1_method_6_code 21 = .ok (.iconst (-1), 1) := by decide +kernel
theorem d_B_home_22 : decode prog_1_method_6_code 22 = .ok (.ireturn, 1) := by decide +kernel
theorem d_B_home_23 : decode prog_1_method_6_code 23 = .ok (.iload_n 2, 1) := by decide +kernel
theorem d_B_home_24 : decode prog_1_method_6_code 24 = .ok (.tableswitch 111 0 5 #[40, 50, 60, 77, 89, 99], 40) := by decide +kernel
theorem d_B_home_64 : decode prog_1_method_6_code 64 = .ok (.aload_n 0, 1) := by decide +kernel
theorem d_B_home_65 : decode prog_1_method_6_code 65 = .ok (.getfield 10, 3) := by decide +kernel
theorem d_B_home_68 : decode prog_1_method_6_code 68 = .ok (.getfield 122, 3) := by decide +kernel
theorem d_B_home_71 : decode prog_1_method_6_code 71 = .ok (.iload_n 1, 1) := by decide +kernel
theorem d_B_home_72 : decode prog_1_method_6_code 72 = .ok (.iaload, 1) := by decide +kernel
theorem d_B_home_73 : decode prog_1_method_6_code 73 = .ok (.ireturn, 1) := by decide +kernel
theorem d_B_home_74 : decode prog_1_method_6_code 74 = .ok (.aload_n 0, 1) := by decide +kernel
theorem d_B_home_75 : decode prog_1_method_6_code 75 = .ok (.getfield 10, 3) := by decide +kernel
theorem d_B_home_78 : decode prog_1_method_6_code 78 = .ok (.getfield 125, 3) := by decide +kernel
theorem d_B_home_81 : decode prog_1_method_6_code 81 = .ok (.iload_n 1, 1) := by decide +kernel
theorem d_B_home_82 : decode prog_1_method_6_code 82 = .ok (.iaload, 1) := by decide +kernel
theorem d_B_home_83 : decode prog_1_method_6_code 83 = .ok (.ireturn, 1) := by decide +kernel
theorem d_B_home_84 : decode prog_1_method_6_code 84 = .ok (.aload_n 0, 1) := by decide +kernel
theorem d_B_home_85 : decode prog_1_method_6_code 85 = .ok (.getfield 45, 3) := by decide +kernel
theorem d_B_home_88 : decode prog_1_method_6_code 88 = .ok (.getfield 128, 3) := by decide +kernel
theorem d_B_home_91 : decode prog_1_method_6_code 91 = .ok (.iload_n 1, 1) := by decide +kernel
theorem d_B_home_92 : decode prog_1_method_6_code 92 = .ok (.if_icmp .ne 7, 3) := by decide +kernel
theorem d_B_home_95 : decode prog_1_method_6_code 95 = .ok (.iconst 1, 1) := by decide +kernel
theorem d_B_home_96 : decode prog_1_method_6_code 96 = .ok (.goto 4, 3) := by decide +kernel
theorem d_B_home_99 : decode prog_1_method_6_code 99 = .ok (.iconst 0, 1) := by decide +kernel
theorem d_B_home_100 : decode prog_1_method_6_code 100 = .ok (.ireturn, 1) := by decide +kernel
theorem d_B_home_101 : decode prog_1_method_6_code 101 = .ok (.aload_n 0, 1) := by decide +kernel
theorem d_B_home_102 : decode prog_1_method_6_code 102 = .ok (.getfield 45, 3) := by decide +kernel
theorem d_B_home_105 : decode prog_1_method_6_code 105 = .ok (.getfield 131, 3) := by decide +kernel
theorem d_B_home_108 : decode prog_1_method_6_code 108 = .ok (.iload_n 1, 1) := by decide +kernel
theorem d_B_home_109 : decode prog_1_method_6_code 109 = .ok (.ishr, 1) := by decide +kernel
theorem d_B_home_110 : decode prog_1_method_6_code 110 = .ok (.iconst 1, 1) := by decide +kernel
theorem d_B_home_111 : decode prog_1_method_6_code 111 = .ok (.iand, 1) := by decide +kernel
theorem d_B_home_112 : decode prog_1_method_6_code 112 = .ok (.ireturn, 1) := by decide +kernel
theorem d_B_home_113 : decode prog_1_method_6_code 113 = .ok (.aload_n 0, 1) := by decide +kernel
theorem d_B_home_114 : decode prog_1_method_6_code 114 = .ok (.getfield 45, 3) := by decide +kernel
theorem d_B_home_117 : decode prog_1_method_6_code 117 = .ok (.getfield 134, 3) := by decide +kernel
theorem d_B_home_120 : decode prog_1_method_6_code 120 = .ok (.iload_n 1, 1) := by decide +kernel
theorem d_B_home_121 : decode prog_1_method_6_code 121 = .ok (.iaload, 1) := by decide +kernel
theorem d_B_home_122 : decode prog_1_method_6_code 122 = .ok (.ireturn, 1) := by decide +kernel
theorem d_B_home_123 : decode prog_1_method_6_code 123 = .ok (.aload_n 0, 1) := by decide +kernel
theorem d_B_home_124 : decode prog_1_method_6_code 124 = .ok (.getfield 45, 3) := by decide +kernel
theorem d_B_home_127 : decode prog_1_method_6_code 127 = .ok (.getfield 137, 3) := by decide +kernel
theorem d_B_home_130 : decode prog_1_method_6_code 130 = .ok (.iload_n 1, 1) := by decide +kernel
theorem d_B_home_131 : decode prog_1_method_6_code 131 = .ok (.ishr, 1) := by decide +kernel
theorem d_B_home_132 : decode prog_1_method_6_code 132 = .ok (.iconst 1, 1) := by decide +kernel
theorem d_B_home_133 : decode prog_1_method_6_code 133 = .ok (.iand, 1) := by decide +kernel
theorem d_B_home_134 : decode prog_1_method_6_code 134 = .ok (.ireturn, 1) := by decide +kernel
theorem d_B_home_135 : decode prog_1_method_6_code 135 = .ok (.aload_n 0, 1) := by decide +kernel
theorem d_B_home_136 : decode prog_1_method_6_code 136 = .ok (.getfield 45, 3) := by decide +kernel
theorem d_B_home_139 : decode prog_1_method_6_code 139 = .ok (.getfield 140, 3) := by decide +kernel
theorem d_B_home_142 : decode prog_1_method_6_code 142 = .ok (.iload_n 1, 1) := by decide +kernel
theorem d_B_home_143 : decode prog_1_method_6_code 143 = .ok (.ishr, 1) := by decide +kernel
theorem d_B_home_144 : decode prog_1_method_6_code 144 = .ok (.iconst 1, 1) := by decide +kernel
theorem d_B_home_145 : decode prog_1_method_6_code 145 = .ok (.iand, 1) := by decide +kernel
theorem d_B_home_146 : decode prog_1_method_6_code 146 = .ok (.ireturn, 1) := by decide +kernel
set_option maxHeartbeats 4000000 in
set_option maxRecDepth 20000 in
theorem c_B_home (p1 : Int) (hp1 : Rng p1) (p2 : Int) (hp2 : Rng p2) (s0 : MS) (Q : Int → Prop) (h : wp_B_home p1 p2 s0 Q) : MT dscC ⟨"BellSchool", "home", "(II)I"⟩ prog_1_method_6_code 3 (some .int) 1 (fun ad => [.ref (ad 0), .int (iI p1), .int (iI p2)]) s0 (po_I dscC (fun r z => z = s0 ∧ Q r)) := by
  refine met_of (by decide) (fun _ => Nat.le_of_ble_eq_true rfl) (fun X E hR => ?_)
  replace E : EV dscC X prog_1_method_6_code "BellSchool" 3 1 := E
  show VV dscC X 0 [(0, .ref (adX X 0)), (1, .int (iI p1)), (2, .int (iI p2))] [] s0
  unfold wp_B_home at h
  refine v_aloadn E d_B_home_0 rfl 0 rfl ?_
  refine v_getR E cf8 dC_0 0 (by decide) rfl mw118 d_B_home_1 rfl (fun hv1 => ?_)
  refine v_iloadn E d_B_home_4 rfl 1 rfl ?_
  refine v_callVIpz E md_Valley_has (c_Valley_has (gR s0 0 0) hv1 p1 hp1 s0 _ h) hv1 rfl ⟨by decide, by decide⟩ mw117 d_B_home_5 (fun _ => rfl) (st := []) rfl (Nat.le_of_ble_eq_true rfl) (fun r1 hr1 hz1 h => ?_)
  refine v_if_eq E 21 d_B_home_8 (by decide) hr1 (fun c1 => ?_) (fun c1 => ?_)
  · replace h := h.1 c1
    refine v_iconst E d_B_home_21 ?_
    exact v_iret E hR rfl (by decide) ⟨rfl, h⟩ d_B_home_22
  · replace h := h.2 c1
    refine v_iloadn E d_B_home_11 rfl 2 rfl ?_
    refine v_if_lt E 21 d_B_home_12 (by decide) hp2 (fun c2 => ?_) (fun c2 => ?_)
    · replace h := h.1 c2
      refine v_iconst E d_B_home_21 ?_
      exact v_iret E hR rfl (by decide) ⟨rfl, h⟩ d_B_home_22
    · replace h := h.2 c2
      refine v_iloadn E d_B_home_15 rfl 2 rfl ?_
      refine v_bipush E d_B_home_16 rfl ?_
      refine v_icmp_le E 23 d_B_home_18 (by decide) hp2 (by decide) (fun c3 => ?_) (fun c3 => ?_)
      · replace h := h.1 c3
        refine v_iloadn E d_B_home_23 rfl 2 rfl ?_
        by_cases c4 : p2 = 0
        · replace h := h.1 c4
          refine v_tableIn E d_B_home_24 hp2 (v := 0) c4 (by decide) (by decide) rfl 64 (by decide) ?_
          refine v_aloadn E d_B_home_64 rfl 0 rfl ?_
          refine v_getR E cf8 dC_0 0 (by decide) rfl mw118 d_B_home_65 rfl (fun hv2 => ?_)
          refine v_getO E cf7 hv2 0 (by decide) rfl mw137 d_B_home_68 rfl ?_
          refine v_iloadn E d_B_home_71 rfl 1 rfl ?_
          obtain ⟨q1, h⟩ := h
          refine v_iald E (dC_o7_1 hv2) (by decide) q1.1 q1.2 d_B_home_72 ?_
          refine v_wt (fun wt1 => ?_)
          exact v_iret E hR rfl (wt1 ((gR s0 0 0) + 1) p1) ⟨rfl, h⟩ d_B_home_73
        · skip
          by_cases c5 : p2 = 1
          · replace h := h.2.1 c5
            refine v_tableIn E d_B_home_24 hp2 (v := 1) c5 (by decide) (by decide) rfl 74 (by decide) ?_
            refine v_aloadn E d_B_home_74 rfl 0 rfl ?_
            refine v_getR E cf8 dC_0 0 (by decide) rfl mw118 d_B_home_75 rfl (fun hv3 => ?_)
            refine v_getO E cf7 hv3 1 (by decide) rfl mw138 d_B_home_78 rfl ?_
            refine v_iloadn E d_B_home_81 rfl 1 rfl ?_
            obtain ⟨q2, h⟩ := h
            refine v_iald E (dC_o7_2 hv3) (by decide) q2.1 q2.2 d_B_home_82 ?_
            refine v_wt (fun wt2 => ?_)
            exact v_iret E hR rfl (wt2 ((gR s0 0 0) + 2) p1) ⟨rfl, h⟩ d_B_home_83
          · skip
            by_cases c6 : p2 = 2
            · replace h := h.2.2.1 c6
              refine v_tableIn E d_B_home_24 hp2 (v := 2) c6 (by decide) (by decide) rfl 84 (by decide) ?_
              refine v_aloadn E d_B_home_84 rfl 0 rfl ?_
              refine v_getA E cf8 dC_0 5 (by decide) rfl mw123 d_B_home_85 rfl ?_
              refine v_getI E cf5 dC_36 2 (by decide) rfl mw139 d_B_home_88 rfl ?_
              refine v_iloadn E d_B_home_91 rfl 1 rfl ?_
              refine v_wt (fun wt3 => ?_)
              refine v_icmp_ne E 99 d_B_home_92 (by decide) (wt3 36 2) hp1 (fun c7 => ?_) (fun c7 => ?_)
              · replace h := h.1 c7
                refine v_iconst E d_B_home_99 ?_
                exact v_iret E hR rfl (by decide) ⟨rfl, h⟩ d_B_home_100
              · replace h := h.2 c7
                refine v_iconst E d_B_home_95 ?_
                refine v_goto E 100 d_B_home_96 (by decide) ?_
                exact v_iret E hR rfl (by decide) ⟨rfl, h⟩ d_B_home_100
            · skip
              by_cases c8 : p2 = 3
              · replace h := h.2.2.2.1 c8
                refine v_tableIn E d_B_home_24 hp2 (v := 3) c8 (by decide) (by decide) rfl 101 (by decide) ?_
                refine v_aloadn E d_B_home_101 rfl 0 rfl ?_
                refine v_getA E cf8 dC_0 5 (by decide) rfl mw123 d_B_home_102 rfl ?_
                refine v_getI E cf5 dC_36 5 (by decide) rfl mw140 d_B_home_105 rfl ?_
                refine v_iloadn E d_B_home_108 rfl 1 rfl ?_
                refine v_ishr E d_B_home_109 ?_
                refine v_iconst E d_B_home_110 ?_
                refine v_iand E d_B_home_111 ?_
                exact v_iret E hR rfl (Rng_of _) ⟨rfl, h⟩ d_B_home_112
              · skip
                by_cases c9 : p2 = 4
                · replace h := h.2.2.2.2.1 c9
                  refine v_tableIn E d_B_home_24 hp2 (v := 4) c9 (by decide) (by decide) rfl 113 (by decide) ?_
                  refine v_aloadn E d_B_home_113 rfl 0 rfl ?_
                  refine v_getA E cf8 dC_0 5 (by decide) rfl mw123 d_B_home_114 rfl ?_
                  refine v_getO E cf5 dC_36 0 (by decide) rfl mw141 d_B_home_117 rfl ?_
                  refine v_iloadn E d_B_home_120 rfl 1 rfl ?_
                  obtain ⟨q3, h⟩ := h
                  refine v_iald E dC_37 (by decide) q3.1 q3.2 d_B_home_121 ?_
                  refine v_wt (fun wt4 => ?_)
                  exact v_iret E hR rfl (wt4 37 p1) ⟨rfl, h⟩ d_B_home_122
                · skip
                  by_cases c10 : p2 = 5
                  · replace h := h.2.2.2.2.2.1 c10
                    refine v_tableIn E d_B_home_24 hp2 (v := 5) c10 (by decide) (by decide) rfl 123 (by decide) ?_
                    refine v_aloadn E d_B_home_123 rfl 0 rfl ?_
                    refine v_getA E cf8 dC_0 5 (by decide) rfl mw123 d_B_home_124 rfl ?_
                    refine v_getI E cf5 dC_36 4 (by decide) rfl mw142 d_B_home_127 rfl ?_
                    refine v_iloadn E d_B_home_130 rfl 1 rfl ?_
                    refine v_ishr E d_B_home_131 ?_
                    refine v_iconst E d_B_home_132 ?_
                    refine v_iand E d_B_home_133 ?_
                    exact v_iret E hR rfl (Rng_of _) ⟨rfl, h⟩ d_B_home_134
                  · skip
                    replace h := h.2.2.2.2.2.2 c4 c5 c6 c8 c9 c10
                    refine v_tableOut E d_B_home_24 hp2 (by omega) 135 (by decide) ?_
                    refine v_aloadn E d_B_home_135 rfl 0 rfl ?_
                    refine v_getA E cf8 dC_0 5 (by decide) rfl mw123 d_B_home_136 rfl ?_
                    refine v_getI E cf5 dC_36 3 (by decide) rfl mw143 d_B_home_139 rfl ?_
                    refine v_iloadn E d_B_home_142 rfl 1 rfl ?_
                    refine v_ishr E d_B_home_143 ?_
                    refine v_iconst E d_B_home_144 ?_
                    refine v_iand E d_B_home_145 ?_
                    exact v_iret E hR rfl (Rng_of _) ⟨rfl, h⟩ d_B_home_146
      · replace h := h.2 c3
        refine v_iconst E d_B_home_21 ?_
        exact v_iret E hR rfl (by decide) ⟨rfl, h⟩ d_B_home_22
theorem d_Valley_canBeGone_0 : decode prog_9_method_11_code 0 = .ok (.iload_n 2, 1) := by decide +kernel
theorem d_Valley_canBeGone_1 : decode prog_9_method_11_code 1 = .ok (.aload_n 0, 1) := by decide +kernel
theorem d_Valley_canBeGone_2 : decode prog_9_method_11_code 2 = .ok (.getfield 21, 3) := by decide +kernel
theorem d_Valley_canBeGone_5 : decode prog_9_method_11_code 5 = .ok (.iload_n 1, 1) := by decide +kernel
theorem d_Valley_canBeGone_6 : decode prog_9_method_11_code 6 = .ok (.iaload, 1) := by decide +kernel
theorem d_Valley_canBeGone_7 : decode prog_9_method_11_code 7 = .ok (.if_icmp .lt 17, 3) := by decide +kernel
theorem d_Valley_canBeGone_10 : decode prog_9_method_11_code 10 = .ok (.iload_n 2, 1) := by decide +kernel
theorem d_Valley_canBeGone_11 : decode prog_9_method_11_code 11 = .ok (.aload_n 0, 1) := by decide +kernel
theorem d_Valley_canBeGone_12 : decode prog_9_method_11_code 12 = .ok (.getfield 24, 3) := by decide +kernel
theorem d_Valley_canBeGone_15 : decode prog_9_method_11_code 15 = .ok (.iload_n 1, 1) := by decide +kernel
theorem d_Valley_canBeGone_16 : decode prog_9_method_11_code 16 = .ok (.iaload, 1) := by decide +kernel
theorem d_Valley_canBeGone_17 : decode prog_9_method_11_code 17 = .ok (.if_icmp .gt 7, 3) := by decide +kernel
theorem d_Valley_canBeGone_20 : decode prog_9_method_11_code 20 = .ok (.iconst 1, 1) := by decide +kernel
theorem d_Valley_canBeGone_21 : decode prog_9_method_11_code 21 = .ok (.goto 4, 3) := by decide +kernel
theorem d_Valley_canBeGone_24 : decode prog_9_method_11_code 24 = .ok (.iconst 0, 1) := by decide +kernel
theorem d_Valley_canBeGone_25 : decode prog_9_method_11_code 25 = .ok (.istore 5, 2) := by decide +kernel
theorem d_Valley_canBeGone_27 : decode prog_9_method_11_code 27 = .ok (.aload_n 0, 1) := by decide +kernel
theorem d_Valley_canBeGone_28 : decode prog_9_method_11_code 28 = .ok (.getfield 18, 3) := by decide +kernel
theorem d_Valley_canBeGone_31 : decode prog_9_method_11_code 31 = .ok (.iload_n 1, 1) := by decide +kernel
theorem d_Valley_canBeGone_32 : decode prog_9_method_11_code 32 = .ok (.iaload, 1) := by decide +kernel
theorem d_Valley_canBeGone_33 : decode prog_9_method_11_code 33 = .ok (.ifCond .le 22, 3) := by decide +kernel
theorem d_Valley_canBeGone_36 : decode prog_9_method_11_code 36 = .ok (.iload 5, 2) := by decide +kernel
theorem d_Valley_canBeGone_38 : decode prog_9_method_11_code 38 = .ok (.ifCond .ne 17, 3) := by decide +kernel
theorem d_Valley_canBeGone_41 : decode prog_9_method_11_code 41 = .ok (.lload_n 3, 1) := by decide +kernel
theorem d_Valley_canBeGone_42 : decode prog_9_method_11_code 42 = .ok (.iload_n 1, 1) := by decide +kernel
theorem d_Valley_canBeGone_43 : decode prog_9_method_11_code 43 = .ok (.lshr, 1) := by decide +kernel
theorem d_Valley_canBeGone_44 : decode prog_9_method_11_code 44 = .ok (.lconst 1, 1) := by decide +kernel
theorem d_Valley_canBeGone_45 : decode prog_9_method_11_code 45 = .ok (.land, 1) := by decide +kernel
theorem d_Valley_canBeGone_46 : decode prog_9_method_11_code 46 = .ok (.lconst 0, 1) := by decide +kernel
theorem d_Valley_canBeGone_47 : decode prog_9_method_11_code 47 = .ok (.lcmp, 1) := by decide +kernel
theorem d_Valley_canBeGone_48 : decode prog_9_method_11_code 48 = .ok (.ifCond .ne 7, 3) := by decide +kernel
theorem d_Valley_canBeGone_51 : decode prog_9_method_11_code 51 = .ok (.iconst 1, 1) := by decide +kernel
theorem d_Valley_canBeGone_52 : decode prog_9_method_11_code 52 = .ok (.goto 4, 3) := by decide +kernel
theorem d_Valley_canBeGone_55 : decode prog_9_method_11_code 55 = .ok (.iconst 0, 1) := by decide +kernel
theorem d_Valley_canBeGone_56 : decode prog_9_method_11_code 56 = .ok (.ireturn, 1) := by decide +kernel
set_option maxHeartbeats 4000000 in
set_option maxRecDepth 20000 in
theorem c_Valley_canBeGone (v0 : Nat) (hv0 : dscC[v0]? = some dVal) (p1 : Int) (hp1 : Rng p1) (p2 : Int) (hp2 : Rng p2) (p3 : Int64) (s0 : MS) (Q : Int → Prop) (h : wp_Valley_canBeGone v0 p1 p2 p3 s0 Q) : MT dscC ⟨"BellSchool$Valley", "canBeGone", "(IIJ)Z"⟩ prog_9_method_11_code 6 (some .boolean) 0 (fun ad => [.ref (ad v0), .int (iI p1), .int (iI p2), .long p3]) s0 (po_I dscC (fun r z => (r = 0 ∨ r = 1) ∧ z = s0 ∧ Q r)) := by
  refine met_of (by decide) (fun _ => Nat.le_of_ble_eq_true rfl) (fun X E hR => ?_)
  replace E : EV dscC X prog_9_method_11_code "BellSchool$Valley" 6 0 := E
  show VV dscC X 0 [(0, .ref (adX X v0)), (1, .int (iI p1)), (2, .int (iI p2)), (3, .long p3)] [] s0
  unfold wp_Valley_canBeGone at h
  refine v_iloadn E d_Valley_canBeGone_0 rfl 2 rfl ?_
  refine v_aloadn E d_Valley_canBeGone_1 rfl 0 rfl ?_
  refine v_getO E cf7 hv0 3 (by decide) rfl mw20 d_Valley_canBeGone_2 rfl ?_
  refine v_iloadn E d_Valley_canBeGone_5 rfl 1 rfl ?_
  obtain ⟨q1, h⟩ := h
  refine v_iald E (dC_o7_4 hv0) (by decide) q1.1 q1.2 d_Valley_canBeGone_6 ?_
  refine v_wt (fun wt1 => ?_)
  refine v_icmp_lt E 24 d_Valley_canBeGone_7 (by decide) hp2 (wt1 (v0 + 4) p1) (fun c1 => ?_) (fun c1 => ?_)
  · replace h := h.1 c1
    refine v_iconst E d_Valley_canBeGone_24 ?_
    refine v_istore E d_Valley_canBeGone_25 (by decide) (L' := [(5, .int (iI 0)), (0, .ref (adX X v0)), (1, .int (iI p1)), (2, .int (iI p2)), (3, .long p3)]) rfl ?_
    refine v_aloadn E d_Valley_canBeGone_27 rfl 1 rfl ?_
    refine v_getO E cf7 hv0 2 (by decide) rfl mw19 d_Valley_canBeGone_28 rfl ?_
    refine v_iloadn E d_Valley_canBeGone_31 rfl 2 rfl ?_
    refine v_iald E (dC_o7_3 hv0) (by decide) q1.1 q1.2 d_Valley_canBeGone_32 ?_
    refine v_if_le E 55 d_Valley_canBeGone_33 (by decide) (wt1 (v0 + 3) p1) (fun c2 => ?_) (fun c2 => ?_)
    · replace h := h.1 c2
      refine v_iconst E d_Valley_canBeGone_55 ?_
      exact v_iret E hR (nar_Z (by decide)) (Rng_Z (by decide)) ⟨(by decide), rfl, h⟩ d_Valley_canBeGone_56
    · replace h := h.2 c2
      refine v_iload E d_Valley_canBeGone_36 0 rfl ?_
      refine v_if_ne E 55 d_Valley_canBeGone_38 (by decide) (by decide) (fun hc => absurd hc (by decide)) (fun _ => ?_)
      refine v_lloadn E d_Valley_canBeGone_41 rfl 4 rfl ?_
      refine v_iloadn E d_Valley_canBeGone_42 rfl 2 rfl ?_
      refine v_lshr E d_Valley_canBeGone_43 ?_
      refine v_lconst E (1 : Int64) rfl d_Valley_canBeGone_44 ?_
      refine v_land E d_Valley_canBeGone_45 ?_
      refine v_lconst E (0 : Int64) rfl d_Valley_canBeGone_46 ?_
      refine v_lcmp_ne E 55 d_Valley_canBeGone_47 d_Valley_canBeGone_48 (by decide) (fun c3 => ?_) (fun c3 => ?_)
      · replace h := h.1 c3
        refine v_iconst E d_Valley_canBeGone_55 ?_
        exact v_iret E hR (nar_Z (by decide)) (Rng_Z (by decide)) ⟨(by decide), rfl, h⟩ d_Valley_canBeGone_56
      · replace h := h.2 c3
        refine v_iconst E d_Valley_canBeGone_51 ?_
        refine v_goto E 56 d_Valley_canBeGone_52 (by decide) ?_
        exact v_iret E hR (nar_Z (by decide)) (Rng_Z (by decide)) ⟨(by decide), rfl, h⟩ d_Valley_canBeGone_56
  · replace h := h.2 c1
    refine v_iloadn E d_Valley_canBeGone_10 rfl 2 rfl ?_
    refine v_aloadn E d_Valley_canBeGone_11 rfl 0 rfl ?_
    refine v_getO E cf7 hv0 4 (by decide) rfl mw21 d_Valley_canBeGone_12 rfl ?_
    refine v_iloadn E d_Valley_canBeGone_15 rfl 1 rfl ?_
    refine v_iald E (dC_o7_5 hv0) (by decide) q1.1 q1.2 d_Valley_canBeGone_16 ?_
    refine v_icmp_gt E 24 d_Valley_canBeGone_17 (by decide) hp2 (wt1 (v0 + 5) p1) (fun c4 => ?_) (fun c4 => ?_)
    · replace h := h.1 c4
      refine v_iconst E d_Valley_canBeGone_24 ?_
      refine v_istore E d_Valley_canBeGone_25 (by decide) (L' := [(5, .int (iI 0)), (0, .ref (adX X v0)), (1, .int (iI p1)), (2, .int (iI p2)), (3, .long p3)]) rfl ?_
      refine v_aloadn E d_Valley_canBeGone_27 rfl 1 rfl ?_
      refine v_getO E cf7 hv0 2 (by decide) rfl mw19 d_Valley_canBeGone_28 rfl ?_
      refine v_iloadn E d_Valley_canBeGone_31 rfl 2 rfl ?_
      refine v_iald E (dC_o7_3 hv0) (by decide) q1.1 q1.2 d_Valley_canBeGone_32 ?_
      refine v_if_le E 55 d_Valley_canBeGone_33 (by decide) (wt1 (v0 + 3) p1) (fun c5 => ?_) (fun c5 => ?_)
      · replace h := h.1 c5
        refine v_iconst E d_Valley_canBeGone_55 ?_
        exact v_iret E hR (nar_Z (by decide)) (Rng_Z (by decide)) ⟨(by decide), rfl, h⟩ d_Valley_canBeGone_56
      · replace h := h.2 c5
        refine v_iload E d_Valley_canBeGone_36 0 rfl ?_
        refine v_if_ne E 55 d_Valley_canBeGone_38 (by decide) (by decide) (fun hc => absurd hc (by decide)) (fun _ => ?_)
        refine v_lloadn E d_Valley_canBeGone_41 rfl 4 rfl ?_
        refine v_iloadn E d_Valley_canBeGone_42 rfl 2 rfl ?_
        refine v_lshr E d_Valley_canBeGone_43 ?_
        refine v_lconst E (1 : Int64) rfl d_Valley_canBeGone_44 ?_
        refine v_land E d_Valley_canBeGone_45 ?_
        refine v_lconst E (0 : Int64) rfl d_Valley_canBeGone_46 ?_
        refine v_lcmp_ne E 55 d_Valley_canBeGone_47 d_Valley_canBeGone_48 (by decide) (fun c6 => ?_) (fun c6 => ?_)
        · replace h := h.1 c6
          refine v_iconst E d_Valley_canBeGone_55 ?_
          exact v_iret E hR (nar_Z (by decide)) (Rng_Z (by decide)) ⟨(by decide), rfl, h⟩ d_Valley_canBeGone_56
        · replace h := h.2 c6
          refine v_iconst E d_Valley_canBeGone_51 ?_
          refine v_goto E 56 d_Valley_canBeGone_52 (by decide) ?_
          exact v_iret E hR (nar_Z (by decide)) (Rng_Z (by decide)) ⟨(by decide), rfl, h⟩ d_Valley_canBeGone_56
    · replace h := h.2 c4
      refine v_iconst E d_Valley_canBeGone_20 ?_
      refine v_goto E 25 d_Valley_canBeGone_21 (by decide) ?_
      refine v_istore E d_Valley_canBeGone_25 (by decide) (L' := [(5, .int (iI 1)), (0, .ref (adX X v0)), (1, .int (iI p1)), (2, .int (iI p2)), (3, .long p3)]) rfl ?_
      refine v_aloadn E d_Valley_canBeGone_27 rfl 1 rfl ?_
      refine v_getO E cf7 hv0 2 (by decide) rfl mw19 d_Valley_canBeGone_28 rfl ?_
      refine v_iloadn E d_Valley_canBeGone_31 rfl 2 rfl ?_
      refine v_iald E (dC_o7_3 hv0) (by decide) q1.1 q1.2 d_Valley_canBeGone_32 ?_
      refine v_if_le E 55 d_Valley_canBeGone_33 (by decide) (wt1 (v0 + 3) p1) (fun c7 => ?_) (fun c7 => ?_)
      · replace h := h.1 c7
        refine v_iconst E d_Valley_canBeGone_55 ?_
        exact v_iret E hR (nar_Z (by decide)) (Rng_Z (by decide)) ⟨(by decide), rfl, h⟩ d_Valley_canBeGone_56
      · replace h := h.2 c7
        refine v_iload E d_Valley_canBeGone_36 0 rfl ?_
        refine v_if_ne E 55 d_Valley_canBeGone_38 (by decide) (by decide) (fun _ => ?_) (fun hc => absurd hc (by decide))
        refine v_iconst E d_Valley_canBeGone_55 ?_
        exact v_iret E hR (nar_Z (by decide)) (Rng_Z (by decide)) ⟨(by decide), rfl, h⟩ d_Valley_canBeGone_56
theorem d_B_way_0 : decode prog_1_method_7_code 0 = .ok (.aload_n 0, 1) := by decide +kernel
theorem d_B_way_1 : decode prog_1_method_7_code 1 = .ok (.getfield 10, 3) := by decide +kernel
theorem d_B_way_4 : decode prog_1_method_7_code 4 = .ok (.iload_n 1, 1) := by decide +kernel
theorem d_B_way_5 : decode prog_1_method_7_code 5 = .ok (.iload_n 2, 1) := by decide +kernel
theorem d_B_way_6 : decode prog_1_method_7_code 6 = .ok (.invokevirtual 143, 3) := by decide +kernel
theorem d_B_way_9 : decode prog_1_method_7_code 9 = .ok (.ifCond .eq 12, 3) := by decide +kernel
theorem d_B_way_12 : decode prog_1_method_7_code 12 = .ok (.iload_n 3, 1) := by decide +kernel
theorem d_B_way_13 : decode prog_1_method_7_code 13 = .ok (.ifCond .lt 8, 3) := by decide +kernel
theorem d_B_way_16 : decode prog_1_method_7_code 16 = .ok (.iload_n 3, 1) := by decide +kernel
theorem d_B_way_17 : decode prog_1_method_7_code 17 = .ok (.iconst 1, 1) := by decide +kernel
theorem d_B_way_18 : decode prog_1_method_7_code 18 = .ok (.if_icmp .le 5, 3) := by decide +kernel
theorem d_B_way_21 : decode prog_1_method_7_code 21 = .ok (.iconst (-1), 1) := by decide +kernel
theorem d_B_way_22 : decode prog_1_method_7_code 22 = .ok (.ireturn, 1) := by decide +kernel
theorem d_B_way_23 : decode prog_1_method_7_code 23 = .ok (.iload_n 1, 1) := by decide +kernel
theorem d_B_way_24 : decode prog_1_method_7_code 24 = .ok (.iload_n 2, 1) := by decide +kernel
theorem d_B_way_25 : decode prog_1_method_7_code 25 = .ok (.invokestatic 147, 3) := by decide +kernel
theorem d_B_way_28 : decode prog_1_method_7_code 28 = .ok (.istore 4, 2) := by decide +kernel
theorem d_B_way_30 : decode prog_1_method_7_code 30 = .ok (.aload_n 0, 1) := by decide +kernel
theorem d_B_way_31 : decode prog_1_method_7_code 31 = .ok (.getfield 10, 3) := by decide +kernel
theorem d_B_way_34 : decode prog_1_method_7_code 34 = .ok (.getfield 151, 3) := by decide +kernel
theorem d_B_way_37 : decode prog_1_method_7_code 37 = .ok (.iload 4, 2) := by decide +kernel
theorem d_B_way_39 : decode prog_1_method_7_code 39 = .ok (.iaload, 1) := by decide +kernel
theorem d_B_way_40 : decode prog_1_method_7_code 40 = .ok (.ifCond .ne 6, 3) := by decide +kernel
theorem d_B_way_43 : decode prog_1_method_7_code 43 = .ok (.bipush (-4), 2) := by decide +kernel
theorem d_B_way_45 : decode prog_1_method_7_code 45 = .ok (.ireturn, 1) := by decide +kernel
theorem d_B_way_46 : decode prog_1_method_7_code 46 = .ok (.iload_n 3, 1) := by decide +kernel
theorem d_B_way_47 : decode prog_1_method_7_code 47 = .ok (.ifCond .ne 14, 3) := by decide +kernel
theorem d_B_way_50 : decode prog_1_method_7_code 50 = .ok (.aload_n 0, 1) := by decide +kernel
theorem d_B_way_51 : decode prog_1_method_7_code 51 = .ok (.getfield 10, 3) := by decide +kernel
theorem d_B_way_54 : decode prog_1_method_7_code 54 = .ok (.getfield 151, 3) := by decide +kernel
theorem d_B_way_57 : decode prog_1_method_7_code 57 = .ok (.iload 4, 2) := by decide +kernel
theorem d_B_way_59 : decode prog_1_method_7_code 59 = .ok (.iaload, 1) := by decide +kernel
theorem d_B_way_60 : decode prog_1_method_7_code 60 = .ok (.ireturn, 1) := by decide +kernel
theorem d_B_way_61 : decode prog_1_method_7_code 61 = .ok (.aload_n 0, 1) := by decide +kernel
theorem d_B_way_62 : decode prog_1_method_7_code 62 = .ok (.getfield 10, 3) := by decide +kernel
theorem d_B_way_65 : decode prog_1_method_7_code 65 = .ok (.iload 4, 2) := by decide +kernel
theorem d_B_way_67 : decode prog_1_method_7_code 67 = .ok (.aload_n 0, 1) := by decide +kernel
theorem d_B_way_68 : decode prog_1_method_7_code 68 = .ok (.getfield 45, 3) := by decide +kernel
theorem d_B_way_71 : decode prog_1_method_7_code 71 = .ok (.getfield 154, 3) := by decide +kernel
theorem d_B_way_74 : decode prog_1_method_7_code 74 = .ok (.bipush 28, 2) := by decide +kernel
theorem d_B_way_76 : decode prog_1_method_7_code 76 = .ok (.irem, 1) := by decide +kernel
theorem d_B_way_77 : decode prog_1_method_7_code 77 = .ok (.aload_n 0, 1) := by decide +kernel
theorem d_B_way_78 : decode prog_1_method_7_code 78 = .ok (.getfield 45, 3) := by decide +kernel
theorem d_B_way_81 : decode prog_1_method_7_code 81 = .ok (.getfield 157, 3) := by decide +kernel
theorem d_B_way_84 : decode prog_1_method_7_code 84 = .ok (.invokevirtual 161, 3) := by decide +kernel
theorem d_B_way_87 : decode prog_1_method_7_code 87 = .ok (.ifCond .eq 7, 3) := by decide +kernel
theorem d_B_way_90 : decode prog_1_method_7_code 90 = .ok (.iconst 1, 1) := by decide +kernel
theorem d_B_way_91 : decode prog_1_method_7_code 91 = .ok (.goto 4, 3) := by decide +kernel
theorem d_B_way_94 : decode prog_1_method_7_code 94 = .ok (.iconst 0, 1) := by decide +kernel
theorem d_B_way_95 : decode prog_1_method_7_code 95 = .ok (.ireturn, 1) := by decide +kernel
set_option maxHeartbeats 4000000 in
set_option maxRecDepth 20000 in
theorem c_B_way (p1 : Int) (hp1 : Rng p1) (p2 : Int) (hp2 : Rng p2) (p3 : Int) (hp3 : Rng p3) (s0 : MS) (Q : Int → Prop) (h : wp_B_way p1 p2 p3 s0 Q) : MT dscC ⟨"BellSchool", "way", "(III)I"⟩ prog_1_method_7_code 5 (some .int) 2 (fun ad => [.ref (ad 0), .int (iI p1), .int (iI p2), .int (iI p3)]) s0 (po_I dscC (fun r z => z = s0 ∧ Q r)) := by
  refine met_of (by decide) (fun _ => Nat.le_of_ble_eq_true rfl) (fun X E hR => ?_)
  replace E : EV dscC X prog_1_method_7_code "BellSchool" 5 2 := E
  show VV dscC X 0 [(0, .ref (adX X 0)), (1, .int (iI p1)), (2, .int (iI p2)), (3, .int (iI p3))] [] s0
  unfold wp_B_way at h
  refine v_aloadn E d_B_way_0 rfl 0 rfl ?_
  refine v_getR E cf8 dC_0 0 (by decide) rfl mw118 d_B_way_1 rfl (fun hv1 => ?_)
  refine v_iloadn E d_B_way_4 rfl 1 rfl ?_
  refine v_iloadn E d_B_way_5 rfl 2 rfl ?_
  refine v_callVIpz E md_Valley_hasTwo (c_Valley_hasTwo (gR s0 0 0) hv1 p1 hp1 p2 hp2 s0 _ h) hv1 rfl ⟨by decide, by decide⟩ mw150 d_B_way_6 (fun _ => rfl) (st := []) rfl (Nat.le_of_ble_eq_true rfl) (fun r1 hr1 hz1 h => ?_)
  refine v_if_eq E 21 d_B_way_9 (by decide) hr1 (fun c1 => ?_) (fun c1 => ?_)
  · replace h := h.1 c1
    refine v_iconst E d_B_way_21 ?_
    exact v_iret E hR rfl (by decide) ⟨rfl, h⟩ d_B_way_22
  · replace h := h.2 c1
    refine v_iloadn E d_B_way_12 rfl 3 rfl ?_
    refine v_if_lt E 21 d_B_way_13 (by decide) hp3 (fun c2 => ?_) (fun c2 => ?_)
    · replace h := h.1 c2
      refine v_iconst E d_B_way_21 ?_
      exact v_iret E hR rfl (by decide) ⟨rfl, h⟩ d_B_way_22
    · replace h := h.2 c2
      refine v_iloadn E d_B_way_16 rfl 3 rfl ?_
      refine v_iconst E d_B_way_17 ?_
      refine v_icmp_le E 23 d_B_way_18 (by decide) hp3 (by decide) (fun c3 => ?_) (fun c3 => ?_)
      · replace h := h.1 c3
        refine v_iloadn E d_B_way_23 rfl 1 rfl ?_
        refine v_iloadn E d_B_way_24 rfl 2 rfl ?_
        refine v_callSIp E md_B_pairOf (c_B_pairOf dscC p1 hp1 p2 hp2 s0 _ h) ⟨by decide, by decide⟩ mw151 d_B_way_25 (fun _ => rfl) (st := []) rfl (Nat.le_of_ble_eq_true rfl) (fun r2 hr2 h => ?_)
        refine v_istore E d_B_way_28 (by decide) (L' := [(4, .int (iI r2)), (0, .ref (adX X 0)), (1, .int (iI p1)), (2, .int (iI p2)), (3, .int (iI p3))]) rfl ?_
        refine v_aloadn E d_B_way_30 rfl 1 rfl ?_
        refine v_getR E cf8 dC_0 0 (by decide) rfl mw118 d_B_way_31 rfl (fun hv2 => ?_)
        refine v_getO E cf7 hv2 2 (by decide) rfl mw152 d_B_way_34 rfl ?_
        refine v_iload E d_B_way_37 0 rfl ?_
        obtain ⟨q1, h⟩ := h
        refine v_iald E (dC_o7_3 hv2) (by decide) q1.1 q1.2 d_B_way_39 ?_
        refine v_wt (fun wt1 => ?_)
        refine v_if_ne E 46 d_B_way_40 (by decide) (wt1 ((gR s0 0 0) + 3) r2) (fun c4 => ?_) (fun c4 => ?_)
        · replace h := h.1 c4
          refine v_iloadn E d_B_way_46 rfl 4 rfl ?_
          refine v_if_ne E 61 d_B_way_47 (by decide) hp3 (fun c5 => ?_) (fun c5 => ?_)
          · replace h := h.1 c5
            refine v_aloadn E d_B_way_61 rfl 1 rfl ?_
            refine v_getR E cf8 dC_0 0 (by decide) rfl mw118 d_B_way_62 rfl (fun hv3 => ?_)
            refine v_iload E d_B_way_65 0 rfl ?_
            refine v_aloadn E d_B_way_67 rfl 1 rfl ?_
            refine v_getA E cf8 dC_0 5 (by decide) rfl mw123 d_B_way_68 rfl ?_
            refine v_getI E cf5 dC_36 1 (by decide) rfl mw153 d_B_way_71 rfl ?_
            refine v_bipush E d_B_way_74 rfl ?_
            obtain ⟨q2, h⟩ := h
            refine v_irem E d_B_way_76 q2 (by decide) ?_
            refine v_aloadn E d_B_way_77 rfl 1 rfl ?_
            refine v_getA E cf8 dC_0 5 (by decide) rfl mw123 d_B_way_78 rfl ?_
            refine v_getL E cf5 dC_36 6 (by decide) rfl mw154 d_B_way_81 rfl ?_
            refine v_callVIpz E md_Valley_canBeGone (c_Valley_canBeGone (gR s0 0 0) hv3 r2 hr2 ((gI s0 36 1) % 28) (Rng_rm q2 (by decide)) (gL s0 36 6) s0 _ h) hv3 rfl ⟨by decide, by decide⟩ mw155 d_B_way_84 (fun _ => rfl) (st := []) rfl (Nat.le_of_ble_eq_true rfl) (fun r3 hr3 hz3 h => ?_)
            refine v_if_eq E 94 d_B_way_87 (by decide) hr3 (fun c6 => ?_) (fun c6 => ?_)
            · replace h := h.1 c6
              refine v_iconst E d_B_way_94 ?_
              exact v_iret E hR rfl (by decide) ⟨rfl, h⟩ d_B_way_95
            · replace h := h.2 c6
              refine v_iconst E d_B_way_90 ?_
              refine v_goto E 95 d_B_way_91 (by decide) ?_
              exact v_iret E hR rfl (by decide) ⟨rfl, h⟩ d_B_way_95
          · replace h := h.2 c5
            refine v_aloadn E d_B_way_50 rfl 1 rfl ?_
            refine v_getR E cf8 dC_0 0 (by decide) rfl mw118 d_B_way_51 rfl (fun hv4 => ?_)
            refine v_getO E cf7 hv4 2 (by decide) rfl mw152 d_B_way_54 rfl ?_
            refine v_iload E d_B_way_57 0 rfl ?_
            refine v_iald E (dC_o7_3 hv4) (by decide) q1.1 q1.2 d_B_way_59 ?_
            exact v_iret E hR rfl (wt1 ((gR s0 0 0) + 3) r2) ⟨rfl, h⟩ d_B_way_60
        · replace h := h.2 c4
          refine v_bipush E d_B_way_43 rfl ?_
          exact v_iret E hR rfl (by decide) ⟨rfl, h⟩ d_B_way_45
      · replace h := h.2 c3
        refine v_iconst E d_B_way_21 ?_
        exact v_iret E hR rfl (by decide) ⟨rfl, h⟩ d_B_way_22
theorem d_Noon_shortenBy_0 : decode prog_3_method_6_code 0 = .ok (.aload_n 0, 1) := by decide +kernel
theorem d_Noon_shortenBy_1 : decode prog_3_method_6_code 1 = .ok (.getfield 9, 3) := by decide +kernel
theorem d_Noon_shortenBy_4 : decode prog_3_method_6_code 4 = .ok (.iload_n 3, 1) := by decide +kernel
theorem d_Noon_shortenBy_5 : decode prog_3_method_6_code 5 = .ok (.iload_n 2, 1) := by decide +kernel
theorem d_Noon_shortenBy_6 : decode prog_3_method_6_code 6 = .ok (.bipush 7, 2) := by decide +kernel
theorem d_Noon_shortenBy_8 : decode prog_3_method_6_code 8 = .ok (.imul, 1) := by decide +kernel
theorem d_Noon_shortenBy_9 : decode prog_3_method_6_code 9 = .ok (.iadd, 1) := by decide +kernel
theorem d_Noon_shortenBy_10 : decode prog_3_method_6_code 10 = .ok (.iload_n 1, 1) := by decide +kernel
theorem d_Noon_shortenBy_11 : decode prog_3_method_6_code 11 = .ok (.iadd, 1) := by decide +kernel
theorem d_Noon_shortenBy_12 : decode prog_3_method_6_code 12 = .ok (.iaload, 1) := by decide +kernel
theorem d_Noon_shortenBy_13 : decode prog_3_method_6_code 13 = .ok (.istore 4, 2) := by decide +kernel
theorem d_Noon_shortenBy_15 : decode prog_3_method_6_code 15 = .ok (.iconst 0, 1) := by decide +kernel
theorem d_Noon_shortenBy_16 : decode prog_3_method_6_code 16 = .ok (.istore 5, 2) := by decide +kernel
theorem d_Noon_shortenBy_18 : decode prog_3_method_6_code 18 = .ok (.iload 5, 2) := by decide +kernel
theorem d_Noon_shortenBy_20 : decode prog_3_method_6_code 20 = .ok (.aload_n 0, 1) := by decide +kernel
theorem d_Noon_shortenBy_21 : decode prog_3_method_6_code 21 = .ok (.getfield 29, 3) := by decide +kernel
theorem d_Noon_shortenBy_24 : decode prog_3_method_6_code 24 = .ok (.getfield 35, 3) := by decide +kernel
theorem d_Noon_shortenBy_27 : decode prog_3_method_6_code 27 = .ok (.if_icmp .ge 58, 3) := by decide +kernel
theorem d_Noon_shortenBy_30 : decode prog_3_method_6_code 30 = .ok (.iload 4, 2) := by decide +kernel
theorem d_Noon_shortenBy_32 : decode prog_3_method_6_code 32 = .ok (.aload_n 0, 1) := by decide +kernel
theorem d_Noon_shortenBy_33 : decode prog_3_method_6_code 33 = .ok (.getfield 9, 3) := by decide +kernel
theorem d_Noon_shortenBy_36 : decode prog_3_method_6_code 36 = .ok (.iload_n 3, 1) := by decide +kernel
theorem d_Noon_shortenBy_37 : decode prog_3_method_6_code 37 = .ok (.iload_n 1, 1) := by decide +kernel
theorem d_Noon_shortenBy_38 : decode prog_3_method_6_code 38 = .ok (.bipush 7, 2) := by decide +kernel
theorem d_Noon_shortenBy_40 : decode prog_3_method_6_code 40 = .ok (.imul, 1) := by decide +kernel
theorem d_Noon_shortenBy_41 : decode prog_3_method_6_code 41 = .ok (.iadd, 1) := by decide +kernel
theorem d_Noon_shortenBy_42 : decode prog_3_method_6_code 42 = .ok (.iload 5, 2) := by decide +kernel
theorem d_Noon_shortenBy_44 : decode prog_3_method_6_code 44 = .ok (.iadd, 1) := by decide +kernel
theorem d_Noon_shortenBy_45 : decode prog_3_method_6_code 45 = .ok (.iaload, 1) := by decide +kernel
theorem d_Noon_shortenBy_46 : decode prog_3_method_6_code 46 = .ok (.iadd, 1) := by decide +kernel
theorem d_Noon_shortenBy_47 : decode prog_3_method_6_code 47 = .ok (.istore 6, 2) := by decide +kernel
theorem d_Noon_shortenBy_49 : decode prog_3_method_6_code 49 = .ok (.iload_n 3, 1) := by decide +kernel
theorem d_Noon_shortenBy_50 : decode prog_3_method_6_code 50 = .ok (.iload_n 2, 1) := by decide +kernel
theorem d_Noon_shortenBy_51 : decode prog_3_method_6_code 51 = .ok (.bipush 7, 2) := by decide +kernel
theorem d_Noon_shortenBy_53 : decode prog_3_method_6_code 53 = .ok (.imul, 1) := by decide +kernel
theorem d_Noon_shortenBy_54 : decode prog_3_method_6_code 54 = .ok (.iadd, 1) := by decide +kernel
theorem d_Noon_shortenBy_55 : decode prog_3_method_6_code 55 = .ok (.iload 5, 2) := by decide +kernel
theorem d_Noon_shortenBy_57 : decode prog_3_method_6_code 57 = .ok (.iadd, 1) := by decide +kernel
theorem d_Noon_shortenBy_58 : decode prog_3_method_6_code 58 = .ok (.istore 7, 2) := by decide +kernel
theorem d_Noon_shortenBy_60 : decode prog_3_method_6_code 60 = .ok (.aload_n 0, 1) := by decide +kernel
theorem d_Noon_shortenBy_61 : decode prog_3_method_6_code 61 = .ok (.getfield 9, 3) := by decide +kernel
theorem d_Noon_shortenBy_64 : decode prog_3_method_6_code 64 = .ok (.iload 7, 2) := by decide +kernel
theorem d_Noon_shortenBy_66 : decode prog_3_method_6_code 66 = .ok (.aload_n 0, 1) := by decide +kernel
theorem d_Noon_shortenBy_67 : decode prog_3_method_6_code 67 = .ok (.getfield 9, 3) := by decide +kernel
theorem d_Noon_shortenBy_70 : decode prog_3_method_6_code 70 = .ok (.iload 7, 2) := by decide +kernel
theorem d_Noon_shortenBy_72 : decode prog_3_method_6_code 72 = .ok (.iaload, 1) := by decide +kernel
theorem d_Noon_shortenBy_73 : decode prog_3_method_6_code 73 = .ok (.iload 6, 2) := by decide +kernel
theorem d_Noon_shortenBy_75 : decode prog_3_method_6_code 75 = .ok (.invokestatic 60, 3) := by decide +kernel
theorem d_Noon_shortenBy_78 : decode prog_3_method_6_code 78 = .ok (.iastore, 1) := by decide +kernel
theorem d_Noon_shortenBy_79 : decode prog_3_method_6_code 79 = .ok (.iinc 5 1, 3) := by decide +kernel
theorem d_Noon_shortenBy_82 : decode prog_3_method_6_code 82 = .ok (.goto (-64), 3) := by decide +kernel
theorem d_Noon_shortenBy_85 : decode prog_3_method_6_code 85 = .ok (.return_, 1) := by decide +kernel
set_option maxHeartbeats 4000000 in
set_option maxRecDepth 20000 in
theorem c_Noon_shortenBy (p1 : Int) (hp1 : Rng p1) (p2 : Int) (hp2 : Rng p2) (p3 : Int) (hp3 : Rng p3) (s0 : MS) (Q : MS → Prop) (h : wp_Noon_shortenBy p1 p2 p3 s0 Q) : MT dscC ⟨"BellSchool$Noon", "shortenBy", "(III)V"⟩ prog_3_method_6_code 8 none 1 (fun ad => [.ref (ad 17), .int (iI p1), .int (iI p2), .int (iI p3)]) s0 (po_V dscC Q) := by
  refine met_of (by decide) (fun _ => Nat.le_of_ble_eq_true rfl) (fun X E hR => ?_)
  replace E : EV dscC X prog_3_method_6_code "BellSchool$Noon" 8 1 := E
  show VV dscC X 0 [(0, .ref (adX X 17)), (1, .int (iI p1)), (2, .int (iI p2)), (3, .int (iI p3))] [] s0
  unfold wp_Noon_shortenBy at h
  refine v_aloadn E d_Noon_shortenBy_0 rfl 0 rfl ?_
  refine v_getA E cf1 dC_17 0 (by decide) rfl mw159 d_Noon_shortenBy_1 rfl ?_
  refine v_iloadn E d_Noon_shortenBy_4 rfl 3 rfl ?_
  refine v_iloadn E d_Noon_shortenBy_5 rfl 2 rfl ?_
  refine v_bipush E d_Noon_shortenBy_6 rfl ?_
  refine v_imul E d_Noon_shortenBy_8 ?_
  refine v_iadd E d_Noon_shortenBy_9 ?_
  refine v_iloadn E d_Noon_shortenBy_10 rfl 1 rfl ?_
  refine v_iadd E d_Noon_shortenBy_11 ?_
  obtain ⟨q1, h⟩ := h
  refine v_iald E dC_18 (by decide) q1.1 q1.2 d_Noon_shortenBy_12 ?_
  refine v_istore E d_Noon_shortenBy_13 (by decide) (L' := [(4, .int (iI (gI s0 18 ((p3 + (p2 * 7)) + p1)))), (0, .ref (adX X 17)), (1, .int (iI p1)), (2, .int (iI p2)), (3, .int (iI p3))]) rfl ?_
  refine v_iconst E d_Noon_shortenBy_15 ?_
  refine v_istore E d_Noon_shortenBy_16 (by decide) (L' := [(5, .int (iI 0)), (4, .int (iI (gI s0 18 ((p3 + (p2 * 7)) + p1)))), (0, .ref (adX X 17)), (1, .int (iI p1)), (2, .int (iI p2)), (3, .int (iI p3))]) rfl ?_
  refine v_sub [2, 3, 4, 5, 1, 0] (L' := [(0, .ref (adX X 17)), (1, .int (iI p1)), (2, .int (iI p2)), (3, .int (iI p3)), (4, .int (iI (gI s0 18 ((p3 + (p2 * 7)) + p1)))), (5, .int (iI 0))]) rfl ?_
  obtain ⟨I1, μ1, h01, h⟩ := h
  refine v_loop1 (fun (x1 : Int) => [(0, .ref (adX X 17)), (1, .int (iI p1)), (2, .int (iI p2)), (3, .int (iI p3)), (4, .int (iI (gI s0 18 ((p3 + (p2 * 7)) + p1)))), (5, .int (iI x1))]) I1 μ1 (fun x1 s1 hI1 ih1 => ?_) 0 s0 h01
  replace h := h x1 s1 hI1
  refine v_iload E d_Noon_shortenBy_18 5 rfl ?_
  refine v_aloadn E d_Noon_shortenBy_20 rfl 0 rfl ?_
  refine v_getR E cf1 dC_17 2 (by decide) rfl mw98 d_Noon_shortenBy_21 rfl (fun hv1 => ?_)
  refine v_getI E cf7 hv1 5 (by decide) rfl mw160 d_Noon_shortenBy_24 rfl ?_
  obtain ⟨q2, h⟩ := h
  refine v_wt (fun wt1 => ?_)
  refine v_icmp_ge E 85 d_Noon_shortenBy_27 (by decide) q2 (wt1 (gR s1 17 2) 5) (fun c1 => ?_) (fun c1 => ?_)
  · replace h := h.1 c1
    exact v_vret E hR h d_Noon_shortenBy_85
  · replace h := h.2 c1
    refine v_iload E d_Noon_shortenBy_30 4 rfl ?_
    refine v_aloadn E d_Noon_shortenBy_32 rfl 0 rfl ?_
    refine v_getA E cf1 dC_17 0 (by decide) rfl mw159 d_Noon_shortenBy_33 rfl ?_
    refine v_iloadn E d_Noon_shortenBy_36 rfl 3 rfl ?_
    refine v_iloadn E d_Noon_shortenBy_37 rfl 1 rfl ?_
    refine v_bipush E d_Noon_shortenBy_38 rfl ?_
    refine v_imul E d_Noon_shortenBy_40 ?_
    refine v_iadd E d_Noon_shortenBy_41 ?_
    refine v_iload E d_Noon_shortenBy_42 5 rfl ?_
    refine v_iadd E d_Noon_shortenBy_44 ?_
    obtain ⟨q3, h⟩ := h
    refine v_iald E dC_18 (by decide) q3.1 q3.2 d_Noon_shortenBy_45 ?_
    refine v_iadd E d_Noon_shortenBy_46 ?_
    refine v_nameI (fun x2 hx2 => ?_)
    replace h := h x2 hx2
    refine v_istore E d_Noon_shortenBy_47 (by decide) (L' := [(6, .int (iI x2)), (0, .ref (adX X 17)), (1, .int (iI p1)), (2, .int (iI p2)), (3, .int (iI p3)), (4, .int (iI (gI s0 18 ((p3 + (p2 * 7)) + p1)))), (5, .int (iI x1))]) rfl ?_
    refine v_iloadn E d_Noon_shortenBy_49 rfl 4 rfl ?_
    refine v_iloadn E d_Noon_shortenBy_50 rfl 3 rfl ?_
    refine v_bipush E d_Noon_shortenBy_51 rfl ?_
    refine v_imul E d_Noon_shortenBy_53 ?_
    refine v_iadd E d_Noon_shortenBy_54 ?_
    refine v_iload E d_Noon_shortenBy_55 6 rfl ?_
    refine v_iadd E d_Noon_shortenBy_57 ?_
    refine v_nameI (fun x3 hx3 => ?_)
    replace h := h x3 hx3
    refine v_istore E d_Noon_shortenBy_58 (by decide) (L' := [(7, .int (iI x3)), (6, .int (iI x2)), (0, .ref (adX X 17)), (1, .int (iI p1)), (2, .int (iI p2)), (3, .int (iI p3)), (4, .int (iI (gI s0 18 ((p3 + (p2 * 7)) + p1)))), (5, .int (iI x1))]) rfl ?_
    refine v_aloadn E d_Noon_shortenBy_60 rfl 2 rfl ?_
    refine v_getA E cf1 dC_17 0 (by decide) rfl mw159 d_Noon_shortenBy_61 rfl ?_
    refine v_iload E d_Noon_shortenBy_64 0 rfl ?_
    refine v_aloadn E d_Noon_shortenBy_66 rfl 2 rfl ?_
    refine v_getA E cf1 dC_17 0 (by decide) rfl mw159 d_Noon_shortenBy_67 rfl ?_
    refine v_iload E d_Noon_shortenBy_70 0 rfl ?_
    obtain ⟨q4, h⟩ := h
    refine v_iald E dC_18 (by decide) q4.1 q4.2 d_Noon_shortenBy_72 ?_
    refine v_iload E d_Noon_shortenBy_73 1 rfl ?_
    obtain ⟨q5, h⟩ := h
    refine v_mmin E mw161 mw54 mw55 mw56 (wt1 18 x3) q5 d_Noon_shortenBy_75 (Nat.le_of_ble_eq_true rfl) (by decide) ?_
    refine v_iast E dC_18 (by decide) q4.1 q4.2 (Rng_min (wt1 18 x3) q5) d_Noon_shortenBy_78 ?_
    refine v_nameS (fun s2 hs2 => ?_)
    replace h := h s2 hs2
    refine v_iincN E d_Noon_shortenBy_79 7 rfl (by decide) (fun y => [(5, .int (iI y)), (7, .int (iI x3)), (6, .int (iI x2)), (0, .ref (adX X 17)), (1, .int (iI p1)), (2, .int (iI p2)), (3, .int (iI p3)), (4, .int (iI (gI s0 18 ((p3 + (p2 * 7)) + p1))))]) (fun _ => rfl) (fun x4 hx4 => ?_)
    replace h := h x4 hx4
    refine v_goto E 18 d_Noon_shortenBy_82 (by decide) ?_
    obtain ⟨hb, hm⟩ := h
    exact v_sub [3, 4, 5, 6, 7, 0] rfl (ih1 x4 s2 hb hm)
theorem d_Noon_readyFars_0 : decode prog_3_method_5_code 0 = .ok (.iload_n 1, 1) := by decide +kernel
theorem d_Noon_readyFars_1 : decode prog_3_method_5_code 1 = .ok (.bipush 28, 2) := by decide +kernel
theorem d_Noon_readyFars_3 : decode prog_3_method_5_code 3 = .ok (.irem, 1) := by decide +kernel
theorem d_Noon_readyFars_4 : decode prog_3_method_5_code 4 = .ok (.istore 4, 2) := by decide +kernel
theorem d_Noon_readyFars_6 : decode prog_3_method_5_code 6 = .ok (.iload 4, 2) := by decide +kernel
theorem d_Noon_readyFars_8 : decode prog_3_method_5_code 8 = .ok (.bipush 49, 2) := by decide +kernel
theorem d_Noon_readyFars_10 : decode prog_3_method_5_code 10 = .ok (.imul, 1) := by decide +kernel
theorem d_Noon_readyFars_11 : decode prog_3_method_5_code 11 = .ok (.istore 5, 2) := by decide +kernel
theorem d_Noon_readyFars_13 : decode prog_3_method_5_code 13 = .ok (.aload_n 0, 1) := by decide +kernel
theorem d_Noon_readyFars_14 : decode prog_3_method_5_code 14 = .ok (.getfield 15, 3) := by decide +kernel
theorem d_Noon_readyFars_17 : decode prog_3_method_5_code 17 = .ok (.iload 4, 2) := by decide +kernel
theorem d_Noon_readyFars_19 : decode prog_3_method_5_code 19 = .ok (.laload, 1) := by decide +kernel
theorem d_Noon_readyFars_20 : decode prog_3_method_5_code 20 = .ok (.lload_n 2, 1) := by decide +kernel
theorem d_Noon_readyFars_21 : decode prog_3_method_5_code 21 = .ok (.lcmp, 1) := by decide +kernel
theorem d_Noon_readyFars_22 : decode prog_3_method_5_code 22 = .ok (.ifCond .ne 6, 3) := by decide +kernel
theorem d_Noon_readyFars_25 : decode prog_3_method_5_code 25 = .ok (.iload 5, 2) := by decide +kernel
theorem d_Noon_readyFars_27 : decode prog_3_method_5_code 27 = .ok (.ireturn, 1) := by decide +kernel
theorem d_Noon_readyFars_28 : decode prog_3_method_5_code 28 = .ok (.iconst 0, 1) := by decide +kernel
theorem d_Noon_readyFars_29 : decode prog_3_method_5_code 29 = .ok (.istore 6, 2) := by decide +kernel
theorem d_Noon_readyFars_31 : decode prog_3_method_5_code 31 = .ok (.iload 6, 2) := by decide +kernel
theorem d_Noon_readyFars_33 : decode prog_3_method_5_code 33 = .ok (.aload_n 0, 1) := by decide +kernel
theorem d_Noon_readyFars_34 : decode prog_3_method_5_code 34 = .ok (.getfield 29, 3) := by decide +kernel
theorem d_Noon_readyFars_37 : decode prog_3_method_5_code 37 = .ok (.getfield 35, 3) := by decide +kernel
theorem d_Noon_readyFars_40 : decode prog_3_method_5_code 40 = .ok (.if_icmp .ge 100, 3) := by decide +kernel
theorem d_Noon_readyFars_43 : decode prog_3_method_5_code 43 = .ok (.iconst 0, 1) := by decide +kernel
theorem d_Noon_readyFars_44 : decode prog_3_method_5_code 44 = .ok (.istore 7, 2) := by decide +kernel
theorem d_Noon_readyFars_46 : decode prog_3_method_5_code 46 = .ok (.iload 7, 2) := by decide +kernel
theorem d_Noon_readyFars_48 : decode prog_3_method_5_code 48 = .ok (.aload_n 0, 1) := by decide +kernel
theorem d_Noon_readyFars_49 : decode prog_3_method_5_code 49 = .ok (.getfield 29, 3) := by decide +kernel
theorem d_Noon_readyFars_52 : decode prog_3_method_5_code 52 = .ok (.getfield 35, 3) := by decide +kernel
theorem d_Noon_readyFars_55 : decode prog_3_method_5_code 55 = .ok (.if_icmp .ge 79, 3) := by decide +kernel
theorem d_Noon_readyFars_58 : decode prog_3_method_5_code 58 = .ok (.iload 6, 2) := by decide +kernel
theorem d_Noon_readyFars_60 : decode prog_3_method_5_code 60 = .ok (.iload 7, 2) := by decide +kernel
theorem d_Noon_readyFars_62 : decode prog_3_method_5_code 62 = .ok (.invokestatic 45, 3) := by decide +kernel
theorem d_Noon_readyFars_65 : decode prog_3_method_5_code 65 = .ok (.istore 8, 2) := by decide +kernel
theorem d_Noon_readyFars_67 : decode prog_3_method_5_code 67 = .ok (.aload_n 0, 1) := by decide +kernel
theorem d_Noon_readyFars_68 : decode prog_3_method_5_code 68 = .ok (.getfield 29, 3) := by decide +kernel
theorem d_Noon_readyFars_71 : decode prog_3_method_5_code 71 = .ok (.iload 8, 2) := by decide +kernel
theorem d_Noon_readyFars_73 : decode prog_3_method_5_code 73 = .ok (.iload 4, 2) := by decide +kernel
theorem d_Noon_readyFars_75 : decode prog_3_method_5_code 75 = .ok (.lload_n 2, 1) := by decide +kernel
theorem d_Noon_readyFars_76 : decode prog_3_method_5_code 76 = .ok (.invokevirtual 49, 3) := by decide +kernel
theorem d_Noon_readyFars_79 : decode prog_3_method_5_code 79 = .ok (.ifCond .eq 16, 3) := by decide +kernel
theorem d_Noon_readyFars_82 : decode prog_3_method_5_code 82 = .ok (.aload_n 0, 1) := by decide +kernel
theorem d_Noon_readyFars_83 : decode prog_3_method_5_code 83 = .ok (.getfield 29, 3) := by decide +kernel
theorem d_Noon_readyFars_86 : decode prog_3_method_5_code 86 = .ok (.getfield 53, 3) := by decide +kernel
theorem d_Noon_readyFars_89 : decode prog_3_method_5_code 89 = .ok (.iload 8, 2) := by decide +kernel
theorem d_Noon_readyFars_91 : decode prog_3_method_5_code 91 = .ok (.iaload, 1) := by decide +kernel
theorem d_Noon_readyFars_92 : decode prog_3_method_5_code 92 = .ok (.goto 5, 3) := by decide +kernel
theorem d_Noon_readyFars_95 : decode prog_3_method_5_code 95 = .ok (.ldc 44, 2) := by decide +kernel
theorem d_Noon_readyFars_97 : decode prog_3_method_5_code 97 = .ok (.istore 9, 2) := by decide +kernel
theorem d_Noon_readyFars_99 : decode prog_3_method_5_code 99 = .ok (.aload_n 0, 1) := by decide +kernel
theorem d_Noon_readyFars_100 : decode prog_3_method_5_code 100 = .ok (.getfield 9, 3) := by decide +kernel
theorem d_Noon_readyFars_103 : decode prog_3_method_5_code 103 = .ok (.iload 5, 2) := by decide +kernel
theorem d_Noon_readyFars_105 : decode prog_3_method_5_code 105 = .ok (.iload 6, 2) := by decide +kernel
theorem d_Noon_readyFars_107 : decode prog_3_method_5_code 107 = .ok (.bipush 7, 2) := by decide +kernel
theorem d_Noon_readyFars_109 : decode prog_3_method_5_code 109 = .ok (.imul, 1) := by decide +kernel
theorem d_Noon_readyFars_110 : decode prog_3_method_5_code 110 = .ok (.iadd, 1) := by decide +kernel
theorem d_Noon_readyFars_111 : decode prog_3_method_5_code 111 = .ok (.iload 7, 2) := by decide +kernel
theorem d_Noon_readyFars_113 : decode prog_3_method_5_code 113 = .ok (.iadd, 1) := by decide +kernel
theorem d_Noon_readyFars_114 : decode prog_3_method_5_code 114 = .ok (.iload 6, 2) := by decide +kernel
theorem d_Noon_readyFars_116 : decode prog_3_method_5_code 116 = .ok (.iload 7, 2) := by decide +kernel
theorem d_Noon_readyFars_118 : decode prog_3_method_5_code 118 = .ok (.if_icmp .ne 7, 3) := by decide +kernel
theorem d_Noon_readyFars_121 : decode prog_3_method_5_code 121 = .ok (.iconst 0, 1) := by decide +kernel
theorem d_Noon_readyFars_122 : decode prog_3_method_5_code 122 = .ok (.goto 5, 3) := by decide +kernel
theorem d_Noon_readyFars_125 : decode prog_3_method_5_code 125 = .ok (.iload 9, 2) := by decide +kernel
theorem d_Noon_readyFars_127 : decode prog_3_method_5_code 127 = .ok (.iastore, 1) := by decide +kernel
theorem d_Noon_readyFars_128 : decode prog_3_method_5_code 128 = .ok (.iinc 7 1, 3) := by decide +kernel
theorem d_Noon_readyFars_131 : decode prog_3_method_5_code 131 = .ok (.goto (-85), 3) := by decide +kernel
theorem d_Noon_readyFars_134 : decode prog_3_method_5_code 134 = .ok (.iinc 6 1, 3) := by decide +kernel
theorem d_Noon_readyFars_137 : decode prog_3_method_5_code 137 = .ok (.goto (-106), 3) := by decide +kernel
theorem d_Noon_readyFars_140 : decode prog_3_method_5_code 140 = .ok (.iconst 0, 1) := by decide +kernel
theorem d_Noon_readyFars_141 : decode prog_3_method_5_code 141 = .ok (.istore 6, 2) := by decide +kernel
theorem d_Noon_readyFars_143 : decode prog_3_method_5_code 143 = .ok (.iload 6, 2) := by decide +kernel
theorem d_Noon_readyFars_145 : decode prog_3_method_5_code 145 = .ok (.aload_n 0, 1) := by decide +kernel
theorem d_Noon_readyFars_146 : decode prog_3_method_5_code 146 = .ok (.getfield 29, 3) := by decide +kernel
theorem d_Noon_readyFars_149 : decode prog_3_method_5_code 149 = .ok (.getfield 35, 3) := by decide +kernel
theorem d_Noon_readyFars_152 : decode prog_3_method_5_code 152 = .ok (.if_icmp .ge 40, 3) := by decide +kernel
theorem d_Noon_readyFars_155 : decode prog_3_method_5_code 155 = .ok (.iconst 0, 1) := by decide +kernel
theorem d_Noon_readyFars_156 : decode prog_3_method_5_code 156 = .ok (.istore 7, 2) := by decide +kernel
theorem d_Noon_readyFars_158 : decode prog_3_method_5_code 158 = .ok (.iload 7, 2) := by decide +kernel
theorem d_Noon_readyFars_160 : decode prog_3_method_5_code 160 = .ok (.aload_n 0, 1) := by decide +kernel
theorem d_Noon_readyFars_161 : decode prog_3_method_5_code 161 = .ok (.getfield 29, 3) := by decide +kernel
theorem d_Noon_readyFars_164 : decode prog_3_method_5_code 164 = .ok (.getfield 35, 3) := by decide +kernel
theorem d_Noon_readyFars_167 : decode prog_3_method_5_code 167 = .ok (.if_icmp .ge 19, 3) := by decide +kernel
theorem d_Noon_readyFars_170 : decode prog_3_method_5_code 170 = .ok (.aload_n 0, 1) := by decide +kernel
theorem d_Noon_readyFars_171 : decode prog_3_method_5_code 171 = .ok (.iload 6, 2) := by decide +kernel
theorem d_Noon_readyFars_173 : decode prog_3_method_5_code 173 = .ok (.iload 7, 2) := by decide +kernel
theorem d_Noon_readyFars_175 : decode prog_3_method_5_code 175 = .ok (.iload 5, 2) := by decide +kernel
theorem d_Noon_readyFars_177 : decode prog_3_method_5_code 177 = .ok (.invokevirtual 56, 3) := by decide +kernel
theorem d_Noon_readyFars_180 : decode prog_3_method_5_code 180 = .ok (.iinc 7 1, 3) := by decide +kernel
theorem d_Noon_readyFars_183 : decode prog_3_method_5_code 183 = .ok (.goto (-25), 3) := by decide +kernel
theorem d_Noon_readyFars_186 : decode prog_3_method_5_code 186 = .ok (.iinc 6 1, 3) := by decide +kernel
theorem d_Noon_readyFars_189 : decode prog_3_method_5_code 189 = .ok (.goto (-46), 3) := by decide +kernel
theorem d_Noon_readyFars_192 : decode prog_3_method_5_code 192 = .ok (.aload_n 0, 1) := by decide +kernel
theorem d_Noon_readyFars_193 : decode prog_3_method_5_code 193 = .ok (.getfield 15, 3) := by decide +kernel
theorem d_Noon_readyFars_196 : decode prog_3_method_5_code 196 = .ok (.iload 4, 2) := by decide +kernel
theorem d_Noon_readyFars_198 : decode prog_3_method_5_code 198 = .ok (.lload_n 2, 1) := by decide +kernel
theorem d_Noon_readyFars_199 : decode prog_3_method_5_code 199 = .ok (.lastore, 1) := by decide +kernel
theorem d_Noon_readyFars_200 : decode prog_3_method_5_code 200 = .ok (.iload 5, 2) := by decide +kernel
theorem d_Noon_readyFars_202 : decode prog_3_method_5_code 202 = .ok (.ireturn, 1) := by decide +kernel
set_option maxHeartbeats 4000000 in
set_option maxRecDepth 20000 in
theorem c_Noon_readyFars (p1 : Int) (hp1 : Rng p1) (p2 : Int64) (s0 : MS) (Q : Int → MS → Prop) (h : wp_Noon_readyFars p1 p2 s0 Q) : MT dscC ⟨"BellSchool$Noon", "readyFars", "(IJ)I"⟩ prog_3_method_5_code 10 (some .int) 2 (fun ad => [.ref (ad 17), .int (iI p1), .long p2]) s0 (po_I dscC Q) := by
  refine met_of (by decide) (fun _ => Nat.le_of_ble_eq_true rfl) (fun X E hR => ?_)
  replace E : EV dscC X prog_3_method_5_code "BellSchool$Noon" 10 2 := E
  show VV dscC X 0 [(0, .ref (adX X 17)), (1, .int (iI p1)), (2, .long p2)] [] s0
  unfold wp_Noon_readyFars at h
  refine v_iloadn E d_Noon_readyFars_0 rfl 1 rfl ?_
  refine v_bipush E d_Noon_readyFars_1 rfl ?_
  obtain ⟨q1, h⟩ := h
  refine v_irem E d_Noon_readyFars_3 q1 (by decide) ?_
  refine v_nameI (fun x1 hx1 => ?_)
  replace h := h x1 hx1
  refine v_istore E d_Noon_readyFars_4 (by decide) (L' := [(4, .int (iI x1)), (0, .ref (adX X 17)), (1, .int (iI p1)), (2, .long p2)]) rfl ?_
  refine v_iload E d_Noon_readyFars_6 0 rfl ?_
  refine v_bipush E d_Noon_readyFars_8 rfl ?_
  refine v_imul E d_Noon_readyFars_10 ?_
  refine v_nameI (fun x2 hx2 => ?_)
  replace h := h x2 hx2
  refine v_istore E d_Noon_readyFars_11 (by decide) (L' := [(5, .int (iI x2)), (4, .int (iI x1)), (0, .ref (adX X 17)), (1, .int (iI p1)), (2, .long p2)]) rfl ?_
  refine v_aloadn E d_Noon_readyFars_13 rfl 2 rfl ?_
  refine v_getA E cf1 dC_17 1 (by decide) rfl mw99 d_Noon_readyFars_14 rfl ?_
  refine v_iload E d_Noon_readyFars_17 1 rfl ?_
  obtain ⟨q2, h⟩ := h
  refine v_lald E dC_19 (by decide) q2.1 q2.2 d_Noon_readyFars_19 ?_
  refine v_lloadn E d_Noon_readyFars_20 rfl 4 rfl ?_
  refine v_lcmp_ne E 28 d_Noon_readyFars_21 d_Noon_readyFars_22 (by decide) (fun c1 => ?_) (fun c1 => ?_)
  · replace h := h.1 c1
    refine v_iconst E d_Noon_readyFars_28 ?_
    refine v_istore E d_Noon_readyFars_29 (by decide) (L' := [(6, .int (iI 0)), (5, .int (iI x2)), (4, .int (iI x1)), (0, .ref (adX X 17)), (1, .int (iI p1)), (2, .long p2)]) rfl ?_
    refine v_sub [3, 5, 2, 1, 0] (L' := [(0, .ref (adX X 17)), (2, .long p2), (4, .int (iI x1)), (5, .int (iI x2)), (6, .int (iI 0))]) rfl ?_
    obtain ⟨I1, μ1, h01, h⟩ := h
    refine v_loop1 (fun (x3 : Int) => [(0, .ref (adX X 17)), (2, .long p2), (4, .int (iI x1)), (5, .int (iI x2)), (6, .int (iI x3))]) I1 μ1 (fun x3 s1 hI1 ih1 => ?_) 0 s0 h01
    replace h := h x3 s1 hI1
    refine v_iload E d_Noon_readyFars_31 4 rfl ?_
    refine v_aloadn E d_Noon_readyFars_33 rfl 0 rfl ?_
    refine v_getR E cf1 dC_17 2 (by decide) rfl mw98 d_Noon_readyFars_34 rfl (fun hv1 => ?_)
    refine v_getI E cf7 hv1 5 (by decide) rfl mw160 d_Noon_readyFars_37 rfl ?_
    obtain ⟨q3, h⟩ := h
    refine v_wt (fun wt1 => ?_)
    refine v_icmp_ge E 140 d_Noon_readyFars_40 (by decide) q3 (wt1 (gR s1 17 2) 5) (fun c2 => ?_) (fun c2 => ?_)
    · replace h := h.1 c2
      refine v_iconst E d_Noon_readyFars_140 ?_
      refine v_istore E d_Noon_readyFars_141 (by decide) (L' := [(6, .int (iI 0)), (0, .ref (adX X 17)), (2, .long p2), (4, .int (iI x1)), (5, .int (iI x2))]) rfl ?_
      refine v_sub [1, 2, 3, 4, 0] (L' := [(0, .ref (adX X 17)), (2, .long p2), (4, .int (iI x1)), (5, .int (iI x2)), (6, .int (iI 0))]) rfl ?_
      obtain ⟨I2, μ2, h02, h⟩ := h
      refine v_loop1 (fun (x4 : Int) => [(0, .ref (adX X 17)), (2, .long p2), (4, .int (iI x1)), (5, .int (iI x2)), (6, .int (iI x4))]) I2 μ2 (fun x4 s2 hI2 ih2 => ?_) 0 s1 h02
      replace h := h x4 s2 hI2
      refine v_iload E d_Noon_readyFars_143 4 rfl ?_
      refine v_aloadn E d_Noon_readyFars_145 rfl 0 rfl ?_
      refine v_getR E cf1 dC_17 2 (by decide) rfl mw98 d_Noon_readyFars_146 rfl (fun hv2 => ?_)
      refine v_getI E cf7 hv2 5 (by decide) rfl mw160 d_Noon_readyFars_149 rfl ?_
      obtain ⟨q4, h⟩ := h
      refine v_wt (fun wt2 => ?_)
      refine v_icmp_ge E 192 d_Noon_readyFars_152 (by decide) q4 (wt2 (gR s2 17 2) 5) (fun c3 => ?_) (fun c3 => ?_)
      · replace h := h.1 c3
        refine v_aloadn E d_Noon_readyFars_192 rfl 0 rfl ?_
        refine v_getA E cf1 dC_17 1 (by decide) rfl mw99 d_Noon_readyFars_193 rfl ?_
        refine v_iload E d_Noon_readyFars_196 2 rfl ?_
        refine v_lloadn E d_Noon_readyFars_198 rfl 1 rfl ?_
        refine v_last E dC_19 (by decide) q2.1 q2.2 d_Noon_readyFars_199 ?_
        refine v_nameS (fun s3 hs3 => ?_)
        replace h := h s3 hs3
        refine v_iload E d_Noon_readyFars_200 3 rfl ?_
        obtain ⟨q5, h⟩ := h
        exact v_iret E hR rfl q5 h d_Noon_readyFars_202
      · replace h := h.2 c3
        refine v_iconst E d_Noon_readyFars_155 ?_
        refine v_istore E d_Noon_readyFars_156 (by decide) (L' := [(7, .int (iI 0)), (0, .ref (adX X 17)), (2, .long p2), (4, .int (iI x1)), (5, .int (iI x2)), (6, .int (iI x4))]) rfl ?_
        refine v_sub [1, 2, 3, 4, 5, 0] (L' := [(0, .ref (adX X 17)), (2, .long p2), (4, .int (iI x1)), (5, .int (iI x2)), (6, .int (iI x4)), (7, .int (iI 0))]) rfl ?_
        obtain ⟨I3, μ3, h03, h⟩ := h
        refine v_loop1 (fun (x5 : Int) => [(0, .ref (adX X 17)), (2, .long p2), (4, .int (iI x1)), (5, .int (iI x2)), (6, .int (iI x4)), (7, .int (iI x5))]) I3 μ3 (fun x5 s4 hI3 ih3 => ?_) 0 s2 h03
        replace h := h x5 s4 hI3
        refine v_iload E d_Noon_readyFars_158 5 rfl ?_
        refine v_aloadn E d_Noon_readyFars_160 rfl 0 rfl ?_
        refine v_getR E cf1 dC_17 2 (by decide) rfl mw98 d_Noon_readyFars_161 rfl (fun hv3 => ?_)
        refine v_getI E cf7 hv3 5 (by decide) rfl mw160 d_Noon_readyFars_164 rfl ?_
        obtain ⟨q6, h⟩ := h
        refine v_wt (fun wt3 => ?_)
        refine v_icmp_ge E 186 d_Noon_readyFars_167 (by decide) q6 (wt3 (gR s4 17 2) 5) (fun c4 => ?_) (fun c4 => ?_)
        · replace h := h.1 c4
          refine v_iincN E d_Noon_readyFars_186 4 rfl (by decide) (fun y => [(6, .int (iI y)), (0, .ref (adX X 17)), (2, .long p2), (4, .int (iI x1)), (5, .int (iI x2)), (7, .int (iI x5))]) (fun _ => rfl) (fun x6 hx6 => ?_)
          replace h := h x6 hx6
          refine v_goto E 143 d_Noon_readyFars_189 (by decide) ?_
          obtain ⟨hb, hm⟩ := h
          exact v_sub [1, 2, 3, 4, 0] rfl (ih2 x6 s4 hb hm)
        · replace h := h.2 c4
          refine v_aloadn E d_Noon_readyFars_170 rfl 0 rfl ?_
          refine v_iload E d_Noon_readyFars_171 4 rfl ?_
          refine v_iload E d_Noon_readyFars_173 5 rfl ?_
          refine v_iload E d_Noon_readyFars_175 3 rfl ?_
          obtain ⟨q7, h⟩ := h
          refine v_callVV E md_Noon_shortenBy (c_Noon_shortenBy x4 q4 x5 q6 x2 q7 s4 _ h) dC_17 rfl ⟨by decide, by decide⟩ mw165 d_Noon_readyFars_177 (fun _ => rfl) (st := []) rfl (Nat.le_of_ble_eq_true rfl) (fun s5 h => ?_)
          refine v_iincN E d_Noon_readyFars_180 5 rfl (by decide) (fun y => [(7, .int (iI y)), (0, .ref (adX X 17)), (2, .long p2), (4, .int (iI x1)), (5, .int (iI x2)), (6, .int (iI x4))]) (fun _ => rfl) (fun x7 hx7 => ?_)
          replace h := h x7 hx7
          refine v_goto E 158 d_Noon_readyFars_183 (by decide) ?_
          obtain ⟨hb, hm⟩ := h
          exact v_sub [1, 2, 3, 4, 5, 0] rfl (ih3 x7 s5 hb hm)
    · replace h := h.2 c2
      refine v_iconst E d_Noon_readyFars_43 ?_
      refine v_istore E d_Noon_readyFars_44 (by decide) (L' := [(7, .int (iI 0)), (0, .ref (adX X 17)), (2, .long p2), (4, .int (iI x1)), (5, .int (iI x2)), (6, .int (iI x3))]) rfl ?_
      refine v_sub [1, 2, 3, 4, 5, 0] (L' := [(0, .ref (adX X 17)), (2, .long p2), (4, .int (iI x1)), (5, .int (iI x2)), (6, .int (iI x3)), (7, .int (iI 0))]) rfl ?_
      obtain ⟨I4, μ4, h04, h⟩ := h
      refine v_loop1 (fun (x8 : Int) => [(0, .ref (adX X 17)), (2, .long p2), (4, .int (iI x1)), (5, .int (iI x2)), (6, .int (iI x3)), (7, .int (iI x8))]) I4 μ4 (fun x8 s6 hI4 ih4 => ?_) 0 s1 h04
      replace h := h x8 s6 hI4
      refine v_iload E d_Noon_readyFars_46 5 rfl ?_
      refine v_aloadn E d_Noon_readyFars_48 rfl 0 rfl ?_
      refine v_getR E cf1 dC_17 2 (by decide) rfl mw98 d_Noon_readyFars_49 rfl (fun hv4 => ?_)
      refine v_getI E cf7 hv4 5 (by decide) rfl mw160 d_Noon_readyFars_52 rfl ?_
      obtain ⟨q8, h⟩ := h
      refine v_wt (fun wt4 => ?_)
      refine v_icmp_ge E 134 d_Noon_readyFars_55 (by decide) q8 (wt4 (gR s6 17 2) 5) (fun c5 => ?_) (fun c5 => ?_)
      · replace h := h.1 c5
        refine v_iincN E d_Noon_readyFars_134 4 rfl (by decide) (fun y => [(6, .int (iI y)), (0, .ref (adX X 17)), (2, .long p2), (4, .int (iI x1)), (5, .int (iI x2)), (7, .int (iI x8))]) (fun _ => rfl) (fun x9 hx9 => ?_)
        replace h := h x9 hx9
        refine v_goto E 31 d_Noon_readyFars_137 (by decide) ?_
        obtain ⟨hb, hm⟩ := h
        exact v_sub [1, 2, 3, 4, 0] rfl (ih1 x9 s6 hb hm)
      · replace h := h.2 c5
        refine v_iload E d_Noon_readyFars_58 4 rfl ?_
        refine v_iload E d_Noon_readyFars_60 5 rfl ?_
        refine v_callNIp E md_B_pairOf (c_B_pairOf dscC x3 q3 x8 q8 s6 _ h) ⟨by decide, by decide⟩ E.2.2.2.2.2.2.2.2.1.2.1 d_Noon_readyFars_62 (fun _ => rfl) (st := []) rfl (Nat.le_of_ble_eq_true rfl) (fun r2 hr2 h => ?_)
        refine v_istore E d_Noon_readyFars_65 (by decide) (L' := [(8, .int (iI r2)), (0, .ref (adX X 17)), (2, .long p2), (4, .int (iI x1)), (5, .int (iI x2)), (6, .int (iI x3)), (7, .int (iI x8))]) rfl ?_
        refine v_aloadn E d_Noon_readyFars_67 rfl 1 rfl ?_
        refine v_getR E cf1 dC_17 2 (by decide) rfl mw98 d_Noon_readyFars_68 rfl (fun hv5 => ?_)
        refine v_iload E d_Noon_readyFars_71 0 rfl ?_
        refine v_iload E d_Noon_readyFars_73 3 rfl ?_
        refine v_lloadn E d_Noon_readyFars_75 rfl 2 rfl ?_
        refine v_callVIpz E md_Valley_canBeGone (c_Valley_canBeGone (gR s6 17 2) hv5 r2 hr2 x1 (by rw [hx1]; exact (Rng_rm q1 (by decide))) p2 s6 _ h) hv5 rfl ⟨by decide, by decide⟩ mw166 d_Noon_readyFars_76 (fun _ => rfl) (st := []) rfl (Nat.le_of_ble_eq_true rfl) (fun r3 hr3 hz3 h => ?_)
        refine v_if_eq E 95 d_Noon_readyFars_79 (by decide) hr3 (fun c6 => ?_) (fun c6 => ?_)
        · replace h := h.1 c6
          refine v_ldc E (n := 1000000) mw167 rfl d_Noon_readyFars_95 ?_
          refine v_istore E d_Noon_readyFars_97 (by decide) (L' := [(9, .int (iI 1000000)), (8, .int (iI r2)), (0, .ref (adX X 17)), (2, .long p2), (4, .int (iI x1)), (5, .int (iI x2)), (6, .int (iI x3)), (7, .int (iI x8))]) rfl ?_
          refine v_aloadn E d_Noon_readyFars_99 rfl 2 rfl ?_
          refine v_getA E cf1 dC_17 0 (by decide) rfl mw159 d_Noon_readyFars_100 rfl ?_
          refine v_iload E d_Noon_readyFars_103 5 rfl ?_
          refine v_iload E d_Noon_readyFars_105 6 rfl ?_
          refine v_bipush E d_Noon_readyFars_107 rfl ?_
          refine v_imul E d_Noon_readyFars_109 ?_
          refine v_iadd E d_Noon_readyFars_110 ?_
          refine v_iload E d_Noon_readyFars_111 7 rfl ?_
          refine v_iadd E d_Noon_readyFars_113 ?_
          refine v_iload E d_Noon_readyFars_114 6 rfl ?_
          refine v_iload E d_Noon_readyFars_116 7 rfl ?_
          refine v_icmp_ne E 125 d_Noon_readyFars_118 (by decide) q3 q8 (fun c7 => ?_) (fun c7 => ?_)
          · replace h := h.1 c7
            refine v_iload E d_Noon_readyFars_125 0 rfl ?_
            obtain ⟨q9, h⟩ := h
            refine v_iast E dC_18 (by decide) q9.1 q9.2 (by decide) d_Noon_readyFars_127 ?_
            refine v_nameS (fun s7 hs7 => ?_)
            replace h := h s7 hs7
            refine v_iincN E d_Noon_readyFars_128 7 rfl (by decide) (fun y => [(7, .int (iI y)), (9, .int (iI 1000000)), (8, .int (iI r2)), (0, .ref (adX X 17)), (2, .long p2), (4, .int (iI x1)), (5, .int (iI x2)), (6, .int (iI x3))]) (fun _ => rfl) (fun x10 hx10 => ?_)
            replace h := h x10 hx10
            refine v_goto E 46 d_Noon_readyFars_131 (by decide) ?_
            obtain ⟨hb, hm⟩ := h
            exact v_sub [3, 4, 5, 6, 7, 0] rfl (ih4 x10 s7 hb hm)
          · replace h := h.2 c7
            refine v_iconst E d_Noon_readyFars_121 ?_
            refine v_goto E 127 d_Noon_readyFars_122 (by decide) ?_
            obtain ⟨q10, h⟩ := h
            refine v_iast E dC_18 (by decide) q10.1 q10.2 (by decide) d_Noon_readyFars_127 ?_
            refine v_nameS (fun s8 hs8 => ?_)
            replace h := h s8 hs8
            refine v_iincN E d_Noon_readyFars_128 7 rfl (by decide) (fun y => [(7, .int (iI y)), (9, .int (iI 1000000)), (8, .int (iI r2)), (0, .ref (adX X 17)), (2, .long p2), (4, .int (iI x1)), (5, .int (iI x2)), (6, .int (iI x3))]) (fun _ => rfl) (fun x11 hx11 => ?_)
            replace h := h x11 hx11
            refine v_goto E 46 d_Noon_readyFars_131 (by decide) ?_
            obtain ⟨hb, hm⟩ := h
            exact v_sub [3, 4, 5, 6, 7, 0] rfl (ih4 x11 s8 hb hm)
        · replace h := h.2 c6
          refine v_aloadn E d_Noon_readyFars_82 rfl 1 rfl ?_
          refine v_getR E cf1 dC_17 2 (by decide) rfl mw98 d_Noon_readyFars_83 rfl (fun hv6 => ?_)
          refine v_getO E cf7 hv6 2 (by decide) rfl mw168 d_Noon_readyFars_86 rfl ?_
          refine v_iload E d_Noon_readyFars_89 0 rfl ?_
          obtain ⟨q11, h⟩ := h
          refine v_iald E (dC_o7_3 hv6) (by decide) q11.1 q11.2 d_Noon_readyFars_91 ?_
          refine v_goto E 97 d_Noon_readyFars_92 (by decide) ?_
          refine v_istore E d_Noon_readyFars_97 (by decide) (L' := [(9, .int (iI (gI s6 ((gR s6 17 2) + 3) r2))), (8, .int (iI r2)), (0, .ref (adX X 17)), (2, .long p2), (4, .int (iI x1)), (5, .int (iI x2)), (6, .int (iI x3)), (7, .int (iI x8))]) rfl ?_
          refine v_aloadn E d_Noon_readyFars_99 rfl 2 rfl ?_
          refine v_getA E cf1 dC_17 0 (by decide) rfl mw159 d_Noon_readyFars_100 rfl ?_
          refine v_iload E d_Noon_readyFars_103 5 rfl ?_
          refine v_iload E d_Noon_readyFars_105 6 rfl ?_
          refine v_bipush E d_Noon_readyFars_107 rfl ?_
          refine v_imul E d_Noon_readyFars_109 ?_
          refine v_iadd E d_Noon_readyFars_110 ?_
          refine v_iload E d_Noon_readyFars_111 7 rfl ?_
          refine v_iadd E d_Noon_readyFars_113 ?_
          refine v_iload E d_Noon_readyFars_114 6 rfl ?_
          refine v_iload E d_Noon_readyFars_116 7 rfl ?_
          refine v_icmp_ne E 125 d_Noon_readyFars_118 (by decide) q3 q8 (fun c8 => ?_) (fun c8 => ?_)
          · replace h := h.1 c8
            refine v_iload E d_Noon_readyFars_125 0 rfl ?_
            obtain ⟨q12, h⟩ := h
            refine v_iast E dC_18 (by decide) q12.1 q12.2 (wt4 ((gR s6 17 2) + 3) r2) d_Noon_readyFars_127 ?_
            refine v_nameS (fun s9 hs9 => ?_)
            replace h := h s9 hs9
            refine v_iincN E d_Noon_readyFars_128 7 rfl (by decide) (fun y => [(7, .int (iI y)), (9, .int (iI (gI s6 ((gR s6 17 2) + 3) r2))), (8, .int (iI r2)), (0, .ref (adX X 17)), (2, .long p2), (4, .int (iI x1)), (5, .int (iI x2)), (6, .int (iI x3))]) (fun _ => rfl) (fun x12 hx12 => ?_)
            replace h := h x12 hx12
            refine v_goto E 46 d_Noon_readyFars_131 (by decide) ?_
            obtain ⟨hb, hm⟩ := h
            exact v_sub [3, 4, 5, 6, 7, 0] rfl (ih4 x12 s9 hb hm)
          · replace h := h.2 c8
            refine v_iconst E d_Noon_readyFars_121 ?_
            refine v_goto E 127 d_Noon_readyFars_122 (by decide) ?_
            obtain ⟨q13, h⟩ := h
            refine v_iast E dC_18 (by decide) q13.1 q13.2 (by decide) d_Noon_readyFars_127 ?_
            refine v_nameS (fun s10 hs10 => ?_)
            replace h := h s10 hs10
            refine v_iincN E d_Noon_readyFars_128 7 rfl (by decide) (fun y => [(7, .int (iI y)), (9, .int (iI (gI s6 ((gR s6 17 2) + 3) r2))), (8, .int (iI r2)), (0, .ref (adX X 17)), (2, .long p2), (4, .int (iI x1)), (5, .int (iI x2)), (6, .int (iI x3))]) (fun _ => rfl) (fun x13 hx13 => ?_)
            replace h := h x13 hx13
            refine v_goto E 46 d_Noon_readyFars_131 (by decide) ?_
            obtain ⟨hb, hm⟩ := h
            exact v_sub [3, 4, 5, 6, 7, 0] rfl (ih4 x13 s10 hb hm)
  · replace h := h.2 c1
    refine v_iload E d_Noon_readyFars_25 0 rfl ?_
    obtain ⟨q14, h⟩ := h
    exact v_iret E hR rfl q14 h d_Noon_readyFars_27
theorem d_Noon_farOn_0 : decode prog_3_method_4_code 0 = .ok (.aload_n 0, 1) := by decide +kernel
theorem d_Noon_farOn_1 : decode prog_3_method_4_code 1 = .ok (.getfield 9, 3) := by decide +kernel
theorem d_Noon_farOn_4 : decode prog_3_method_4_code 4 = .ok (.aload_n 0, 1) := by decide +kernel
theorem d_Noon_farOn_5 : decode prog_3_method_4_code 5 = .ok (.iload_n 1, 1) := by decide +kernel
theorem d_Noon_farOn_6 : decode prog_3_method_4_code 6 = .ok (.lload_n 2, 1) := by decide +kernel
theorem d_Noon_farOn_7 : decode prog_3_method_4_code 7 = .ok (.invokevirtual 40, 3) := by decide +kernel
theorem d_Noon_farOn_10 : decode prog_3_method_4_code 10 = .ok (.iload 4, 2) := by decide +kernel
theorem d_Noon_farOn_12 : decode prog_3_method_4_code 12 = .ok (.bipush 7, 2) := by decide +kernel
theorem d_Noon_farOn_14 : decode prog_3_method_4_code 14 = .ok (.imul, 1) := by decide +kernel
theorem d_Noon_farOn_15 : decode prog_3_method_4_code 15 = .ok (.iadd, 1) := by decide +kernel
theorem d_Noon_farOn_16 : decode prog_3_method_4_code 16 = .ok (.iload 5, 2) := by decide +kernel
theorem d_Noon_farOn_18 : decode prog_3_method_4_code 18 = .ok (.iadd, 1) := by decide +kernel
theorem d_Noon_farOn_19 : decode prog_3_method_4_code 19 = .ok (.iaload, 1) := by decide +kernel
theorem d_Noon_farOn_20 : decode prog_3_method_4_code 20 = .ok (.istore 6, 2) := by decide +kernel
theorem d_Noon_farOn_22 : decode prog_3_method_4_code 22 = .ok (.iload 6, 2) := by decide +kernel
theorem d_Noon_farOn_24 : decode prog_3_method_4_code 24 = .ok (.ldc 44, 2) := by decide +kernel
theorem d_Noon_farOn_26 : decode prog_3_method_4_code 26 = .ok (.if_icmp .ge 8, 3) := by decide +kernel
theorem d_Noon_farOn_29 : decode prog_3_method_4_code 29 = .ok (.iload 6, 2) := by decide +kernel
theorem d_Noon_farOn_31 : decode prog_3_method_4_code 31 = .ok (.goto 5, 3) := by decide +kernel
theorem d_Noon_farOn_34 : decode prog_3_method_4_code 34 = .ok (.bipush (-4), 2) := by decide +kernel
theorem d_Noon_farOn_36 : decode prog_3_method_4_code 36 = .ok (.ireturn, 1) := by decide +kernel
set_option maxHeartbeats 4000000 in
set_option maxRecDepth 20000 in
theorem c_Noon_farOn (p1 : Int) (hp1 : Rng p1) (p2 : Int64) (p3 : Int) (hp3 : Rng p3) (p4 : Int) (hp4 : Rng p4) (s0 : MS) (Q : Int → MS → Prop) (h : wp_Noon_farOn p1 p2 p3 p4 s0 Q) : MT dscC ⟨"BellSchool$Noon", "farOn", "(IJII)I"⟩ prog_3_method_4_code 7 (some .int) 3 (fun ad => [.ref (ad 17), .int (iI p1), .long p2, .int (iI p3), .int (iI p4)]) s0 (po_I dscC Q) := by
  refine met_of (by decide) (fun _ => Nat.le_of_ble_eq_true rfl) (fun X E hR => ?_)
  replace E : EV dscC X prog_3_method_4_code "BellSchool$Noon" 7 3 := E
  show VV dscC X 0 [(0, .ref (adX X 17)), (1, .int (iI p1)), (2, .long p2), (4, .int (iI p3)), (5, .int (iI p4))] [] s0
  unfold wp_Noon_farOn at h
  refine v_aloadn E d_Noon_farOn_0 rfl 0 rfl ?_
  refine v_getA E cf1 dC_17 0 (by decide) rfl mw159 d_Noon_farOn_1 rfl ?_
  refine v_aloadn E d_Noon_farOn_4 rfl 0 rfl ?_
  refine v_iloadn E d_Noon_farOn_5 rfl 1 rfl ?_
  refine v_lloadn E d_Noon_farOn_6 rfl 2 rfl ?_
  refine v_callVI E md_Noon_readyFars (c_Noon_readyFars p1 hp1 p2 s0 _ h) dC_17 rfl ⟨by decide, by decide⟩ mw172 d_Noon_farOn_7 (fun _ => rfl) (st := [.ref (adX X 18)]) rfl (Nat.le_of_ble_eq_true rfl) (fun r1 s1 hr1 h => ?_)
  refine v_iload E d_Noon_farOn_10 3 rfl ?_
  refine v_bipush E d_Noon_farOn_12 rfl ?_
  refine v_imul E d_Noon_farOn_14 ?_
  refine v_iadd E d_Noon_farOn_15 ?_
  refine v_iload E d_Noon_farOn_16 4 rfl ?_
  refine v_iadd E d_Noon_farOn_18 ?_
  obtain ⟨q1, h⟩ := h
  refine v_iald E dC_18 (by decide) q1.1 q1.2 d_Noon_farOn_19 ?_
  refine v_istore E d_Noon_farOn_20 (by decide) (L' := [(6, .int (iI (gI s1 18 ((r1 + (p3 * 7)) + p4)))), (0, .ref (adX X 17)), (1, .int (iI p1)), (2, .long p2), (4, .int (iI p3)), (5, .int (iI p4))]) rfl ?_
  refine v_iload E d_Noon_farOn_22 0 rfl ?_
  refine v_ldc E (n := 1000000) mw167 rfl d_Noon_farOn_24 ?_
  refine v_wt (fun wt1 => ?_)
  refine v_icmp_ge E 34 d_Noon_farOn_26 (by decide) (wt1 18 ((r1 + (p3 * 7)) + p4)) (by decide) (fun c1 => ?_) (fun c1 => ?_)
  · replace h := h.1 c1
    refine v_bipush E d_Noon_farOn_34 rfl ?_
    exact v_iret E hR rfl (by decide) h d_Noon_farOn_36
  · replace h := h.2 c1
    refine v_iload E d_Noon_farOn_29 0 rfl ?_
    refine v_goto E 36 d_Noon_farOn_31 (by decide) ?_
    exact v_iret E hR rfl (wt1 18 ((r1 + (p3 * 7)) + p4)) h d_Noon_farOn_36
theorem d_B_far_0 : decode prog_1_method_8_code 0 = .ok (.aload_n 0, 1) := by decide +kernel
theorem d_B_far_1 : decode prog_1_method_8_code 1 = .ok (.getfield 10, 3) := by decide +kernel
theorem d_B_far_4 : decode prog_1_method_8_code 4 = .ok (.iload_n 1, 1) := by decide +kernel
theorem d_B_far_5 : decode prog_1_method_8_code 5 = .ok (.invokevirtual 118, 3) := by decide +kernel
theorem d_B_far_8 : decode prog_1_method_8_code 8 = .ok (.ifCond .eq 14, 3) := by decide +kernel
theorem d_B_far_11 : decode prog_1_method_8_code 11 = .ok (.aload_n 0, 1) := by decide +kernel
theorem d_B_far_12 : decode prog_1_method_8_code 12 = .ok (.getfield 10, 3) := by decide +kernel
theorem d_B_far_15 : decode prog_1_method_8_code 15 = .ok (.iload_n 2, 1) := by decide +kernel
theorem d_B_far_16 : decode prog_1_method_8_code 16 = .ok (.invokevirtual 118, 3) := by decide +kernel
theorem d_B_far_19 : decode prog_1_method_8_code 19 = .ok (.ifCond .ne 5, 3) := by decide +kernel
theorem d_B_far_22 : decode prog_1_method_8_code 22 = .ok (.iconst (-1), 1) := by decide +kernel
theorem d_B_far_23 : decode prog_1_method_8_code 23 = .ok (.ireturn, 1) := by decide +kernel
theorem d_B_far_24 : decode prog_1_method_8_code 24 = .ok (.aload_n 0, 1) := by decide +kernel
theorem d_B_far_25 : decode prog_1_method_8_code 25 = .ok (.getfield 38, 3) := by decide +kernel
theorem d_B_far_28 : decode prog_1_method_8_code 28 = .ok (.aload_n 0, 1) := by decide +kernel
theorem d_B_far_29 : decode prog_1_method_8_code 29 = .ok (.getfield 45, 3) := by decide +kernel
theorem d_B_far_32 : decode prog_1_method_8_code 32 = .ok (.getfield 154, 3) := by decide +kernel
theorem d_B_far_35 : decode prog_1_method_8_code 35 = .ok (.aload_n 0, 1) := by decide +kernel
theorem d_B_far_36 : decode prog_1_method_8_code 36 = .ok (.getfield 45, 3) := by decide +kernel
theorem d_B_far_39 : decode prog_1_method_8_code 39 = .ok (.getfield 157, 3) := by decide +kernel
theorem d_B_far_42 : decode prog_1_method_8_code 42 = .ok (.iload_n 1, 1) := by decide +kernel
theorem d_B_far_43 : decode prog_1_method_8_code 43 = .ok (.iload_n 2, 1) := by decide +kernel
theorem d_B_far_44 : decode prog_1_method_8_code 44 = .ok (.invokevirtual 165, 3) := by decide +kernel
theorem d_B_far_47 : decode prog_1_method_8_code 47 = .ok (.ireturn, 1) := by decide +kernel
set_option maxHeartbeats 4000000 in
set_option maxRecDepth 20000 in
theorem c_B_far (p1 : Int) (hp1 : Rng p1) (p2 : Int) (hp2 : Rng p2) (s0 : MS) (Q : Int → MS → Prop) (h : wp_B_far p1 p2 s0 Q) : MT dscC ⟨"BellSchool", "far", "(II)I"⟩ prog_1_method_8_code 3 (some .int) 4 (fun ad => [.ref (ad 0), .int (iI p1), .int (iI p2)]) s0 (po_I dscC Q) := by
  refine met_of (by decide) (fun _ => Nat.le_of_ble_eq_true rfl) (fun X E hR => ?_)
  replace E : EV dscC X prog_1_method_8_code "BellSchool" 3 4 := E
  show VV dscC X 0 [(0, .ref (adX X 0)), (1, .int (iI p1)), (2, .int (iI p2))] [] s0
  unfold wp_B_far at h
  refine v_aloadn E d_B_far_0 rfl 0 rfl ?_
  refine v_getR E cf8 dC_0 0 (by decide) rfl mw118 d_B_far_1 rfl (fun hv1 => ?_)
  refine v_iloadn E d_B_far_4 rfl 1 rfl ?_
  refine v_callVIpz E md_Valley_has (c_Valley_has (gR s0 0 0) hv1 p1 hp1 s0 _ h) hv1 rfl ⟨by decide, by decide⟩ mw117 d_B_far_5 (fun _ => rfl) (st := []) rfl (Nat.le_of_ble_eq_true rfl) (fun r1 hr1 hz1 h => ?_)
  refine v_if_eq E 22 d_B_far_8 (by decide) hr1 (fun c1 => ?_) (fun c1 => ?_)
  · replace h := h.1 c1
    refine v_iconst E d_B_far_22 ?_
    exact v_iret E hR rfl (by decide) h d_B_far_23
  · replace h := h.2 c1
    refine v_aloadn E d_B_far_11 rfl 0 rfl ?_
    refine v_getR E cf8 dC_0 0 (by decide) rfl mw118 d_B_far_12 rfl (fun hv2 => ?_)
    refine v_iloadn E d_B_far_15 rfl 2 rfl ?_
    refine v_callVIpz E md_Valley_has (c_Valley_has (gR s0 0 0) hv2 p2 hp2 s0 _ h) hv2 rfl ⟨by decide, by decide⟩ mw117 d_B_far_16 (fun _ => rfl) (st := []) rfl (Nat.le_of_ble_eq_true rfl) (fun r2 hr2 hz2 h => ?_)
    refine v_if_ne E 24 d_B_far_19 (by decide) hr2 (fun c2 => ?_) (fun c2 => ?_)
    · replace h := h.1 c2
      refine v_aloadn E d_B_far_24 rfl 0 rfl ?_
      refine v_getA E cf8 dC_0 4 (by decide) rfl mw119 d_B_far_25 rfl ?_
      refine v_aloadn E d_B_far_28 rfl 0 rfl ?_
      refine v_getA E cf8 dC_0 5 (by decide) rfl mw123 d_B_far_29 rfl ?_
      refine v_getI E cf5 dC_36 1 (by decide) rfl mw153 d_B_far_32 rfl ?_
      refine v_aloadn E d_B_far_35 rfl 0 rfl ?_
      refine v_getA E cf8 dC_0 5 (by decide) rfl mw123 d_B_far_36 rfl ?_
      refine v_getL E cf5 dC_36 6 (by decide) rfl mw154 d_B_far_39 rfl ?_
      refine v_iloadn E d_B_far_42 rfl 1 rfl ?_
      refine v_iloadn E d_B_far_43 rfl 2 rfl ?_
      refine v_wt (fun wt1 => ?_)
      refine v_callVI E md_Noon_farOn (c_Noon_farOn (gI s0 36 1) (wt1 36 1) (gL s0 36 6) p1 hp1 p2 hp2 s0 _ h) dC_17 rfl ⟨by decide, by decide⟩ mw176 d_B_far_44 (fun _ => rfl) (st := []) rfl (Nat.le_of_ble_eq_true rfl) (fun r3 s1 hr3 h => ?_)
      exact v_iret E hR rfl hr3 h d_B_far_47
    · replace h := h.2 c2
      refine v_iconst E d_B_far_22 ?_
      exact v_iret E hR rfl (by decide) h d_B_far_23
theorem d_Noon_walk_0 : decode prog_3_method_8_code 0 = .ok (.iload_n 1, 1) := by decide +kernel
theorem d_Noon_walk_1 : decode prog_3_method_8_code 1 = .ok (.iconst 1, 1) := by decide +kernel
theorem d_Noon_walk_2 : decode prog_3_method_8_code 2 = .ok (.if_icmp .ne 7, 3) := by decide +kernel
theorem d_Noon_walk_5 : decode prog_3_method_8_code 5 = .ok (.iload_n 0, 1) := by decide +kernel
theorem d_Noon_walk_6 : decode prog_3_method_8_code 6 = .ok (.iconst 2, 1) := by decide +kernel
theorem d_Noon_walk_7 : decode prog_3_method_8_code 7 = .ok (.imul, 1) := by decide +kernel
theorem d_Noon_walk_8 : decode prog_3_method_8_code 8 = .ok (.ireturn, 1) := by decide +kernel
theorem d_Noon_walk_9 : decode prog_3_method_8_code 9 = .ok (.iload_n 1, 1) := by decide +kernel
theorem d_Noon_walk_10 : decode prog_3_method_8_code 10 = .ok (.iconst 2, 1) := by decide +kernel
theorem d_Noon_walk_11 : decode prog_3_method_8_code 11 = .ok (.if_icmp .ne 11, 3) := by decide +kernel
theorem d_Noon_walk_14 : decode prog_3_method_8_code 14 = .ok (.iload_n 0, 1) := by decide +kernel
theorem d_Noon_walk_15 : decode prog_3_method_8_code 15 = .ok (.iconst 2, 1) := by decide +kernel
theorem d_Noon_walk_16 : decode prog_3_method_8_code 16 = .ok (.imul, 1) := by decide +kernel
theorem d_Noon_walk_17 : decode prog_3_method_8_code 17 = .ok (.iconst 3, 1) := by decide +kernel
theorem d_Noon_walk_18 : decode prog_3_method_8_code 18 = .ok (.idiv, 1) := by decide +kernel
theorem d_Noon_walk_19 : decode prog_3_method_8_code 19 = .ok (.goto 4, 3) := by decide +kernel
theorem d_Noon_walk_22 : decode prog_3_method_8_code 22 = .ok (.iload_n 0, 1) := by decide +kernel
theorem d_Noon_walk_23 : decode prog_3_method_8_code 23 = .ok (.ireturn, 1) := by decide +kernel
set_option maxHeartbeats 4000000 in
set_option maxRecDepth 20000 in
theorem c_Noon_walk (dsc : List CD) (p1 : Int) (hp1 : Rng p1) (p2 : Int) (hp2 : Rng p2) (s0 : MS) (Q : Int → Prop) (h : wp_Noon_walk p1 p2 Q) : MT dsc ⟨"BellSchool$Noon", "walk", "(II)I"⟩ prog_3_method_8_code 2 (some .int) 0 (fun ad => [.int (iI p1), .int (iI p2)]) s0 (po_I dsc (fun r z => z = s0 ∧ Q r)) := by
  refine met_of (by decide) (fun _ => Nat.le_of_ble_eq_true rfl) (fun X E hR => ?_)
  replace E : EV dsc X prog_3_method_8_code "BellSchool$Noon" 2 0 := E
  show VV dsc X 0 [(0, .int (iI p1)), (1, .int (iI p2))] [] s0
  unfold wp_Noon_walk at h
  refine v_iloadn E d_Noon_walk_0 rfl 1 rfl ?_
  refine v_iconst E d_Noon_walk_1 ?_
  refine v_icmp_ne E 9 d_Noon_walk_2 (by decide) hp2 (by decide) (fun c1 => ?_) (fun c1 => ?_)
  · replace h := h.1 c1
    refine v_iloadn E d_Noon_walk_9 rfl 1 rfl ?_
    refine v_iconst E d_Noon_walk_10 ?_
    refine v_icmp_ne E 22 d_Noon_walk_11 (by decide) hp2 (by decide) (fun c2 => ?_) (fun c2 => ?_)
    · replace h := h.1 c2
      refine v_iloadn E d_Noon_walk_22 rfl 0 rfl ?_
      exact v_iret E hR rfl hp1 ⟨rfl, h⟩ d_Noon_walk_23
    · replace h := h.2 c2
      refine v_iloadn E d_Noon_walk_14 rfl 0 rfl ?_
      refine v_iconst E d_Noon_walk_15 ?_
      refine v_imul E d_Noon_walk_16 ?_
      refine v_iconst E d_Noon_walk_17 ?_
      obtain ⟨q1, h⟩ := h
      refine v_idiv E d_Noon_walk_18 q1 (by decide) ?_
      refine v_goto E 23 d_Noon_walk_19 (by decide) ?_
      exact v_iret E hR rfl (Rng_dv q1 (by decide)) ⟨rfl, h⟩ d_Noon_walk_23
  · replace h := h.2 c1
    refine v_iloadn E d_Noon_walk_5 rfl 0 rfl ?_
    refine v_iconst E d_Noon_walk_6 ?_
    refine v_imul E d_Noon_walk_7 ?_
    obtain ⟨q2, h⟩ := h
    exact v_iret E hR rfl q2 ⟨rfl, h⟩ d_Noon_walk_8
theorem d_Noon_timeOf_0 : decode prog_3_method_7_code 0 = .ok (.aload_n 1, 1) := by decide +kernel
theorem d_Noon_timeOf_1 : decode prog_3_method_7_code 1 = .ok (.getfield 65, 3) := by decide +kernel
theorem d_Noon_timeOf_4 : decode prog_3_method_7_code 4 = .ok (.iload_n 2, 1) := by decide +kernel
theorem d_Noon_timeOf_5 : decode prog_3_method_7_code 5 = .ok (.ishr, 1) := by decide +kernel
theorem d_Noon_timeOf_6 : decode prog_3_method_7_code 6 = .ok (.iconst 1, 1) := by decide +kernel
theorem d_Noon_timeOf_7 : decode prog_3_method_7_code 7 = .ok (.iand, 1) := by decide +kernel
theorem d_Noon_timeOf_8 : decode prog_3_method_7_code 8 = .ok (.ifCond .eq 6, 3) := by decide +kernel
theorem d_Noon_timeOf_11 : decode prog_3_method_7_code 11 = .ok (.bipush (-4), 2) := by decide +kernel
theorem d_Noon_timeOf_13 : decode prog_3_method_7_code 13 = .ok (.ireturn, 1) := by decide +kernel
theorem d_Noon_timeOf_14 : decode prog_3_method_7_code 14 = .ok (.aload_n 1, 1) := by decide +kernel
theorem d_Noon_timeOf_15 : decode prog_3_method_7_code 15 = .ok (.getfield 70, 3) := by decide +kernel
theorem d_Noon_timeOf_18 : decode prog_3_method_7_code 18 = .ok (.iload_n 2, 1) := by decide +kernel
theorem d_Noon_timeOf_19 : decode prog_3_method_7_code 19 = .ok (.ishr, 1) := by decide +kernel
theorem d_Noon_timeOf_20 : decode prog_3_method_7_code 20 = .ok (.iconst 1, 1) := by decide +kernel
theorem d_Noon_timeOf_21 : decode prog_3_method_7_code 21 = .ok (.iand, 1) := by decide +kernel
theorem d_Noon_timeOf_22 : decode prog_3_method_7_code 22 = .ok (.bipush 20, 2) := by decide +kernel
theorem d_Noon_timeOf_24 : decode prog_3_method_7_code 24 = .ok (.imul, 1) := by decide +kernel
theorem d_Noon_timeOf_25 : decode prog_3_method_7_code 25 = .ok (.istore 4, 2) := by decide +kernel
theorem d_Noon_timeOf_27 : decode prog_3_method_7_code 27 = .ok (.iload_n 2, 1) := by decide +kernel
theorem d_Noon_timeOf_28 : decode prog_3_method_7_code 28 = .ok (.aload_n 1, 1) := by decide +kernel
theorem d_Noon_timeOf_29 : decode prog_3_method_7_code 29 = .ok (.getfield 73, 3) := by decide +kernel
theorem d_Noon_timeOf_32 : decode prog_3_method_7_code 32 = .ok (.if_icmp .ne 6, 3) := by decide +kernel
theorem d_Noon_timeOf_35 : decode prog_3_method_7_code 35 = .ok (.iload 4, 2) := by decide +kernel
theorem d_Noon_timeOf_37 : decode prog_3_method_7_code 37 = .ok (.ireturn, 1) := by decide +kernel
theorem d_Noon_timeOf_38 : decode prog_3_method_7_code 38 = .ok (.aload_n 0, 1) := by decide +kernel
theorem d_Noon_timeOf_39 : decode prog_3_method_7_code 39 = .ok (.getfield 9, 3) := by decide +kernel
theorem d_Noon_timeOf_42 : decode prog_3_method_7_code 42 = .ok (.iload_n 3, 1) := by decide +kernel
theorem d_Noon_timeOf_43 : decode prog_3_method_7_code 43 = .ok (.iload_n 2, 1) := by decide +kernel
theorem d_Noon_timeOf_44 : decode prog_3_method_7_code 44 = .ok (.bipush 7, 2) := by decide +kernel
theorem d_Noon_timeOf_46 : decode prog_3_method_7_code 46 = .ok (.imul, 1) := by decide +kernel
theorem d_Noon_timeOf_47 : decode prog_3_method_7_code 47 = .ok (.iadd, 1) := by decide +kernel
theorem d_Noon_timeOf_48 : decode prog_3_method_7_code 48 = .ok (.aload_n 1, 1) := by decide +kernel
theorem d_Noon_timeOf_49 : decode prog_3_method_7_code 49 = .ok (.getfield 73, 3) := by decide +kernel
theorem d_Noon_timeOf_52 : decode prog_3_method_7_code 52 = .ok (.iadd, 1) := by decide +kernel
theorem d_Noon_timeOf_53 : decode prog_3_method_7_code 53 = .ok (.iaload, 1) := by decide +kernel
theorem d_Noon_timeOf_54 : decode prog_3_method_7_code 54 = .ok (.istore 5, 2) := by decide +kernel
theorem d_Noon_timeOf_56 : decode prog_3_method_7_code 56 = .ok (.iload 5, 2) := by decide +kernel
theorem d_Noon_timeOf_58 : decode prog_3_method_7_code 58 = .ok (.aload_n 0, 1) := by decide +kernel
theorem d_Noon_timeOf_59 : decode prog_3_method_7_code 59 = .ok (.getfield 29, 3) := by decide +kernel
theorem d_Noon_timeOf_62 : decode prog_3_method_7_code 62 = .ok (.getfield 76, 3) := by decide +kernel
theorem d_Noon_timeOf_65 : decode prog_3_method_7_code 65 = .ok (.if_icmp .le 6, 3) := by decide +kernel
theorem d_Noon_timeOf_68 : decode prog_3_method_7_code 68 = .ok (.bipush (-4), 2) := by decide +kernel
theorem d_Noon_timeOf_70 : decode prog_3_method_7_code 70 = .ok (.ireturn, 1) := by decide +kernel
theorem d_Noon_timeOf_71 : decode prog_3_method_7_code 71 = .ok (.aload_n 0, 1) := by decide +kernel
theorem d_Noon_timeOf_72 : decode prog_3_method_7_code 72 = .ok (.getfield 29, 3) := by decide +kernel
theorem d_Noon_timeOf_75 : decode prog_3_method_7_code 75 = .ok (.getfield 79, 3) := by decide +kernel
theorem d_Noon_timeOf_78 : decode prog_3_method_7_code 78 = .ok (.iload_n 2, 1) := by decide +kernel
theorem d_Noon_timeOf_79 : decode prog_3_method_7_code 79 = .ok (.iaload, 1) := by decide +kernel
theorem d_Noon_timeOf_80 : decode prog_3_method_7_code 80 = .ok (.iconst 3, 1) := by decide +kernel
theorem d_Noon_timeOf_81 : decode prog_3_method_7_code 81 = .ok (.if_icmp .ne 8, 3) := by decide +kernel
theorem d_Noon_timeOf_84 : decode prog_3_method_7_code 84 = .ok (.bipush 15, 2) := by decide +kernel
theorem d_Noon_timeOf_86 : decode prog_3_method_7_code 86 = .ok (.goto 4, 3) := by decide +kernel
theorem d_Noon_timeOf_89 : decode prog_3_method_7_code 89 = .ok (.iconst 0, 1) := by decide +kernel
theorem d_Noon_timeOf_90 : decode prog_3_method_7_code 90 = .ok (.istore 6, 2) := by decide +kernel
theorem d_Noon_timeOf_92 : decode prog_3_method_7_code 92 = .ok (.iload 5, 2) := by decide +kernel
theorem d_Noon_timeOf_94 : decode prog_3_method_7_code 94 = .ok (.aload_n 0, 1) := by decide +kernel
theorem d_Noon_timeOf_95 : decode prog_3_method_7_code 95 = .ok (.getfield 29, 3) := by decide +kernel
theorem d_Noon_timeOf_98 : decode prog_3_method_7_code 98 = .ok (.getfield 79, 3) := by decide +kernel
theorem d_Noon_timeOf_101 : decode prog_3_method_7_code 101 = .ok (.iload_n 2, 1) := by decide +kernel
theorem d_Noon_timeOf_102 : decode prog_3_method_7_code 102 = .ok (.iaload, 1) := by decide +kernel
theorem d_Noon_timeOf_103 : decode prog_3_method_7_code 103 = .ok (.invokestatic 82, 3) := by decide +kernel
theorem d_Noon_timeOf_106 : decode prog_3_method_7_code 106 = .ok (.aload_n 0, 1) := by decide +kernel
theorem d_Noon_timeOf_107 : decode prog_3_method_7_code 107 = .ok (.getfield 29, 3) := by decide +kernel
theorem d_Noon_timeOf_110 : decode prog_3_method_7_code 110 = .ok (.getfield 85, 3) := by decide +kernel
theorem d_Noon_timeOf_113 : decode prog_3_method_7_code 113 = .ok (.iload_n 2, 1) := by decide +kernel
theorem d_Noon_timeOf_114 : decode prog_3_method_7_code 114 = .ok (.iaload, 1) := by decide +kernel
theorem d_Noon_timeOf_115 : decode prog_3_method_7_code 115 = .ok (.iadd, 1) := by decide +kernel
theorem d_Noon_timeOf_116 : decode prog_3_method_7_code 116 = .ok (.iload 6, 2) := by decide +kernel
theorem d_Noon_timeOf_118 : decode prog_3_method_7_code 118 = .ok (.iadd, 1) := by decide +kernel
theorem d_Noon_timeOf_119 : decode prog_3_method_7_code 119 = .ok (.iload 4, 2) := by decide +kernel
theorem d_Noon_timeOf_121 : decode prog_3_method_7_code 121 = .ok (.iadd, 1) := by decide +kernel
theorem d_Noon_timeOf_122 : decode prog_3_method_7_code 122 = .ok (.ireturn, 1) := by decide +kernel
set_option maxHeartbeats 4000000 in
set_option maxRecDepth 20000 in
theorem c_Noon_timeOf (p1 : Nat) (hp1 : dscC[p1]? = some dSt) (p2 : Int) (hp2 : Rng p2) (p3 : Int) (hp3 : Rng p3) (s0 : MS) (Q : Int → Prop) (h : wp_Noon_timeOf p1 p2 p3 s0 Q) : MT dscC ⟨"BellSchool$Noon", "timeOf", "(LBellSchool$Standing;II)I"⟩ prog_3_method_7_code 7 (some .int) 1 (fun ad => [.ref (ad 17), .ref (ad p1), .int (iI p2), .int (iI p3)]) s0 (po_I dscC (fun r z => z = s0 ∧ Q r)) := by
  refine met_of (by decide) (fun _ => Nat.le_of_ble_eq_true rfl) (fun X E hR => ?_)
  replace E : EV dscC X prog_3_method_7_code "BellSchool$Noon" 7 1 := E
  show VV dscC X 0 [(0, .ref (adX X 17)), (1, .ref (adX X p1)), (2, .int (iI p2)), (3, .int (iI p3))] [] s0
  unfold wp_Noon_timeOf at h
  refine v_aloadn E d_Noon_timeOf_0 rfl 1 rfl ?_
  refine v_getI E cf5 hp1 4 (by decide) rfl mw182 d_Noon_timeOf_1 rfl ?_
  refine v_iloadn E d_Noon_timeOf_4 rfl 2 rfl ?_
  refine v_ishr E d_Noon_timeOf_5 ?_
  refine v_iconst E d_Noon_timeOf_6 ?_
  refine v_iand E d_Noon_timeOf_7 ?_
  refine v_if_eq E 14 d_Noon_timeOf_8 (by decide) (Rng_of _) (fun c1 => ?_) (fun c1 => ?_)
  · replace h := h.1 c1
    refine v_aloadn E d_Noon_timeOf_14 rfl 1 rfl ?_
    refine v_getI E cf5 hp1 3 (by decide) rfl mw183 d_Noon_timeOf_15 rfl ?_
    refine v_iloadn E d_Noon_timeOf_18 rfl 2 rfl ?_
    refine v_ishr E d_Noon_timeOf_19 ?_
    refine v_iconst E d_Noon_timeOf_20 ?_
    refine v_iand E d_Noon_timeOf_21 ?_
    refine v_bipush E d_Noon_timeOf_22 rfl ?_
    refine v_imul E d_Noon_timeOf_24 ?_
    refine v_nameI (fun x1 hx1 => ?_)
    replace h := h x1 hx1
    refine v_istore E d_Noon_timeOf_25 (by decide) (L' := [(4, .int (iI x1)), (0, .ref (adX X 17)), (1, .ref (adX X p1)), (2, .int (iI p2)), (3, .int (iI p3))]) rfl ?_
    refine v_iloadn E d_Noon_timeOf_27 rfl 3 rfl ?_
    refine v_aloadn E d_Noon_timeOf_28 rfl 2 rfl ?_
    refine v_getI E cf5 hp1 2 (by decide) rfl mw184 d_Noon_timeOf_29 rfl ?_
    refine v_wt (fun wt1 => ?_)
    refine v_icmp_ne E 38 d_Noon_timeOf_32 (by decide) hp2 (wt1 p1 2) (fun c2 => ?_) (fun c2 => ?_)
    · replace h := h.1 c2
      refine v_aloadn E d_Noon_timeOf_38 rfl 1 rfl ?_
      refine v_getA E cf1 dC_17 0 (by decide) rfl mw159 d_Noon_timeOf_39 rfl ?_
      refine v_iloadn E d_Noon_timeOf_42 rfl 4 rfl ?_
      refine v_iloadn E d_Noon_timeOf_43 rfl 3 rfl ?_
      refine v_bipush E d_Noon_timeOf_44 rfl ?_
      refine v_imul E d_Noon_timeOf_46 ?_
      refine v_iadd E d_Noon_timeOf_47 ?_
      refine v_aloadn E d_Noon_timeOf_48 rfl 2 rfl ?_
      refine v_getI E cf5 hp1 2 (by decide) rfl mw184 d_Noon_timeOf_49 rfl ?_
      refine v_iadd E d_Noon_timeOf_52 ?_
      obtain ⟨q1, h⟩ := h
      refine v_iald E dC_18 (by decide) q1.1 q1.2 d_Noon_timeOf_53 ?_
      refine v_istore E d_Noon_timeOf_54 (by decide) (L' := [(5, .int (iI (gI s0 18 ((p3 + (p2 * 7)) + (gI s0 p1 2))))), (4, .int (iI x1)), (0, .ref (adX X 17)), (1, .ref (adX X p1)), (2, .int (iI p2)), (3, .int (iI p3))]) rfl ?_
      refine v_iload E d_Noon_timeOf_56 0 rfl ?_
      refine v_aloadn E d_Noon_timeOf_58 rfl 2 rfl ?_
      refine v_getR E cf1 dC_17 2 (by decide) rfl mw98 d_Noon_timeOf_59 rfl (fun hv1 => ?_)
      refine v_getI E cf7 hv1 7 (by decide) rfl mw185 d_Noon_timeOf_62 rfl ?_
      refine v_icmp_le E 71 d_Noon_timeOf_65 (by decide) (wt1 18 ((p3 + (p2 * 7)) + (gI s0 p1 2))) (wt1 (gR s0 17 2) 7) (fun c3 => ?_) (fun c3 => ?_)
      · replace h := h.1 c3
        refine v_aloadn E d_Noon_timeOf_71 rfl 2 rfl ?_
        refine v_getR E cf1 dC_17 2 (by decide) rfl mw98 d_Noon_timeOf_72 rfl (fun hv2 => ?_)
        refine v_getO E cf7 hv2 0 (by decide) rfl mw186 d_Noon_timeOf_75 rfl ?_
        refine v_iloadn E d_Noon_timeOf_78 rfl 4 rfl ?_
        obtain ⟨q2, h⟩ := h
        refine v_iald E (dC_o7_1 hv2) (by decide) q2.1 q2.2 d_Noon_timeOf_79 ?_
        refine v_iconst E d_Noon_timeOf_80 ?_
        refine v_icmp_ne E 89 d_Noon_timeOf_81 (by decide) (wt1 ((gR s0 17 2) + 1) p2) (by decide) (fun c4 => ?_) (fun c4 => ?_)
        · replace h := h.1 c4
          refine v_iconst E d_Noon_timeOf_89 ?_
          refine v_istore E d_Noon_timeOf_90 (by decide) (L' := [(6, .int (iI 0)), (5, .int (iI (gI s0 18 ((p3 + (p2 * 7)) + (gI s0 p1 2))))), (4, .int (iI x1)), (0, .ref (adX X 17)), (1, .ref (adX X p1)), (2, .int (iI p2)), (3, .int (iI p3))]) rfl ?_
          refine v_iload E d_Noon_timeOf_92 1 rfl ?_
          refine v_aloadn E d_Noon_timeOf_94 rfl 3 rfl ?_
          refine v_getR E cf1 dC_17 2 (by decide) rfl mw98 d_Noon_timeOf_95 rfl (fun hv3 => ?_)
          refine v_getO E cf7 hv3 0 (by decide) rfl mw186 d_Noon_timeOf_98 rfl ?_
          refine v_iloadn E d_Noon_timeOf_101 rfl 5 rfl ?_
          refine v_iald E (dC_o7_1 hv3) (by decide) q2.1 q2.2 d_Noon_timeOf_102 ?_
          refine v_callSIp E md_Noon_walk (c_Noon_walk dscC (gI s0 18 ((p3 + (p2 * 7)) + (gI s0 p1 2))) (wt1 18 ((p3 + (p2 * 7)) + (gI s0 p1 2))) (gI s0 ((gR s0 17 2) + 1) p2) (wt1 ((gR s0 17 2) + 1) p2) s0 _ h) ⟨by decide, by decide⟩ mw187 d_Noon_timeOf_103 (fun _ => rfl) (st := []) rfl (Nat.le_of_ble_eq_true rfl) (fun r1 hr1 h => ?_)
          refine v_aloadn E d_Noon_timeOf_106 rfl 3 rfl ?_
          refine v_getR E cf1 dC_17 2 (by decide) rfl mw98 d_Noon_timeOf_107 rfl (fun hv4 => ?_)
          refine v_getO E cf7 hv4 1 (by decide) rfl mw188 d_Noon_timeOf_110 rfl ?_
          refine v_iloadn E d_Noon_timeOf_113 rfl 5 rfl ?_
          refine v_iald E (dC_o7_2 hv4) (by decide) q2.1 q2.2 d_Noon_timeOf_114 ?_
          refine v_iadd E d_Noon_timeOf_115 ?_
          refine v_iload E d_Noon_timeOf_116 0 rfl ?_
          refine v_iadd E d_Noon_timeOf_118 ?_
          refine v_iload E d_Noon_timeOf_119 2 rfl ?_
          refine v_iadd E d_Noon_timeOf_121 ?_
          obtain ⟨q3, h⟩ := h
          exact v_iret E hR rfl q3 ⟨rfl, h⟩ d_Noon_timeOf_122
        · replace h := h.2 c4
          refine v_bipush E d_Noon_timeOf_84 rfl ?_
          refine v_goto E 90 d_Noon_timeOf_86 (by decide) ?_
          refine v_istore E d_Noon_timeOf_90 (by decide) (L' := [(6, .int (iI 15)), (5, .int (iI (gI s0 18 ((p3 + (p2 * 7)) + (gI s0 p1 2))))), (4, .int (iI x1)), (0, .ref (adX X 17)), (1, .ref (adX X p1)), (2, .int (iI p2)), (3, .int (iI p3))]) rfl ?_
          refine v_iload E d_Noon_timeOf_92 1 rfl ?_
          refine v_aloadn E d_Noon_timeOf_94 rfl 3 rfl ?_
          refine v_getR E cf1 dC_17 2 (by decide) rfl mw98 d_Noon_timeOf_95 rfl (fun hv5 => ?_)
          refine v_getO E cf7 hv5 0 (by decide) rfl mw186 d_Noon_timeOf_98 rfl ?_
          refine v_iloadn E d_Noon_timeOf_101 rfl 5 rfl ?_
          refine v_iald E (dC_o7_1 hv5) (by decide) q2.1 q2.2 d_Noon_timeOf_102 ?_
          refine v_callSIp E md_Noon_walk (c_Noon_walk dscC (gI s0 18 ((p3 + (p2 * 7)) + (gI s0 p1 2))) (wt1 18 ((p3 + (p2 * 7)) + (gI s0 p1 2))) (gI s0 ((gR s0 17 2) + 1) p2) (wt1 ((gR s0 17 2) + 1) p2) s0 _ h) ⟨by decide, by decide⟩ mw187 d_Noon_timeOf_103 (fun _ => rfl) (st := []) rfl (Nat.le_of_ble_eq_true rfl) (fun r2 hr2 h => ?_)
          refine v_aloadn E d_Noon_timeOf_106 rfl 3 rfl ?_
          refine v_getR E cf1 dC_17 2 (by decide) rfl mw98 d_Noon_timeOf_107 rfl (fun hv6 => ?_)
          refine v_getO E cf7 hv6 1 (by decide) rfl mw188 d_Noon_timeOf_110 rfl ?_
          refine v_iloadn E d_Noon_timeOf_113 rfl 5 rfl ?_
          refine v_iald E (dC_o7_2 hv6) (by decide) q2.1 q2.2 d_Noon_timeOf_114 ?_
          refine v_iadd E d_Noon_timeOf_115 ?_
          refine v_iload E d_Noon_timeOf_116 0 rfl ?_
          refine v_iadd E d_Noon_timeOf_118 ?_
          refine v_iload E d_Noon_timeOf_119 2 rfl ?_
          refine v_iadd E d_Noon_timeOf_121 ?_
          obtain ⟨q4, h⟩ := h
          exact v_iret E hR rfl q4 ⟨rfl, h⟩ d_Noon_timeOf_122
      · replace h := h.2 c3
        refine v_bipush E d_Noon_timeOf_68 rfl ?_
        exact v_iret E hR rfl (by decide) ⟨rfl, h⟩ d_Noon_timeOf_70
    · replace h := h.2 c2
      refine v_iload E d_Noon_timeOf_35 0 rfl ?_
      obtain ⟨q5, h⟩ := h
      exact v_iret E hR rfl q5 ⟨rfl, h⟩ d_Noon_timeOf_37
  · replace h := h.2 c1
    refine v_bipush E d_Noon_timeOf_11 rfl ?_
    exact v_iret E hR rfl (by decide) ⟨rfl, h⟩ d_Noon_timeOf_13
theorem d_Noon_gather_0 : decode prog_3_method_9_code 0 = .ok (.aload_n 0, 1) := by decide +kernel
theorem d_Noon_gather_1 : decode prog_3_method_9_code 1 = .ok (.bipush (-4), 2) := by decide +kernel
theorem d_Noon_gather_3 : decode prog_3_method_9_code 3 = .ok (.putfield 22, 3) := by decide +kernel
theorem d_Noon_gather_6 : decode prog_3_method_9_code 6 = .ok (.aload_n 0, 1) := by decide +kernel
theorem d_Noon_gather_7 : decode prog_3_method_9_code 7 = .ok (.iconst 0, 1) := by decide +kernel
theorem d_Noon_gather_8 : decode prog_3_method_9_code 8 = .ok (.putfield 26, 3) := by decide +kernel
theorem d_Noon_gather_11 : decode prog_3_method_9_code 11 = .ok (.aload_n 0, 1) := by decide +kernel
theorem d_Noon_gather_12 : decode prog_3_method_9_code 12 = .ok (.aload_n 1, 1) := by decide +kernel
theorem d_Noon_gather_13 : decode prog_3_method_9_code 13 = .ok (.getfield 88, 3) := by decide +kernel
theorem d_Noon_gather_16 : decode prog_3_method_9_code 16 = .ok (.aload_n 1, 1) := by decide +kernel
theorem d_Noon_gather_17 : decode prog_3_method_9_code 17 = .ok (.getfield 91, 3) := by decide +kernel
theorem d_Noon_gather_20 : decode prog_3_method_9_code 20 = .ok (.invokevirtual 40, 3) := by decide +kernel
theorem d_Noon_gather_23 : decode prog_3_method_9_code 23 = .ok (.istore_n 2, 1) := by decide +kernel
theorem d_Noon_gather_24 : decode prog_3_method_9_code 24 = .ok (.iconst 0, 1) := by decide +kernel
theorem d_Noon_gather_25 : decode prog_3_method_9_code 25 = .ok (.istore_n 3, 1) := by decide +kernel
theorem d_Noon_gather_26 : decode prog_3_method_9_code 26 = .ok (.iload_n 3, 1) := by decide +kernel
theorem d_Noon_gather_27 : decode prog_3_method_9_code 27 = .ok (.aload_n 0, 1) := by decide +kernel
theorem d_Noon_gather_28 : decode prog_3_method_9_code 28 = .ok (.getfield 29, 3) := by decide +kernel
theorem d_Noon_gather_31 : decode prog_3_method_9_code 31 = .ok (.getfield 35, 3) := by decide +kernel
theorem d_Noon_gather_34 : decode prog_3_method_9_code 34 = .ok (.if_icmp .ge 78, 3) := by decide +kernel
theorem d_Noon_gather_37 : decode prog_3_method_9_code 37 = .ok (.aload_n 0, 1) := by decide +kernel
theorem d_Noon_gather_38 : decode prog_3_method_9_code 38 = .ok (.getfield 19, 3) := by decide +kernel
theorem d_Noon_gather_41 : decode prog_3_method_9_code 41 = .ok (.iload_n 3, 1) := by decide +kernel
theorem d_Noon_gather_42 : decode prog_3_method_9_code 42 = .ok (.aload_n 0, 1) := by decide +kernel
theorem d_Noon_gather_43 : decode prog_3_method_9_code 43 = .ok (.aload_n 1, 1) := by decide +kernel
theorem d_Noon_gather_44 : decode prog_3_method_9_code 44 = .ok (.iload_n 3, 1) := by decide +kernel
theorem d_Noon_gather_45 : decode prog_3_method_9_code 45 = .ok (.iload_n 2, 1) := by decide +kernel
theorem d_Noon_gather_46 : decode prog_3_method_9_code 46 = .ok (.invokevirtual 95, 3) := by decide +kernel
theorem d_Noon_gather_49 : decode prog_3_method_9_code 49 = .ok (.iastore, 1) := by decide +kernel
theorem d_Noon_gather_50 : decode prog_3_method_9_code 50 = .ok (.aload_n 0, 1) := by decide +kernel
theorem d_Noon_gather_51 : decode prog_3_method_9_code 51 = .ok (.getfield 19, 3) := by decide +kernel
theorem d_Noon_gather_54 : decode prog_3_method_9_code 54 = .ok (.iload_n 3, 1) := by decide +kernel
theorem d_Noon_gather_55 : decode prog_3_method_9_code 55 = .ok (.iaload, 1) := by decide +kernel
theorem d_Noon_gather_56 : decode prog_3_method_9_code 56 = .ok (.bipush (-4), 2) := by decide +kernel
theorem d_Noon_gather_58 : decode prog_3_method_9_code 58 = .ok (.if_icmp .ne 6, 3) := by decide +kernel
theorem d_Noon_gather_61 : decode prog_3_method_9_code 61 = .ok (.goto 45, 3) := by decide +kernel
theorem d_Noon_gather_64 : decode prog_3_method_9_code 64 = .ok (.aload_n 0, 1) := by decide +kernel
theorem d_Noon_gather_65 : decode prog_3_method_9_code 65 = .ok (.dup, 1) := by decide +kernel
theorem d_Noon_gather_66 : decode prog_3_method_9_code 66 = .ok (.getfield 26, 3) := by decide +kernel
theorem d_Noon_gather_69 : decode prog_3_method_9_code 69 = .ok (.iconst 1, 1) := by decide +kernel
theorem d_Noon_gather_70 : decode prog_3_method_9_code 70 = .ok (.iadd, 1) := by decide +kernel
theorem d_Noon_gather_71 : decode prog_3_method_9_code 71 = .ok (.putfield 26, 3) := by decide +kernel
theorem d_Noon_gather_74 : decode prog_3_method_9_code 74 = .ok (.aload_n 0, 1) := by decide +kernel
theorem d_Noon_gather_75 : decode prog_3_method_9_code 75 = .ok (.getfield 22, 3) := by decide +kernel
theorem d_Noon_gather_78 : decode prog_3_method_9_code 78 = .ok (.bipush (-4), 2) := by decide +kernel
theorem d_Noon_gather_80 : decode prog_3_method_9_code 80 = .ok (.if_icmp .eq 21, 3) := by decide +kernel
theorem d_Noon_gather_83 : decode prog_3_method_9_code 83 = .ok (.aload_n 0, 1) := by decide +kernel
theorem d_Noon_gather_84 : decode prog_3_method_9_code 84 = .ok (.getfield 19, 3) := by decide +kernel
theorem d_Noon_gather_87 : decode prog_3_method_9_code 87 = .ok (.iload_n 3, 1) := by decide +kernel
theorem d_Noon_gather_88 : decode prog_3_method_9_code 88 = .ok (.iaload, 1) := by decide +kernel
theorem d_Noon_gather_89 : decode prog_3_method_9_code 89 = .ok (.aload_n 0, 1) := by decide +kernel
theorem d_Noon_gather_90 : decode prog_3_method_9_code 90 = .ok (.getfield 19, 3) := by decide +kernel
theorem d_Noon_gather_93 : decode prog_3_method_9_code 93 = .ok (.aload_n 0, 1) := by decide +kernel
theorem d_Noon_gather_94 : decode prog_3_method_9_code 94 = .ok (.getfield 22, 3) := by decide +kernel
theorem d_Noon_gather_97 : decode prog_3_method_9_code 97 = .ok (.iaload, 1) := by decide +kernel
theorem d_Noon_gather_98 : decode prog_3_method_9_code 98 = .ok (.if_icmp .lt 8, 3) := by decide +kernel
theorem d_Noon_gather_101 : decode prog_3_method_9_code 101 = .ok (.aload_n 0, 1) := by decide +kernel
theorem d_Noon_gather_102 : decode prog_3_method_9_code 102 = .ok (.iload_n 3, 1) := by decide +kernel
theorem d_Noon_gather_103 : decode prog_3_method_9_code 103 = .ok (.putfield 22, 3) := by decide +kernel
theorem d_Noon_gather_106 : decode prog_3_method_9_code 106 = .ok (.iinc 3 1, 3) := by decide +kernel
theorem d_Noon_gather_109 : decode prog_3_method_9_code 109 = .ok (.goto (-83), 3) := by decide +kernel
theorem d_Noon_gather_112 : decode prog_3_method_9_code 112 = .ok (.return_, 1) := by decide +kernel
set_option maxHeartbeats 4000000 in
set_option maxRecDepth 20000 in
theorem c_Noon_gather (p1 : Nat) (hp1 : dscC[p1]? = some dSt) (s0 : MS) (Q : MS → Prop) (h : wp_Noon_gather p1 s0 Q) : MT dscC ⟨"BellSchool$Noon", "gather", "(LBellSchool$Standing;)V"⟩ prog_3_method_9_code 4 none 3 (fun ad => [.ref (ad 17), .ref (ad p1)]) s0 (po_V dscC Q) := by
  refine met_of (by decide) (fun _ => Nat.le_of_ble_eq_true rfl) (fun X E hR => ?_)
  replace E : EV dscC X prog_3_method_9_code "BellSchool$Noon" 4 3 := E
  show VV dscC X 0 [(0, .ref (adX X 17)), (1, .ref (adX X p1))] [] s0
  unfold wp_Noon_gather at h
  refine v_aloadn E d_Noon_gather_0 rfl 0 rfl ?_
  refine v_bipush E d_Noon_gather_1 rfl ?_
  refine v_putI E cf1 dC_17 4 (by decide) rfl rfl mw192 d_Noon_gather_3 rfl rfl rfl (by decide) ?_
  refine v_nameS (fun s1 hs1 => ?_)
  replace h := h s1 hs1
  refine v_aloadn E d_Noon_gather_6 rfl 0 rfl ?_
  refine v_iconst E d_Noon_gather_7 ?_
  refine v_putI E cf1 dC_17 5 (by decide) rfl rfl mw193 d_Noon_gather_8 rfl rfl rfl (by decide) ?_
  refine v_nameS (fun s2 hs2 => ?_)
  replace h := h s2 hs2
  refine v_aloadn E d_Noon_gather_11 rfl 0 rfl ?_
  refine v_aloadn E d_Noon_gather_12 rfl 1 rfl ?_
  refine v_getI E cf5 hp1 1 (by decide) rfl mw194 d_Noon_gather_13 rfl ?_
  refine v_aloadn E d_Noon_gather_16 rfl 1 rfl ?_
  refine v_getL E cf5 hp1 6 (by decide) rfl mw195 d_Noon_gather_17 rfl ?_
  refine v_wt (fun wt1 => ?_)
  refine v_callVI E md_Noon_readyFars (c_Noon_readyFars (gI s2 p1 1) (wt1 p1 1) (gL s2 p1 6) s2 _ h) dC_17 rfl ⟨by decide, by decide⟩ mw172 d_Noon_gather_20 (fun _ => rfl) (st := []) rfl (Nat.le_of_ble_eq_true rfl) (fun r1 s3 hr1 h => ?_)
  refine v_istoren E d_Noon_gather_23 rfl (by decide) (L' := [(2, .int (iI r1)), (0, .ref (adX X 17)), (1, .ref (adX X p1))]) rfl ?_
  refine v_iconst E d_Noon_gather_24 ?_
  refine v_istoren E d_Noon_gather_25 rfl (by decide) (L' := [(3, .int (iI 0)), (2, .int (iI r1)), (0, .ref (adX X 17)), (1, .ref (adX X p1))]) rfl ?_
  refine v_sub [2, 3, 1, 0] (L' := [(0, .ref (adX X 17)), (1, .ref (adX X p1)), (2, .int (iI r1)), (3, .int (iI 0))]) rfl ?_
  obtain ⟨I1, μ1, h01, h⟩ := h
  refine v_loop1 (fun (x1 : Int) => [(0, .ref (adX X 17)), (1, .ref (adX X p1)), (2, .int (iI r1)), (3, .int (iI x1))]) I1 μ1 (fun x1 s4 hI1 ih1 => ?_) 0 s3 h01
  replace h := h x1 s4 hI1
  refine v_iloadn E d_Noon_gather_26 rfl 3 rfl ?_
  refine v_aloadn E d_Noon_gather_27 rfl 0 rfl ?_
  refine v_getR E cf1 dC_17 2 (by decide) rfl mw98 d_Noon_gather_28 rfl (fun hv1 => ?_)
  refine v_getI E cf7 hv1 5 (by decide) rfl mw160 d_Noon_gather_31 rfl ?_
  obtain ⟨q1, h⟩ := h
  refine v_wt (fun wt2 => ?_)
  refine v_icmp_ge E 112 d_Noon_gather_34 (by decide) q1 (wt2 (gR s4 17 2) 5) (fun c1 => ?_) (fun c1 => ?_)
  · replace h := h.1 c1
    exact v_vret E hR h d_Noon_gather_112
  · replace h := h.2 c1
    refine v_aloadn E d_Noon_gather_37 rfl 0 rfl ?_
    refine v_getA E cf1 dC_17 3 (by decide) rfl mw196 d_Noon_gather_38 rfl ?_
    refine v_iloadn E d_Noon_gather_41 rfl 3 rfl ?_
    refine v_aloadn E d_Noon_gather_42 rfl 0 rfl ?_
    refine v_aloadn E d_Noon_gather_43 rfl 1 rfl ?_
    refine v_iloadn E d_Noon_gather_44 rfl 3 rfl ?_
    refine v_iloadn E d_Noon_gather_45 rfl 2 rfl ?_
    refine v_callVIp E md_Noon_timeOf (c_Noon_timeOf p1 hp1 x1 q1 r1 hr1 s4 _ h) dC_17 rfl ⟨by decide, by decide⟩ mw197 d_Noon_gather_46 (fun _ => rfl) (st := [.int (iI x1), .ref (adX X 20)]) rfl (Nat.le_of_ble_eq_true rfl) (fun r2 hr2 h => ?_)
    obtain ⟨q2, h⟩ := h
    refine v_iast E dC_20 (by decide) q2.1 q2.2 hr2 d_Noon_gather_49 ?_
    refine v_nameS (fun s5 hs5 => ?_)
    replace h := h s5 hs5
    refine v_aloadn E d_Noon_gather_50 rfl 0 rfl ?_
    refine v_getA E cf1 dC_17 3 (by decide) rfl mw196 d_Noon_gather_51 rfl ?_
    refine v_iloadn E d_Noon_gather_54 rfl 3 rfl ?_
    refine v_iald E dC_20 (by decide) q2.1 q2.2 d_Noon_gather_55 ?_
    refine v_bipush E d_Noon_gather_56 rfl ?_
    refine v_wt (fun wt3 => ?_)
    refine v_icmp_ne E 64 d_Noon_gather_58 (by decide) (wt3 20 x1) (by decide) (fun c2 => ?_) (fun c2 => ?_)
    · replace h := h.1 c2
      refine v_aloadn E d_Noon_gather_64 rfl 0 rfl ?_
      refine v_dup E d_Noon_gather_65 rfl ?_
      refine v_getI E cf1 dC_17 5 (by decide) rfl mw193 d_Noon_gather_66 rfl ?_
      refine v_iconst E d_Noon_gather_69 ?_
      refine v_iadd E d_Noon_gather_70 ?_
      obtain ⟨q3, h⟩ := h
      refine v_putI E cf1 dC_17 5 (by decide) rfl rfl mw193 d_Noon_gather_71 rfl rfl rfl q3 ?_
      refine v_nameS (fun s6 hs6 => ?_)
      replace h := h s6 hs6
      refine v_aloadn E d_Noon_gather_74 rfl 0 rfl ?_
      refine v_getI E cf1 dC_17 4 (by decide) rfl mw192 d_Noon_gather_75 rfl ?_
      refine v_bipush E d_Noon_gather_78 rfl ?_
      refine v_wt (fun wt4 => ?_)
      refine v_icmp_eq E 101 d_Noon_gather_80 (by decide) (wt4 17 4) (by decide) (fun c3 => ?_) (fun c3 => ?_)
      · replace h := h.1 c3
        refine v_aloadn E d_Noon_gather_101 rfl 0 rfl ?_
        refine v_iloadn E d_Noon_gather_102 rfl 3 rfl ?_
        refine v_putI E cf1 dC_17 4 (by decide) rfl rfl mw192 d_Noon_gather_103 rfl rfl rfl q1 ?_
        refine v_nameS (fun s7 hs7 => ?_)
        replace h := h s7 hs7
        refine v_iincN E d_Noon_gather_106 3 rfl (by decide) (fun y => [(3, .int (iI y)), (0, .ref (adX X 17)), (1, .ref (adX X p1)), (2, .int (iI r1))]) (fun _ => rfl) (fun x2 hx2 => ?_)
        replace h := h x2 hx2
        refine v_goto E 26 d_Noon_gather_109 (by decide) ?_
        obtain ⟨hb, hm⟩ := h
        exact v_sub [1, 2, 3, 0] rfl (ih1 x2 s7 hb hm)
      · replace h := h.2 c3
        refine v_aloadn E d_Noon_gather_83 rfl 0 rfl ?_
        refine v_getA E cf1 dC_17 3 (by decide) rfl mw196 d_Noon_gather_84 rfl ?_
        refine v_iloadn E d_Noon_gather_87 rfl 3 rfl ?_
        refine v_iald E dC_20 (by decide) q2.1 q2.2 d_Noon_gather_88 ?_
        refine v_aloadn E d_Noon_gather_89 rfl 0 rfl ?_
        refine v_getA E cf1 dC_17 3 (by decide) rfl mw196 d_Noon_gather_90 rfl ?_
        refine v_aloadn E d_Noon_gather_93 rfl 0 rfl ?_
        refine v_getI E cf1 dC_17 4 (by decide) rfl mw192 d_Noon_gather_94 rfl ?_
        obtain ⟨q4, h⟩ := h
        refine v_iald E dC_20 (by decide) q4.1 q4.2 d_Noon_gather_97 ?_
        refine v_icmp_lt E 106 d_Noon_gather_98 (by decide) (wt4 20 x1) (wt4 20 (gI s6 17 4)) (fun c4 => ?_) (fun c4 => ?_)
        · replace h := h.1 c4
          refine v_iincN E d_Noon_gather_106 3 rfl (by decide) (fun y => [(3, .int (iI y)), (0, .ref (adX X 17)), (1, .ref (adX X p1)), (2, .int (iI r1))]) (fun _ => rfl) (fun x3 hx3 => ?_)
          replace h := h x3 hx3
          refine v_goto E 26 d_Noon_gather_109 (by decide) ?_
          obtain ⟨hb, hm⟩ := h
          exact v_sub [1, 2, 3, 0] rfl (ih1 x3 s6 hb hm)
        · replace h := h.2 c4
          refine v_aloadn E d_Noon_gather_101 rfl 0 rfl ?_
          refine v_iloadn E d_Noon_gather_102 rfl 3 rfl ?_
          refine v_putI E cf1 dC_17 4 (by decide) rfl rfl mw192 d_Noon_gather_103 rfl rfl rfl q1 ?_
          refine v_nameS (fun s8 hs8 => ?_)
          replace h := h s8 hs8
          refine v_iincN E d_Noon_gather_106 3 rfl (by decide) (fun y => [(3, .int (iI y)), (0, .ref (adX X 17)), (1, .ref (adX X p1)), (2, .int (iI r1))]) (fun _ => rfl) (fun x4 hx4 => ?_)
          replace h := h x4 hx4
          refine v_goto E 26 d_Noon_gather_109 (by decide) ?_
          obtain ⟨hb, hm⟩ := h
          exact v_sub [1, 2, 3, 0] rfl (ih1 x4 s8 hb hm)
    · replace h := h.2 c2
      refine v_goto E 106 d_Noon_gather_61 (by decide) ?_
      refine v_iincN E d_Noon_gather_106 3 rfl (by decide) (fun y => [(3, .int (iI y)), (0, .ref (adX X 17)), (1, .ref (adX X p1)), (2, .int (iI r1))]) (fun _ => rfl) (fun x5 hx5 => ?_)
      replace h := h x5 hx5
      refine v_goto E 26 d_Noon_gather_109 (by decide) ?_
      obtain ⟨hb, hm⟩ := h
      exact v_sub [1, 2, 3, 0] rfl (ih1 x5 s5 hb hm)
theorem d_B_comes_0 : decode prog_1_method_9_code 0 = .ok (.aload_n 0, 1) := by decide +kernel
theorem d_B_comes_1 : decode prog_1_method_9_code 1 = .ok (.getfield 10, 3) := by decide +kernel
theorem d_B_comes_4 : decode prog_1_method_9_code 4 = .ok (.iload_n 1, 1) := by decide +kernel
theorem d_B_comes_5 : decode prog_1_method_9_code 5 = .ok (.invokevirtual 118, 3) := by decide +kernel
theorem d_B_comes_8 : decode prog_1_method_9_code 8 = .ok (.ifCond .ne 5, 3) := by decide +kernel
theorem d_B_comes_11 : decode prog_1_method_9_code 11 = .ok (.iconst (-1), 1) := by decide +kernel
theorem d_B_comes_12 : decode prog_1_method_9_code 12 = .ok (.ireturn, 1) := by decide +kernel
theorem d_B_comes_13 : decode prog_1_method_9_code 13 = .ok (.aload_n 0, 1) := by decide +kernel
theorem d_B_comes_14 : decode prog_1_method_9_code 14 = .ok (.getfield 38, 3) := by decide +kernel
theorem d_B_comes_17 : decode prog_1_method_9_code 17 = .ok (.aload_n 0, 1) := by decide +kernel
theorem d_B_comes_18 : decode prog_1_method_9_code 18 = .ok (.getfield 45, 3) := by decide +kernel
theorem d_B_comes_21 : decode prog_1_method_9_code 21 = .ok (.invokevirtual 169, 3) := by decide +kernel
theorem d_B_comes_24 : decode prog_1_method_9_code 24 = .ok (.aload_n 0, 1) := by decide +kernel
theorem d_B_comes_25 : decode prog_1_method_9_code 25 = .ok (.getfield 38, 3) := by decide +kernel
theorem d_B_comes_28 : decode prog_1_method_9_code 28 = .ok (.getfield 173, 3) := by decide +kernel
theorem d_B_comes_31 : decode prog_1_method_9_code 31 = .ok (.iload_n 1, 1) := by decide +kernel
theorem d_B_comes_32 : decode prog_1_method_9_code 32 = .ok (.iaload, 1) := by decide +kernel
theorem d_B_comes_33 : decode prog_1_method_9_code 33 = .ok (.ireturn, 1) := by decide +kernel
set_option maxHeartbeats 4000000 in
set_option maxRecDepth 20000 in
theorem c_B_comes (p1 : Int) (hp1 : Rng p1) (s0 : MS) (Q : Int → MS → Prop) (h : wp_B_comes p1 s0 Q) : MT dscC ⟨"BellSchool", "comes", "(I)I"⟩ prog_1_method_9_code 2 (some .int) 4 (fun ad => [.ref (ad 0), .int (iI p1)]) s0 (po_I dscC Q) := by
  refine met_of (by decide) (fun _ => Nat.le_of_ble_eq_true rfl) (fun X E hR => ?_)
  replace E : EV dscC X prog_1_method_9_code "BellSchool" 2 4 := E
  show VV dscC X 0 [(0, .ref (adX X 0)), (1, .int (iI p1))] [] s0
  unfold wp_B_comes at h
  refine v_aloadn E d_B_comes_0 rfl 0 rfl ?_
  refine v_getR E cf8 dC_0 0 (by decide) rfl mw118 d_B_comes_1 rfl (fun hv1 => ?_)
  refine v_iloadn E d_B_comes_4 rfl 1 rfl ?_
  refine v_callVIpz E md_Valley_has (c_Valley_has (gR s0 0 0) hv1 p1 hp1 s0 _ h) hv1 rfl ⟨by decide, by decide⟩ mw117 d_B_comes_5 (fun _ => rfl) (st := []) rfl (Nat.le_of_ble_eq_true rfl) (fun r1 hr1 hz1 h => ?_)
  refine v_if_ne E 13 d_B_comes_8 (by decide) hr1 (fun c1 => ?_) (fun c1 => ?_)
  · replace h := h.1 c1
    refine v_aloadn E d_B_comes_13 rfl 0 rfl ?_
    refine v_getA E cf8 dC_0 4 (by decide) rfl mw119 d_B_comes_14 rfl ?_
    refine v_aloadn E d_B_comes_17 rfl 0 rfl ?_
    refine v_getA E cf8 dC_0 5 (by decide) rfl mw123 d_B_comes_18 rfl ?_
    refine v_callVV E md_Noon_gather (c_Noon_gather 36 dC_36 s0 _ h) dC_17 rfl ⟨by decide, by decide⟩ mw201 d_B_comes_21 (fun _ => rfl) (st := []) rfl (Nat.le_of_ble_eq_true rfl) (fun s1 h => ?_)
    refine v_aloadn E d_B_comes_24 rfl 0 rfl ?_
    refine v_getA E cf8 dC_0 4 (by decide) rfl mw119 d_B_comes_25 rfl ?_
    refine v_getA E cf1 dC_17 3 (by decide) rfl mw202 d_B_comes_28 rfl ?_
    refine v_iloadn E d_B_comes_31 rfl 1 rfl ?_
    obtain ⟨q1, h⟩ := h
    refine v_iald E dC_20 (by decide) q1.1 q1.2 d_B_comes_32 ?_
    refine v_wt (fun wt1 => ?_)
    exact v_iret E hR rfl (wt1 20 p1) h d_B_comes_33
  · replace h := h.2 c1
    refine v_iconst E d_B_comes_11 ?_
    exact v_iret E hR rfl (by decide) h d_B_comes_12
theorem d_B_last_0 : decode prog_1_method_10_code 0 = .ok (.aload_n 0, 1) := by decide +kernel
theorem d_B_last_1 : decode prog_1_method_10_code 1 = .ok (.getfield 38, 3) := by decide +kernel
theorem d_B_last_4 : decode prog_1_method_10_code 4 = .ok (.aload_n 0, 1) := by decide +kernel
theorem d_B_last_5 : decode prog_1_method_10_code 5 = .ok (.getfield 45, 3) := by decide +kernel
theorem d_B_last_8 : decode prog_1_method_10_code 8 = .ok (.invokevirtual 169, 3) := by decide +kernel
theorem d_B_last_11 : decode prog_1_method_10_code 11 = .ok (.aload_n 0, 1) := by decide +kernel
theorem d_B_last_12 : decode prog_1_method_10_code 12 = .ok (.getfield 38, 3) := by decide +kernel
theorem d_B_last_15 : decode prog_1_method_10_code 15 = .ok (.getfield 176, 3) := by decide +kernel
theorem d_B_last_18 : decode prog_1_method_10_code 18 = .ok (.ireturn, 1) := by decide +kernel
set_option maxHeartbeats 4000000 in
set_option maxRecDepth 20000 in
theorem c_B_last (s0 : MS) (Q : Int → MS → Prop) (h : wp_B_last s0 Q) : MT dscC ⟨"BellSchool", "last", "()I"⟩ prog_1_method_10_code 1 (some .int) 4 (fun ad => [.ref (ad 0)]) s0 (po_I dscC Q) := by
  refine met_of (by decide) (fun _ => Nat.le_of_ble_eq_true rfl) (fun X E hR => ?_)
  replace E : EV dscC X prog_1_method_10_code "BellSchool" 1 4 := E
  show VV dscC X 0 [(0, .ref (adX X 0))] [] s0
  unfold wp_B_last at h
  refine v_aloadn E d_B_last_0 rfl 0 rfl ?_
  refine v_getA E cf8 dC_0 4 (by decide) rfl mw119 d_B_last_1 rfl ?_
  refine v_aloadn E d_B_last_4 rfl 0 rfl ?_
  refine v_getA E cf8 dC_0 5 (by decide) rfl mw123 d_B_last_5 rfl ?_
  refine v_callVV E md_Noon_gather (c_Noon_gather 36 dC_36 s0 _ h) dC_17 rfl ⟨by decide, by decide⟩ mw201 d_B_last_8 (fun _ => rfl) (st := []) rfl (Nat.le_of_ble_eq_true rfl) (fun s1 h => ?_)
  refine v_aloadn E d_B_last_11 rfl 0 rfl ?_
  refine v_getA E cf8 dC_0 4 (by decide) rfl mw119 d_B_last_12 rfl ?_
  refine v_getI E cf1 dC_17 4 (by decide) rfl mw206 d_B_last_15 rfl ?_
  refine v_wt (fun wt1 => ?_)
  exact v_iret E hR rfl (wt1 17 4) h d_B_last_18
theorem d_Standing_copy_0 : decode prog_7_method_3_code 0 = .ok (.aload_n 0, 1) := by decide +kernel
theorem d_Standing_copy_1 : decode prog_7_method_3_code 1 = .ok (.aload_n 1, 1) := by decide +kernel
theorem d_Standing_copy_2 : decode prog_7_method_3_code 2 = .ok (.getfield 15, 3) := by decide +kernel
theorem d_Standing_copy_5 : decode prog_7_method_3_code 5 = .ok (.putfield 15, 3) := by decide +kernel
theorem d_Standing_copy_8 : decode prog_7_method_3_code 8 = .ok (.aload_n 0, 1) := by decide +kernel
theorem d_Standing_copy_9 : decode prog_7_method_3_code 9 = .ok (.aload_n 1, 1) := by decide +kernel
theorem d_Standing_copy_10 : decode prog_7_method_3_code 10 = .ok (.getfield 19, 3) := by decide +kernel
theorem d_Standing_copy_13 : decode prog_7_method_3_code 13 = .ok (.putfield 19, 3) := by decide +kernel
theorem d_Standing_copy_16 : decode prog_7_method_3_code 16 = .ok (.aload_n 0, 1) := by decide +kernel
theorem d_Standing_copy_17 : decode prog_7_method_3_code 17 = .ok (.aload_n 1, 1) := by decide +kernel
theorem d_Standing_copy_18 : decode prog_7_method_3_code 18 = .ok (.getfield 22, 3) := by decide +kernel
theorem d_Standing_copy_21 : decode prog_7_method_3_code 21 = .ok (.putfield 22, 3) := by decide +kernel
theorem d_Standing_copy_24 : decode prog_7_method_3_code 24 = .ok (.aload_n 0, 1) := by decide +kernel
theorem d_Standing_copy_25 : decode prog_7_method_3_code 25 = .ok (.aload_n 1, 1) := by decide +kernel
theorem d_Standing_copy_26 : decode prog_7_method_3_code 26 = .ok (.getfield 25, 3) := by decide +kernel
theorem d_Standing_copy_29 : decode prog_7_method_3_code 29 = .ok (.putfield 25, 3) := by decide +kernel
theorem d_Standing_copy_32 : decode prog_7_method_3_code 32 = .ok (.aload_n 0, 1) := by decide +kernel
theorem d_Standing_copy_33 : decode prog_7_method_3_code 33 = .ok (.aload_n 1, 1) := by decide +kernel
theorem d_Standing_copy_34 : decode prog_7_method_3_code 34 = .ok (.getfield 28, 3) := by decide +kernel
theorem d_Standing_copy_37 : decode prog_7_method_3_code 37 = .ok (.putfield 28, 3) := by decide +kernel
theorem d_Standing_copy_40 : decode prog_7_method_3_code 40 = .ok (.aload_n 0, 1) := by decide +kernel
theorem d_Standing_copy_41 : decode prog_7_method_3_code 41 = .ok (.aload_n 1, 1) := by decide +kernel
theorem d_Standing_copy_42 : decode prog_7_method_3_code 42 = .ok (.getfield 31, 3) := by decide +kernel
theorem d_Standing_copy_45 : decode prog_7_method_3_code 45 = .ok (.putfield 31, 3) := by decide +kernel
theorem d_Standing_copy_48 : decode prog_7_method_3_code 48 = .ok (.iconst 0, 1) := by decide +kernel
theorem d_Standing_copy_49 : decode prog_7_method_3_code 49 = .ok (.istore_n 2, 1) := by decide +kernel
theorem d_Standing_copy_50 : decode prog_7_method_3_code 50 = .ok (.iload_n 2, 1) := by decide +kernel
theorem d_Standing_copy_51 : decode prog_7_method_3_code 51 = .ok (.bipush 7, 2) := by decide +kernel
theorem d_Standing_copy_53 : decode prog_7_method_3_code 53 = .ok (.if_icmp .ge 21, 3) := by decide +kernel
theorem d_Standing_copy_56 : decode prog_7_method_3_code 56 = .ok (.aload_n 0, 1) := by decide +kernel
theorem d_Standing_copy_57 : decode prog_7_method_3_code 57 = .ok (.getfield 9, 3) := by decide +kernel
theorem d_Standing_copy_60 : decode prog_7_method_3_code 60 = .ok (.iload_n 2, 1) := by decide +kernel
theorem d_Standing_copy_61 : decode prog_7_method_3_code 61 = .ok (.aload_n 1, 1) := by decide +kernel
theorem d_Standing_copy_62 : decode prog_7_method_3_code 62 = .ok (.getfield 9, 3) := by decide +kernel
theorem d_Standing_copy_65 : decode prog_7_method_3_code 65 = .ok (.iload_n 2, 1) := by decide +kernel
theorem d_Standing_copy_66 : decode prog_7_method_3_code 66 = .ok (.iaload, 1) := by decide +kernel
theorem d_Standing_copy_67 : decode prog_7_method_3_code 67 = .ok (.iastore, 1) := by decide +kernel
theorem d_Standing_copy_68 : decode prog_7_method_3_code 68 = .ok (.iinc 2 1, 3) := by decide +kernel
theorem d_Standing_copy_71 : decode prog_7_method_3_code 71 = .ok (.goto (-21), 3) := by decide +kernel
theorem d_Standing_copy_74 : decode prog_7_method_3_code 74 = .ok (.return_, 1) := by decide +kernel
set_option maxHeartbeats 4000000 in
set_option maxRecDepth 20000 in
theorem c_Standing_copy (v0 : Nat) (hv0 : dscC[v0]? = some dSt) (p1 : Nat) (hp1 : dscC[p1]? = some dSt) (s0 : MS) (Q : MS → Prop) (h : wp_Standing_copy v0 p1 s0 Q) : MT dscC ⟨"BellSchool$Standing", "copy", "(LBellSchool$Standing;)V"⟩ prog_7_method_3_code 3 none 0 (fun ad => [.ref (ad v0), .ref (ad p1)]) s0 (po_V dscC Q) := by
  refine met_of (by decide) (fun _ => Nat.le_of_ble_eq_true rfl) (fun X E hR => ?_)
  replace E : EV dscC X prog_7_method_3_code "BellSchool$Standing" 3 0 := E
  show VV dscC X 0 [(0, .ref (adX X v0)), (1, .ref (adX X p1))] [] s0
  unfold wp_Standing_copy at h
  refine v_aloadn E d_Standing_copy_0 rfl 0 rfl ?_
  refine v_aloadn E d_Standing_copy_1 rfl 1 rfl ?_
  refine v_getI E cf5 hp1 1 (by decide) rfl mw105 d_Standing_copy_2 rfl ?_
  refine v_wt (fun wt1 => ?_)
  refine v_putI E cf5 hv0 1 (by decide) rfl rfl mw105 d_Standing_copy_5 rfl rfl rfl (wt1 p1 1) ?_
  refine v_nameS (fun s1 hs1 => ?_)
  replace h := h s1 hs1
  refine v_aloadn E d_Standing_copy_8 rfl 0 rfl ?_
  refine v_aloadn E d_Standing_copy_9 rfl 1 rfl ?_
  refine v_getI E cf5 hp1 2 (by decide) rfl mw106 d_Standing_copy_10 rfl ?_
  refine v_wt (fun wt2 => ?_)
  refine v_putI E cf5 hv0 2 (by decide) rfl rfl mw106 d_Standing_copy_13 rfl rfl rfl (wt2 p1 2) ?_
  refine v_nameS (fun s2 hs2 => ?_)
  replace h := h s2 hs2
  refine v_aloadn E d_Standing_copy_16 rfl 0 rfl ?_
  refine v_aloadn E d_Standing_copy_17 rfl 1 rfl ?_
  refine v_getI E cf5 hp1 3 (by decide) rfl mw107 d_Standing_copy_18 rfl ?_
  refine v_wt (fun wt3 => ?_)
  refine v_putI E cf5 hv0 3 (by decide) rfl rfl mw107 d_Standing_copy_21 rfl rfl rfl (wt3 p1 3) ?_
  refine v_nameS (fun s3 hs3 => ?_)
  replace h := h s3 hs3
  refine v_aloadn E d_Standing_copy_24 rfl 0 rfl ?_
  refine v_aloadn E d_Standing_copy_25 rfl 1 rfl ?_
  refine v_getI E cf5 hp1 4 (by decide) rfl mw108 d_Standing_copy_26 rfl ?_
  refine v_wt (fun wt4 => ?_)
  refine v_putI E cf5 hv0 4 (by decide) rfl rfl mw108 d_Standing_copy_29 rfl rfl rfl (wt4 p1 4) ?_
  refine v_nameS (fun s4 hs4 => ?_)
  replace h := h s4 hs4
  refine v_aloadn E d_Standing_copy_32 rfl 0 rfl ?_
  refine v_aloadn E d_Standing_copy_33 rfl 1 rfl ?_
  refine v_getI E cf5 hp1 5 (by decide) rfl mw109 d_Standing_copy_34 rfl ?_
  refine v_wt (fun wt5 => ?_)
  refine v_putI E cf5 hv0 5 (by decide) rfl rfl mw109 d_Standing_copy_37 rfl rfl rfl (wt5 p1 5) ?_
  refine v_nameS (fun s5 hs5 => ?_)
  replace h := h s5 hs5
  refine v_aloadn E d_Standing_copy_40 rfl 0 rfl ?_
  refine v_aloadn E d_Standing_copy_41 rfl 1 rfl ?_
  refine v_getL E cf5 hp1 6 (by decide) rfl mw110 d_Standing_copy_42 rfl ?_
  refine v_putL E cf5 hv0 6 (by decide) rfl rfl mw110 d_Standing_copy_45 rfl rfl rfl ?_
  refine v_nameS (fun s6 hs6 => ?_)
  replace h := h s6 hs6
  refine v_iconst E d_Standing_copy_48 ?_
  refine v_istoren E d_Standing_copy_49 rfl (by decide) (L' := [(2, .int (iI 0)), (0, .ref (adX X v0)), (1, .ref (adX X p1))]) rfl ?_
  refine v_sub [1, 2, 0] (L' := [(0, .ref (adX X v0)), (1, .ref (adX X p1)), (2, .int (iI 0))]) rfl ?_
  obtain ⟨I1, μ1, h01, h⟩ := h
  refine v_loop1 (fun (x1 : Int) => [(0, .ref (adX X v0)), (1, .ref (adX X p1)), (2, .int (iI x1))]) I1 μ1 (fun x1 s7 hI1 ih1 => ?_) 0 s6 h01
  replace h := h x1 s7 hI1
  refine v_iloadn E d_Standing_copy_50 rfl 2 rfl ?_
  refine v_bipush E d_Standing_copy_51 rfl ?_
  obtain ⟨q1, h⟩ := h
  refine v_icmp_ge E 74 d_Standing_copy_53 (by decide) q1 (by decide) (fun c1 => ?_) (fun c1 => ?_)
  · replace h := h.1 c1
    exact v_vret E hR h d_Standing_copy_74
  · replace h := h.2 c1
    refine v_aloadn E d_Standing_copy_56 rfl 0 rfl ?_
    refine v_getO E cf5 hv0 0 (by decide) rfl mw111 d_Standing_copy_57 rfl ?_
    refine v_iloadn E d_Standing_copy_60 rfl 2 rfl ?_
    refine v_aloadn E d_Standing_copy_61 rfl 1 rfl ?_
    refine v_getO E cf5 hp1 0 (by decide) rfl mw111 d_Standing_copy_62 rfl ?_
    refine v_iloadn E d_Standing_copy_65 rfl 2 rfl ?_
    obtain ⟨q2, h⟩ := h
    refine v_iald E (dC_o5_1 hp1) (by decide) q2.1 q2.2 d_Standing_copy_66 ?_
    refine v_wt (fun wt6 => ?_)
    refine v_iast E (dC_o5_1 hv0) (by decide) q2.1 q2.2 (wt6 (p1 + 1) x1) d_Standing_copy_67 ?_
    refine v_nameS (fun s8 hs8 => ?_)
    replace h := h s8 hs8
    refine v_iincN E d_Standing_copy_68 2 rfl (by decide) (fun y => [(2, .int (iI y)), (0, .ref (adX X v0)), (1, .ref (adX X p1))]) (fun _ => rfl) (fun x2 hx2 => ?_)
    replace h := h x2 hx2
    refine v_goto E 50 d_Standing_copy_71 (by decide) ?_
    obtain ⟨hb, hm⟩ := h
    exact v_sub [1, 2, 0] rfl (ih1 x2 s8 hb hm)
theorem d_Shelf_put_0 : decode prog_6_method_2_code 0 = .ok (.aload_n 0, 1) := by decide +kernel
theorem d_Shelf_put_1 : decode prog_6_method_2_code 1 = .ok (.getfield 7, 3) := by decide +kernel
theorem d_Shelf_put_4 : decode prog_6_method_2_code 4 = .ok (.ifCond .lt 15, 3) := by decide +kernel
theorem d_Shelf_put_7 : decode prog_6_method_2_code 7 = .ok (.aload_n 0, 1) := by decide +kernel
theorem d_Shelf_put_8 : decode prog_6_method_2_code 8 = .ok (.getfield 7, 3) := by decide +kernel
theorem d_Shelf_put_11 : decode prog_6_method_2_code 11 = .ok (.aload_n 0, 1) := by decide +kernel
theorem d_Shelf_put_12 : decode prog_6_method_2_code 12 = .ok (.getfield 21, 3) := by decide +kernel
theorem d_Shelf_put_15 : decode prog_6_method_2_code 15 = .ok (.arraylength, 1) := by decide +kernel
theorem d_Shelf_put_16 : decode prog_6_method_2_code 16 = .ok (.if_icmp .lt 5, 3) := by decide +kernel
theorem d_Shelf_put_19 : decode prog_6_method_2_code 19 = .ok (.iconst 0, 1) := by decide +kernel
theorem d_Shelf_put_20 : decode prog_6_method_2_code 20 = .ok (.ireturn, 1) := by decide +kernel
theorem d_Shelf_put_21 : decode prog_6_method_2_code 21 = .ok (.aload_n 0, 1) := by decide +kernel
theorem d_Shelf_put_22 : decode prog_6_method_2_code 22 = .ok (.getfield 21, 3) := by decide +kernel
theorem d_Shelf_put_25 : decode prog_6_method_2_code 25 = .ok (.aload_n 0, 1) := by decide +kernel
theorem d_Shelf_put_26 : decode prog_6_method_2_code 26 = .ok (.getfield 7, 3) := by decide +kernel
theorem d_Shelf_put_29 : decode prog_6_method_2_code 29 = .ok (.aaload, 1) := by decide +kernel
theorem d_Shelf_put_30 : decode prog_6_method_2_code 30 = .ok (.aload_n 1, 1) := by decide +kernel
theorem d_Shelf_put_31 : decode prog_6_method_2_code 31 = .ok (.invokevirtual 26, 3) := by decide +kernel
theorem d_Shelf_put_34 : decode prog_6_method_2_code 34 = .ok (.aload_n 0, 1) := by decide +kernel
theorem d_Shelf_put_35 : decode prog_6_method_2_code 35 = .ok (.dup, 1) := by decide +kernel
theorem d_Shelf_put_36 : decode prog_6_method_2_code 36 = .ok (.getfield 7, 3) := by decide +kernel
theorem d_Shelf_put_39 : decode prog_6_method_2_code 39 = .ok (.iconst 1, 1) := by decide +kernel
theorem d_Shelf_put_40 : decode prog_6_method_2_code 40 = .ok (.iadd, 1) := by decide +kernel
theorem d_Shelf_put_41 : decode prog_6_method_2_code 41 = .ok (.putfield 7, 3) := by decide +kernel
theorem d_Shelf_put_44 : decode prog_6_method_2_code 44 = .ok (.iconst 1, 1) := by decide +kernel
theorem d_Shelf_put_45 : decode prog_6_method_2_code 45 = .ok (.ireturn, 1) := by decide +kernel
set_option maxHeartbeats 4000000 in
set_option maxRecDepth 20000 in
theorem c_Shelf_put21 (p1 : Nat) (hp1 : dscC[p1]? = some dSt) (s0 : MS) (Q : Int → MS → Prop) (h : wp_Shelf_put21 p1 s0 Q) : MT dscC ⟨"BellSchool$Shelf", "put", "(LBellSchool$Standing;)Z"⟩ prog_6_method_2_code 2 (some .boolean) 1 (fun ad => [.ref (ad 21), .ref (ad p1)]) s0 (po_I dscC (fun r z => (r = 0 ∨ r = 1) ∧ Q r z)) := by
  refine met_of (by decide) (fun _ => Nat.le_of_ble_eq_true rfl) (fun X E hR => ?_)
  replace E : EV dscC X prog_6_method_2_code "BellSchool$Shelf" 2 1 := E
  show VV dscC X 0 [(0, .ref (adX X 21)), (1, .ref (adX X p1))] [] s0
  unfold wp_Shelf_put21 at h
  refine v_aloadn E d_Shelf_put_0 rfl 0 rfl ?_
  refine v_getI E cf4 dC_21 1 (by decide) rfl mw213 d_Shelf_put_1 rfl ?_
  refine v_wt (fun wt1 => ?_)
  refine v_if_lt E 19 d_Shelf_put_4 (by decide) (wt1 21 1) (fun c1 => ?_) (fun c1 => ?_)
  · replace h := h.1 c1
    refine v_iconst E d_Shelf_put_19 ?_
    exact v_iret E hR (nar_Z (by decide)) (Rng_Z (by decide)) ⟨(by decide), h⟩ d_Shelf_put_20
  · replace h := h.2 c1
    refine v_aloadn E d_Shelf_put_7 rfl 0 rfl ?_
    refine v_getI E cf4 dC_21 1 (by decide) rfl mw213 d_Shelf_put_8 rfl ?_
    refine v_aloadn E d_Shelf_put_11 rfl 0 rfl ?_
    refine v_getA E cf4 dC_21 0 (by decide) rfl mw214 d_Shelf_put_12 rfl ?_
    refine v_alen E (by decide) dC_22 d_Shelf_put_15 ?_
    refine v_icmp_lt E 21 d_Shelf_put_16 (by decide) (wt1 21 1) (by decide) (fun c2 => ?_) (fun c2 => ?_)
    · replace h := h.1 c2
      refine v_aloadn E d_Shelf_put_21 rfl 0 rfl ?_
      refine v_getA E cf4 dC_21 0 (by decide) rfl mw214 d_Shelf_put_22 rfl ?_
      refine v_aloadn E d_Shelf_put_25 rfl 0 rfl ?_
      refine v_getI E cf4 dC_21 1 (by decide) rfl mw213 d_Shelf_put_26 rfl ?_
      obtain ⟨q1, h⟩ := h
      refine v_aald E dC_22 (by decide) q1.1 q1.2 d_Shelf_put_29 (fun hv1 => ?_)
      refine v_aloadn E d_Shelf_put_30 rfl 1 rfl ?_
      refine v_callVV E md_Standing_copy (c_Standing_copy (gR s0 22 (gI s0 21 1)) hv1 p1 hp1 s0 _ h) hv1 rfl ⟨by decide, by decide⟩ mw215 d_Shelf_put_31 (fun _ => rfl) (st := []) rfl (Nat.le_of_ble_eq_true rfl) (fun s1 h => ?_)
      refine v_aloadn E d_Shelf_put_34 rfl 0 rfl ?_
      refine v_dup E d_Shelf_put_35 rfl ?_
      refine v_getI E cf4 dC_21 1 (by decide) rfl mw213 d_Shelf_put_36 rfl ?_
      refine v_iconst E d_Shelf_put_39 ?_
      refine v_iadd E d_Shelf_put_40 ?_
      obtain ⟨q2, h⟩ := h
      refine v_putI E cf4 dC_21 1 (by decide) rfl rfl mw213 d_Shelf_put_41 rfl rfl rfl q2 ?_
      refine v_nameS (fun s2 hs2 => ?_)
      replace h := h s2 hs2
      refine v_iconst E d_Shelf_put_44 ?_
      exact v_iret E hR (nar_Z (by decide)) (Rng_Z (by decide)) ⟨(by decide), h⟩ d_Shelf_put_45
    · replace h := h.2 c2
      refine v_iconst E d_Shelf_put_19 ?_
      exact v_iret E hR (nar_Z (by decide)) (Rng_Z (by decide)) ⟨(by decide), h⟩ d_Shelf_put_20
theorem d_Shelf_putDroppingOldest_0 : decode prog_6_method_3_code 0 = .ok (.aload_n 0, 1) := by decide +kernel
theorem d_Shelf_putDroppingOldest_1 : decode prog_6_method_3_code 1 = .ok (.getfield 7, 3) := by decide +kernel
theorem d_Shelf_putDroppingOldest_4 : decode prog_6_method_3_code 4 = .ok (.aload_n 0, 1) := by decide +kernel
theorem d_Shelf_putDroppingOldest_5 : decode prog_6_method_3_code 5 = .ok (.getfield 21, 3) := by decide +kernel
theorem d_Shelf_putDroppingOldest_8 : decode prog_6_method_3_code 8 = .ok (.arraylength, 1) := by decide +kernel
theorem d_Shelf_putDroppingOldest_9 : decode prog_6_method_3_code 9 = .ok (.if_icmp .lt 65, 3) := by decide +kernel
theorem d_Shelf_putDroppingOldest_12 : decode prog_6_method_3_code 12 = .ok (.aload_n 0, 1) := by decide +kernel
theorem d_Shelf_putDroppingOldest_13 : decode prog_6_method_3_code 13 = .ok (.getfield 21, 3) := by decide +kernel
theorem d_Shelf_putDroppingOldest_16 : decode prog_6_method_3_code 16 = .ok (.iconst 0, 1) := by decide +kernel
theorem d_Shelf_putDroppingOldest_17 : decode prog_6_method_3_code 17 = .ok (.aaload, 1) := by decide +kernel
theorem d_Shelf_putDroppingOldest_18 : decode prog_6_method_3_code 18 = .ok (.astore_n 2, 1) := by decide +kernel
theorem d_Shelf_putDroppingOldest_19 : decode prog_6_method_3_code 19 = .ok (.iconst 1, 1) := by decide +kernel
theorem d_Shelf_putDroppingOldest_20 : decode prog_6_method_3_code 20 = .ok (.istore_n 3, 1) := by decide +kernel
theorem d_Shelf_putDroppingOldest_21 : decode prog_6_method_3_code 21 = .ok (.iload_n 3, 1) := by decide +kernel
theorem d_Shelf_putDroppingOldest_22 : decode prog_6_method_3_code 22 = .ok (.aload_n 0, 1) := by decide +kernel
theorem d_Shelf_putDroppingOldest_23 : decode prog_6_method_3_code 23 = .ok (.getfield 21, 3) := by decide +kernel
theorem d_Shelf_putDroppingOldest_26 : decode prog_6_method_3_code 26 = .ok (.arraylength, 1) := by decide +kernel
theorem d_Shelf_putDroppingOldest_27 : decode prog_6_method_3_code 27 = .ok (.if_icmp .ge 23, 3) := by decide +kernel
theorem d_Shelf_putDroppingOldest_30 : decode prog_6_method_3_code 30 = .ok (.aload_n 0, 1) := by decide +kernel
theorem d_Shelf_putDroppingOldest_31 : decode prog_6_method_3_code 31 = .ok (.getfield 21, 3) := by decide +kernel
theorem d_Shelf_putDroppingOldest_34 : decode prog_6_method_3_code 34 = .ok (.iload_n 3, 1) := by decide +kernel
theorem d_Shelf_putDroppingOldest_35 : decode prog_6_method_3_code 35 = .ok (.iconst 1, 1) := by decide +kernel
theorem d_Shelf_putDroppingOldest_36 : decode prog_6_method_3_code 36 = .ok (.isub, 1) := by decide +kernel
theorem d_Shelf_putDroppingOldest_37 : decode prog_6_method_3_code 37 = .ok (.aload_n 0, 1) := by decide +kernel
theorem d_Shelf_putDroppingOldest_38 : decode prog_6_method_3_code 38 = .ok (.getfield 21, 3) := by decide +kernel
theorem d_Shelf_putDroppingOldest_41 : decode prog_6_method_3_code 41 = .ok (.iload_n 3, 1) := by decide +kernel
theorem d_Shelf_putDroppingOldest_42 : decode prog_6_method_3_code 42 = .ok (.aaload, 1) := by decide +kernel
theorem d_Shelf_putDroppingOldest_43 : decode prog_6_method_3_code 43 = .ok (.aastore, 1) := by decide +kernel
theorem d_Shelf_putDroppingOldest_44 : decode prog_6_method_3_code 44 = .ok (.iinc 3 1, 3) := by decide +kernel
theorem d_Shelf_putDroppingOldest_47 : decode prog_6_method_3_code 47 = .ok (.goto (-26), 3) := by decide +kernel
theorem d_Shelf_putDroppingOldest_50 : decode prog_6_method_3_code 50 = .ok (.aload_n 0, 1) := by decide +kernel
theorem d_Shelf_putDroppingOldest_51 : decode prog_6_method_3_code 51 = .ok (.getfield 21, 3) := by decide +kernel
theorem d_Shelf_putDroppingOldest_54 : decode prog_6_method_3_code 54 = .ok (.aload_n 0, 1) := by decide +kernel
theorem d_Shelf_putDroppingOldest_55 : decode prog_6_method_3_code 55 = .ok (.getfield 21, 3) := by decide +kernel
theorem d_Shelf_putDroppingOldest_58 : decode prog_6_method_3_code 58 = .ok (.arraylength, 1) := by decide +kernel
theorem d_Shelf_putDroppingOldest_59 : decode prog_6_method_3_code 59 = .ok (.iconst 1, 1) := by decide +kernel
theorem d_Shelf_putDroppingOldest_60 : decode prog_6_method_3_code 60 = .ok (.isub, 1) := by decide +kernel
theorem d_Shelf_putDroppingOldest_61 : decode prog_6_method_3_code 61 = .ok (.aload_n 2, 1) := by decide +kernel
theorem d_Shelf_putDroppingOldest_62 : decode prog_6_method_3_code 62 = .ok (.aastore, 1) := by decide +kernel
theorem d_Shelf_putDroppingOldest_63 : decode prog_6_method_3_code 63 = .ok (.aload_n 0, 1) := by decide +kernel
theorem d_Shelf_putDroppingOldest_64 : decode prog_6_method_3_code 64 = .ok (.aload_n 0, 1) := by decide +kernel
theorem d_Shelf_putDroppingOldest_65 : decode prog_6_method_3_code 65 = .ok (.getfield 21, 3) := by decide +kernel
theorem d_Shelf_putDroppingOldest_68 : decode prog_6_method_3_code 68 = .ok (.arraylength, 1) := by decide +kernel
theorem d_Shelf_putDroppingOldest_69 : decode prog_6_method_3_code 69 = .ok (.iconst 1, 1) := by decide +kernel
theorem d_Shelf_putDroppingOldest_70 : decode prog_6_method_3_code 70 = .ok (.isub, 1) := by decide +kernel
theorem d_Shelf_putDroppingOldest_71 : decode prog_6_method_3_code 71 = .ok (.putfield 7, 3) := by decide +kernel
theorem d_Shelf_putDroppingOldest_74 : decode prog_6_method_3_code 74 = .ok (.aload_n 0, 1) := by decide +kernel
theorem d_Shelf_putDroppingOldest_75 : decode prog_6_method_3_code 75 = .ok (.aload_n 1, 1) := by decide +kernel
theorem d_Shelf_putDroppingOldest_76 : decode prog_6_method_3_code 76 = .ok (.invokevirtual 30, 3) := by decide +kernel
theorem d_Shelf_putDroppingOldest_79 : decode prog_6_method_3_code 79 = .ok (.pop, 1) := by decide +kernel
theorem d_Shelf_putDroppingOldest_80 : decode prog_6_method_3_code 80 = .ok (.return_, 1) := by decide +kernel
set_option maxHeartbeats 4000000 in
set_option maxRecDepth 20000 in
theorem c_Shelf_putDroppingOldest21 (p1 : Nat) (hp1 : dscC[p1]? = some dSt) (s0 : MS) (Q : MS → Prop) (h : wp_Shelf_putDroppingOldest21 p1 s0 Q) : MT dscC ⟨"BellSchool$Shelf", "putDroppingOldest", "(LBellSchool$Standing;)V"⟩ prog_6_method_3_code 4 none 2 (fun ad => [.ref (ad 21), .ref (ad p1)]) s0 (po_V dscC Q) := by
  refine met_of (by decide) (fun _ => Nat.le_of_ble_eq_true rfl) (fun X E hR => ?_)
  replace E : EV dscC X prog_6_method_3_code "BellSchool$Shelf" 4 2 := E
  show VV dscC X 0 [(0, .ref (adX X 21)), (1, .ref (adX X p1))] [] s0
  unfold wp_Shelf_putDroppingOldest21 at h
  refine v_aloadn E d_Shelf_putDroppingOldest_0 rfl 0 rfl ?_
  refine v_getI E cf4 dC_21 1 (by decide) rfl mw213 d_Shelf_putDroppingOldest_1 rfl ?_
  refine v_aloadn E d_Shelf_putDroppingOldest_4 rfl 0 rfl ?_
  refine v_getA E cf4 dC_21 0 (by decide) rfl mw214 d_Shelf_putDroppingOldest_5 rfl ?_
  refine v_alen E (by decide) dC_22 d_Shelf_putDroppingOldest_8 ?_
  refine v_wt (fun wt1 => ?_)
  refine v_icmp_lt E 74 d_Shelf_putDroppingOldest_9 (by decide) (wt1 21 1) (by decide) (fun c1 => ?_) (fun c1 => ?_)
  · replace h := h.1 c1
    refine v_aloadn E d_Shelf_putDroppingOldest_74 rfl 0 rfl ?_
    refine v_aloadn E d_Shelf_putDroppingOldest_75 rfl 1 rfl ?_
    refine v_callVI E md_Shelf_put (c_Shelf_put21 p1 hp1 s0 _ h) dC_21 rfl ⟨by decide, by decide⟩ mw220 d_Shelf_putDroppingOldest_76 (fun _ => rfl) (st := []) rfl (Nat.le_of_ble_eq_true rfl) (fun r1 s1 hr1 h => ?_)
    obtain ⟨hz1, h⟩ := h
    refine v_pop E d_Shelf_putDroppingOldest_79 rfl ?_
    exact v_vret E hR h d_Shelf_putDroppingOldest_80
  · replace h := h.2 c1
    refine v_aloadn E d_Shelf_putDroppingOldest_12 rfl 0 rfl ?_
    refine v_getA E cf4 dC_21 0 (by decide) rfl mw214 d_Shelf_putDroppingOldest_13 rfl ?_
    refine v_iconst E d_Shelf_putDroppingOldest_16 ?_
    refine v_aald E dC_22 (by decide) (by decide) (by decide) d_Shelf_putDroppingOldest_17 (fun hv1 => ?_)
    refine v_astoren E d_Shelf_putDroppingOldest_18 rfl (by decide) (L' := [(2, .ref (adX X (gR s0 22 0))), (0, .ref (adX X 21)), (1, .ref (adX X p1))]) rfl ?_
    refine v_iconst E d_Shelf_putDroppingOldest_19 ?_
    refine v_istoren E d_Shelf_putDroppingOldest_20 rfl (by decide) (L' := [(3, .int (iI 1)), (2, .ref (adX X (gR s0 22 0))), (0, .ref (adX X 21)), (1, .ref (adX X p1))]) rfl ?_
    refine v_sub [2, 3, 1, 0] (L' := [(0, .ref (adX X 21)), (1, .ref (adX X p1)), (2, .ref (adX X (gR s0 22 0))), (3, .int (iI 1))]) rfl ?_
    obtain ⟨I1, μ1, h01, h⟩ := h
    refine v_loop1 (fun (x1 : Int) => [(0, .ref (adX X 21)), (1, .ref (adX X p1)), (2, .ref (adX X (gR s0 22 0))), (3, .int (iI x1))]) I1 μ1 (fun x1 s2 hI1 ih1 => ?_) 1 s0 h01
    replace h := h x1 s2 hI1
    refine v_iloadn E d_Shelf_putDroppingOldest_21 rfl 3 rfl ?_
    refine v_aloadn E d_Shelf_putDroppingOldest_22 rfl 0 rfl ?_
    refine v_getA E cf4 dC_21 0 (by decide) rfl mw214 d_Shelf_putDroppingOldest_23 rfl ?_
    refine v_alen E (by decide) dC_22 d_Shelf_putDroppingOldest_26 ?_
    obtain ⟨q1, h⟩ := h
    refine v_icmp_ge E 50 d_Shelf_putDroppingOldest_27 (by decide) q1 (by decide) (fun c2 => ?_) (fun c2 => ?_)
    · replace h := h.1 c2
      refine v_aloadn E d_Shelf_putDroppingOldest_50 rfl 0 rfl ?_
      refine v_getA E cf4 dC_21 0 (by decide) rfl mw214 d_Shelf_putDroppingOldest_51 rfl ?_
      refine v_aloadn E d_Shelf_putDroppingOldest_54 rfl 0 rfl ?_
      refine v_getA E cf4 dC_21 0 (by decide) rfl mw214 d_Shelf_putDroppingOldest_55 rfl ?_
      refine v_alen E (by decide) dC_22 d_Shelf_putDroppingOldest_58 ?_
      refine v_iconst E d_Shelf_putDroppingOldest_59 ?_
      refine v_isub E d_Shelf_putDroppingOldest_60 ?_
      refine v_aloadn E d_Shelf_putDroppingOldest_61 rfl 2 rfl ?_
      refine v_aast E dC_22 (by decide) hv1 (by decide) (by decide) d_Shelf_putDroppingOldest_62 ?_
      refine v_nameS (fun s3 hs3 => ?_)
      replace h := h s3 hs3
      refine v_aloadn E d_Shelf_putDroppingOldest_63 rfl 0 rfl ?_
      refine v_aloadn E d_Shelf_putDroppingOldest_64 rfl 0 rfl ?_
      refine v_getA E cf4 dC_21 0 (by decide) rfl mw214 d_Shelf_putDroppingOldest_65 rfl ?_
      refine v_alen E (by decide) dC_22 d_Shelf_putDroppingOldest_68 ?_
      refine v_iconst E d_Shelf_putDroppingOldest_69 ?_
      refine v_isub E d_Shelf_putDroppingOldest_70 ?_
      refine v_putI E cf4 dC_21 1 (by decide) rfl rfl mw213 d_Shelf_putDroppingOldest_71 rfl rfl rfl (by decide) ?_
      refine v_nameS (fun s4 hs4 => ?_)
      replace h := h s4 hs4
      refine v_aloadn E d_Shelf_putDroppingOldest_74 rfl 0 rfl ?_
      refine v_aloadn E d_Shelf_putDroppingOldest_75 rfl 1 rfl ?_
      refine v_callVI E md_Shelf_put (c_Shelf_put21 p1 hp1 s4 _ h) dC_21 rfl ⟨by decide, by decide⟩ mw220 d_Shelf_putDroppingOldest_76 (fun _ => rfl) (st := []) rfl (Nat.le_of_ble_eq_true rfl) (fun r2 s5 hr2 h => ?_)
      obtain ⟨hz2, h⟩ := h
      refine v_pop E d_Shelf_putDroppingOldest_79 rfl ?_
      exact v_vret E hR h d_Shelf_putDroppingOldest_80
    · replace h := h.2 c2
      refine v_aloadn E d_Shelf_putDroppingOldest_30 rfl 0 rfl ?_
      refine v_getA E cf4 dC_21 0 (by decide) rfl mw214 d_Shelf_putDroppingOldest_31 rfl ?_
      refine v_iloadn E d_Shelf_putDroppingOldest_34 rfl 3 rfl ?_
      refine v_iconst E d_Shelf_putDroppingOldest_35 ?_
      refine v_isub E d_Shelf_putDroppingOldest_36 ?_
      refine v_aloadn E d_Shelf_putDroppingOldest_37 rfl 0 rfl ?_
      refine v_getA E cf4 dC_21 0 (by decide) rfl mw214 d_Shelf_putDroppingOldest_38 rfl ?_
      refine v_iloadn E d_Shelf_putDroppingOldest_41 rfl 3 rfl ?_
      obtain ⟨q2, h⟩ := h
      refine v_aald E dC_22 (by decide) q2.1 q2.2 d_Shelf_putDroppingOldest_42 (fun hv2 => ?_)
      obtain ⟨q3, h⟩ := h
      refine v_aast E dC_22 (by decide) hv2 q3.1 q3.2 d_Shelf_putDroppingOldest_43 ?_
      refine v_nameS (fun s6 hs6 => ?_)
      replace h := h s6 hs6
      refine v_iincN E d_Shelf_putDroppingOldest_44 3 rfl (by decide) (fun y => [(3, .int (iI y)), (0, .ref (adX X 21)), (1, .ref (adX X p1)), (2, .ref (adX X (gR s0 22 0)))]) (fun _ => rfl) (fun x2 hx2 => ?_)
      replace h := h x2 hx2
      refine v_goto E 21 d_Shelf_putDroppingOldest_47 (by decide) ?_
      obtain ⟨hb, hm⟩ := h
      exact v_sub [1, 2, 3, 0] rfl (ih1 x2 s6 hb hm)
set_option maxHeartbeats 4000000 in
set_option maxRecDepth 20000 in
theorem c_Shelf_put23 (p1 : Nat) (hp1 : dscC[p1]? = some dSt) (s0 : MS) (Q : Int → MS → Prop) (h : wp_Shelf_put23 p1 s0 Q) : MT dscC ⟨"BellSchool$Shelf", "put", "(LBellSchool$Standing;)Z"⟩ prog_6_method_2_code 2 (some .boolean) 1 (fun ad => [.ref (ad 23), .ref (ad p1)]) s0 (po_I dscC (fun r z => (r = 0 ∨ r = 1) ∧ Q r z)) := by
  refine met_of (by decide) (fun _ => Nat.le_of_ble_eq_true rfl) (fun X E hR => ?_)
  replace E : EV dscC X prog_6_method_2_code "BellSchool$Shelf" 2 1 := E
  show VV dscC X 0 [(0, .ref (adX X 23)), (1, .ref (adX X p1))] [] s0
  unfold wp_Shelf_put23 at h
  refine v_aloadn E d_Shelf_put_0 rfl 0 rfl ?_
  refine v_getI E cf4 dC_23 1 (by decide) rfl mw213 d_Shelf_put_1 rfl ?_
  refine v_wt (fun wt1 => ?_)
  refine v_if_lt E 19 d_Shelf_put_4 (by decide) (wt1 23 1) (fun c1 => ?_) (fun c1 => ?_)
  · replace h := h.1 c1
    refine v_iconst E d_Shelf_put_19 ?_
    exact v_iret E hR (nar_Z (by decide)) (Rng_Z (by decide)) ⟨(by decide), h⟩ d_Shelf_put_20
  · replace h := h.2 c1
    refine v_aloadn E d_Shelf_put_7 rfl 0 rfl ?_
    refine v_getI E cf4 dC_23 1 (by decide) rfl mw213 d_Shelf_put_8 rfl ?_
    refine v_aloadn E d_Shelf_put_11 rfl 0 rfl ?_
    refine v_getA E cf4 dC_23 0 (by decide) rfl mw214 d_Shelf_put_12 rfl ?_
    refine v_alen E (by decide) dC_24 d_Shelf_put_15 ?_
    refine v_icmp_lt E 21 d_Shelf_put_16 (by decide) (wt1 23 1) (by decide) (fun c2 => ?_) (fun c2 => ?_)
    · replace h := h.1 c2
      refine v_aloadn E d_Shelf_put_21 rfl 0 rfl ?_
      refine v_getA E cf4 dC_23 0 (by decide) rfl mw214 d_Shelf_put_22 rfl ?_
      refine v_aloadn E d_Shelf_put_25 rfl 0 rfl ?_
      refine v_getI E cf4 dC_23 1 (by decide) rfl mw213 d_Shelf_put_26 rfl ?_
      obtain ⟨q1, h⟩ := h
      refine v_aald E dC_24 (by decide) q1.1 q1.2 d_Shelf_put_29 (fun hv1 => ?_)
      refine v_aloadn E d_Shelf_put_30 rfl 1 rfl ?_
      refine v_callVV E md_Standing_copy (c_Standing_copy (gR s0 24 (gI s0 23 1)) hv1 p1 hp1 s0 _ h) hv1 rfl ⟨by decide, by decide⟩ mw215 d_Shelf_put_31 (fun _ => rfl) (st := []) rfl (Nat.le_of_ble_eq_true rfl) (fun s1 h => ?_)
      refine v_aloadn E d_Shelf_put_34 rfl 0 rfl ?_
      refine v_dup E d_Shelf_put_35 rfl ?_
      refine v_getI E cf4 dC_23 1 (by decide) rfl mw213 d_Shelf_put_36 rfl ?_
      refine v_iconst E d_Shelf_put_39 ?_
      refine v_iadd E d_Shelf_put_40 ?_
      obtain ⟨q2, h⟩ := h
      refine v_putI E cf4 dC_23 1 (by decide) rfl rfl mw213 d_Shelf_put_41 rfl rfl rfl q2 ?_
      refine v_nameS (fun s2 hs2 => ?_)
      replace h := h s2 hs2
      refine v_iconst E d_Shelf_put_44 ?_
      exact v_iret E hR (nar_Z (by decide)) (Rng_Z (by decide)) ⟨(by decide), h⟩ d_Shelf_put_45
    · replace h := h.2 c2
      refine v_iconst E d_Shelf_put_19 ?_
      exact v_iret E hR (nar_Z (by decide)) (Rng_Z (by decide)) ⟨(by decide), h⟩ d_Shelf_put_20
set_option maxHeartbeats 4000000 in
set_option maxRecDepth 20000 in
theorem c_Shelf_putDroppingOldest23 (p1 : Nat) (hp1 : dscC[p1]? = some dSt) (s0 : MS) (Q : MS → Prop) (h : wp_Shelf_putDroppingOldest23 p1 s0 Q) : MT dscC ⟨"BellSchool$Shelf", "putDroppingOldest", "(LBellSchool$Standing;)V"⟩ prog_6_method_3_code 4 none 2 (fun ad => [.ref (ad 23), .ref (ad p1)]) s0 (po_V dscC Q) := by
  refine met_of (by decide) (fun _ => Nat.le_of_ble_eq_true rfl) (fun X E hR => ?_)
  replace E : EV dscC X prog_6_method_3_code "BellSchool$Shelf" 4 2 := E
  show VV dscC X 0 [(0, .ref (adX X 23)), (1, .ref (adX X p1))] [] s0
  unfold wp_Shelf_putDroppingOldest23 at h
  refine v_aloadn E d_Shelf_putDroppingOldest_0 rfl 0 rfl ?_
  refine v_getI E cf4 dC_23 1 (by decide) rfl mw213 d_Shelf_putDroppingOldest_1 rfl ?_
  refine v_aloadn E d_Shelf_putDroppingOldest_4 rfl 0 rfl ?_
  refine v_getA E cf4 dC_23 0 (by decide) rfl mw214 d_Shelf_putDroppingOldest_5 rfl ?_
  refine v_alen E (by decide) dC_24 d_Shelf_putDroppingOldest_8 ?_
  refine v_wt (fun wt1 => ?_)
  refine v_icmp_lt E 74 d_Shelf_putDroppingOldest_9 (by decide) (wt1 23 1) (by decide) (fun c1 => ?_) (fun c1 => ?_)
  · replace h := h.1 c1
    refine v_aloadn E d_Shelf_putDroppingOldest_74 rfl 0 rfl ?_
    refine v_aloadn E d_Shelf_putDroppingOldest_75 rfl 1 rfl ?_
    refine v_callVI E md_Shelf_put (c_Shelf_put23 p1 hp1 s0 _ h) dC_23 rfl ⟨by decide, by decide⟩ mw220 d_Shelf_putDroppingOldest_76 (fun _ => rfl) (st := []) rfl (Nat.le_of_ble_eq_true rfl) (fun r1 s1 hr1 h => ?_)
    obtain ⟨hz1, h⟩ := h
    refine v_pop E d_Shelf_putDroppingOldest_79 rfl ?_
    exact v_vret E hR h d_Shelf_putDroppingOldest_80
  · replace h := h.2 c1
    refine v_aloadn E d_Shelf_putDroppingOldest_12 rfl 0 rfl ?_
    refine v_getA E cf4 dC_23 0 (by decide) rfl mw214 d_Shelf_putDroppingOldest_13 rfl ?_
    refine v_iconst E d_Shelf_putDroppingOldest_16 ?_
    refine v_aald E dC_24 (by decide) (by decide) (by decide) d_Shelf_putDroppingOldest_17 (fun hv1 => ?_)
    refine v_astoren E d_Shelf_putDroppingOldest_18 rfl (by decide) (L' := [(2, .ref (adX X (gR s0 24 0))), (0, .ref (adX X 23)), (1, .ref (adX X p1))]) rfl ?_
    refine v_iconst E d_Shelf_putDroppingOldest_19 ?_
    refine v_istoren E d_Shelf_putDroppingOldest_20 rfl (by decide) (L' := [(3, .int (iI 1)), (2, .ref (adX X (gR s0 24 0))), (0, .ref (adX X 23)), (1, .ref (adX X p1))]) rfl ?_
    refine v_sub [2, 3, 1, 0] (L' := [(0, .ref (adX X 23)), (1, .ref (adX X p1)), (2, .ref (adX X (gR s0 24 0))), (3, .int (iI 1))]) rfl ?_
    obtain ⟨I1, μ1, h01, h⟩ := h
    refine v_loop1 (fun (x1 : Int) => [(0, .ref (adX X 23)), (1, .ref (adX X p1)), (2, .ref (adX X (gR s0 24 0))), (3, .int (iI x1))]) I1 μ1 (fun x1 s2 hI1 ih1 => ?_) 1 s0 h01
    replace h := h x1 s2 hI1
    refine v_iloadn E d_Shelf_putDroppingOldest_21 rfl 3 rfl ?_
    refine v_aloadn E d_Shelf_putDroppingOldest_22 rfl 0 rfl ?_
    refine v_getA E cf4 dC_23 0 (by decide) rfl mw214 d_Shelf_putDroppingOldest_23 rfl ?_
    refine v_alen E (by decide) dC_24 d_Shelf_putDroppingOldest_26 ?_
    obtain ⟨q1, h⟩ := h
    refine v_icmp_ge E 50 d_Shelf_putDroppingOldest_27 (by decide) q1 (by decide) (fun c2 => ?_) (fun c2 => ?_)
    · replace h := h.1 c2
      refine v_aloadn E d_Shelf_putDroppingOldest_50 rfl 0 rfl ?_
      refine v_getA E cf4 dC_23 0 (by decide) rfl mw214 d_Shelf_putDroppingOldest_51 rfl ?_
      refine v_aloadn E d_Shelf_putDroppingOldest_54 rfl 0 rfl ?_
      refine v_getA E cf4 dC_23 0 (by decide) rfl mw214 d_Shelf_putDroppingOldest_55 rfl ?_
      refine v_alen E (by decide) dC_24 d_Shelf_putDroppingOldest_58 ?_
      refine v_iconst E d_Shelf_putDroppingOldest_59 ?_
      refine v_isub E d_Shelf_putDroppingOldest_60 ?_
      refine v_aloadn E d_Shelf_putDroppingOldest_61 rfl 2 rfl ?_
      refine v_aast E dC_24 (by decide) hv1 (by decide) (by decide) d_Shelf_putDroppingOldest_62 ?_
      refine v_nameS (fun s3 hs3 => ?_)
      replace h := h s3 hs3
      refine v_aloadn E d_Shelf_putDroppingOldest_63 rfl 0 rfl ?_
      refine v_aloadn E d_Shelf_putDroppingOldest_64 rfl 0 rfl ?_
      refine v_getA E cf4 dC_23 0 (by decide) rfl mw214 d_Shelf_putDroppingOldest_65 rfl ?_
      refine v_alen E (by decide) dC_24 d_Shelf_putDroppingOldest_68 ?_
      refine v_iconst E d_Shelf_putDroppingOldest_69 ?_
      refine v_isub E d_Shelf_putDroppingOldest_70 ?_
      refine v_putI E cf4 dC_23 1 (by decide) rfl rfl mw213 d_Shelf_putDroppingOldest_71 rfl rfl rfl (by decide) ?_
      refine v_nameS (fun s4 hs4 => ?_)
      replace h := h s4 hs4
      refine v_aloadn E d_Shelf_putDroppingOldest_74 rfl 0 rfl ?_
      refine v_aloadn E d_Shelf_putDroppingOldest_75 rfl 1 rfl ?_
      refine v_callVI E md_Shelf_put (c_Shelf_put23 p1 hp1 s4 _ h) dC_23 rfl ⟨by decide, by decide⟩ mw220 d_Shelf_putDroppingOldest_76 (fun _ => rfl) (st := []) rfl (Nat.le_of_ble_eq_true rfl) (fun r2 s5 hr2 h => ?_)
      obtain ⟨hz2, h⟩ := h
      refine v_pop E d_Shelf_putDroppingOldest_79 rfl ?_
      exact v_vret E hR h d_Shelf_putDroppingOldest_80
    · replace h := h.2 c2
      refine v_aloadn E d_Shelf_putDroppingOldest_30 rfl 0 rfl ?_
      refine v_getA E cf4 dC_23 0 (by decide) rfl mw214 d_Shelf_putDroppingOldest_31 rfl ?_
      refine v_iloadn E d_Shelf_putDroppingOldest_34 rfl 3 rfl ?_
      refine v_iconst E d_Shelf_putDroppingOldest_35 ?_
      refine v_isub E d_Shelf_putDroppingOldest_36 ?_
      refine v_aloadn E d_Shelf_putDroppingOldest_37 rfl 0 rfl ?_
      refine v_getA E cf4 dC_23 0 (by decide) rfl mw214 d_Shelf_putDroppingOldest_38 rfl ?_
      refine v_iloadn E d_Shelf_putDroppingOldest_41 rfl 3 rfl ?_
      obtain ⟨q2, h⟩ := h
      refine v_aald E dC_24 (by decide) q2.1 q2.2 d_Shelf_putDroppingOldest_42 (fun hv2 => ?_)
      obtain ⟨q3, h⟩ := h
      refine v_aast E dC_24 (by decide) hv2 q3.1 q3.2 d_Shelf_putDroppingOldest_43 ?_
      refine v_nameS (fun s6 hs6 => ?_)
      replace h := h s6 hs6
      refine v_iincN E d_Shelf_putDroppingOldest_44 3 rfl (by decide) (fun y => [(3, .int (iI y)), (0, .ref (adX X 23)), (1, .ref (adX X p1)), (2, .ref (adX X (gR s0 24 0)))]) (fun _ => rfl) (fun x2 hx2 => ?_)
      replace h := h x2 hx2
      refine v_goto E 21 d_Shelf_putDroppingOldest_47 (by decide) ?_
      obtain ⟨hb, hm⟩ := h
      exact v_sub [1, 2, 3, 0] rfl (ih1 x2 s6 hb hm)
theorem d_Noon_goBy_0 : decode prog_3_method_10_code 0 = .ok (.aload_n 0, 1) := by decide +kernel
theorem d_Noon_goBy_1 : decode prog_3_method_10_code 1 = .ok (.aload_n 1, 1) := by decide +kernel
theorem d_Noon_goBy_2 : decode prog_3_method_10_code 2 = .ok (.invokevirtual 99, 3) := by decide +kernel
theorem d_Noon_goBy_5 : decode prog_3_method_10_code 5 = .ok (.aload_n 1, 1) := by decide +kernel
theorem d_Noon_goBy_6 : decode prog_3_method_10_code 6 = .ok (.getfield 103, 3) := by decide +kernel
theorem d_Noon_goBy_9 : decode prog_3_method_10_code 9 = .ok (.aload_n 1, 1) := by decide +kernel
theorem d_Noon_goBy_10 : decode prog_3_method_10_code 10 = .ok (.getfield 73, 3) := by decide +kernel
theorem d_Noon_goBy_13 : decode prog_3_method_10_code 13 = .ok (.dup2, 1) := by decide +kernel
theorem d_Noon_goBy_14 : decode prog_3_method_10_code 14 = .ok (.iaload, 1) := by decide +kernel
theorem d_Noon_goBy_15 : decode prog_3_method_10_code 15 = .ok (.aload_n 0, 1) := by decide +kernel
theorem d_Noon_goBy_16 : decode prog_3_method_10_code 16 = .ok (.getfield 26, 3) := by decide +kernel
theorem d_Noon_goBy_19 : decode prog_3_method_10_code 19 = .ok (.iadd, 1) := by decide +kernel
theorem d_Noon_goBy_20 : decode prog_3_method_10_code 20 = .ok (.iastore, 1) := by decide +kernel
theorem d_Noon_goBy_21 : decode prog_3_method_10_code 21 = .ok (.aload_n 0, 1) := by decide +kernel
theorem d_Noon_goBy_22 : decode prog_3_method_10_code 22 = .ok (.getfield 22, 3) := by decide +kernel
theorem d_Noon_goBy_25 : decode prog_3_method_10_code 25 = .ok (.bipush (-4), 2) := by decide +kernel
theorem d_Noon_goBy_27 : decode prog_3_method_10_code 27 = .ok (.if_icmp .eq 11, 3) := by decide +kernel
theorem d_Noon_goBy_30 : decode prog_3_method_10_code 30 = .ok (.aload_n 1, 1) := by decide +kernel
theorem d_Noon_goBy_31 : decode prog_3_method_10_code 31 = .ok (.aload_n 0, 1) := by decide +kernel
theorem d_Noon_goBy_32 : decode prog_3_method_10_code 32 = .ok (.getfield 22, 3) := by decide +kernel
theorem d_Noon_goBy_35 : decode prog_3_method_10_code 35 = .ok (.putfield 73, 3) := by decide +kernel
theorem d_Noon_goBy_38 : decode prog_3_method_10_code 38 = .ok (.aload_n 1, 1) := by decide +kernel
theorem d_Noon_goBy_39 : decode prog_3_method_10_code 39 = .ok (.dup, 1) := by decide +kernel
theorem d_Noon_goBy_40 : decode prog_3_method_10_code 40 = .ok (.getfield 106, 3) := by decide +kernel
theorem d_Noon_goBy_43 : decode prog_3_method_10_code 43 = .ok (.iconst 1, 1) := by decide +kernel
theorem d_Noon_goBy_44 : decode prog_3_method_10_code 44 = .ok (.aload_n 1, 1) := by decide +kernel
theorem d_Noon_goBy_45 : decode prog_3_method_10_code 45 = .ok (.getfield 73, 3) := by decide +kernel
theorem d_Noon_goBy_48 : decode prog_3_method_10_code 48 = .ok (.ishl, 1) := by decide +kernel
theorem d_Noon_goBy_49 : decode prog_3_method_10_code 49 = .ok (.ior, 1) := by decide +kernel
theorem d_Noon_goBy_50 : decode prog_3_method_10_code 50 = .ok (.putfield 106, 3) := by decide +kernel
theorem d_Noon_goBy_53 : decode prog_3_method_10_code 53 = .ok (.aload_n 1, 1) := by decide +kernel
theorem d_Noon_goBy_54 : decode prog_3_method_10_code 54 = .ok (.iconst 0, 1) := by decide +kernel
theorem d_Noon_goBy_55 : decode prog_3_method_10_code 55 = .ok (.putfield 70, 3) := by decide +kernel
theorem d_Noon_goBy_58 : decode prog_3_method_10_code 58 = .ok (.aload_n 1, 1) := by decide +kernel
theorem d_Noon_goBy_59 : decode prog_3_method_10_code 59 = .ok (.dup, 1) := by decide +kernel
theorem d_Noon_goBy_60 : decode prog_3_method_10_code 60 = .ok (.getfield 88, 3) := by decide +kernel
theorem d_Noon_goBy_63 : decode prog_3_method_10_code 63 = .ok (.iconst 1, 1) := by decide +kernel
theorem d_Noon_goBy_64 : decode prog_3_method_10_code 64 = .ok (.iadd, 1) := by decide +kernel
theorem d_Noon_goBy_65 : decode prog_3_method_10_code 65 = .ok (.putfield 88, 3) := by decide +kernel
theorem d_Noon_goBy_68 : decode prog_3_method_10_code 68 = .ok (.return_, 1) := by decide +kernel
set_option maxHeartbeats 4000000 in
set_option maxRecDepth 20000 in
theorem c_Noon_goBy (p1 : Nat) (hp1 : dscC[p1]? = some dSt) (s0 : MS) (Q : MS → Prop) (h : wp_Noon_goBy p1 s0 Q) : MT dscC ⟨"BellSchool$Noon", "goBy", "(LBellSchool$Standing;)V"⟩ prog_3_method_10_code 2 none 4 (fun ad => [.ref (ad 17), .ref (ad p1)]) s0 (po_V dscC Q) := by
  refine met_of (by decide) (fun _ => Nat.le_of_ble_eq_true rfl) (fun X E hR => ?_)
  replace E : EV dscC X prog_3_method_10_code "BellSchool$Noon" 2 4 := E
  show VV dscC X 0 [(0, .ref (adX X 17)), (1, .ref (adX X p1))] [] s0
  unfold wp_Noon_goBy at h
  refine v_aloadn E d_Noon_goBy_0 rfl 0 rfl ?_
  refine v_aloadn E d_Noon_goBy_1 rfl 1 rfl ?_
  refine v_callVV E md_Noon_gather (c_Noon_gather p1 hp1 s0 _ h) dC_17 rfl ⟨by decide, by decide⟩ mw224 d_Noon_goBy_2 (fun _ => rfl) (st := []) rfl (Nat.le_of_ble_eq_true rfl) (fun s1 h => ?_)
  refine v_aloadn E d_Noon_goBy_5 rfl 1 rfl ?_
  refine v_getO E cf5 hp1 0 (by decide) rfl mw225 d_Noon_goBy_6 rfl ?_
  refine v_aloadn E d_Noon_goBy_9 rfl 1 rfl ?_
  refine v_getI E cf5 hp1 2 (by decide) rfl mw184 d_Noon_goBy_10 rfl ?_
  refine v_dup2 E d_Noon_goBy_13 rfl rfl ?_
  obtain ⟨q1, h⟩ := h
  refine v_iald E (dC_o5_1 hp1) (by decide) q1.1 q1.2 d_Noon_goBy_14 ?_
  refine v_aloadn E d_Noon_goBy_15 rfl 0 rfl ?_
  refine v_getI E cf1 dC_17 5 (by decide) rfl mw193 d_Noon_goBy_16 rfl ?_
  refine v_iadd E d_Noon_goBy_19 ?_
  obtain ⟨q2, h⟩ := h
  refine v_iast E (dC_o5_1 hp1) (by decide) q1.1 q1.2 q2 d_Noon_goBy_20 ?_
  refine v_nameS (fun s2 hs2 => ?_)
  replace h := h s2 hs2
  refine v_aloadn E d_Noon_goBy_21 rfl 0 rfl ?_
  refine v_getI E cf1 dC_17 4 (by decide) rfl mw192 d_Noon_goBy_22 rfl ?_
  refine v_bipush E d_Noon_goBy_25 rfl ?_
  refine v_wt (fun wt1 => ?_)
  refine v_icmp_eq E 38 d_Noon_goBy_27 (by decide) (wt1 17 4) (by decide) (fun c1 => ?_) (fun c1 => ?_)
  · replace h := h.1 c1
    refine v_aloadn E d_Noon_goBy_38 rfl 1 rfl ?_
    refine v_dup E d_Noon_goBy_39 rfl ?_
    refine v_getI E cf5 hp1 5 (by decide) rfl mw226 d_Noon_goBy_40 rfl ?_
    refine v_iconst E d_Noon_goBy_43 ?_
    refine v_aloadn E d_Noon_goBy_44 rfl 1 rfl ?_
    refine v_getI E cf5 hp1 2 (by decide) rfl mw184 d_Noon_goBy_45 rfl ?_
    refine v_ishl E d_Noon_goBy_48 ?_
    refine v_ior E d_Noon_goBy_49 ?_
    refine v_putI E cf5 hp1 5 (by decide) rfl rfl mw226 d_Noon_goBy_50 rfl rfl rfl (Rng_of _) ?_
    refine v_nameS (fun s3 hs3 => ?_)
    replace h := h s3 hs3
    refine v_aloadn E d_Noon_goBy_53 rfl 1 rfl ?_
    refine v_iconst E d_Noon_goBy_54 ?_
    refine v_putI E cf5 hp1 3 (by decide) rfl rfl mw183 d_Noon_goBy_55 rfl rfl rfl (by decide) ?_
    refine v_nameS (fun s4 hs4 => ?_)
    replace h := h s4 hs4
    refine v_aloadn E d_Noon_goBy_58 rfl 1 rfl ?_
    refine v_dup E d_Noon_goBy_59 rfl ?_
    refine v_getI E cf5 hp1 1 (by decide) rfl mw194 d_Noon_goBy_60 rfl ?_
    refine v_iconst E d_Noon_goBy_63 ?_
    refine v_iadd E d_Noon_goBy_64 ?_
    obtain ⟨q3, h⟩ := h
    refine v_putI E cf5 hp1 1 (by decide) rfl rfl mw194 d_Noon_goBy_65 rfl rfl rfl q3 ?_
    refine v_nameS (fun s5 hs5 => ?_)
    replace h := h s5 hs5
    exact v_vret E hR h d_Noon_goBy_68
  · replace h := h.2 c1
    refine v_aloadn E d_Noon_goBy_30 rfl 1 rfl ?_
    refine v_aloadn E d_Noon_goBy_31 rfl 0 rfl ?_
    refine v_getI E cf1 dC_17 4 (by decide) rfl mw192 d_Noon_goBy_32 rfl ?_
    refine v_putI E cf5 hp1 2 (by decide) rfl rfl mw184 d_Noon_goBy_35 rfl rfl rfl (wt1 17 4) ?_
    refine v_nameS (fun s6 hs6 => ?_)
    replace h := h s6 hs6
    refine v_aloadn E d_Noon_goBy_38 rfl 1 rfl ?_
    refine v_dup E d_Noon_goBy_39 rfl ?_
    refine v_getI E cf5 hp1 5 (by decide) rfl mw226 d_Noon_goBy_40 rfl ?_
    refine v_iconst E d_Noon_goBy_43 ?_
    refine v_aloadn E d_Noon_goBy_44 rfl 1 rfl ?_
    refine v_getI E cf5 hp1 2 (by decide) rfl mw184 d_Noon_goBy_45 rfl ?_
    refine v_ishl E d_Noon_goBy_48 ?_
    refine v_ior E d_Noon_goBy_49 ?_
    refine v_putI E cf5 hp1 5 (by decide) rfl rfl mw226 d_Noon_goBy_50 rfl rfl rfl (Rng_of _) ?_
    refine v_nameS (fun s7 hs7 => ?_)
    replace h := h s7 hs7
    refine v_aloadn E d_Noon_goBy_53 rfl 1 rfl ?_
    refine v_iconst E d_Noon_goBy_54 ?_
    refine v_putI E cf5 hp1 3 (by decide) rfl rfl mw183 d_Noon_goBy_55 rfl rfl rfl (by decide) ?_
    refine v_nameS (fun s8 hs8 => ?_)
    replace h := h s8 hs8
    refine v_aloadn E d_Noon_goBy_58 rfl 1 rfl ?_
    refine v_dup E d_Noon_goBy_59 rfl ?_
    refine v_getI E cf5 hp1 1 (by decide) rfl mw194 d_Noon_goBy_60 rfl ?_
    refine v_iconst E d_Noon_goBy_63 ?_
    refine v_iadd E d_Noon_goBy_64 ?_
    obtain ⟨q4, h⟩ := h
    refine v_putI E cf5 hp1 1 (by decide) rfl rfl mw194 d_Noon_goBy_65 rfl rfl rfl q4 ?_
    refine v_nameS (fun s9 hs9 => ?_)
    replace h := h s9 hs9
    exact v_vret E hR h d_Noon_goBy_68
theorem d_B_goBy_0 : decode prog_1_method_31_code 0 = .ok (.iconst 0, 1) := by decide +kernel
theorem d_B_goBy_1 : decode prog_1_method_31_code 1 = .ok (.istore_n 3, 1) := by decide +kernel
theorem d_B_goBy_2 : decode prog_1_method_31_code 2 = .ok (.iload_n 3, 1) := by decide +kernel
theorem d_B_goBy_3 : decode prog_1_method_31_code 3 = .ok (.iload_n 2, 1) := by decide +kernel
theorem d_B_goBy_4 : decode prog_1_method_31_code 4 = .ok (.if_icmp .ge 17, 3) := by decide +kernel
theorem d_B_goBy_7 : decode prog_1_method_31_code 7 = .ok (.aload_n 0, 1) := by decide +kernel
theorem d_B_goBy_8 : decode prog_1_method_31_code 8 = .ok (.getfield 38, 3) := by decide +kernel
theorem d_B_goBy_11 : decode prog_1_method_31_code 11 = .ok (.aload_n 1, 1) := by decide +kernel
theorem d_B_goBy_12 : decode prog_1_method_31_code 12 = .ok (.invokevirtual 196, 3) := by decide +kernel
theorem d_B_goBy_15 : decode prog_1_method_31_code 15 = .ok (.iinc 3 1, 3) := by decide +kernel
theorem d_B_goBy_18 : decode prog_1_method_31_code 18 = .ok (.goto (-16), 3) := by decide +kernel
theorem d_B_goBy_21 : decode prog_1_method_31_code 21 = .ok (.return_, 1) := by decide +kernel
set_option maxHeartbeats 4000000 in
set_option maxRecDepth 20000 in
theorem c_B_goBy (p1 : Nat) (hp1 : dscC[p1]? = some dSt) (p2 : Int) (hp2 : Rng p2) (s0 : MS) (Q : MS → Prop) (h : wp_B_goBy p1 p2 s0 Q) : MT dscC ⟨"BellSchool", "goBy", "(LBellSchool$Standing;I)V"⟩ prog_1_method_31_code 4 none 5 (fun ad => [.ref (ad 0), .ref (ad p1), .int (iI p2)]) s0 (po_V dscC Q) := by
  refine met_of (by decide) (fun _ => Nat.le_of_ble_eq_true rfl) (fun X E hR => ?_)
  replace E : EV dscC X prog_1_method_31_code "BellSchool" 4 5 := E
  show VV dscC X 0 [(0, .ref (adX X 0)), (1, .ref (adX X p1)), (2, .int (iI p2))] [] s0
  unfold wp_B_goBy at h
  refine v_iconst E d_B_goBy_0 ?_
  refine v_istoren E d_B_goBy_1 rfl (by decide) (L' := [(3, .int (iI 0)), (0, .ref (adX X 0)), (1, .ref (adX X p1)), (2, .int (iI p2))]) rfl ?_
  refine v_sub [1, 2, 3, 0] (L' := [(0, .ref (adX X 0)), (1, .ref (adX X p1)), (2, .int (iI p2)), (3, .int (iI 0))]) rfl ?_
  obtain ⟨I1, μ1, h01, h⟩ := h
  refine v_loop1 (fun (x1 : Int) => [(0, .ref (adX X 0)), (1, .ref (adX X p1)), (2, .int (iI p2)), (3, .int (iI x1))]) I1 μ1 (fun x1 s1 hI1 ih1 => ?_) 0 s0 h01
  replace h := h x1 s1 hI1
  refine v_iloadn E d_B_goBy_2 rfl 3 rfl ?_
  refine v_iloadn E d_B_goBy_3 rfl 2 rfl ?_
  obtain ⟨q1, h⟩ := h
  refine v_icmp_ge E 21 d_B_goBy_4 (by decide) q1 hp2 (fun c1 => ?_) (fun c1 => ?_)
  · replace h := h.1 c1
    exact v_vret E hR h d_B_goBy_21
  · replace h := h.2 c1
    refine v_aloadn E d_B_goBy_7 rfl 0 rfl ?_
    refine v_getA E cf8 dC_0 4 (by decide) rfl mw119 d_B_goBy_8 rfl ?_
    refine v_aloadn E d_B_goBy_11 rfl 1 rfl ?_
    refine v_callVV E md_Noon_goBy (c_Noon_goBy p1 hp1 s1 _ h) dC_17 rfl ⟨by decide, by decide⟩ mw230 d_B_goBy_12 (fun _ => rfl) (st := []) rfl (Nat.le_of_ble_eq_true rfl) (fun s2 h => ?_)
    refine v_iincN E d_B_goBy_15 3 rfl (by decide) (fun y => [(3, .int (iI y)), (0, .ref (adX X 0)), (1, .ref (adX X p1)), (2, .int (iI p2))]) (fun _ => rfl) (fun x2 hx2 => ?_)
    replace h := h x2 hx2
    refine v_goto E 2 d_B_goBy_18 (by decide) ?_
    obtain ⟨hb, hm⟩ := h
    exact v_sub [1, 2, 3, 0] rfl (ih1 x2 s2 hb hm)
theorem d_B_pass_0 : decode prog_1_method_11_code 0 = .ok (.iload_n 1, 1) := by decide +kernel
theorem d_B_pass_1 : decode prog_1_method_11_code 1 = .ok (.iconst 1, 1) := by decide +kernel
theorem d_B_pass_2 : decode prog_1_method_11_code 2 = .ok (.if_icmp .lt 9, 3) := by decide +kernel
theorem d_B_pass_5 : decode prog_1_method_11_code 5 = .ok (.iload_n 1, 1) := by decide +kernel
theorem d_B_pass_6 : decode prog_1_method_11_code 6 = .ok (.bipush 28, 2) := by decide +kernel
theorem d_B_pass_8 : decode prog_1_method_11_code 8 = .ok (.if_icmp .le 5, 3) := by decide +kernel
theorem d_B_pass_11 : decode prog_1_method_11_code 11 = .ok (.iconst (-1), 1) := by decide +kernel
theorem d_B_pass_12 : decode prog_1_method_11_code 12 = .ok (.ireturn, 1) := by decide +kernel
theorem d_B_pass_13 : decode prog_1_method_11_code 13 = .ok (.aload_n 0, 1) := by decide +kernel
theorem d_B_pass_14 : decode prog_1_method_11_code 14 = .ok (.getfield 57, 3) := by decide +kernel
theorem d_B_pass_17 : decode prog_1_method_11_code 17 = .ok (.aload_n 0, 1) := by decide +kernel
theorem d_B_pass_18 : decode prog_1_method_11_code 18 = .ok (.getfield 45, 3) := by decide +kernel
theorem d_B_pass_21 : decode prog_1_method_11_code 21 = .ok (.invokevirtual 179, 3) := by decide +kernel
theorem d_B_pass_24 : decode prog_1_method_11_code 24 = .ok (.aload_n 0, 1) := by decide +kernel
theorem d_B_pass_25 : decode prog_1_method_11_code 25 = .ok (.aload_n 0, 1) := by decide +kernel
theorem d_B_pass_26 : decode prog_1_method_11_code 26 = .ok (.getfield 45, 3) := by decide +kernel
theorem d_B_pass_29 : decode prog_1_method_11_code 29 = .ok (.iload_n 1, 1) := by decide +kernel
theorem d_B_pass_30 : decode prog_1_method_11_code 30 = .ok (.invokevirtual 182, 3) := by decide +kernel
theorem d_B_pass_33 : decode prog_1_method_11_code 33 = .ok (.aload_n 0, 1) := by decide +kernel
theorem d_B_pass_34 : decode prog_1_method_11_code 34 = .ok (.getfield 45, 3) := by decide +kernel
theorem d_B_pass_37 : decode prog_1_method_11_code 37 = .ok (.getfield 128, 3) := by decide +kernel
theorem d_B_pass_40 : decode prog_1_method_11_code 40 = .ok (.ireturn, 1) := by decide +kernel
set_option maxHeartbeats 4000000 in
set_option maxRecDepth 20000 in
theorem c_B_pass (p1 : Int) (hp1 : Rng p1) (s0 : MS) (Q : Int → MS → Prop) (h : wp_B_pass p1 s0 Q) : MT dscC ⟨"BellSchool", "pass", "(I)I"⟩ prog_1_method_11_code 2 (some .int) 6 (fun ad => [.ref (ad 0), .int (iI p1)]) s0 (po_I dscC Q) := by
  refine met_of (by decide) (fun _ => Nat.le_of_ble_eq_true rfl) (fun X E hR => ?_)
  replace E : EV dscC X prog_1_method_11_code "BellSchool" 2 6 := E
  show VV dscC X 0 [(0, .ref (adX X 0)), (1, .int (iI p1))] [] s0
  unfold wp_B_pass at h
  refine v_iloadn E d_B_pass_0 rfl 1 rfl ?_
  refine v_iconst E d_B_pass_1 ?_
  refine v_icmp_lt E 11 d_B_pass_2 (by decide) hp1 (by decide) (fun c1 => ?_) (fun c1 => ?_)
  · replace h := h.1 c1
    refine v_iconst E d_B_pass_11 ?_
    exact v_iret E hR rfl (by decide) h d_B_pass_12
  · replace h := h.2 c1
    refine v_iloadn E d_B_pass_5 rfl 1 rfl ?_
    refine v_bipush E d_B_pass_6 rfl ?_
    refine v_icmp_le E 13 d_B_pass_8 (by decide) hp1 (by decide) (fun c2 => ?_) (fun c2 => ?_)
    · replace h := h.1 c2
      refine v_aloadn E d_B_pass_13 rfl 0 rfl ?_
      refine v_getA E cf8 dC_0 7 (by decide) rfl mw125 d_B_pass_14 rfl ?_
      refine v_aloadn E d_B_pass_17 rfl 0 rfl ?_
      refine v_getA E cf8 dC_0 5 (by decide) rfl mw123 d_B_pass_18 rfl ?_
      refine v_callVV E md_Shelf_putDroppingOldest (c_Shelf_putDroppingOldest21 36 dC_36 s0 _ h) dC_21 rfl ⟨by decide, by decide⟩ mw234 d_B_pass_21 (fun _ => rfl) (st := []) rfl (Nat.le_of_ble_eq_true rfl) (fun s1 h => ?_)
      refine v_aloadn E d_B_pass_24 rfl 0 rfl ?_
      refine v_aloadn E d_B_pass_25 rfl 0 rfl ?_
      refine v_getA E cf8 dC_0 5 (by decide) rfl mw123 d_B_pass_26 rfl ?_
      refine v_iloadn E d_B_pass_29 rfl 1 rfl ?_
      refine v_callVV E md_B_goBy (c_B_goBy 36 dC_36 p1 hp1 s1 _ h) dC_0 rfl ⟨by decide, by decide⟩ mw235 d_B_pass_30 (fun _ => rfl) (st := []) rfl (Nat.le_of_ble_eq_true rfl) (fun s2 h => ?_)
      refine v_aloadn E d_B_pass_33 rfl 0 rfl ?_
      refine v_getA E cf8 dC_0 5 (by decide) rfl mw123 d_B_pass_34 rfl ?_
      refine v_getI E cf5 dC_36 2 (by decide) rfl mw139 d_B_pass_37 rfl ?_
      refine v_wt (fun wt1 => ?_)
      exact v_iret E hR rfl (wt1 36 2) h d_B_pass_40
    · replace h := h.2 c2
      refine v_iconst E d_B_pass_11 ?_
      exact v_iret E hR rfl (by decide) h d_B_pass_12
theorem d_B_keepBack_0 : decode prog_1_method_12_code 0 = .ok (.aload_n 0, 1) := by decide +kernel
theorem d_B_keepBack_1 : decode prog_1_method_12_code 1 = .ok (.getfield 10, 3) := by decide +kernel
theorem d_B_keepBack_4 : decode prog_1_method_12_code 4 = .ok (.iload_n 1, 1) := by decide +kernel
theorem d_B_keepBack_5 : decode prog_1_method_12_code 5 = .ok (.invokevirtual 118, 3) := by decide +kernel
theorem d_B_keepBack_8 : decode prog_1_method_12_code 8 = .ok (.ifCond .ne 5, 3) := by decide +kernel
theorem d_B_keepBack_11 : decode prog_1_method_12_code 11 = .ok (.iconst (-1), 1) := by decide +kernel
theorem d_B_keepBack_12 : decode prog_1_method_12_code 12 = .ok (.ireturn, 1) := by decide +kernel
theorem d_B_keepBack_13 : decode prog_1_method_12_code 13 = .ok (.aload_n 0, 1) := by decide +kernel
theorem d_B_keepBack_14 : decode prog_1_method_12_code 14 = .ok (.getfield 57, 3) := by decide +kernel
theorem d_B_keepBack_17 : decode prog_1_method_12_code 17 = .ok (.aload_n 0, 1) := by decide +kernel
theorem d_B_keepBack_18 : decode prog_1_method_12_code 18 = .ok (.getfield 45, 3) := by decide +kernel
theorem d_B_keepBack_21 : decode prog_1_method_12_code 21 = .ok (.invokevirtual 179, 3) := by decide +kernel
theorem d_B_keepBack_24 : decode prog_1_method_12_code 24 = .ok (.aload_n 0, 1) := by decide +kernel
theorem d_B_keepBack_25 : decode prog_1_method_12_code 25 = .ok (.getfield 45, 3) := by decide +kernel
theorem d_B_keepBack_28 : decode prog_1_method_12_code 28 = .ok (.dup, 1) := by decide +kernel
theorem d_B_keepBack_29 : decode prog_1_method_12_code 29 = .ok (.getfield 140, 3) := by decide +kernel
theorem d_B_keepBack_32 : decode prog_1_method_12_code 32 = .ok (.iconst 1, 1) := by decide +kernel
theorem d_B_keepBack_33 : decode prog_1_method_12_code 33 = .ok (.iload_n 1, 1) := by decide +kernel
theorem d_B_keepBack_34 : decode prog_1_method_12_code 34 = .ok (.ishl, 1) := by decide +kernel
theorem d_B_keepBack_35 : decode prog_1_method_12_code 35 = .ok (.ixor, 1) := by decide +kernel
theorem d_B_keepBack_36 : decode prog_1_method_12_code 36 = .ok (.putfield 140, 3) := by decide +kernel
theorem d_B_keepBack_39 : decode prog_1_method_12_code 39 = .ok (.aload_n 0, 1) := by decide +kernel
theorem d_B_keepBack_40 : decode prog_1_method_12_code 40 = .ok (.getfield 45, 3) := by decide +kernel
theorem d_B_keepBack_43 : decode prog_1_method_12_code 43 = .ok (.getfield 140, 3) := by decide +kernel
theorem d_B_keepBack_46 : decode prog_1_method_12_code 46 = .ok (.iload_n 1, 1) := by decide +kernel
theorem d_B_keepBack_47 : decode prog_1_method_12_code 47 = .ok (.ishr, 1) := by decide +kernel
theorem d_B_keepBack_48 : decode prog_1_method_12_code 48 = .ok (.iconst 1, 1) := by decide +kernel
theorem d_B_keepBack_49 : decode prog_1_method_12_code 49 = .ok (.iand, 1) := by decide +kernel
theorem d_B_keepBack_50 : decode prog_1_method_12_code 50 = .ok (.ireturn, 1) := by decide +kernel
set_option maxHeartbeats 4000000 in
set_option maxRecDepth 20000 in
theorem c_B_keepBack (p1 : Int) (hp1 : Rng p1) (s0 : MS) (Q : Int → MS → Prop) (h : wp_B_keepBack p1 s0 Q) : MT dscC ⟨"BellSchool", "keepBack", "(I)I"⟩ prog_1_method_12_code 2 (some .int) 3 (fun ad => [.ref (ad 0), .int (iI p1)]) s0 (po_I dscC Q) := by
  refine met_of (by decide) (fun _ => Nat.le_of_ble_eq_true rfl) (fun X E hR => ?_)
  replace E : EV dscC X prog_1_method_12_code "BellSchool" 2 3 := E
  show VV dscC X 0 [(0, .ref (adX X 0)), (1, .int (iI p1))] [] s0
  unfold wp_B_keepBack at h
  refine v_aloadn E d_B_keepBack_0 rfl 0 rfl ?_
  refine v_getR E cf8 dC_0 0 (by decide) rfl mw118 d_B_keepBack_1 rfl (fun hv1 => ?_)
  refine v_iloadn E d_B_keepBack_4 rfl 1 rfl ?_
  refine v_callVIpz E md_Valley_has (c_Valley_has (gR s0 0 0) hv1 p1 hp1 s0 _ h) hv1 rfl ⟨by decide, by decide⟩ mw117 d_B_keepBack_5 (fun _ => rfl) (st := []) rfl (Nat.le_of_ble_eq_true rfl) (fun r1 hr1 hz1 h => ?_)
  refine v_if_ne E 13 d_B_keepBack_8 (by decide) hr1 (fun c1 => ?_) (fun c1 => ?_)
  · replace h := h.1 c1
    refine v_aloadn E d_B_keepBack_13 rfl 0 rfl ?_
    refine v_getA E cf8 dC_0 7 (by decide) rfl mw125 d_B_keepBack_14 rfl ?_
    refine v_aloadn E d_B_keepBack_17 rfl 0 rfl ?_
    refine v_getA E cf8 dC_0 5 (by decide) rfl mw123 d_B_keepBack_18 rfl ?_
    refine v_callVV E md_Shelf_putDroppingOldest (c_Shelf_putDroppingOldest21 36 dC_36 s0 _ h) dC_21 rfl ⟨by decide, by decide⟩ mw234 d_B_keepBack_21 (fun _ => rfl) (st := []) rfl (Nat.le_of_ble_eq_true rfl) (fun s1 h => ?_)
    refine v_aloadn E d_B_keepBack_24 rfl 0 rfl ?_
    refine v_getA E cf8 dC_0 5 (by decide) rfl mw123 d_B_keepBack_25 rfl ?_
    refine v_dup E d_B_keepBack_28 rfl ?_
    refine v_getI E cf5 dC_36 3 (by decide) rfl mw143 d_B_keepBack_29 rfl ?_
    refine v_iconst E d_B_keepBack_32 ?_
    refine v_iloadn E d_B_keepBack_33 rfl 1 rfl ?_
    refine v_ishl E d_B_keepBack_34 ?_
    refine v_ixor E d_B_keepBack_35 ?_
    refine v_putI E cf5 dC_36 3 (by decide) rfl rfl mw143 d_B_keepBack_36 rfl rfl rfl (Rng_of _) ?_
    refine v_nameS (fun s2 hs2 => ?_)
    replace h := h s2 hs2
    refine v_aloadn E d_B_keepBack_39 rfl 0 rfl ?_
    refine v_getA E cf8 dC_0 5 (by decide) rfl mw123 d_B_keepBack_40 rfl ?_
    refine v_getI E cf5 dC_36 3 (by decide) rfl mw143 d_B_keepBack_43 rfl ?_
    refine v_iloadn E d_B_keepBack_46 rfl 1 rfl ?_
    refine v_ishr E d_B_keepBack_47 ?_
    refine v_iconst E d_B_keepBack_48 ?_
    refine v_iand E d_B_keepBack_49 ?_
    exact v_iret E hR rfl (Rng_of _) h d_B_keepBack_50
  · replace h := h.2 c1
    refine v_iconst E d_B_keepBack_11 ?_
    exact v_iret E hR rfl (by decide) h d_B_keepBack_12
theorem d_B_sick_0 : decode prog_1_method_13_code 0 = .ok (.aload_n 0, 1) := by decide +kernel
theorem d_B_sick_1 : decode prog_1_method_13_code 1 = .ok (.getfield 10, 3) := by decide +kernel
theorem d_B_sick_4 : decode prog_1_method_13_code 4 = .ok (.iload_n 1, 1) := by decide +kernel
theorem d_B_sick_5 : decode prog_1_method_13_code 5 = .ok (.invokevirtual 118, 3) := by decide +kernel
theorem d_B_sick_8 : decode prog_1_method_13_code 8 = .ok (.ifCond .ne 5, 3) := by decide +kernel
theorem d_B_sick_11 : decode prog_1_method_13_code 11 = .ok (.iconst (-1), 1) := by decide +kernel
theorem d_B_sick_12 : decode prog_1_method_13_code 12 = .ok (.ireturn, 1) := by decide +kernel
theorem d_B_sick_13 : decode prog_1_method_13_code 13 = .ok (.aload_n 0, 1) := by decide +kernel
theorem d_B_sick_14 : decode prog_1_method_13_code 14 = .ok (.getfield 57, 3) := by decide +kernel
theorem d_B_sick_17 : decode prog_1_method_13_code 17 = .ok (.aload_n 0, 1) := by decide +kernel
theorem d_B_sick_18 : decode prog_1_method_13_code 18 = .ok (.getfield 45, 3) := by decide +kernel
theorem d_B_sick_21 : decode prog_1_method_13_code 21 = .ok (.invokevirtual 179, 3) := by decide +kernel
theorem d_B_sick_24 : decode prog_1_method_13_code 24 = .ok (.aload_n 0, 1) := by decide +kernel
theorem d_B_sick_25 : decode prog_1_method_13_code 25 = .ok (.getfield 45, 3) := by decide +kernel
theorem d_B_sick_28 : decode prog_1_method_13_code 28 = .ok (.dup, 1) := by decide +kernel
theorem d_B_sick_29 : decode prog_1_method_13_code 29 = .ok (.getfield 137, 3) := by decide +kernel
theorem d_B_sick_32 : decode prog_1_method_13_code 32 = .ok (.iconst 1, 1) := by decide +kernel
theorem d_B_sick_33 : decode prog_1_method_13_code 33 = .ok (.iload_n 1, 1) := by decide +kernel
theorem d_B_sick_34 : decode prog_1_method_13_code 34 = .ok (.ishl, 1) := by decide +kernel
theorem d_B_sick_35 : decode prog_1_method_13_code 35 = .ok (.ixor, 1) := by decide +kernel
theorem d_B_sick_36 : decode prog_1_method_13_code 36 = .ok (.putfield 137, 3) := by decide +kernel
theorem d_B_sick_39 : decode prog_1_method_13_code 39 = .ok (.aload_n 0, 1) := by decide +kernel
theorem d_B_sick_40 : decode prog_1_method_13_code 40 = .ok (.getfield 45, 3) := by decide +kernel
theorem d_B_sick_43 : decode prog_1_method_13_code 43 = .ok (.getfield 137, 3) := by decide +kernel
theorem d_B_sick_46 : decode prog_1_method_13_code 46 = .ok (.iload_n 1, 1) := by decide +kernel
theorem d_B_sick_47 : decode prog_1_method_13_code 47 = .ok (.ishr, 1) := by decide +kernel
theorem d_B_sick_48 : decode prog_1_method_13_code 48 = .ok (.iconst 1, 1) := by decide +kernel
theorem d_B_sick_49 : decode prog_1_method_13_code 49 = .ok (.iand, 1) := by decide +kernel
theorem d_B_sick_50 : decode prog_1_method_13_code 50 = .ok (.ireturn, 1) := by decide +kernel
set_option maxHeartbeats 4000000 in
set_option maxRecDepth 20000 in
theorem c_B_sick (p1 : Int) (hp1 : Rng p1) (s0 : MS) (Q : Int → MS → Prop) (h : wp_B_sick p1 s0 Q) : MT dscC ⟨"BellSchool", "sick", "(I)I"⟩ prog_1_method_13_code 2 (some .int) 3 (fun ad => [.ref (ad 0), .int (iI p1)]) s0 (po_I dscC Q) := by
  refine met_of (by decide) (fun _ => Nat.le_of_ble_eq_true rfl) (fun X E hR => ?_)
  replace E : EV dscC X prog_1_method_13_code "BellSchool" 2 3 := E
  show VV dscC X 0 [(0, .ref (adX X 0)), (1, .int (iI p1))] [] s0
  unfold wp_B_sick at h
  refine v_aloadn E d_B_sick_0 rfl 0 rfl ?_
  refine v_getR E cf8 dC_0 0 (by decide) rfl mw118 d_B_sick_1 rfl (fun hv1 => ?_)
  refine v_iloadn E d_B_sick_4 rfl 1 rfl ?_
  refine v_callVIpz E md_Valley_has (c_Valley_has (gR s0 0 0) hv1 p1 hp1 s0 _ h) hv1 rfl ⟨by decide, by decide⟩ mw117 d_B_sick_5 (fun _ => rfl) (st := []) rfl (Nat.le_of_ble_eq_true rfl) (fun r1 hr1 hz1 h => ?_)
  refine v_if_ne E 13 d_B_sick_8 (by decide) hr1 (fun c1 => ?_) (fun c1 => ?_)
  · replace h := h.1 c1
    refine v_aloadn E d_B_sick_13 rfl 0 rfl ?_
    refine v_getA E cf8 dC_0 7 (by decide) rfl mw125 d_B_sick_14 rfl ?_
    refine v_aloadn E d_B_sick_17 rfl 0 rfl ?_
    refine v_getA E cf8 dC_0 5 (by decide) rfl mw123 d_B_sick_18 rfl ?_
    refine v_callVV E md_Shelf_putDroppingOldest (c_Shelf_putDroppingOldest21 36 dC_36 s0 _ h) dC_21 rfl ⟨by decide, by decide⟩ mw234 d_B_sick_21 (fun _ => rfl) (st := []) rfl (Nat.le_of_ble_eq_true rfl) (fun s1 h => ?_)
    refine v_aloadn E d_B_sick_24 rfl 0 rfl ?_
    refine v_getA E cf8 dC_0 5 (by decide) rfl mw123 d_B_sick_25 rfl ?_
    refine v_dup E d_B_sick_28 rfl ?_
    refine v_getI E cf5 dC_36 4 (by decide) rfl mw142 d_B_sick_29 rfl ?_
    refine v_iconst E d_B_sick_32 ?_
    refine v_iloadn E d_B_sick_33 rfl 1 rfl ?_
    refine v_ishl E d_B_sick_34 ?_
    refine v_ixor E d_B_sick_35 ?_
    refine v_putI E cf5 dC_36 4 (by decide) rfl rfl mw142 d_B_sick_36 rfl rfl rfl (Rng_of _) ?_
    refine v_nameS (fun s2 hs2 => ?_)
    replace h := h s2 hs2
    refine v_aloadn E d_B_sick_39 rfl 0 rfl ?_
    refine v_getA E cf8 dC_0 5 (by decide) rfl mw123 d_B_sick_40 rfl ?_
    refine v_getI E cf5 dC_36 4 (by decide) rfl mw142 d_B_sick_43 rfl ?_
    refine v_iloadn E d_B_sick_46 rfl 1 rfl ?_
    refine v_ishr E d_B_sick_47 ?_
    refine v_iconst E d_B_sick_48 ?_
    refine v_iand E d_B_sick_49 ?_
    exact v_iret E hR rfl (Rng_of _) h d_B_sick_50
  · replace h := h.2 c1
    refine v_iconst E d_B_sick_11 ?_
    exact v_iret E hR rfl (by decide) h d_B_sick_12
theorem d_B_shut_0 : decode prog_1_method_14_code 0 = .ok (.aload_n 0, 1) := by decide +kernel
theorem d_B_shut_1 : decode prog_1_method_14_code 1 = .ok (.getfield 10, 3) := by decide +kernel
theorem d_B_shut_4 : decode prog_1_method_14_code 4 = .ok (.iload_n 1, 1) := by decide +kernel
theorem d_B_shut_5 : decode prog_1_method_14_code 5 = .ok (.iload_n 2, 1) := by decide +kernel
theorem d_B_shut_6 : decode prog_1_method_14_code 6 = .ok (.invokevirtual 143, 3) := by decide +kernel
theorem d_B_shut_9 : decode prog_1_method_14_code 9 = .ok (.ifCond .ne 5, 3) := by decide +kernel
theorem d_B_shut_12 : decode prog_1_method_14_code 12 = .ok (.iconst (-1), 1) := by decide +kernel
theorem d_B_shut_13 : decode prog_1_method_14_code 13 = .ok (.ireturn, 1) := by decide +kernel
theorem d_B_shut_14 : decode prog_1_method_14_code 14 = .ok (.iload_n 1, 1) := by decide +kernel
theorem d_B_shut_15 : decode prog_1_method_14_code 15 = .ok (.iload_n 2, 1) := by decide +kernel
theorem d_B_shut_16 : decode prog_1_method_14_code 16 = .ok (.invokestatic 147, 3) := by decide +kernel
theorem d_B_shut_19 : decode prog_1_method_14_code 19 = .ok (.istore_n 3, 1) := by decide +kernel
theorem d_B_shut_20 : decode prog_1_method_14_code 20 = .ok (.aload_n 0, 1) := by decide +kernel
theorem d_B_shut_21 : decode prog_1_method_14_code 21 = .ok (.getfield 10, 3) := by decide +kernel
theorem d_B_shut_24 : decode prog_1_method_14_code 24 = .ok (.getfield 151, 3) := by decide +kernel
theorem d_B_shut_27 : decode prog_1_method_14_code 27 = .ok (.iload_n 3, 1) := by decide +kernel
theorem d_B_shut_28 : decode prog_1_method_14_code 28 = .ok (.iaload, 1) := by decide +kernel
theorem d_B_shut_29 : decode prog_1_method_14_code 29 = .ok (.ifCond .ne 6, 3) := by decide +kernel
theorem d_B_shut_32 : decode prog_1_method_14_code 32 = .ok (.bipush (-2), 2) := by decide +kernel
theorem d_B_shut_34 : decode prog_1_method_14_code 34 = .ok (.ireturn, 1) := by decide +kernel
theorem d_B_shut_35 : decode prog_1_method_14_code 35 = .ok (.aload_n 0, 1) := by decide +kernel
theorem d_B_shut_36 : decode prog_1_method_14_code 36 = .ok (.getfield 57, 3) := by decide +kernel
theorem d_B_shut_39 : decode prog_1_method_14_code 39 = .ok (.aload_n 0, 1) := by decide +kernel
theorem d_B_shut_40 : decode prog_1_method_14_code 40 = .ok (.getfield 45, 3) := by decide +kernel
theorem d_B_shut_43 : decode prog_1_method_14_code 43 = .ok (.invokevirtual 179, 3) := by decide +kernel
theorem d_B_shut_46 : decode prog_1_method_14_code 46 = .ok (.aload_n 0, 1) := by decide +kernel
theorem d_B_shut_47 : decode prog_1_method_14_code 47 = .ok (.getfield 45, 3) := by decide +kernel
theorem d_B_shut_50 : decode prog_1_method_14_code 50 = .ok (.dup, 1) := by decide +kernel
theorem d_B_shut_51 : decode prog_1_method_14_code 51 = .ok (.getfield 157, 3) := by decide +kernel
theorem d_B_shut_54 : decode prog_1_method_14_code 54 = .ok (.lconst 1, 1) := by decide +kernel
theorem d_B_shut_55 : decode prog_1_method_14_code 55 = .ok (.iload_n 3, 1) := by decide +kernel
theorem d_B_shut_56 : decode prog_1_method_14_code 56 = .ok (.lshl, 1) := by decide +kernel
theorem d_B_shut_57 : decode prog_1_method_14_code 57 = .ok (.lxor, 1) := by decide +kernel
theorem d_B_shut_58 : decode prog_1_method_14_code 58 = .ok (.putfield 157, 3) := by decide +kernel
theorem d_B_shut_61 : decode prog_1_method_14_code 61 = .ok (.aload_n 0, 1) := by decide +kernel
theorem d_B_shut_62 : decode prog_1_method_14_code 62 = .ok (.getfield 45, 3) := by decide +kernel
theorem d_B_shut_65 : decode prog_1_method_14_code 65 = .ok (.getfield 157, 3) := by decide +kernel
theorem d_B_shut_68 : decode prog_1_method_14_code 68 = .ok (.iload_n 3, 1) := by decide +kernel
theorem d_B_shut_69 : decode prog_1_method_14_code 69 = .ok (.lshr, 1) := by decide +kernel
theorem d_B_shut_70 : decode prog_1_method_14_code 70 = .ok (.lconst 1, 1) := by decide +kernel
theorem d_B_shut_71 : decode prog_1_method_14_code 71 = .ok (.land, 1) := by decide +kernel
theorem d_B_shut_72 : decode prog_1_method_14_code 72 = .ok (.lconst 0, 1) := by decide +kernel
theorem d_B_shut_73 : decode prog_1_method_14_code 73 = .ok (.lcmp, 1) := by decide +kernel
theorem d_B_shut_74 : decode prog_1_method_14_code 74 = .ok (.ifCond .eq 7, 3) := by decide +kernel
theorem d_B_shut_77 : decode prog_1_method_14_code 77 = .ok (.iconst 1, 1) := by decide +kernel
theorem d_B_shut_78 : decode prog_1_method_14_code 78 = .ok (.goto 4, 3) := by decide +kernel
theorem d_B_shut_81 : decode prog_1_method_14_code 81 = .ok (.iconst 0, 1) := by decide +kernel
theorem d_B_shut_82 : decode prog_1_method_14_code 82 = .ok (.ireturn, 1) := by decide +kernel
set_option maxHeartbeats 4000000 in
set_option maxRecDepth 20000 in
theorem c_B_shut (p1 : Int) (hp1 : Rng p1) (p2 : Int) (hp2 : Rng p2) (s0 : MS) (Q : Int → MS → Prop) (h : wp_B_shut p1 p2 s0 Q) : MT dscC ⟨"BellSchool", "shut", "(II)I"⟩ prog_1_method_14_code 4 (some .int) 3 (fun ad => [.ref (ad 0), .int (iI p1), .int (iI p2)]) s0 (po_I dscC Q) := by
  refine met_of (by decide) (fun _ => Nat.le_of_ble_eq_true rfl) (fun X E hR => ?_)
  replace E : EV dscC X prog_1_method_14_code "BellSchool" 4 3 := E
  show VV dscC X 0 [(0, .ref (adX X 0)), (1, .int (iI p1)), (2, .int (iI p2))] [] s0
  unfold wp_B_shut at h
  refine v_aloadn E d_B_shut_0 rfl 0 rfl ?_
  refine v_getR E cf8 dC_0 0 (by decide) rfl mw118 d_B_shut_1 rfl (fun hv1 => ?_)
  refine v_iloadn E d_B_shut_4 rfl 1 rfl ?_
  refine v_iloadn E d_B_shut_5 rfl 2 rfl ?_
  refine v_callVIpz E md_Valley_hasTwo (c_Valley_hasTwo (gR s0 0 0) hv1 p1 hp1 p2 hp2 s0 _ h) hv1 rfl ⟨by decide, by decide⟩ mw150 d_B_shut_6 (fun _ => rfl) (st := []) rfl (Nat.le_of_ble_eq_true rfl) (fun r1 hr1 hz1 h => ?_)
  refine v_if_ne E 14 d_B_shut_9 (by decide) hr1 (fun c1 => ?_) (fun c1 => ?_)
  · replace h := h.1 c1
    refine v_iloadn E d_B_shut_14 rfl 1 rfl ?_
    refine v_iloadn E d_B_shut_15 rfl 2 rfl ?_
    refine v_callSIp E md_B_pairOf (c_B_pairOf dscC p1 hp1 p2 hp2 s0 _ h) ⟨by decide, by decide⟩ mw151 d_B_shut_16 (fun _ => rfl) (st := []) rfl (Nat.le_of_ble_eq_true rfl) (fun r2 hr2 h => ?_)
    refine v_istoren E d_B_shut_19 rfl (by decide) (L' := [(3, .int (iI r2)), (0, .ref (adX X 0)), (1, .int (iI p1)), (2, .int (iI p2))]) rfl ?_
    refine v_aloadn E d_B_shut_20 rfl 1 rfl ?_
    refine v_getR E cf8 dC_0 0 (by decide) rfl mw118 d_B_shut_21 rfl (fun hv2 => ?_)
    refine v_getO E cf7 hv2 2 (by decide) rfl mw152 d_B_shut_24 rfl ?_
    refine v_iloadn E d_B_shut_27 rfl 0 rfl ?_
    obtain ⟨q1, h⟩ := h
    refine v_iald E (dC_o7_3 hv2) (by decide) q1.1 q1.2 d_B_shut_28 ?_
    refine v_wt (fun wt1 => ?_)
    refine v_if_ne E 35 d_B_shut_29 (by decide) (wt1 ((gR s0 0 0) + 3) r2) (fun c2 => ?_) (fun c2 => ?_)
    · replace h := h.1 c2
      refine v_aloadn E d_B_shut_35 rfl 1 rfl ?_
      refine v_getA E cf8 dC_0 7 (by decide) rfl mw125 d_B_shut_36 rfl ?_
      refine v_aloadn E d_B_shut_39 rfl 1 rfl ?_
      refine v_getA E cf8 dC_0 5 (by decide) rfl mw123 d_B_shut_40 rfl ?_
      refine v_callVV E md_Shelf_putDroppingOldest (c_Shelf_putDroppingOldest21 36 dC_36 s0 _ h) dC_21 rfl ⟨by decide, by decide⟩ mw234 d_B_shut_43 (fun _ => rfl) (st := []) rfl (Nat.le_of_ble_eq_true rfl) (fun s1 h => ?_)
      refine v_aloadn E d_B_shut_46 rfl 1 rfl ?_
      refine v_getA E cf8 dC_0 5 (by decide) rfl mw123 d_B_shut_47 rfl ?_
      refine v_dup E d_B_shut_50 rfl ?_
      refine v_getL E cf5 dC_36 6 (by decide) rfl mw154 d_B_shut_51 rfl ?_
      refine v_lconst E (1 : Int64) rfl d_B_shut_54 ?_
      refine v_iloadn E d_B_shut_55 rfl 0 rfl ?_
      refine v_lshl E d_B_shut_56 ?_
      refine v_lxor E d_B_shut_57 ?_
      refine v_putL E cf5 dC_36 6 (by decide) rfl rfl mw154 d_B_shut_58 rfl rfl rfl ?_
      refine v_nameS (fun s2 hs2 => ?_)
      replace h := h s2 hs2
      refine v_aloadn E d_B_shut_61 rfl 1 rfl ?_
      refine v_getA E cf8 dC_0 5 (by decide) rfl mw123 d_B_shut_62 rfl ?_
      refine v_getL E cf5 dC_36 6 (by decide) rfl mw154 d_B_shut_65 rfl ?_
      refine v_iloadn E d_B_shut_68 rfl 0 rfl ?_
      refine v_lshr E d_B_shut_69 ?_
      refine v_lconst E (1 : Int64) rfl d_B_shut_70 ?_
      refine v_land E d_B_shut_71 ?_
      refine v_lconst E (0 : Int64) rfl d_B_shut_72 ?_
      refine v_lcmp_eq E 81 d_B_shut_73 d_B_shut_74 (by decide) (fun c3 => ?_) (fun c3 => ?_)
      · replace h := h.1 c3
        refine v_iconst E d_B_shut_81 ?_
        exact v_iret E hR rfl (by decide) h d_B_shut_82
      · replace h := h.2 c3
        refine v_iconst E d_B_shut_77 ?_
        refine v_goto E 82 d_B_shut_78 (by decide) ?_
        exact v_iret E hR rfl (by decide) h d_B_shut_82
    · replace h := h.2 c2
      refine v_bipush E d_B_shut_32 rfl ?_
      exact v_iret E hR rfl (by decide) h d_B_shut_34
  · replace h := h.2 c1
    refine v_iconst E d_B_shut_12 ?_
    exact v_iret E hR rfl (by decide) h d_B_shut_13
theorem d_Shelf_takeInto_0 : decode prog_6_method_4_code 0 = .ok (.aload_n 0, 1) := by decide +kernel
theorem d_Shelf_takeInto_1 : decode prog_6_method_4_code 1 = .ok (.getfield 7, 3) := by decide +kernel
theorem d_Shelf_takeInto_4 : decode prog_6_method_4_code 4 = .ok (.iconst 1, 1) := by decide +kernel
theorem d_Shelf_takeInto_5 : decode prog_6_method_4_code 5 = .ok (.if_icmp .lt 15, 3) := by decide +kernel
theorem d_Shelf_takeInto_8 : decode prog_6_method_4_code 8 = .ok (.aload_n 0, 1) := by decide +kernel
theorem d_Shelf_takeInto_9 : decode prog_6_method_4_code 9 = .ok (.getfield 7, 3) := by decide +kernel
theorem d_Shelf_takeInto_12 : decode prog_6_method_4_code 12 = .ok (.aload_n 0, 1) := by decide +kernel
theorem d_Shelf_takeInto_13 : decode prog_6_method_4_code 13 = .ok (.getfield 21, 3) := by decide +kernel
theorem d_Shelf_takeInto_16 : decode prog_6_method_4_code 16 = .ok (.arraylength, 1) := by decide +kernel
theorem d_Shelf_takeInto_17 : decode prog_6_method_4_code 17 = .ok (.if_icmp .le 5, 3) := by decide +kernel
theorem d_Shelf_takeInto_20 : decode prog_6_method_4_code 20 = .ok (.iconst 0, 1) := by decide +kernel
theorem d_Shelf_takeInto_21 : decode prog_6_method_4_code 21 = .ok (.ireturn, 1) := by decide +kernel
theorem d_Shelf_takeInto_22 : decode prog_6_method_4_code 22 = .ok (.aload_n 0, 1) := by decide +kernel
theorem d_Shelf_takeInto_23 : decode prog_6_method_4_code 23 = .ok (.dup, 1) := by decide +kernel
theorem d_Shelf_takeInto_24 : decode prog_6_method_4_code 24 = .ok (.getfield 7, 3) := by decide +kernel
theorem d_Shelf_takeInto_27 : decode prog_6_method_4_code 27 = .ok (.iconst 1, 1) := by decide +kernel
theorem d_Shelf_takeInto_28 : decode prog_6_method_4_code 28 = .ok (.isub, 1) := by decide +kernel
theorem d_Shelf_takeInto_29 : decode prog_6_method_4_code 29 = .ok (.putfield 7, 3) := by decide +kernel
theorem d_Shelf_takeInto_32 : decode prog_6_method_4_code 32 = .ok (.aload_n 1, 1) := by decide +kernel
theorem d_Shelf_takeInto_33 : decode prog_6_method_4_code 33 = .ok (.aload_n 0, 1) := by decide +kernel
theorem d_Shelf_takeInto_34 : decode prog_6_method_4_code 34 = .ok (.getfield 21, 3) := by decide +kernel
theorem d_Shelf_takeInto_37 : decode prog_6_method_4_code 37 = .ok (.aload_n 0, 1) := by decide +kernel
theorem d_Shelf_takeInto_38 : decode prog_6_method_4_code 38 = .ok (.getfield 7, 3) := by decide +kernel
theorem d_Shelf_takeInto_41 : decode prog_6_method_4_code 41 = .ok (.aaload, 1) := by decide +kernel
theorem d_Shelf_takeInto_42 : decode prog_6_method_4_code 42 = .ok (.invokevirtual 26, 3) := by decide +kernel
theorem d_Shelf_takeInto_45 : decode prog_6_method_4_code 45 = .ok (.iconst 1, 1) := by decide +kernel
theorem d_Shelf_takeInto_46 : decode prog_6_method_4_code 46 = .ok (.ireturn, 1) := by decide +kernel
set_option maxHeartbeats 4000000 in
set_option maxRecDepth 20000 in
theorem c_Shelf_takeInto21 (p1 : Nat) (hp1 : dscC[p1]? = some dSt) (s0 : MS) (Q : Int → MS → Prop) (h : wp_Shelf_takeInto21 p1 s0 Q) : MT dscC ⟨"BellSchool$Shelf", "takeInto", "(LBellSchool$Standing;)Z"⟩ prog_6_method_4_code 2 (some .boolean) 1 (fun ad => [.ref (ad 21), .ref (ad p1)]) s0 (po_I dscC (fun r z => (r = 0 ∨ r = 1) ∧ Q r z)) := by
  refine met_of (by decide) (fun _ => Nat.le_of_ble_eq_true rfl) (fun X E hR => ?_)
  replace E : EV dscC X prog_6_method_4_code "BellSchool$Shelf" 2 1 := E
  show VV dscC X 0 [(0, .ref (adX X 21)), (1, .ref (adX X p1))] [] s0
  unfold wp_Shelf_takeInto21 at h
  refine v_aloadn E d_Shelf_takeInto_0 rfl 0 rfl ?_
  refine v_getI E cf4 dC_21 1 (by decide) rfl mw213 d_Shelf_takeInto_1 rfl ?_
  refine v_iconst E d_Shelf_takeInto_4 ?_
  refine v_wt (fun wt1 => ?_)
  refine v_icmp_lt E 20 d_Shelf_takeInto_5 (by decide) (wt1 21 1) (by decide) (fun c1 => ?_) (fun c1 => ?_)
  · replace h := h.1 c1
    refine v_iconst E d_Shelf_takeInto_20 ?_
    exact v_iret E hR (nar_Z (by decide)) (Rng_Z (by decide)) ⟨(by decide), h⟩ d_Shelf_takeInto_21
  · replace h := h.2 c1
    refine v_aloadn E d_Shelf_takeInto_8 rfl 0 rfl ?_
    refine v_getI E cf4 dC_21 1 (by decide) rfl mw213 d_Shelf_takeInto_9 rfl ?_
    refine v_aloadn E d_Shelf_takeInto_12 rfl 0 rfl ?_
    refine v_getA E cf4 dC_21 0 (by decide) rfl mw214 d_Shelf_takeInto_13 rfl ?_
    refine v_alen E (by decide) dC_22 d_Shelf_takeInto_16 ?_
    refine v_icmp_le E 22 d_Shelf_takeInto_17 (by decide) (wt1 21 1) (by decide) (fun c2 => ?_) (fun c2 => ?_)
    · replace h := h.1 c2
      refine v_aloadn E d_Shelf_takeInto_22 rfl 0 rfl ?_
      refine v_dup E d_Shelf_takeInto_23 rfl ?_
      refine v_getI E cf4 dC_21 1 (by decide) rfl mw213 d_Shelf_takeInto_24 rfl ?_
      refine v_iconst E d_Shelf_takeInto_27 ?_
      refine v_isub E d_Shelf_takeInto_28 ?_
      obtain ⟨q1, h⟩ := h
      refine v_putI E cf4 dC_21 1 (by decide) rfl rfl mw213 d_Shelf_takeInto_29 rfl rfl rfl q1 ?_
      refine v_nameS (fun s1 hs1 => ?_)
      replace h := h s1 hs1
      refine v_aloadn E d_Shelf_takeInto_32 rfl 1 rfl ?_
      refine v_aloadn E d_Shelf_takeInto_33 rfl 0 rfl ?_
      refine v_getA E cf4 dC_21 0 (by decide) rfl mw214 d_Shelf_takeInto_34 rfl ?_
      refine v_aloadn E d_Shelf_takeInto_37 rfl 0 rfl ?_
      refine v_getI E cf4 dC_21 1 (by decide) rfl mw213 d_Shelf_takeInto_38 rfl ?_
      obtain ⟨q2, h⟩ := h
      refine v_aald E dC_22 (by decide) q2.1 q2.2 d_Shelf_takeInto_41 (fun hv1 => ?_)
      refine v_callVV E md_Standing_copy (c_Standing_copy p1 hp1 (gR s1 22 (gI s1 21 1)) hv1 s1 _ h) hp1 rfl ⟨by decide, by decide⟩ mw215 d_Shelf_takeInto_42 (fun _ => rfl) (st := []) rfl (Nat.le_of_ble_eq_true rfl) (fun s2 h => ?_)
      refine v_iconst E d_Shelf_takeInto_45 ?_
      exact v_iret E hR (nar_Z (by decide)) (Rng_Z (by decide)) ⟨(by decide), h⟩ d_Shelf_takeInto_46
    · replace h := h.2 c2
      refine v_iconst E d_Shelf_takeInto_20 ?_
      exact v_iret E hR (nar_Z (by decide)) (Rng_Z (by decide)) ⟨(by decide), h⟩ d_Shelf_takeInto_21
set_option maxHeartbeats 4000000 in
set_option maxRecDepth 20000 in
theorem c_Shelf_takeInto23 (p1 : Nat) (hp1 : dscC[p1]? = some dSt) (s0 : MS) (Q : Int → MS → Prop) (h : wp_Shelf_takeInto23 p1 s0 Q) : MT dscC ⟨"BellSchool$Shelf", "takeInto", "(LBellSchool$Standing;)Z"⟩ prog_6_method_4_code 2 (some .boolean) 1 (fun ad => [.ref (ad 23), .ref (ad p1)]) s0 (po_I dscC (fun r z => (r = 0 ∨ r = 1) ∧ Q r z)) := by
  refine met_of (by decide) (fun _ => Nat.le_of_ble_eq_true rfl) (fun X E hR => ?_)
  replace E : EV dscC X prog_6_method_4_code "BellSchool$Shelf" 2 1 := E
  show VV dscC X 0 [(0, .ref (adX X 23)), (1, .ref (adX X p1))] [] s0
  unfold wp_Shelf_takeInto23 at h
  refine v_aloadn E d_Shelf_takeInto_0 rfl 0 rfl ?_
  refine v_getI E cf4 dC_23 1 (by decide) rfl mw213 d_Shelf_takeInto_1 rfl ?_
  refine v_iconst E d_Shelf_takeInto_4 ?_
  refine v_wt (fun wt1 => ?_)
  refine v_icmp_lt E 20 d_Shelf_takeInto_5 (by decide) (wt1 23 1) (by decide) (fun c1 => ?_) (fun c1 => ?_)
  · replace h := h.1 c1
    refine v_iconst E d_Shelf_takeInto_20 ?_
    exact v_iret E hR (nar_Z (by decide)) (Rng_Z (by decide)) ⟨(by decide), h⟩ d_Shelf_takeInto_21
  · replace h := h.2 c1
    refine v_aloadn E d_Shelf_takeInto_8 rfl 0 rfl ?_
    refine v_getI E cf4 dC_23 1 (by decide) rfl mw213 d_Shelf_takeInto_9 rfl ?_
    refine v_aloadn E d_Shelf_takeInto_12 rfl 0 rfl ?_
    refine v_getA E cf4 dC_23 0 (by decide) rfl mw214 d_Shelf_takeInto_13 rfl ?_
    refine v_alen E (by decide) dC_24 d_Shelf_takeInto_16 ?_
    refine v_icmp_le E 22 d_Shelf_takeInto_17 (by decide) (wt1 23 1) (by decide) (fun c2 => ?_) (fun c2 => ?_)
    · replace h := h.1 c2
      refine v_aloadn E d_Shelf_takeInto_22 rfl 0 rfl ?_
      refine v_dup E d_Shelf_takeInto_23 rfl ?_
      refine v_getI E cf4 dC_23 1 (by decide) rfl mw213 d_Shelf_takeInto_24 rfl ?_
      refine v_iconst E d_Shelf_takeInto_27 ?_
      refine v_isub E d_Shelf_takeInto_28 ?_
      obtain ⟨q1, h⟩ := h
      refine v_putI E cf4 dC_23 1 (by decide) rfl rfl mw213 d_Shelf_takeInto_29 rfl rfl rfl q1 ?_
      refine v_nameS (fun s1 hs1 => ?_)
      replace h := h s1 hs1
      refine v_aloadn E d_Shelf_takeInto_32 rfl 1 rfl ?_
      refine v_aloadn E d_Shelf_takeInto_33 rfl 0 rfl ?_
      refine v_getA E cf4 dC_23 0 (by decide) rfl mw214 d_Shelf_takeInto_34 rfl ?_
      refine v_aloadn E d_Shelf_takeInto_37 rfl 0 rfl ?_
      refine v_getI E cf4 dC_23 1 (by decide) rfl mw213 d_Shelf_takeInto_38 rfl ?_
      obtain ⟨q2, h⟩ := h
      refine v_aald E dC_24 (by decide) q2.1 q2.2 d_Shelf_takeInto_41 (fun hv1 => ?_)
      refine v_callVV E md_Standing_copy (c_Standing_copy p1 hp1 (gR s1 24 (gI s1 23 1)) hv1 s1 _ h) hp1 rfl ⟨by decide, by decide⟩ mw215 d_Shelf_takeInto_42 (fun _ => rfl) (st := []) rfl (Nat.le_of_ble_eq_true rfl) (fun s2 h => ?_)
      refine v_iconst E d_Shelf_takeInto_45 ?_
      exact v_iret E hR (nar_Z (by decide)) (Rng_Z (by decide)) ⟨(by decide), h⟩ d_Shelf_takeInto_46
    · replace h := h.2 c2
      refine v_iconst E d_Shelf_takeInto_20 ?_
      exact v_iret E hR (nar_Z (by decide)) (Rng_Z (by decide)) ⟨(by decide), h⟩ d_Shelf_takeInto_21
theorem d_B_undo_0 : decode prog_1_method_15_code 0 = .ok (.aload_n 0, 1) := by decide +kernel
theorem d_B_undo_1 : decode prog_1_method_15_code 1 = .ok (.getfield 57, 3) := by decide +kernel
theorem d_B_undo_4 : decode prog_1_method_15_code 4 = .ok (.aload_n 0, 1) := by decide +kernel
theorem d_B_undo_5 : decode prog_1_method_15_code 5 = .ok (.getfield 45, 3) := by decide +kernel
theorem d_B_undo_8 : decode prog_1_method_15_code 8 = .ok (.invokevirtual 186, 3) := by decide +kernel
theorem d_B_undo_11 : decode prog_1_method_15_code 11 = .ok (.ifCond .eq 13, 3) := by decide +kernel
theorem d_B_undo_14 : decode prog_1_method_15_code 14 = .ok (.aload_n 0, 1) := by decide +kernel
theorem d_B_undo_15 : decode prog_1_method_15_code 15 = .ok (.getfield 57, 3) := by decide +kernel
theorem d_B_undo_18 : decode prog_1_method_15_code 18 = .ok (.getfield 190, 3) := by decide +kernel
theorem d_B_undo_21 : decode prog_1_method_15_code 21 = .ok (.goto 5, 3) := by decide +kernel
theorem d_B_undo_24 : decode prog_1_method_15_code 24 = .ok (.bipush (-2), 2) := by decide +kernel
theorem d_B_undo_26 : decode prog_1_method_15_code 26 = .ok (.ireturn, 1) := by decide +kernel
set_option maxHeartbeats 4000000 in
set_option maxRecDepth 20000 in
theorem c_B_undo (s0 : MS) (Q : Int → MS → Prop) (h : wp_B_undo s0 Q) : MT dscC ⟨"BellSchool", "undo", "()I"⟩ prog_1_method_15_code 1 (some .int) 2 (fun ad => [.ref (ad 0)]) s0 (po_I dscC Q) := by
  refine met_of (by decide) (fun _ => Nat.le_of_ble_eq_true rfl) (fun X E hR => ?_)
  replace E : EV dscC X prog_1_method_15_code "BellSchool" 1 2 := E
  show VV dscC X 0 [(0, .ref (adX X 0))] [] s0
  unfold wp_B_undo at h
  refine v_aloadn E d_B_undo_0 rfl 0 rfl ?_
  refine v_getA E cf8 dC_0 7 (by decide) rfl mw125 d_B_undo_1 rfl ?_
  refine v_aloadn E d_B_undo_4 rfl 0 rfl ?_
  refine v_getA E cf8 dC_0 5 (by decide) rfl mw123 d_B_undo_5 rfl ?_
  refine v_callVI E md_Shelf_takeInto (c_Shelf_takeInto21 36 dC_36 s0 _ h) dC_21 rfl ⟨by decide, by decide⟩ mw251 d_B_undo_8 (fun _ => rfl) (st := []) rfl (Nat.le_of_ble_eq_true rfl) (fun r1 s1 hr1 h => ?_)
  obtain ⟨hz1, h⟩ := h
  refine v_if_eq E 24 d_B_undo_11 (by decide) hr1 (fun c1 => ?_) (fun c1 => ?_)
  · replace h := h.1 c1
    refine v_bipush E d_B_undo_24 rfl ?_
    exact v_iret E hR rfl (by decide) h d_B_undo_26
  · replace h := h.2 c1
    refine v_aloadn E d_B_undo_14 rfl 0 rfl ?_
    refine v_getA E cf8 dC_0 7 (by decide) rfl mw125 d_B_undo_15 rfl ?_
    refine v_getI E cf4 dC_21 1 (by decide) rfl mw126 d_B_undo_18 rfl ?_
    refine v_goto E 26 d_B_undo_21 (by decide) ?_
    refine v_wt (fun wt1 => ?_)
    exact v_iret E hR rfl (wt1 21 1) h d_B_undo_26
theorem d_B_behind_0 : decode prog_1_method_16_code 0 = .ok (.iload_n 1, 1) := by decide +kernel
theorem d_B_behind_1 : decode prog_1_method_16_code 1 = .ok (.ifCond .lt 9, 3) := by decide +kernel
theorem d_B_behind_4 : decode prog_1_method_16_code 4 = .ok (.iload_n 1, 1) := by decide +kernel
theorem d_B_behind_5 : decode prog_1_method_16_code 5 = .ok (.bipush 60, 2) := by decide +kernel
theorem d_B_behind_7 : decode prog_1_method_16_code 7 = .ok (.if_icmp .le 5, 3) := by decide +kernel
theorem d_B_behind_10 : decode prog_1_method_16_code 10 = .ok (.iconst (-1), 1) := by decide +kernel
theorem d_B_behind_11 : decode prog_1_method_16_code 11 = .ok (.ireturn, 1) := by decide +kernel
theorem d_B_behind_12 : decode prog_1_method_16_code 12 = .ok (.aload_n 0, 1) := by decide +kernel
theorem d_B_behind_13 : decode prog_1_method_16_code 13 = .ok (.getfield 49, 3) := by decide +kernel
theorem d_B_behind_16 : decode prog_1_method_16_code 16 = .ok (.aload_n 0, 1) := by decide +kernel
theorem d_B_behind_17 : decode prog_1_method_16_code 17 = .ok (.getfield 45, 3) := by decide +kernel
theorem d_B_behind_20 : decode prog_1_method_16_code 20 = .ok (.invokevirtual 193, 3) := by decide +kernel
theorem d_B_behind_23 : decode prog_1_method_16_code 23 = .ok (.aload_n 0, 1) := by decide +kernel
theorem d_B_behind_24 : decode prog_1_method_16_code 24 = .ok (.aload_n 0, 1) := by decide +kernel
theorem d_B_behind_25 : decode prog_1_method_16_code 25 = .ok (.getfield 49, 3) := by decide +kernel
theorem d_B_behind_28 : decode prog_1_method_16_code 28 = .ok (.iload_n 1, 1) := by decide +kernel
theorem d_B_behind_29 : decode prog_1_method_16_code 29 = .ok (.invokevirtual 182, 3) := by decide +kernel
theorem d_B_behind_32 : decode prog_1_method_16_code 32 = .ok (.aload_n 0, 1) := by decide +kernel
theorem d_B_behind_33 : decode prog_1_method_16_code 33 = .ok (.getfield 49, 3) := by decide +kernel
theorem d_B_behind_36 : decode prog_1_method_16_code 36 = .ok (.getfield 128, 3) := by decide +kernel
theorem d_B_behind_39 : decode prog_1_method_16_code 39 = .ok (.ireturn, 1) := by decide +kernel
set_option maxHeartbeats 4000000 in
set_option maxRecDepth 20000 in
theorem c_B_behind (p1 : Int) (hp1 : Rng p1) (s0 : MS) (Q : Int → MS → Prop) (h : wp_B_behind p1 s0 Q) : MT dscC ⟨"BellSchool", "behind", "(I)I"⟩ prog_1_method_16_code 2 (some .int) 6 (fun ad => [.ref (ad 0), .int (iI p1)]) s0 (po_I dscC Q) := by
  refine met_of (by decide) (fun _ => Nat.le_of_ble_eq_true rfl) (fun X E hR => ?_)
  replace E : EV dscC X prog_1_method_16_code "BellSchool" 2 6 := E
  show VV dscC X 0 [(0, .ref (adX X 0)), (1, .int (iI p1))] [] s0
  unfold wp_B_behind at h
  refine v_iloadn E d_B_behind_0 rfl 1 rfl ?_
  refine v_if_lt E 10 d_B_behind_1 (by decide) hp1 (fun c1 => ?_) (fun c1 => ?_)
  · replace h := h.1 c1
    refine v_iconst E d_B_behind_10 ?_
    exact v_iret E hR rfl (by decide) h d_B_behind_11
  · replace h := h.2 c1
    refine v_iloadn E d_B_behind_4 rfl 1 rfl ?_
    refine v_bipush E d_B_behind_5 rfl ?_
    refine v_icmp_le E 12 d_B_behind_7 (by decide) hp1 (by decide) (fun c2 => ?_) (fun c2 => ?_)
    · replace h := h.1 c2
      refine v_aloadn E d_B_behind_12 rfl 0 rfl ?_
      refine v_getA E cf8 dC_0 6 (by decide) rfl mw255 d_B_behind_13 rfl ?_
      refine v_aloadn E d_B_behind_16 rfl 0 rfl ?_
      refine v_getA E cf8 dC_0 5 (by decide) rfl mw123 d_B_behind_17 rfl ?_
      refine v_callVV E md_Standing_copy (c_Standing_copy 38 dC_38 36 dC_36 s0 _ h) dC_38 rfl ⟨by decide, by decide⟩ mw256 d_B_behind_20 (fun _ => rfl) (st := []) rfl (Nat.le_of_ble_eq_true rfl) (fun s1 h => ?_)
      refine v_aloadn E d_B_behind_23 rfl 0 rfl ?_
      refine v_aloadn E d_B_behind_24 rfl 0 rfl ?_
      refine v_getA E cf8 dC_0 6 (by decide) rfl mw255 d_B_behind_25 rfl ?_
      refine v_iloadn E d_B_behind_28 rfl 1 rfl ?_
      refine v_callVV E md_B_goBy (c_B_goBy 38 dC_38 p1 hp1 s1 _ h) dC_0 rfl ⟨by decide, by decide⟩ mw235 d_B_behind_29 (fun _ => rfl) (st := []) rfl (Nat.le_of_ble_eq_true rfl) (fun s2 h => ?_)
      refine v_aloadn E d_B_behind_32 rfl 0 rfl ?_
      refine v_getA E cf8 dC_0 6 (by decide) rfl mw255 d_B_behind_33 rfl ?_
      refine v_getI E cf5 dC_38 2 (by decide) rfl mw139 d_B_behind_36 rfl ?_
      refine v_wt (fun wt1 => ?_)
      exact v_iret E hR rfl (wt1 38 2) h d_B_behind_39
    · replace h := h.2 c2
      refine v_iconst E d_B_behind_10 ?_
      exact v_iret E hR rfl (by decide) h d_B_behind_11
theorem d_B_again_0 : decode prog_1_method_17_code 0 = .ok (.aload_n 0, 1) := by decide +kernel
theorem d_B_again_1 : decode prog_1_method_17_code 1 = .ok (.getfield 49, 3) := by decide +kernel
theorem d_B_again_4 : decode prog_1_method_17_code 4 = .ok (.aload_n 0, 1) := by decide +kernel
theorem d_B_again_5 : decode prog_1_method_17_code 5 = .ok (.getfield 45, 3) := by decide +kernel
theorem d_B_again_8 : decode prog_1_method_17_code 8 = .ok (.invokevirtual 193, 3) := by decide +kernel
theorem d_B_again_11 : decode prog_1_method_17_code 11 = .ok (.iconst 1, 1) := by decide +kernel
theorem d_B_again_12 : decode prog_1_method_17_code 12 = .ok (.istore_n 1, 1) := by decide +kernel
theorem d_B_again_13 : decode prog_1_method_17_code 13 = .ok (.iload_n 1, 1) := by decide +kernel
theorem d_B_again_14 : decode prog_1_method_17_code 14 = .ok (.bipush 56, 2) := by decide +kernel
theorem d_B_again_16 : decode prog_1_method_17_code 16 = .ok (.if_icmp .gt 39, 3) := by decide +kernel
theorem d_B_again_19 : decode prog_1_method_17_code 19 = .ok (.aload_n 0, 1) := by decide +kernel
theorem d_B_again_20 : decode prog_1_method_17_code 20 = .ok (.getfield 38, 3) := by decide +kernel
theorem d_B_again_23 : decode prog_1_method_17_code 23 = .ok (.aload_n 0, 1) := by decide +kernel
theorem d_B_again_24 : decode prog_1_method_17_code 24 = .ok (.getfield 49, 3) := by decide +kernel
theorem d_B_again_27 : decode prog_1_method_17_code 27 = .ok (.invokevirtual 196, 3) := by decide +kernel
theorem d_B_again_30 : decode prog_1_method_17_code 30 = .ok (.aload_n 0, 1) := by decide +kernel
theorem d_B_again_31 : decode prog_1_method_17_code 31 = .ok (.getfield 49, 3) := by decide +kernel
theorem d_B_again_34 : decode prog_1_method_17_code 34 = .ok (.getfield 128, 3) := by decide +kernel
theorem d_B_again_37 : decode prog_1_method_17_code 37 = .ok (.aload_n 0, 1) := by decide +kernel
theorem d_B_again_38 : decode prog_1_method_17_code 38 = .ok (.getfield 45, 3) := by decide +kernel
theorem d_B_again_41 : decode prog_1_method_17_code 41 = .ok (.getfield 128, 3) := by decide +kernel
theorem d_B_again_44 : decode prog_1_method_17_code 44 = .ok (.if_icmp .ne 5, 3) := by decide +kernel
theorem d_B_again_47 : decode prog_1_method_17_code 47 = .ok (.iload_n 1, 1) := by decide +kernel
theorem d_B_again_48 : decode prog_1_method_17_code 48 = .ok (.ireturn, 1) := by decide +kernel
theorem d_B_again_49 : decode prog_1_method_17_code 49 = .ok (.iinc 1 1, 3) := by decide +kernel
theorem d_B_again_52 : decode prog_1_method_17_code 52 = .ok (.goto (-39), 3) := by decide +kernel
theorem d_B_again_55 : decode prog_1_method_17_code 55 = .ok (.bipush (-4), 2) := by decide +kernel
theorem d_B_again_57 : decode prog_1_method_17_code 57 = .ok (.ireturn, 1) := by decide +kernel
set_option maxHeartbeats 4000000 in
set_option maxRecDepth 20000 in
theorem c_B_again (s0 : MS) (Q : Int → MS → Prop) (h : wp_B_again s0 Q) : MT dscC ⟨"BellSchool", "again", "()I"⟩ prog_1_method_17_code 2 (some .int) 5 (fun ad => [.ref (ad 0)]) s0 (po_I dscC Q) := by
  refine met_of (by decide) (fun _ => Nat.le_of_ble_eq_true rfl) (fun X E hR => ?_)
  replace E : EV dscC X prog_1_method_17_code "BellSchool" 2 5 := E
  show VV dscC X 0 [(0, .ref (adX X 0))] [] s0
  unfold wp_B_again at h
  refine v_aloadn E d_B_again_0 rfl 0 rfl ?_
  refine v_getA E cf8 dC_0 6 (by decide) rfl mw255 d_B_again_1 rfl ?_
  refine v_aloadn E d_B_again_4 rfl 0 rfl ?_
  refine v_getA E cf8 dC_0 5 (by decide) rfl mw123 d_B_again_5 rfl ?_
  refine v_callVV E md_Standing_copy (c_Standing_copy 38 dC_38 36 dC_36 s0 _ h) dC_38 rfl ⟨by decide, by decide⟩ mw256 d_B_again_8 (fun _ => rfl) (st := []) rfl (Nat.le_of_ble_eq_true rfl) (fun s1 h => ?_)
  refine v_iconst E d_B_again_11 ?_
  refine v_istoren E d_B_again_12 rfl (by decide) (L' := [(1, .int (iI 1)), (0, .ref (adX X 0))]) rfl ?_
  refine v_sub [1, 0] (L' := [(0, .ref (adX X 0)), (1, .int (iI 1))]) rfl ?_
  obtain ⟨I1, μ1, h01, h⟩ := h
  refine v_loop1 (fun (x1 : Int) => [(0, .ref (adX X 0)), (1, .int (iI x1))]) I1 μ1 (fun x1 s2 hI1 ih1 => ?_) 1 s1 h01
  replace h := h x1 s2 hI1
  refine v_iloadn E d_B_again_13 rfl 1 rfl ?_
  refine v_bipush E d_B_again_14 rfl ?_
  obtain ⟨q1, h⟩ := h
  refine v_icmp_gt E 55 d_B_again_16 (by decide) q1 (by decide) (fun c1 => ?_) (fun c1 => ?_)
  · replace h := h.1 c1
    refine v_bipush E d_B_again_55 rfl ?_
    exact v_iret E hR rfl (by decide) h d_B_again_57
  · replace h := h.2 c1
    refine v_aloadn E d_B_again_19 rfl 0 rfl ?_
    refine v_getA E cf8 dC_0 4 (by decide) rfl mw119 d_B_again_20 rfl ?_
    refine v_aloadn E d_B_again_23 rfl 0 rfl ?_
    refine v_getA E cf8 dC_0 6 (by decide) rfl mw255 d_B_again_24 rfl ?_
    refine v_callVV E md_Noon_goBy (c_Noon_goBy 38 dC_38 s2 _ h) dC_17 rfl ⟨by decide, by decide⟩ mw230 d_B_again_27 (fun _ => rfl) (st := []) rfl (Nat.le_of_ble_eq_true rfl) (fun s3 h => ?_)
    refine v_aloadn E d_B_again_30 rfl 0 rfl ?_
    refine v_getA E cf8 dC_0 6 (by decide) rfl mw255 d_B_again_31 rfl ?_
    refine v_getI E cf5 dC_38 2 (by decide) rfl mw139 d_B_again_34 rfl ?_
    refine v_aloadn E d_B_again_37 rfl 0 rfl ?_
    refine v_getA E cf8 dC_0 5 (by decide) rfl mw123 d_B_again_38 rfl ?_
    refine v_getI E cf5 dC_36 2 (by decide) rfl mw139 d_B_again_41 rfl ?_
    refine v_wt (fun wt1 => ?_)
    refine v_icmp_ne E 49 d_B_again_44 (by decide) (wt1 38 2) (wt1 36 2) (fun c2 => ?_) (fun c2 => ?_)
    · replace h := h.1 c2
      refine v_iincN E d_B_again_49 1 rfl (by decide) (fun y => [(1, .int (iI y)), (0, .ref (adX X 0))]) (fun _ => rfl) (fun x2 hx2 => ?_)
      replace h := h x2 hx2
      refine v_goto E 13 d_B_again_52 (by decide) ?_
      obtain ⟨hb, hm⟩ := h
      exact v_sub [1, 0] rfl (ih1 x2 s3 hb hm)
    · replace h := h.2 c2
      refine v_iloadn E d_B_again_47 rfl 1 rfl ?_
      exact v_iret E hR rfl q1 h d_B_again_48
theorem d_Standing_isLike_0 : decode prog_7_method_4_code 0 = .ok (.aload_n 0, 1) := by decide +kernel
theorem d_Standing_isLike_1 : decode prog_7_method_4_code 1 = .ok (.getfield 15, 3) := by decide +kernel
theorem d_Standing_isLike_4 : decode prog_7_method_4_code 4 = .ok (.aload_n 1, 1) := by decide +kernel
theorem d_Standing_isLike_5 : decode prog_7_method_4_code 5 = .ok (.getfield 15, 3) := by decide +kernel
theorem d_Standing_isLike_8 : decode prog_7_method_4_code 8 = .ok (.if_icmp .ne 52, 3) := by decide +kernel
theorem d_Standing_isLike_11 : decode prog_7_method_4_code 11 = .ok (.aload_n 0, 1) := by decide +kernel
theorem d_Standing_isLike_12 : decode prog_7_method_4_code 12 = .ok (.getfield 19, 3) := by decide +kernel
theorem d_Standing_isLike_15 : decode prog_7_method_4_code 15 = .ok (.aload_n 1, 1) := by decide +kernel
theorem d_Standing_isLike_16 : decode prog_7_method_4_code 16 = .ok (.getfield 19, 3) := by decide +kernel
theorem d_Standing_isLike_19 : decode prog_7_method_4_code 19 = .ok (.if_icmp .ne 41, 3) := by decide +kernel
theorem d_Standing_isLike_22 : decode prog_7_method_4_code 22 = .ok (.aload_n 0, 1) := by decide +kernel
theorem d_Standing_isLike_23 : decode prog_7_method_4_code 23 = .ok (.getfield 25, 3) := by decide +kernel
theorem d_Standing_isLike_26 : decode prog_7_method_4_code 26 = .ok (.aload_n 1, 1) := by decide +kernel
theorem d_Standing_isLike_27 : decode prog_7_method_4_code 27 = .ok (.getfield 25, 3) := by decide +kernel
theorem d_Standing_isLike_30 : decode prog_7_method_4_code 30 = .ok (.if_icmp .ne 30, 3) := by decide +kernel
theorem d_Standing_isLike_33 : decode prog_7_method_4_code 33 = .ok (.aload_n 0, 1) := by decide +kernel
theorem d_Standing_isLike_34 : decode prog_7_method_4_code 34 = .ok (.getfield 28, 3) := by decide +kernel
theorem d_Standing_isLike_37 : decode prog_7_method_4_code 37 = .ok (.aload_n 1, 1) := by decide +kernel
theorem d_Standing_isLike_38 : decode prog_7_method_4_code 38 = .ok (.getfield 28, 3) := by decide +kernel
theorem d_Standing_isLike_41 : decode prog_7_method_4_code 41 = .ok (.if_icmp .ne 19, 3) := by decide +kernel
theorem d_Standing_isLike_44 : decode prog_7_method_4_code 44 = .ok (.aload_n 0, 1) := by decide +kernel
theorem d_Standing_isLike_45 : decode prog_7_method_4_code 45 = .ok (.getfield 31, 3) := by decide +kernel
theorem d_Standing_isLike_48 : decode prog_7_method_4_code 48 = .ok (.aload_n 1, 1) := by decide +kernel
theorem d_Standing_isLike_49 : decode prog_7_method_4_code 49 = .ok (.getfield 31, 3) := by decide +kernel
theorem d_Standing_isLike_52 : decode prog_7_method_4_code 52 = .ok (.lcmp, 1) := by decide +kernel
theorem d_Standing_isLike_53 : decode prog_7_method_4_code 53 = .ok (.ifCond .ne 7, 3) := by decide +kernel
theorem d_Standing_isLike_56 : decode prog_7_method_4_code 56 = .ok (.iconst 1, 1) := by decide +kernel
theorem d_Standing_isLike_57 : decode prog_7_method_4_code 57 = .ok (.goto 4, 3) := by decide +kernel
theorem d_Standing_isLike_60 : decode prog_7_method_4_code 60 = .ok (.iconst 0, 1) := by decide +kernel
theorem d_Standing_isLike_61 : decode prog_7_method_4_code 61 = .ok (.ireturn, 1) := by decide +kernel
set_option maxHeartbeats 4000000 in
set_option maxRecDepth 20000 in
theorem c_Standing_isLike (v0 : Nat) (hv0 : dscC[v0]? = some dSt) (p1 : Nat) (hp1 : dscC[p1]? = some dSt) (s0 : MS) (Q : Int → Prop) (h : wp_Standing_isLike v0 p1 s0 Q) : MT dscC ⟨"BellSchool$Standing", "isLike", "(LBellSchool$Standing;)Z"⟩ prog_7_method_4_code 2 (some .boolean) 0 (fun ad => [.ref (ad v0), .ref (ad p1)]) s0 (po_I dscC (fun r z => (r = 0 ∨ r = 1) ∧ z = s0 ∧ Q r)) := by
  refine met_of (by decide) (fun _ => Nat.le_of_ble_eq_true rfl) (fun X E hR => ?_)
  replace E : EV dscC X prog_7_method_4_code "BellSchool$Standing" 2 0 := E
  show VV dscC X 0 [(0, .ref (adX X v0)), (1, .ref (adX X p1))] [] s0
  unfold wp_Standing_isLike at h
  refine v_aloadn E d_Standing_isLike_0 rfl 0 rfl ?_
  refine v_getI E cf5 hv0 1 (by decide) rfl mw105 d_Standing_isLike_1 rfl ?_
  refine v_aloadn E d_Standing_isLike_4 rfl 1 rfl ?_
  refine v_getI E cf5 hp1 1 (by decide) rfl mw105 d_Standing_isLike_5 rfl ?_
  refine v_wt (fun wt1 => ?_)
  refine v_icmp_ne E 60 d_Standing_isLike_8 (by decide) (wt1 v0 1) (wt1 p1 1) (fun c1 => ?_) (fun c1 => ?_)
  · replace h := h.1 c1
    refine v_iconst E d_Standing_isLike_60 ?_
    exact v_iret E hR (nar_Z (by decide)) (Rng_Z (by decide)) ⟨(by decide), rfl, h⟩ d_Standing_isLike_61
  · replace h := h.2 c1
    refine v_aloadn E d_Standing_isLike_11 rfl 0 rfl ?_
    refine v_getI E cf5 hv0 2 (by decide) rfl mw106 d_Standing_isLike_12 rfl ?_
    refine v_aloadn E d_Standing_isLike_15 rfl 1 rfl ?_
    refine v_getI E cf5 hp1 2 (by decide) rfl mw106 d_Standing_isLike_16 rfl ?_
    refine v_icmp_ne E 60 d_Standing_isLike_19 (by decide) (wt1 v0 2) (wt1 p1 2) (fun c2 => ?_) (fun c2 => ?_)
    · replace h := h.1 c2
      refine v_iconst E d_Standing_isLike_60 ?_
      exact v_iret E hR (nar_Z (by decide)) (Rng_Z (by decide)) ⟨(by decide), rfl, h⟩ d_Standing_isLike_61
    · replace h := h.2 c2
      refine v_aloadn E d_Standing_isLike_22 rfl 0 rfl ?_
      refine v_getI E cf5 hv0 4 (by decide) rfl mw108 d_Standing_isLike_23 rfl ?_
      refine v_aloadn E d_Standing_isLike_26 rfl 1 rfl ?_
      refine v_getI E cf5 hp1 4 (by decide) rfl mw108 d_Standing_isLike_27 rfl ?_
      refine v_icmp_ne E 60 d_Standing_isLike_30 (by decide) (wt1 v0 4) (wt1 p1 4) (fun c3 => ?_) (fun c3 => ?_)
      · replace h := h.1 c3
        refine v_iconst E d_Standing_isLike_60 ?_
        exact v_iret E hR (nar_Z (by decide)) (Rng_Z (by decide)) ⟨(by decide), rfl, h⟩ d_Standing_isLike_61
      · replace h := h.2 c3
        refine v_aloadn E d_Standing_isLike_33 rfl 0 rfl ?_
        refine v_getI E cf5 hv0 5 (by decide) rfl mw109 d_Standing_isLike_34 rfl ?_
        refine v_aloadn E d_Standing_isLike_37 rfl 1 rfl ?_
        refine v_getI E cf5 hp1 5 (by decide) rfl mw109 d_Standing_isLike_38 rfl ?_
        refine v_icmp_ne E 60 d_Standing_isLike_41 (by decide) (wt1 v0 5) (wt1 p1 5) (fun c4 => ?_) (fun c4 => ?_)
        · replace h := h.1 c4
          refine v_iconst E d_Standing_isLike_60 ?_
          exact v_iret E hR (nar_Z (by decide)) (Rng_Z (by decide)) ⟨(by decide), rfl, h⟩ d_Standing_isLike_61
        · replace h := h.2 c4
          refine v_aloadn E d_Standing_isLike_44 rfl 0 rfl ?_
          refine v_getL E cf5 hv0 6 (by decide) rfl mw110 d_Standing_isLike_45 rfl ?_
          refine v_aloadn E d_Standing_isLike_48 rfl 1 rfl ?_
          refine v_getL E cf5 hp1 6 (by decide) rfl mw110 d_Standing_isLike_49 rfl ?_
          refine v_lcmp_ne E 60 d_Standing_isLike_52 d_Standing_isLike_53 (by decide) (fun c5 => ?_) (fun c5 => ?_)
          · replace h := h.1 c5
            refine v_iconst E d_Standing_isLike_60 ?_
            exact v_iret E hR (nar_Z (by decide)) (Rng_Z (by decide)) ⟨(by decide), rfl, h⟩ d_Standing_isLike_61
          · replace h := h.2 c5
            refine v_iconst E d_Standing_isLike_56 ?_
            refine v_goto E 61 d_Standing_isLike_57 (by decide) ?_
            exact v_iret E hR (nar_Z (by decide)) (Rng_Z (by decide)) ⟨(by decide), rfl, h⟩ d_Standing_isLike_61
theorem d_Noon_homes_0 : decode prog_3_method_3_code 0 = .ok (.aload_n 0, 1) := by decide +kernel
theorem d_Noon_homes_1 : decode prog_3_method_3_code 1 = .ok (.getfield 29, 3) := by decide +kernel
theorem d_Noon_homes_4 : decode prog_3_method_3_code 4 = .ok (.getfield 35, 3) := by decide +kernel
theorem d_Noon_homes_7 : decode prog_3_method_3_code 7 = .ok (.ireturn, 1) := by decide +kernel
set_option maxHeartbeats 4000000 in
set_option maxRecDepth 20000 in
theorem c_Noon_homes (s0 : MS) (Q : Int → Prop) (h : wp_Noon_homes s0 Q) : MT dscC ⟨"BellSchool$Noon", "homes", "()I"⟩ prog_3_method_3_code 1 (some .int) 0 (fun ad => [.ref (ad 17)]) s0 (po_I dscC (fun r z => z = s0 ∧ Q r)) := by
  refine met_of (by decide) (fun _ => Nat.le_of_ble_eq_true rfl) (fun X E hR => ?_)
  replace E : EV dscC X prog_3_method_3_code "BellSchool$Noon" 1 0 := E
  show VV dscC X 0 [(0, .ref (adX X 17))] [] s0
  unfold wp_Noon_homes at h
  refine v_aloadn E d_Noon_homes_0 rfl 0 rfl ?_
  refine v_getR E cf1 dC_17 2 (by decide) rfl mw98 d_Noon_homes_1 rfl (fun hv1 => ?_)
  refine v_getI E cf7 hv1 5 (by decide) rfl mw160 d_Noon_homes_4 rfl ?_
  refine v_wt (fun wt1 => ?_)
  exact v_iret E hR rfl (wt1 (gR s0 17 2) 5) ⟨rfl, h⟩ d_Noon_homes_7
theorem d_Search_numberMissing_0 : decode prog_5_method_4_code 0 = .ok (.iconst 0, 1) := by decide +kernel
theorem d_Search_numberMissing_1 : decode prog_5_method_4_code 1 = .ok (.istore_n 1, 1) := by decide +kernel
theorem d_Search_numberMissing_2 : decode prog_5_method_4_code 2 = .ok (.iconst 0, 1) := by decide +kernel
theorem d_Search_numberMissing_3 : decode prog_5_method_4_code 3 = .ok (.istore_n 2, 1) := by decide +kernel
theorem d_Search_numberMissing_4 : decode prog_5_method_4_code 4 = .ok (.iload_n 2, 1) := by decide +kernel
theorem d_Search_numberMissing_5 : decode prog_5_method_4_code 5 = .ok (.bipush 7, 2) := by decide +kernel
theorem d_Search_numberMissing_7 : decode prog_5_method_4_code 7 = .ok (.if_icmp .ge 73, 3) := by decide +kernel
theorem d_Search_numberMissing_10 : decode prog_5_method_4_code 10 = .ok (.iload_n 2, 1) := by decide +kernel
theorem d_Search_numberMissing_11 : decode prog_5_method_4_code 11 = .ok (.aload_n 0, 1) := by decide +kernel
theorem d_Search_numberMissing_12 : decode prog_5_method_4_code 12 = .ok (.getfield 35, 3) := by decide +kernel
theorem d_Search_numberMissing_15 : decode prog_5_method_4_code 15 = .ok (.if_icmp .ge 21, 3) := by decide +kernel
theorem d_Search_numberMissing_18 : decode prog_5_method_4_code 18 = .ok (.aload_n 0, 1) := by decide +kernel
theorem d_Search_numberMissing_19 : decode prog_5_method_4_code 19 = .ok (.getfield 28, 3) := by decide +kernel
theorem d_Search_numberMissing_22 : decode prog_5_method_4_code 22 = .ok (.getfield 92, 3) := by decide +kernel
theorem d_Search_numberMissing_25 : decode prog_5_method_4_code 25 = .ok (.iload_n 2, 1) := by decide +kernel
theorem d_Search_numberMissing_26 : decode prog_5_method_4_code 26 = .ok (.ishr, 1) := by decide +kernel
theorem d_Search_numberMissing_27 : decode prog_5_method_4_code 27 = .ok (.iconst 1, 1) := by decide +kernel
theorem d_Search_numberMissing_28 : decode prog_5_method_4_code 28 = .ok (.iand, 1) := by decide +kernel
theorem d_Search_numberMissing_29 : decode prog_5_method_4_code 29 = .ok (.ifCond .ne 7, 3) := by decide +kernel
theorem d_Search_numberMissing_32 : decode prog_5_method_4_code 32 = .ok (.iconst 1, 1) := by decide +kernel
theorem d_Search_numberMissing_33 : decode prog_5_method_4_code 33 = .ok (.goto 4, 3) := by decide +kernel
theorem d_Search_numberMissing_36 : decode prog_5_method_4_code 36 = .ok (.iconst 0, 1) := by decide +kernel
theorem d_Search_numberMissing_37 : decode prog_5_method_4_code 37 = .ok (.istore_n 3, 1) := by decide +kernel
theorem d_Search_numberMissing_38 : decode prog_5_method_4_code 38 = .ok (.aload_n 0, 1) := by decide +kernel
theorem d_Search_numberMissing_39 : decode prog_5_method_4_code 39 = .ok (.getfield 22, 3) := by decide +kernel
theorem d_Search_numberMissing_42 : decode prog_5_method_4_code 42 = .ok (.iload_n 2, 1) := by decide +kernel
theorem d_Search_numberMissing_43 : decode prog_5_method_4_code 43 = .ok (.iload_n 3, 1) := by decide +kernel
theorem d_Search_numberMissing_44 : decode prog_5_method_4_code 44 = .ok (.ifCond .eq 15, 3) := by decide +kernel
theorem d_Search_numberMissing_47 : decode prog_5_method_4_code 47 = .ok (.iload_n 1, 1) := by decide +kernel
theorem d_Search_numberMissing_48 : decode prog_5_method_4_code 48 = .ok (.getstatic 95, 3) := by decide +kernel
theorem d_Search_numberMissing_51 : decode prog_5_method_4_code 51 = .ok (.arraylength, 1) := by decide +kernel
theorem d_Search_numberMissing_52 : decode prog_5_method_4_code 52 = .ok (.if_icmp .ge 7, 3) := by decide +kernel
theorem d_Search_numberMissing_55 : decode prog_5_method_4_code 55 = .ok (.iload_n 1, 1) := by decide +kernel
theorem d_Search_numberMissing_56 : decode prog_5_method_4_code 56 = .ok (.goto 5, 3) := by decide +kernel
theorem d_Search_numberMissing_59 : decode prog_5_method_4_code 59 = .ok (.bipush (-4), 2) := by decide +kernel
theorem d_Search_numberMissing_61 : decode prog_5_method_4_code 61 = .ok (.iastore, 1) := by decide +kernel
theorem d_Search_numberMissing_62 : decode prog_5_method_4_code 62 = .ok (.iload_n 1, 1) := by decide +kernel
theorem d_Search_numberMissing_63 : decode prog_5_method_4_code 63 = .ok (.iload_n 3, 1) := by decide +kernel
theorem d_Search_numberMissing_64 : decode prog_5_method_4_code 64 = .ok (.ifCond .eq 7, 3) := by decide +kernel
theorem d_Search_numberMissing_67 : decode prog_5_method_4_code 67 = .ok (.iconst 1, 1) := by decide +kernel
theorem d_Search_numberMissing_68 : decode prog_5_method_4_code 68 = .ok (.goto 4, 3) := by decide +kernel
theorem d_Search_numberMissing_71 : decode prog_5_method_4_code 71 = .ok (.iconst 0, 1) := by decide +kernel
theorem d_Search_numberMissing_72 : decode prog_5_method_4_code 72 = .ok (.iadd, 1) := by decide +kernel
theorem d_Search_numberMissing_73 : decode prog_5_method_4_code 73 = .ok (.istore_n 1, 1) := by decide +kernel
theorem d_Search_numberMissing_74 : decode prog_5_method_4_code 74 = .ok (.iinc 2 1, 3) := by decide +kernel
theorem d_Search_numberMissing_77 : decode prog_5_method_4_code 77 = .ok (.goto (-73), 3) := by decide +kernel
theorem d_Search_numberMissing_80 : decode prog_5_method_4_code 80 = .ok (.aload_n 0, 1) := by decide +kernel
theorem d_Search_numberMissing_81 : decode prog_5_method_4_code 81 = .ok (.iconst 1, 1) := by decide +kernel
theorem d_Search_numberMissing_82 : decode prog_5_method_4_code 82 = .ok (.iload_n 1, 1) := by decide +kernel
theorem d_Search_numberMissing_83 : decode prog_5_method_4_code 83 = .ok (.ishl, 1) := by decide +kernel
theorem d_Search_numberMissing_84 : decode prog_5_method_4_code 84 = .ok (.iconst 1, 1) := by decide +kernel
theorem d_Search_numberMissing_85 : decode prog_5_method_4_code 85 = .ok (.isub, 1) := by decide +kernel
theorem d_Search_numberMissing_86 : decode prog_5_method_4_code 86 = .ok (.putfield 39, 3) := by decide +kernel
theorem d_Search_numberMissing_89 : decode prog_5_method_4_code 89 = .ok (.return_, 1) := by decide +kernel
set_option maxHeartbeats 4000000 in
set_option maxRecDepth 20000 in
theorem c_Search_numberMissing (s0 : MS) (Q : MS → Prop) (h : wp_Search_numberMissing s0 Q) : MT dscC ⟨"BellSchool$Search", "numberMissing", "()V"⟩ prog_5_method_4_code 4 none 0 (fun ad => [.ref (ad 25)]) s0 (po_V dscC Q) := by
  refine met_of (by decide) (fun _ => Nat.le_of_ble_eq_true rfl) (fun X E hR => ?_)
  replace E : EV dscC X prog_5_method_4_code "BellSchool$Search" 4 0 := E
  show VV dscC X 0 [(0, .ref (adX X 25))] [] s0
  unfold wp_Search_numberMissing at h
  refine v_iconst E d_Search_numberMissing_0 ?_
  refine v_istoren E d_Search_numberMissing_1 rfl (by decide) (L' := [(1, .int (iI 0)), (0, .ref (adX X 25))]) rfl ?_
  refine v_iconst E d_Search_numberMissing_2 ?_
  refine v_istoren E d_Search_numberMissing_3 rfl (by decide) (L' := [(2, .int (iI 0)), (1, .int (iI 0)), (0, .ref (adX X 25))]) rfl ?_
  refine v_sub [2, 1, 0] (L' := [(0, .ref (adX X 25)), (1, .int (iI 0)), (2, .int (iI 0))]) rfl ?_
  obtain ⟨I1, μ1, h01, h⟩ := h
  refine v_loop2 (fun (x1 : Int) (x2 : Int) => [(0, .ref (adX X 25)), (1, .int (iI x1)), (2, .int (iI x2))]) I1 μ1 (fun x1 x2 s1 hI1 ih1 => ?_) 0 0 s0 h01
  replace h := h x1 x2 s1 hI1
  refine v_iloadn E d_Search_numberMissing_4 rfl 2 rfl ?_
  refine v_bipush E d_Search_numberMissing_5 rfl ?_
  obtain ⟨q1, h⟩ := h
  refine v_icmp_ge E 80 d_Search_numberMissing_7 (by decide) q1 (by decide) (fun c1 => ?_) (fun c1 => ?_)
  · replace h := h.1 c1
    refine v_aloadn E d_Search_numberMissing_80 rfl 0 rfl ?_
    refine v_iconst E d_Search_numberMissing_81 ?_
    refine v_iloadn E d_Search_numberMissing_82 rfl 1 rfl ?_
    refine v_ishl E d_Search_numberMissing_83 ?_
    refine v_iconst E d_Search_numberMissing_84 ?_
    refine v_isub E d_Search_numberMissing_85 ?_
    obtain ⟨q2, h⟩ := h
    refine v_putI E cf3 dC_25 7 (by decide) rfl rfl mw269 d_Search_numberMissing_86 rfl rfl rfl q2 ?_
    refine v_nameS (fun s2 hs2 => ?_)
    replace h := h s2 hs2
    exact v_vret E hR h d_Search_numberMissing_89
  · replace h := h.2 c1
    refine v_iloadn E d_Search_numberMissing_10 rfl 2 rfl ?_
    refine v_aloadn E d_Search_numberMissing_11 rfl 0 rfl ?_
    refine v_getI E cf3 dC_25 6 (by decide) rfl mw270 d_Search_numberMissing_12 rfl ?_
    refine v_wt (fun wt1 => ?_)
    refine v_icmp_ge E 36 d_Search_numberMissing_15 (by decide) q1 (wt1 25 6) (fun c2 => ?_) (fun c2 => ?_)
    · replace h := h.1 c2
      refine v_iconst E d_Search_numberMissing_36 ?_
      refine v_istoren E d_Search_numberMissing_37 rfl (by decide) (L' := [(3, .int (iI 0)), (0, .ref (adX X 25)), (1, .int (iI x1)), (2, .int (iI x2))]) rfl ?_
      refine v_aloadn E d_Search_numberMissing_38 rfl 1 rfl ?_
      refine v_getA E cf3 dC_25 3 (by decide) rfl mw271 d_Search_numberMissing_39 rfl ?_
      refine v_iloadn E d_Search_numberMissing_42 rfl 3 rfl ?_
      refine v_iloadn E d_Search_numberMissing_43 rfl 0 rfl ?_
      refine v_if_eq E 59 d_Search_numberMissing_44 (by decide) (by decide) (fun _ => ?_) (fun hc => absurd hc (by decide))
      refine v_bipush E d_Search_numberMissing_59 rfl ?_
      obtain ⟨q3, h⟩ := h
      refine v_iast E dC_29 (by decide) q3.1 q3.2 (by decide) d_Search_numberMissing_61 ?_
      refine v_nameS (fun s3 hs3 => ?_)
      replace h := h s3 hs3
      refine v_iloadn E d_Search_numberMissing_62 rfl 2 rfl ?_
      refine v_iloadn E d_Search_numberMissing_63 rfl 0 rfl ?_
      refine v_if_eq E 71 d_Search_numberMissing_64 (by decide) (by decide) (fun _ => ?_) (fun hc => absurd hc (by decide))
      refine v_iconst E d_Search_numberMissing_71 ?_
      refine v_iadd E d_Search_numberMissing_72 ?_
      refine v_nameI (fun x3 hx3 => ?_)
      replace h := h x3 hx3
      refine v_istoren E d_Search_numberMissing_73 rfl (by decide) (L' := [(1, .int (iI x3)), (3, .int (iI 0)), (0, .ref (adX X 25)), (2, .int (iI x2))]) rfl ?_
      refine v_iincN E d_Search_numberMissing_74 3 rfl (by decide) (fun y => [(2, .int (iI y)), (1, .int (iI x3)), (3, .int (iI 0)), (0, .ref (adX X 25))]) (fun _ => rfl) (fun x4 hx4 => ?_)
      replace h := h x4 hx4
      refine v_goto E 4 d_Search_numberMissing_77 (by decide) ?_
      obtain ⟨hb, hm⟩ := h
      exact v_sub [3, 1, 0] rfl (ih1 x3 x4 s3 hb hm)
    · replace h := h.2 c2
      refine v_aloadn E d_Search_numberMissing_18 rfl 0 rfl ?_
      refine v_getA E cf3 dC_25 4 (by decide) rfl mw272 d_Search_numberMissing_19 rfl ?_
      refine v_getI E cf5 dC_60 5 (by decide) rfl mw273 d_Search_numberMissing_22 rfl ?_
      refine v_iloadn E d_Search_numberMissing_25 rfl 2 rfl ?_
      refine v_ishr E d_Search_numberMissing_26 ?_
      refine v_iconst E d_Search_numberMissing_27 ?_
      refine v_iand E d_Search_numberMissing_28 ?_
      refine v_if_ne E 36 d_Search_numberMissing_29 (by decide) (Rng_of _) (fun c3 => ?_) (fun c3 => ?_)
      · replace h := h.1 c3
        refine v_iconst E d_Search_numberMissing_36 ?_
        refine v_istoren E d_Search_numberMissing_37 rfl (by decide) (L' := [(3, .int (iI 0)), (0, .ref (adX X 25)), (1, .int (iI x1)), (2, .int (iI x2))]) rfl ?_
        refine v_aloadn E d_Search_numberMissing_38 rfl 1 rfl ?_
        refine v_getA E cf3 dC_25 3 (by decide) rfl mw271 d_Search_numberMissing_39 rfl ?_
        refine v_iloadn E d_Search_numberMissing_42 rfl 3 rfl ?_
        refine v_iloadn E d_Search_numberMissing_43 rfl 0 rfl ?_
        refine v_if_eq E 59 d_Search_numberMissing_44 (by decide) (by decide) (fun _ => ?_) (fun hc => absurd hc (by decide))
        refine v_bipush E d_Search_numberMissing_59 rfl ?_
        obtain ⟨q4, h⟩ := h
        refine v_iast E dC_29 (by decide) q4.1 q4.2 (by decide) d_Search_numberMissing_61 ?_
        refine v_nameS (fun s4 hs4 => ?_)
        replace h := h s4 hs4
        refine v_iloadn E d_Search_numberMissing_62 rfl 2 rfl ?_
        refine v_iloadn E d_Search_numberMissing_63 rfl 0 rfl ?_
        refine v_if_eq E 71 d_Search_numberMissing_64 (by decide) (by decide) (fun _ => ?_) (fun hc => absurd hc (by decide))
        refine v_iconst E d_Search_numberMissing_71 ?_
        refine v_iadd E d_Search_numberMissing_72 ?_
        refine v_nameI (fun x5 hx5 => ?_)
        replace h := h x5 hx5
        refine v_istoren E d_Search_numberMissing_73 rfl (by decide) (L' := [(1, .int (iI x5)), (3, .int (iI 0)), (0, .ref (adX X 25)), (2, .int (iI x2))]) rfl ?_
        refine v_iincN E d_Search_numberMissing_74 3 rfl (by decide) (fun y => [(2, .int (iI y)), (1, .int (iI x5)), (3, .int (iI 0)), (0, .ref (adX X 25))]) (fun _ => rfl) (fun x6 hx6 => ?_)
        replace h := h x6 hx6
        refine v_goto E 4 d_Search_numberMissing_77 (by decide) ?_
        obtain ⟨hb, hm⟩ := h
        exact v_sub [3, 1, 0] rfl (ih1 x5 x6 s4 hb hm)
      · replace h := h.2 c3
        refine v_iconst E d_Search_numberMissing_32 ?_
        refine v_goto E 37 d_Search_numberMissing_33 (by decide) ?_
        refine v_istoren E d_Search_numberMissing_37 rfl (by decide) (L' := [(3, .int (iI 1)), (0, .ref (adX X 25)), (1, .int (iI x1)), (2, .int (iI x2))]) rfl ?_
        refine v_aloadn E d_Search_numberMissing_38 rfl 1 rfl ?_
        refine v_getA E cf3 dC_25 3 (by decide) rfl mw271 d_Search_numberMissing_39 rfl ?_
        refine v_iloadn E d_Search_numberMissing_42 rfl 3 rfl ?_
        refine v_iloadn E d_Search_numberMissing_43 rfl 0 rfl ?_
        refine v_if_eq E 59 d_Search_numberMissing_44 (by decide) (by decide) (fun hc => absurd hc (by decide)) (fun _ => ?_)
        refine v_iloadn E d_Search_numberMissing_47 rfl 2 rfl ?_
        refine v_getH E mw274 d_Search_numberMissing_48 (fun t1 ht1 => ?_)
        refine v_lenH E ht1 d_Search_numberMissing_51 ?_
        obtain ⟨q5, h⟩ := h
        refine v_icmp_ge E 59 d_Search_numberMissing_52 (by decide) q5 (by decide) (fun c4 => ?_) (fun c4 => ?_)
        · replace h := h.1 c4
          refine v_bipush E d_Search_numberMissing_59 rfl ?_
          obtain ⟨q6, h⟩ := h
          refine v_iast E dC_29 (by decide) q6.1 q6.2 (by decide) d_Search_numberMissing_61 ?_
          refine v_nameS (fun s5 hs5 => ?_)
          replace h := h s5 hs5
          refine v_iloadn E d_Search_numberMissing_62 rfl 2 rfl ?_
          refine v_iloadn E d_Search_numberMissing_63 rfl 0 rfl ?_
          refine v_if_eq E 71 d_Search_numberMissing_64 (by decide) (by decide) (fun hc => absurd hc (by decide)) (fun _ => ?_)
          refine v_iconst E d_Search_numberMissing_67 ?_
          refine v_goto E 72 d_Search_numberMissing_68 (by decide) ?_
          refine v_iadd E d_Search_numberMissing_72 ?_
          refine v_nameI (fun x7 hx7 => ?_)
          replace h := h x7 hx7
          refine v_istoren E d_Search_numberMissing_73 rfl (by decide) (L' := [(1, .int (iI x7)), (3, .int (iI 1)), (0, .ref (adX X 25)), (2, .int (iI x2))]) rfl ?_
          refine v_iincN E d_Search_numberMissing_74 3 rfl (by decide) (fun y => [(2, .int (iI y)), (1, .int (iI x7)), (3, .int (iI 1)), (0, .ref (adX X 25))]) (fun _ => rfl) (fun x8 hx8 => ?_)
          replace h := h x8 hx8
          refine v_goto E 4 d_Search_numberMissing_77 (by decide) ?_
          obtain ⟨hb, hm⟩ := h
          exact v_sub [3, 1, 0] rfl (ih1 x7 x8 s5 hb hm)
        · replace h := h.2 c4
          refine v_iloadn E d_Search_numberMissing_55 rfl 2 rfl ?_
          refine v_goto E 61 d_Search_numberMissing_56 (by decide) ?_
          obtain ⟨q7, h⟩ := h
          refine v_iast E dC_29 (by decide) q7.1 q7.2 q5 d_Search_numberMissing_61 ?_
          refine v_nameS (fun s6 hs6 => ?_)
          replace h := h s6 hs6
          refine v_iloadn E d_Search_numberMissing_62 rfl 2 rfl ?_
          refine v_iloadn E d_Search_numberMissing_63 rfl 0 rfl ?_
          refine v_if_eq E 71 d_Search_numberMissing_64 (by decide) (by decide) (fun hc => absurd hc (by decide)) (fun _ => ?_)
          refine v_iconst E d_Search_numberMissing_67 ?_
          refine v_goto E 72 d_Search_numberMissing_68 (by decide) ?_
          refine v_iadd E d_Search_numberMissing_72 ?_
          refine v_nameI (fun x9 hx9 => ?_)
          replace h := h x9 hx9
          refine v_istoren E d_Search_numberMissing_73 rfl (by decide) (L' := [(1, .int (iI x9)), (3, .int (iI 1)), (0, .ref (adX X 25)), (2, .int (iI x2))]) rfl ?_
          refine v_iincN E d_Search_numberMissing_74 3 rfl (by decide) (fun y => [(2, .int (iI y)), (1, .int (iI x9)), (3, .int (iI 1)), (0, .ref (adX X 25))]) (fun _ => rfl) (fun x10 hx10 => ?_)
          replace h := h x10 hx10
          refine v_goto E 4 d_Search_numberMissing_77 (by decide) ?_
          obtain ⟨hb, hm⟩ := h
          exact v_sub [3, 1, 0] rfl (ih1 x9 x10 s6 hb hm)
theorem d_Search_begin_0 : decode prog_5_method_3_code 0 = .ok (.aload_n 0, 1) := by decide +kernel
theorem d_Search_begin_1 : decode prog_5_method_3_code 1 = .ok (.iconst 1, 1) := by decide +kernel
theorem d_Search_begin_2 : decode prog_5_method_3_code 2 = .ok (.putfield 48, 3) := by decide +kernel
theorem d_Search_begin_5 : decode prog_5_method_3_code 5 = .ok (.aload_n 0, 1) := by decide +kernel
theorem d_Search_begin_6 : decode prog_5_method_3_code 6 = .ok (.getfield 28, 3) := by decide +kernel
theorem d_Search_begin_9 : decode prog_5_method_3_code 9 = .ok (.aload_n 1, 1) := by decide +kernel
theorem d_Search_begin_10 : decode prog_5_method_3_code 10 = .ok (.invokevirtual 79, 3) := by decide +kernel
theorem d_Search_begin_13 : decode prog_5_method_3_code 13 = .ok (.aload_n 0, 1) := by decide +kernel
theorem d_Search_begin_14 : decode prog_5_method_3_code 14 = .ok (.getfield 32, 3) := by decide +kernel
theorem d_Search_begin_17 : decode prog_5_method_3_code 17 = .ok (.aload_n 1, 1) := by decide +kernel
theorem d_Search_begin_18 : decode prog_5_method_3_code 18 = .ok (.invokevirtual 79, 3) := by decide +kernel
theorem d_Search_begin_21 : decode prog_5_method_3_code 21 = .ok (.aload_n 0, 1) := by decide +kernel
theorem d_Search_begin_22 : decode prog_5_method_3_code 22 = .ok (.getfield 32, 3) := by decide +kernel
theorem d_Search_begin_25 : decode prog_5_method_3_code 25 = .ok (.iconst 0, 1) := by decide +kernel
theorem d_Search_begin_26 : decode prog_5_method_3_code 26 = .ok (.putfield 83, 3) := by decide +kernel
theorem d_Search_begin_29 : decode prog_5_method_3_code 29 = .ok (.aload_n 0, 1) := by decide +kernel
theorem d_Search_begin_30 : decode prog_5_method_3_code 30 = .ok (.iload_n 2, 1) := by decide +kernel
theorem d_Search_begin_31 : decode prog_5_method_3_code 31 = .ok (.putfield 35, 3) := by decide +kernel
theorem d_Search_begin_34 : decode prog_5_method_3_code 34 = .ok (.aload_n 0, 1) := by decide +kernel
theorem d_Search_begin_35 : decode prog_5_method_3_code 35 = .ok (.invokevirtual 86, 3) := by decide +kernel
theorem d_Search_begin_38 : decode prog_5_method_3_code 38 = .ok (.iconst 0, 1) := by decide +kernel
theorem d_Search_begin_39 : decode prog_5_method_3_code 39 = .ok (.istore_n 3, 1) := by decide +kernel
theorem d_Search_begin_40 : decode prog_5_method_3_code 40 = .ok (.iload_n 3, 1) := by decide +kernel
theorem d_Search_begin_41 : decode prog_5_method_3_code 41 = .ok (.aload_n 0, 1) := by decide +kernel
theorem d_Search_begin_42 : decode prog_5_method_3_code 42 = .ok (.getfield 9, 3) := by decide +kernel
theorem d_Search_begin_45 : decode prog_5_method_3_code 45 = .ok (.arraylength, 1) := by decide +kernel
theorem d_Search_begin_46 : decode prog_5_method_3_code 46 = .ok (.if_icmp .ge 16, 3) := by decide +kernel
theorem d_Search_begin_49 : decode prog_5_method_3_code 49 = .ok (.aload_n 0, 1) := by decide +kernel
theorem d_Search_begin_50 : decode prog_5_method_3_code 50 = .ok (.getfield 9, 3) := by decide +kernel
theorem d_Search_begin_53 : decode prog_5_method_3_code 53 = .ok (.iload_n 3, 1) := by decide +kernel
theorem d_Search_begin_54 : decode prog_5_method_3_code 54 = .ok (.lconst 0, 1) := by decide +kernel
theorem d_Search_begin_55 : decode prog_5_method_3_code 55 = .ok (.lastore, 1) := by decide +kernel
theorem d_Search_begin_56 : decode prog_5_method_3_code 56 = .ok (.iinc 3 1, 3) := by decide +kernel
theorem d_Search_begin_59 : decode prog_5_method_3_code 59 = .ok (.goto (-19), 3) := by decide +kernel
theorem d_Search_begin_62 : decode prog_5_method_3_code 62 = .ok (.aload_n 0, 1) := by decide +kernel
theorem d_Search_begin_63 : decode prog_5_method_3_code 63 = .ok (.getfield 9, 3) := by decide +kernel
theorem d_Search_begin_66 : decode prog_5_method_3_code 66 = .ok (.aload_n 1, 1) := by decide +kernel
theorem d_Search_begin_67 : decode prog_5_method_3_code 67 = .ok (.getfield 89, 3) := by decide +kernel
theorem d_Search_begin_70 : decode prog_5_method_3_code 70 = .ok (.lconst 1, 1) := by decide +kernel
theorem d_Search_begin_71 : decode prog_5_method_3_code 71 = .ok (.lastore, 1) := by decide +kernel
theorem d_Search_begin_72 : decode prog_5_method_3_code 72 = .ok (.return_, 1) := by decide +kernel
set_option maxHeartbeats 4000000 in
set_option maxRecDepth 20000 in
theorem c_Search_begin (p1 : Nat) (hp1 : dscC[p1]? = some dSt) (p2 : Int) (hp2 : Rng p2) (s0 : MS) (Q : MS → Prop) (h : wp_Search_begin p1 p2 s0 Q) : MT dscC ⟨"BellSchool$Search", "begin", "(LBellSchool$Standing;I)V"⟩ prog_5_method_3_code 4 none 1 (fun ad => [.ref (ad 25), .ref (ad p1), .int (iI p2)]) s0 (po_V dscC Q) := by
  refine met_of (by decide) (fun _ => Nat.le_of_ble_eq_true rfl) (fun X E hR => ?_)
  replace E : EV dscC X prog_5_method_3_code "BellSchool$Search" 4 1 := E
  show VV dscC X 0 [(0, .ref (adX X 25)), (1, .ref (adX X p1)), (2, .int (iI p2))] [] s0
  unfold wp_Search_begin at h
  refine v_aloadn E d_Search_begin_0 rfl 0 rfl ?_
  refine v_iconst E d_Search_begin_1 ?_
  refine v_putI E cf3 dC_25 10 (by decide) rfl rfl mw279 d_Search_begin_2 rfl (nar_Z (by decide)) rfl (by decide) ?_
  refine v_nameS (fun s1 hs1 => ?_)
  replace h := h s1 hs1
  refine v_aloadn E d_Search_begin_5 rfl 0 rfl ?_
  refine v_getA E cf3 dC_25 4 (by decide) rfl mw272 d_Search_begin_6 rfl ?_
  refine v_aloadn E d_Search_begin_9 rfl 1 rfl ?_
  refine v_callVV E md_Standing_copy (c_Standing_copy 60 dC_60 p1 hp1 s1 _ h) dC_60 rfl ⟨by decide, by decide⟩ mw280 d_Search_begin_10 (fun _ => rfl) (st := []) rfl (Nat.le_of_ble_eq_true rfl) (fun s2 h => ?_)
  refine v_aloadn E d_Search_begin_13 rfl 0 rfl ?_
  refine v_getA E cf3 dC_25 5 (by decide) rfl mw281 d_Search_begin_14 rfl ?_
  refine v_aloadn E d_Search_begin_17 rfl 1 rfl ?_
  refine v_callVV E md_Standing_copy (c_Standing_copy 62 dC_62 p1 hp1 s2 _ h) dC_62 rfl ⟨by decide, by decide⟩ mw280 d_Search_begin_18 (fun _ => rfl) (st := []) rfl (Nat.le_of_ble_eq_true rfl) (fun s3 h => ?_)
  refine v_aloadn E d_Search_begin_21 rfl 0 rfl ?_
  refine v_getA E cf3 dC_25 5 (by decide) rfl mw281 d_Search_begin_22 rfl ?_
  refine v_iconst E d_Search_begin_25 ?_
  refine v_putI E cf5 dC_62 3 (by decide) rfl rfl mw282 d_Search_begin_26 rfl rfl rfl (by decide) ?_
  refine v_nameS (fun s4 hs4 => ?_)
  replace h := h s4 hs4
  refine v_aloadn E d_Search_begin_29 rfl 0 rfl ?_
  refine v_iloadn E d_Search_begin_30 rfl 2 rfl ?_
  refine v_putI E cf3 dC_25 6 (by decide) rfl rfl mw270 d_Search_begin_31 rfl rfl rfl hp2 ?_
  refine v_nameS (fun s5 hs5 => ?_)
  replace h := h s5 hs5
  refine v_aloadn E d_Search_begin_34 rfl 0 rfl ?_
  refine v_callVV E md_Search_numberMissing (c_Search_numberMissing s5 _ h) dC_25 rfl ⟨by decide, by decide⟩ mw283 d_Search_begin_35 (fun _ => rfl) (st := []) rfl (Nat.le_of_ble_eq_true rfl) (fun s6 h => ?_)
  refine v_iconst E d_Search_begin_38 ?_
  refine v_istoren E d_Search_begin_39 rfl (by decide) (L' := [(3, .int (iI 0)), (0, .ref (adX X 25)), (1, .ref (adX X p1)), (2, .int (iI p2))]) rfl ?_
  refine v_sub [1, 2, 0] (L' := [(0, .ref (adX X 25)), (1, .ref (adX X p1)), (3, .int (iI 0))]) rfl ?_
  obtain ⟨I1, μ1, h01, h⟩ := h
  refine v_loop1 (fun (x1 : Int) => [(0, .ref (adX X 25)), (1, .ref (adX X p1)), (3, .int (iI x1))]) I1 μ1 (fun x1 s7 hI1 ih1 => ?_) 0 s6 h01
  replace h := h x1 s7 hI1
  refine v_iloadn E d_Search_begin_40 rfl 2 rfl ?_
  refine v_aloadn E d_Search_begin_41 rfl 0 rfl ?_
  refine v_getA E cf3 dC_25 0 (by decide) rfl mw284 d_Search_begin_42 rfl ?_
  refine v_alen E (by decide) dC_26 d_Search_begin_45 ?_
  obtain ⟨q1, h⟩ := h
  refine v_icmp_ge E 62 d_Search_begin_46 (by decide) q1 (by decide) (fun c1 => ?_) (fun c1 => ?_)
  · replace h := h.1 c1
    refine v_aloadn E d_Search_begin_62 rfl 0 rfl ?_
    refine v_getA E cf3 dC_25 0 (by decide) rfl mw284 d_Search_begin_63 rfl ?_
    refine v_aloadn E d_Search_begin_66 rfl 1 rfl ?_
    refine v_getI E cf5 hp1 2 (by decide) rfl mw285 d_Search_begin_67 rfl ?_
    refine v_lconst E (1 : Int64) rfl d_Search_begin_70 ?_
    obtain ⟨q2, h⟩ := h
    refine v_last E dC_26 (by decide) q2.1 q2.2 d_Search_begin_71 ?_
    refine v_nameS (fun s8 hs8 => ?_)
    replace h := h s8 hs8
    exact v_vret E hR h d_Search_begin_72
  · replace h := h.2 c1
    refine v_aloadn E d_Search_begin_49 rfl 0 rfl ?_
    refine v_getA E cf3 dC_25 0 (by decide) rfl mw284 d_Search_begin_50 rfl ?_
    refine v_iloadn E d_Search_begin_53 rfl 2 rfl ?_
    refine v_lconst E (0 : Int64) rfl d_Search_begin_54 ?_
    obtain ⟨q3, h⟩ := h
    refine v_last E dC_26 (by decide) q3.1 q3.2 d_Search_begin_55 ?_
    refine v_nameS (fun s9 hs9 => ?_)
    replace h := h s9 hs9
    refine v_iincN E d_Search_begin_56 2 rfl (by decide) (fun y => [(3, .int (iI y)), (0, .ref (adX X 25)), (1, .ref (adX X p1))]) (fun _ => rfl) (fun x2 hx2 => ?_)
    replace h := h x2 hx2
    refine v_goto E 40 d_Search_begin_59 (by decide) ?_
    obtain ⟨hb, hm⟩ := h
    exact v_sub [1, 2, 0] rfl (ih1 x2 s9 hb hm)
theorem d_Search_isWholeBy_0 : decode prog_5_method_5_code 0 = .ok (.iconst 0, 1) := by decide +kernel
theorem d_Search_isWholeBy_1 : decode prog_5_method_5_code 1 = .ok (.istore_n 2, 1) := by decide +kernel
theorem d_Search_isWholeBy_2 : decode prog_5_method_5_code 2 = .ok (.iload_n 2, 1) := by decide +kernel
theorem d_Search_isWholeBy_3 : decode prog_5_method_5_code 3 = .ok (.aload_n 0, 1) := by decide +kernel
theorem d_Search_isWholeBy_4 : decode prog_5_method_5_code 4 = .ok (.getfield 35, 3) := by decide +kernel
theorem d_Search_isWholeBy_7 : decode prog_5_method_5_code 7 = .ok (.if_icmp .ge 34, 3) := by decide +kernel
theorem d_Search_isWholeBy_10 : decode prog_5_method_5_code 10 = .ok (.aload_n 0, 1) := by decide +kernel
theorem d_Search_isWholeBy_11 : decode prog_5_method_5_code 11 = .ok (.getfield 9, 3) := by decide +kernel
theorem d_Search_isWholeBy_14 : decode prog_5_method_5_code 14 = .ok (.iload_n 1, 1) := by decide +kernel
theorem d_Search_isWholeBy_15 : decode prog_5_method_5_code 15 = .ok (.bipush 7, 2) := by decide +kernel
theorem d_Search_isWholeBy_17 : decode prog_5_method_5_code 17 = .ok (.imul, 1) := by decide +kernel
theorem d_Search_isWholeBy_18 : decode prog_5_method_5_code 18 = .ok (.iload_n 2, 1) := by decide +kernel
theorem d_Search_isWholeBy_19 : decode prog_5_method_5_code 19 = .ok (.iadd, 1) := by decide +kernel
theorem d_Search_isWholeBy_20 : decode prog_5_method_5_code 20 = .ok (.laload, 1) := by decide +kernel
theorem d_Search_isWholeBy_21 : decode prog_5_method_5_code 21 = .ok (.aload_n 0, 1) := by decide +kernel
theorem d_Search_isWholeBy_22 : decode prog_5_method_5_code 22 = .ok (.getfield 39, 3) := by decide +kernel
theorem d_Search_isWholeBy_25 : decode prog_5_method_5_code 25 = .ok (.lushr, 1) := by decide +kernel
theorem d_Search_isWholeBy_26 : decode prog_5_method_5_code 26 = .ok (.lconst 1, 1) := by decide +kernel
theorem d_Search_isWholeBy_27 : decode prog_5_method_5_code 27 = .ok (.land, 1) := by decide +kernel
theorem d_Search_isWholeBy_28 : decode prog_5_method_5_code 28 = .ok (.lconst 0, 1) := by decide +kernel
theorem d_Search_isWholeBy_29 : decode prog_5_method_5_code 29 = .ok (.lcmp, 1) := by decide +kernel
theorem d_Search_isWholeBy_30 : decode prog_5_method_5_code 30 = .ok (.ifCond .eq 5, 3) := by decide +kernel
theorem d_Search_isWholeBy_33 : decode prog_5_method_5_code 33 = .ok (.iconst 1, 1) := by decide +kernel
theorem d_Search_isWholeBy_34 : decode prog_5_method_5_code 34 = .ok (.ireturn, 1) := by decide +kernel
theorem d_Search_isWholeBy_35 : decode prog_5_method_5_code 35 = .ok (.iinc 2 1, 3) := by decide +kernel
theorem d_Search_isWholeBy_38 : decode prog_5_method_5_code 38 = .ok (.goto (-36), 3) := by decide +kernel
theorem d_Search_isWholeBy_41 : decode prog_5_method_5_code 41 = .ok (.iconst 0, 1) := by decide +kernel
theorem d_Search_isWholeBy_42 : decode prog_5_method_5_code 42 = .ok (.ireturn, 1) := by decide +kernel
set_option maxHeartbeats 4000000 in
set_option maxRecDepth 20000 in
theorem c_Search_isWholeBy (p1 : Int) (hp1 : Rng p1) (s0 : MS) (Q : Int → Prop) (h : wp_Search_isWholeBy p1 s0 Q) : MT dscC ⟨"BellSchool$Search", "isWholeBy", "(I)Z"⟩ prog_5_method_5_code 3 (some .boolean) 0 (fun ad => [.ref (ad 25), .int (iI p1)]) s0 (po_I dscC (fun r z => (r = 0 ∨ r = 1) ∧ z = s0 ∧ Q r)) := by
  refine met_of (by decide) (fun _ => Nat.le_of_ble_eq_true rfl) (fun X E hR => ?_)
  replace E : EV dscC X prog_5_method_5_code "BellSchool$Search" 3 0 := E
  show VV dscC X 0 [(0, .ref (adX X 25)), (1, .int (iI p1))] [] s0
  unfold wp_Search_isWholeBy at h
  refine v_iconst E d_Search_isWholeBy_0 ?_
  refine v_istoren E d_Search_isWholeBy_1 rfl (by decide) (L' := [(2, .int (iI 0)), (0, .ref (adX X 25)), (1, .int (iI p1))]) rfl ?_
  refine v_sub [1, 2, 0] (L' := [(0, .ref (adX X 25)), (1, .int (iI p1)), (2, .int (iI 0))]) rfl ?_
  obtain ⟨I1, μ1, h01, h⟩ := h
  refine v_ploop1 s0 (fun (x1 : Int) => [(0, .ref (adX X 25)), (1, .int (iI p1)), (2, .int (iI x1))]) I1 μ1 (fun x1 hI1 ih1 => ?_) 0 h01
  replace h := h x1  hI1
  refine v_iloadn E d_Search_isWholeBy_2 rfl 2 rfl ?_
  refine v_aloadn E d_Search_isWholeBy_3 rfl 0 rfl ?_
  refine v_getI E cf3 dC_25 6 (by decide) rfl mw270 d_Search_isWholeBy_4 rfl ?_
  obtain ⟨q1, h⟩ := h
  refine v_wt (fun wt1 => ?_)
  refine v_icmp_ge E 41 d_Search_isWholeBy_7 (by decide) q1 (wt1 25 6) (fun c1 => ?_) (fun c1 => ?_)
  · replace h := h.1 c1
    refine v_iconst E d_Search_isWholeBy_41 ?_
    exact v_iret E hR (nar_Z (by decide)) (Rng_Z (by decide)) ⟨(by decide), rfl, h⟩ d_Search_isWholeBy_42
  · replace h := h.2 c1
    refine v_aloadn E d_Search_isWholeBy_10 rfl 0 rfl ?_
    refine v_getA E cf3 dC_25 0 (by decide) rfl mw284 d_Search_isWholeBy_11 rfl ?_
    refine v_iloadn E d_Search_isWholeBy_14 rfl 1 rfl ?_
    refine v_bipush E d_Search_isWholeBy_15 rfl ?_
    refine v_imul E d_Search_isWholeBy_17 ?_
    refine v_iloadn E d_Search_isWholeBy_18 rfl 2 rfl ?_
    refine v_iadd E d_Search_isWholeBy_19 ?_
    obtain ⟨q2, h⟩ := h
    refine v_lald E dC_26 (by decide) q2.1 q2.2 d_Search_isWholeBy_20 ?_
    refine v_aloadn E d_Search_isWholeBy_21 rfl 0 rfl ?_
    refine v_getI E cf3 dC_25 7 (by decide) rfl mw269 d_Search_isWholeBy_22 rfl ?_
    refine v_lushr E d_Search_isWholeBy_25 ?_
    refine v_lconst E (1 : Int64) rfl d_Search_isWholeBy_26 ?_
    refine v_land E d_Search_isWholeBy_27 ?_
    refine v_lconst E (0 : Int64) rfl d_Search_isWholeBy_28 ?_
    refine v_lcmp_eq E 35 d_Search_isWholeBy_29 d_Search_isWholeBy_30 (by decide) (fun c2 => ?_) (fun c2 => ?_)
    · replace h := h.1 c2
      refine v_iincN E d_Search_isWholeBy_35 2 rfl (by decide) (fun y => [(2, .int (iI y)), (0, .ref (adX X 25)), (1, .int (iI p1))]) (fun _ => rfl) (fun x2 hx2 => ?_)
      replace h := h x2 hx2
      refine v_goto E 2 d_Search_isWholeBy_38 (by decide) ?_
      obtain ⟨hb, hm⟩ := h
      exact v_sub [1, 2, 0] rfl (ih1 x2 hb hm)
    · replace h := h.2 c2
      refine v_iconst E d_Search_isWholeBy_33 ?_
      exact v_iret E hR (nar_Z (by decide)) (Rng_Z (by decide)) ⟨(by decide), rfl, h⟩ d_Search_isWholeBy_34
theorem d_Noon_latestHolding_0 : decode prog_3_method_11_code 0 = .ok (.aload_n 0, 1) := by decide +kernel
theorem d_Noon_latestHolding_1 : decode prog_3_method_11_code 1 = .ok (.getfield 22, 3) := by decide +kernel
theorem d_Noon_latestHolding_4 : decode prog_3_method_11_code 4 = .ok (.bipush (-4), 2) := by decide +kernel
theorem d_Noon_latestHolding_6 : decode prog_3_method_11_code 6 = .ok (.if_icmp .eq 14, 3) := by decide +kernel
theorem d_Noon_latestHolding_9 : decode prog_3_method_11_code 9 = .ok (.aload_n 0, 1) := by decide +kernel
theorem d_Noon_latestHolding_10 : decode prog_3_method_11_code 10 = .ok (.getfield 19, 3) := by decide +kernel
theorem d_Noon_latestHolding_13 : decode prog_3_method_11_code 13 = .ok (.iload_n 1, 1) := by decide +kernel
theorem d_Noon_latestHolding_14 : decode prog_3_method_11_code 14 = .ok (.iaload, 1) := by decide +kernel
theorem d_Noon_latestHolding_15 : decode prog_3_method_11_code 15 = .ok (.bipush (-4), 2) := by decide +kernel
theorem d_Noon_latestHolding_17 : decode prog_3_method_11_code 17 = .ok (.if_icmp .ne 8, 3) := by decide +kernel
theorem d_Noon_latestHolding_20 : decode prog_3_method_11_code 20 = .ok (.aload_n 0, 1) := by decide +kernel
theorem d_Noon_latestHolding_21 : decode prog_3_method_11_code 21 = .ok (.getfield 22, 3) := by decide +kernel
theorem d_Noon_latestHolding_24 : decode prog_3_method_11_code 24 = .ok (.ireturn, 1) := by decide +kernel
theorem d_Noon_latestHolding_25 : decode prog_3_method_11_code 25 = .ok (.aload_n 0, 1) := by decide +kernel
theorem d_Noon_latestHolding_26 : decode prog_3_method_11_code 26 = .ok (.getfield 19, 3) := by decide +kernel
theorem d_Noon_latestHolding_29 : decode prog_3_method_11_code 29 = .ok (.iload_n 1, 1) := by decide +kernel
theorem d_Noon_latestHolding_30 : decode prog_3_method_11_code 30 = .ok (.iaload, 1) := by decide +kernel
theorem d_Noon_latestHolding_31 : decode prog_3_method_11_code 31 = .ok (.bipush 20, 2) := by decide +kernel
theorem d_Noon_latestHolding_33 : decode prog_3_method_11_code 33 = .ok (.iadd, 1) := by decide +kernel
theorem d_Noon_latestHolding_34 : decode prog_3_method_11_code 34 = .ok (.istore_n 2, 1) := by decide +kernel
theorem d_Noon_latestHolding_35 : decode prog_3_method_11_code 35 = .ok (.iload_n 2, 1) := by decide +kernel
theorem d_Noon_latestHolding_36 : decode prog_3_method_11_code 36 = .ok (.aload_n 0, 1) := by decide +kernel
theorem d_Noon_latestHolding_37 : decode prog_3_method_11_code 37 = .ok (.getfield 19, 3) := by decide +kernel
theorem d_Noon_latestHolding_40 : decode prog_3_method_11_code 40 = .ok (.aload_n 0, 1) := by decide +kernel
theorem d_Noon_latestHolding_41 : decode prog_3_method_11_code 41 = .ok (.getfield 22, 3) := by decide +kernel
theorem d_Noon_latestHolding_44 : decode prog_3_method_11_code 44 = .ok (.iaload, 1) := by decide +kernel
theorem d_Noon_latestHolding_45 : decode prog_3_method_11_code 45 = .ok (.if_icmp .gt 24, 3) := by decide +kernel
theorem d_Noon_latestHolding_48 : decode prog_3_method_11_code 48 = .ok (.iload_n 2, 1) := by decide +kernel
theorem d_Noon_latestHolding_49 : decode prog_3_method_11_code 49 = .ok (.aload_n 0, 1) := by decide +kernel
theorem d_Noon_latestHolding_50 : decode prog_3_method_11_code 50 = .ok (.getfield 19, 3) := by decide +kernel
theorem d_Noon_latestHolding_53 : decode prog_3_method_11_code 53 = .ok (.aload_n 0, 1) := by decide +kernel
theorem d_Noon_latestHolding_54 : decode prog_3_method_11_code 54 = .ok (.getfield 22, 3) := by decide +kernel
theorem d_Noon_latestHolding_57 : decode prog_3_method_11_code 57 = .ok (.iaload, 1) := by decide +kernel
theorem d_Noon_latestHolding_58 : decode prog_3_method_11_code 58 = .ok (.if_icmp .ne 15, 3) := by decide +kernel
theorem d_Noon_latestHolding_61 : decode prog_3_method_11_code 61 = .ok (.iload_n 1, 1) := by decide +kernel
theorem d_Noon_latestHolding_62 : decode prog_3_method_11_code 62 = .ok (.aload_n 0, 1) := by decide +kernel
theorem d_Noon_latestHolding_63 : decode prog_3_method_11_code 63 = .ok (.getfield 22, 3) := by decide +kernel
theorem d_Noon_latestHolding_66 : decode prog_3_method_11_code 66 = .ok (.if_icmp .le 7, 3) := by decide +kernel
theorem d_Noon_latestHolding_69 : decode prog_3_method_11_code 69 = .ok (.iconst 1, 1) := by decide +kernel
theorem d_Noon_latestHolding_70 : decode prog_3_method_11_code 70 = .ok (.goto 4, 3) := by decide +kernel
theorem d_Noon_latestHolding_73 : decode prog_3_method_11_code 73 = .ok (.iconst 0, 1) := by decide +kernel
theorem d_Noon_latestHolding_74 : decode prog_3_method_11_code 74 = .ok (.istore_n 3, 1) := by decide +kernel
theorem d_Noon_latestHolding_75 : decode prog_3_method_11_code 75 = .ok (.iload_n 3, 1) := by decide +kernel
theorem d_Noon_latestHolding_76 : decode prog_3_method_11_code 76 = .ok (.ifCond .eq 7, 3) := by decide +kernel
theorem d_Noon_latestHolding_79 : decode prog_3_method_11_code 79 = .ok (.iload_n 1, 1) := by decide +kernel
theorem d_Noon_latestHolding_80 : decode prog_3_method_11_code 80 = .ok (.goto 7, 3) := by decide +kernel
theorem d_Noon_latestHolding_83 : decode prog_3_method_11_code 83 = .ok (.aload_n 0, 1) := by decide +kernel
theorem d_Noon_latestHolding_84 : decode prog_3_method_11_code 84 = .ok (.getfield 22, 3) := by decide +kernel
theorem d_Noon_latestHolding_87 : decode prog_3_method_11_code 87 = .ok (.ireturn, 1) := by decide +kernel
set_option maxHeartbeats 4000000 in
set_option maxRecDepth 20000 in
theorem c_Noon_latestHolding (p1 : Int) (hp1 : Rng p1) (s0 : MS) (Q : Int → Prop) (h : wp_Noon_latestHolding p1 s0 Q) : MT dscC ⟨"BellSchool$Noon", "latestHolding", "(I)I"⟩ prog_3_method_11_code 4 (some .int) 0 (fun ad => [.ref (ad 17), .int (iI p1)]) s0 (po_I dscC (fun r z => z = s0 ∧ Q r)) := by
  refine met_of (by decide) (fun _ => Nat.le_of_ble_eq_true rfl) (fun X E hR => ?_)
  replace E : EV dscC X prog_3_method_11_code "BellSchool$Noon" 4 0 := E
  show VV dscC X 0 [(0, .ref (adX X 17)), (1, .int (iI p1))] [] s0
  unfold wp_Noon_latestHolding at h
  refine v_aloadn E d_Noon_latestHolding_0 rfl 0 rfl ?_
  refine v_getI E cf1 dC_17 4 (by decide) rfl mw192 d_Noon_latestHolding_1 rfl ?_
  refine v_bipush E d_Noon_latestHolding_4 rfl ?_
  refine v_wt (fun wt1 => ?_)
  refine v_icmp_eq E 20 d_Noon_latestHolding_6 (by decide) (wt1 17 4) (by decide) (fun c1 => ?_) (fun c1 => ?_)
  · replace h := h.1 c1
    refine v_aloadn E d_Noon_latestHolding_20 rfl 0 rfl ?_
    refine v_getI E cf1 dC_17 4 (by decide) rfl mw192 d_Noon_latestHolding_21 rfl ?_
    exact v_iret E hR rfl (wt1 17 4) ⟨rfl, h⟩ d_Noon_latestHolding_24
  · replace h := h.2 c1
    refine v_aloadn E d_Noon_latestHolding_9 rfl 0 rfl ?_
    refine v_getA E cf1 dC_17 3 (by decide) rfl mw196 d_Noon_latestHolding_10 rfl ?_
    refine v_iloadn E d_Noon_latestHolding_13 rfl 1 rfl ?_
    obtain ⟨q1, h⟩ := h
    refine v_iald E dC_20 (by decide) q1.1 q1.2 d_Noon_latestHolding_14 ?_
    refine v_bipush E d_Noon_latestHolding_15 rfl ?_
    refine v_icmp_ne E 25 d_Noon_latestHolding_17 (by decide) (wt1 20 p1) (by decide) (fun c2 => ?_) (fun c2 => ?_)
    · replace h := h.1 c2
      refine v_aloadn E d_Noon_latestHolding_25 rfl 0 rfl ?_
      refine v_getA E cf1 dC_17 3 (by decide) rfl mw196 d_Noon_latestHolding_26 rfl ?_
      refine v_iloadn E d_Noon_latestHolding_29 rfl 1 rfl ?_
      refine v_iald E dC_20 (by decide) q1.1 q1.2 d_Noon_latestHolding_30 ?_
      refine v_bipush E d_Noon_latestHolding_31 rfl ?_
      refine v_iadd E d_Noon_latestHolding_33 ?_
      refine v_nameI (fun x1 hx1 => ?_)
      replace h := h x1 hx1
      refine v_istoren E d_Noon_latestHolding_34 rfl (by decide) (L' := [(2, .int (iI x1)), (0, .ref (adX X 17)), (1, .int (iI p1))]) rfl ?_
      refine v_iloadn E d_Noon_latestHolding_35 rfl 0 rfl ?_
      refine v_aloadn E d_Noon_latestHolding_36 rfl 1 rfl ?_
      refine v_getA E cf1 dC_17 3 (by decide) rfl mw196 d_Noon_latestHolding_37 rfl ?_
      refine v_aloadn E d_Noon_latestHolding_40 rfl 1 rfl ?_
      refine v_getI E cf1 dC_17 4 (by decide) rfl mw192 d_Noon_latestHolding_41 rfl ?_
      obtain ⟨q2, h⟩ := h
      refine v_iald E dC_20 (by decide) q2.1 q2.2 d_Noon_latestHolding_44 ?_
      obtain ⟨q3, h⟩ := h
      refine v_icmp_gt E 69 d_Noon_latestHolding_45 (by decide) q3 (wt1 20 (gI s0 17 4)) (fun c3 => ?_) (fun c3 => ?_)
      · replace h := h.1 c3
        refine v_iconst E d_Noon_latestHolding_69 ?_
        refine v_goto E 74 d_Noon_latestHolding_70 (by decide) ?_
        refine v_istoren E d_Noon_latestHolding_74 rfl (by decide) (L' := [(3, .int (iI 1)), (2, .int (iI x1)), (0, .ref (adX X 17)), (1, .int (iI p1))]) rfl ?_
        refine v_iloadn E d_Noon_latestHolding_75 rfl 0 rfl ?_
        refine v_if_eq E 83 d_Noon_latestHolding_76 (by decide) (by decide) (fun hc => absurd hc (by decide)) (fun _ => ?_)
        refine v_iloadn E d_Noon_latestHolding_79 rfl 3 rfl ?_
        refine v_goto E 87 d_Noon_latestHolding_80 (by decide) ?_
        exact v_iret E hR rfl hp1 ⟨rfl, h⟩ d_Noon_latestHolding_87
      · replace h := h.2 c3
        refine v_iloadn E d_Noon_latestHolding_48 rfl 0 rfl ?_
        refine v_aloadn E d_Noon_latestHolding_49 rfl 1 rfl ?_
        refine v_getA E cf1 dC_17 3 (by decide) rfl mw196 d_Noon_latestHolding_50 rfl ?_
        refine v_aloadn E d_Noon_latestHolding_53 rfl 1 rfl ?_
        refine v_getI E cf1 dC_17 4 (by decide) rfl mw192 d_Noon_latestHolding_54 rfl ?_
        refine v_iald E dC_20 (by decide) q2.1 q2.2 d_Noon_latestHolding_57 ?_
        refine v_icmp_ne E 73 d_Noon_latestHolding_58 (by decide) q3 (wt1 20 (gI s0 17 4)) (fun c4 => ?_) (fun c4 => ?_)
        · replace h := h.1 c4
          refine v_iconst E d_Noon_latestHolding_73 ?_
          refine v_istoren E d_Noon_latestHolding_74 rfl (by decide) (L' := [(3, .int (iI 0)), (2, .int (iI x1)), (0, .ref (adX X 17)), (1, .int (iI p1))]) rfl ?_
          refine v_iloadn E d_Noon_latestHolding_75 rfl 0 rfl ?_
          refine v_if_eq E 83 d_Noon_latestHolding_76 (by decide) (by decide) (fun _ => ?_) (fun hc => absurd hc (by decide))
          refine v_aloadn E d_Noon_latestHolding_83 rfl 2 rfl ?_
          refine v_getI E cf1 dC_17 4 (by decide) rfl mw192 d_Noon_latestHolding_84 rfl ?_
          exact v_iret E hR rfl (Rng_b q2 (by decide)) ⟨rfl, h⟩ d_Noon_latestHolding_87
        · replace h := h.2 c4
          refine v_iloadn E d_Noon_latestHolding_61 rfl 2 rfl ?_
          refine v_aloadn E d_Noon_latestHolding_62 rfl 1 rfl ?_
          refine v_getI E cf1 dC_17 4 (by decide) rfl mw192 d_Noon_latestHolding_63 rfl ?_
          refine v_icmp_le E 73 d_Noon_latestHolding_66 (by decide) hp1 (Rng_b q2 (by decide)) (fun c5 => ?_) (fun c5 => ?_)
          · replace h := h.1 c5
            refine v_iconst E d_Noon_latestHolding_73 ?_
            refine v_istoren E d_Noon_latestHolding_74 rfl (by decide) (L' := [(3, .int (iI 0)), (2, .int (iI x1)), (0, .ref (adX X 17)), (1, .int (iI p1))]) rfl ?_
            refine v_iloadn E d_Noon_latestHolding_75 rfl 0 rfl ?_
            refine v_if_eq E 83 d_Noon_latestHolding_76 (by decide) (by decide) (fun _ => ?_) (fun hc => absurd hc (by decide))
            refine v_aloadn E d_Noon_latestHolding_83 rfl 2 rfl ?_
            refine v_getI E cf1 dC_17 4 (by decide) rfl mw192 d_Noon_latestHolding_84 rfl ?_
            exact v_iret E hR rfl (Rng_b q2 (by decide)) ⟨rfl, h⟩ d_Noon_latestHolding_87
          · replace h := h.2 c5
            refine v_iconst E d_Noon_latestHolding_69 ?_
            refine v_goto E 74 d_Noon_latestHolding_70 (by decide) ?_
            refine v_istoren E d_Noon_latestHolding_74 rfl (by decide) (L' := [(3, .int (iI 1)), (2, .int (iI x1)), (0, .ref (adX X 17)), (1, .int (iI p1))]) rfl ?_
            refine v_iloadn E d_Noon_latestHolding_75 rfl 0 rfl ?_
            refine v_if_eq E 83 d_Noon_latestHolding_76 (by decide) (by decide) (fun hc => absurd hc (by decide)) (fun _ => ?_)
            refine v_iloadn E d_Noon_latestHolding_79 rfl 3 rfl ?_
            refine v_goto E 87 d_Noon_latestHolding_80 (by decide) ?_
            exact v_iret E hR rfl hp1 ⟨rfl, h⟩ d_Noon_latestHolding_87
    · replace h := h.2 c2
      refine v_aloadn E d_Noon_latestHolding_20 rfl 0 rfl ?_
      refine v_getI E cf1 dC_17 4 (by decide) rfl mw192 d_Noon_latestHolding_21 rfl ?_
      exact v_iret E hR rfl (wt1 17 4) ⟨rfl, h⟩ d_Noon_latestHolding_24
theorem d_Search_placeOf_0 : decode prog_5_method_7_code 0 = .ok (.iload_n 0, 1) := by decide +kernel
theorem d_Search_placeOf_1 : decode prog_5_method_7_code 1 = .ok (.bipush 7, 2) := by decide +kernel
theorem d_Search_placeOf_3 : decode prog_5_method_7_code 3 = .ok (.imul, 1) := by decide +kernel
theorem d_Search_placeOf_4 : decode prog_5_method_7_code 4 = .ok (.iload_n 1, 1) := by decide +kernel
theorem d_Search_placeOf_5 : decode prog_5_method_7_code 5 = .ok (.iadd, 1) := by decide +kernel
theorem d_Search_placeOf_6 : decode prog_5_method_7_code 6 = .ok (.bipush 8, 2) := by decide +kernel
theorem d_Search_placeOf_8 : decode prog_5_method_7_code 8 = .ok (.imul, 1) := by decide +kernel
theorem d_Search_placeOf_9 : decode prog_5_method_7_code 9 = .ok (.iload_n 2, 1) := by decide +kernel
theorem d_Search_placeOf_10 : decode prog_5_method_7_code 10 = .ok (.iadd, 1) := by decide +kernel
theorem d_Search_placeOf_11 : decode prog_5_method_7_code 11 = .ok (.ireturn, 1) := by decide +kernel
set_option maxHeartbeats 4000000 in
set_option maxRecDepth 20000 in
theorem c_Search_placeOf (dsc : List CD) (p1 : Int) (hp1 : Rng p1) (p2 : Int) (hp2 : Rng p2) (p3 : Int) (hp3 : Rng p3) (s0 : MS) (Q : Int → Prop) (h : wp_Search_placeOf p1 p2 p3 Q) : MT dsc ⟨"BellSchool$Search", "placeOf", "(III)I"⟩ prog_5_method_7_code 3 (some .int) 0 (fun ad => [.int (iI p1), .int (iI p2), .int (iI p3)]) s0 (po_I dsc (fun r z => z = s0 ∧ Q r)) := by
  refine met_of (by decide) (fun _ => Nat.le_of_ble_eq_true rfl) (fun X E hR => ?_)
  replace E : EV dsc X prog_5_method_7_code "BellSchool$Search" 3 0 := E
  show VV dsc X 0 [(0, .int (iI p1)), (1, .int (iI p2)), (2, .int (iI p3))] [] s0
  unfold wp_Search_placeOf at h
  refine v_iloadn E d_Search_placeOf_0 rfl 0 rfl ?_
  refine v_bipush E d_Search_placeOf_1 rfl ?_
  refine v_imul E d_Search_placeOf_3 ?_
  refine v_iloadn E d_Search_placeOf_4 rfl 1 rfl ?_
  refine v_iadd E d_Search_placeOf_5 ?_
  refine v_bipush E d_Search_placeOf_6 rfl ?_
  refine v_imul E d_Search_placeOf_8 ?_
  refine v_iloadn E d_Search_placeOf_9 rfl 2 rfl ?_
  refine v_iadd E d_Search_placeOf_10 ?_
  obtain ⟨q1, h⟩ := h
  exact v_iret E hR rfl q1 ⟨rfl, h⟩ d_Search_placeOf_11
theorem d_Search_joined_0 : decode prog_5_method_8_code 0 = .ok (.iload_n 2, 1) := by decide +kernel
theorem d_Search_joined_1 : decode prog_5_method_8_code 1 = .ok (.ifCond .lt 11, 3) := by decide +kernel
theorem d_Search_joined_4 : decode prog_5_method_8_code 4 = .ok (.iload_n 2, 1) := by decide +kernel
theorem d_Search_joined_5 : decode prog_5_method_8_code 5 = .ok (.getstatic 95, 3) := by decide +kernel
theorem d_Search_joined_8 : decode prog_5_method_8_code 8 = .ok (.arraylength, 1) := by decide +kernel
theorem d_Search_joined_9 : decode prog_5_method_8_code 9 = .ok (.if_icmp .lt 5, 3) := by decide +kernel
theorem d_Search_joined_12 : decode prog_5_method_8_code 12 = .ok (.lload_n 0, 1) := by decide +kernel
theorem d_Search_joined_13 : decode prog_5_method_8_code 13 = .ok (.lreturn, 1) := by decide +kernel
theorem d_Search_joined_14 : decode prog_5_method_8_code 14 = .ok (.getstatic 95, 3) := by decide +kernel
theorem d_Search_joined_17 : decode prog_5_method_8_code 17 = .ok (.iload_n 2, 1) := by decide +kernel
theorem d_Search_joined_18 : decode prog_5_method_8_code 18 = .ok (.laload, 1) := by decide +kernel
theorem d_Search_joined_19 : decode prog_5_method_8_code 19 = .ok (.lstore_n 3, 1) := by decide +kernel
theorem d_Search_joined_20 : decode prog_5_method_8_code 20 = .ok (.lload_n 0, 1) := by decide +kernel
theorem d_Search_joined_21 : decode prog_5_method_8_code 21 = .ok (.lload_n 3, 1) := by decide +kernel
theorem d_Search_joined_22 : decode prog_5_method_8_code 22 = .ok (.land, 1) := by decide +kernel
theorem d_Search_joined_23 : decode prog_5_method_8_code 23 = .ok (.lload_n 0, 1) := by decide +kernel
theorem d_Search_joined_24 : decode prog_5_method_8_code 24 = .ok (.lload_n 3, 1) := by decide +kernel
theorem d_Search_joined_25 : decode prog_5_method_8_code 25 = .ok (.ldc2_w 119, 3) := by decide +kernel
theorem d_Search_joined_28 : decode prog_5_method_8_code 28 = .ok (.lxor, 1) := by decide +kernel
theorem d_Search_joined_29 : decode prog_5_method_8_code 29 = .ok (.land, 1) := by decide +kernel
theorem d_Search_joined_30 : decode prog_5_method_8_code 30 = .ok (.iconst 1, 1) := by decide +kernel
theorem d_Search_joined_31 : decode prog_5_method_8_code 31 = .ok (.iload_n 2, 1) := by decide +kernel
theorem d_Search_joined_32 : decode prog_5_method_8_code 32 = .ok (.ishl, 1) := by decide +kernel
theorem d_Search_joined_33 : decode prog_5_method_8_code 33 = .ok (.lshl, 1) := by decide +kernel
theorem d_Search_joined_34 : decode prog_5_method_8_code 34 = .ok (.lor, 1) := by decide +kernel
theorem d_Search_joined_35 : decode prog_5_method_8_code 35 = .ok (.lreturn, 1) := by decide +kernel
set_option maxHeartbeats 4000000 in
set_option maxRecDepth 20000 in
theorem c_Search_joined (p1 : Int64) (p2 : Int) (hp2 : Rng p2) (s0 : MS) (Q : Int64 → Prop) (h : wp_Search_joined p1 p2 s0 Q) : MT dscC ⟨"BellSchool$Search", "joined", "(JI)J"⟩ prog_5_method_8_code 5 (some .long) 0 (fun ad => [.long p1, .int (iI p2)]) s0 (po_L dscC (fun r z => z = s0 ∧ Q r)) := by
  refine met_of (by decide) (fun _ => Nat.le_of_ble_eq_true rfl) (fun X E hR => ?_)
  replace E : EV dscC X prog_5_method_8_code "BellSchool$Search" 5 0 := E
  show VV dscC X 0 [(0, .long p1), (2, .int (iI p2))] [] s0
  unfold wp_Search_joined at h
  refine v_iloadn E d_Search_joined_0 rfl 1 rfl ?_
  refine v_if_lt E 12 d_Search_joined_1 (by decide) hp2 (fun c1 => ?_) (fun c1 => ?_)
  · replace h := h.1 c1
    refine v_lloadn E d_Search_joined_12 rfl 0 rfl ?_
    exact v_lret E hR ⟨rfl, h⟩ d_Search_joined_13
  · replace h := h.2 c1
    refine v_iloadn E d_Search_joined_4 rfl 1 rfl ?_
    refine v_getH E mw274 d_Search_joined_5 (fun t1 ht1 => ?_)
    refine v_lenH E ht1 d_Search_joined_8 ?_
    refine v_icmp_lt E 14 d_Search_joined_9 (by decide) hp2 (by decide) (fun c2 => ?_) (fun c2 => ?_)
    · replace h := h.1 c2
      refine v_getH E mw274 d_Search_joined_14 (fun t2 ht2 => ?_)
      refine v_iloadn E d_Search_joined_17 rfl 1 rfl ?_
      obtain ⟨q1, h⟩ := h
      refine v_laldH E ht2 q1.1 q1.2 d_Search_joined_18 ?_
      refine v_nameL (fun y1 hy1 => ?_)
      replace h := h y1 hy1
      refine v_lstoren E d_Search_joined_19 rfl (by decide) (L' := [(3, .long y1), (0, .long p1), (2, .int (iI p2))]) rfl ?_
      refine v_lloadn E d_Search_joined_20 rfl 1 rfl ?_
      refine v_lloadn E d_Search_joined_21 rfl 0 rfl ?_
      refine v_land E d_Search_joined_22 ?_
      refine v_lloadn E d_Search_joined_23 rfl 1 rfl ?_
      refine v_lloadn E d_Search_joined_24 rfl 0 rfl ?_
      refine v_ldc2 E mw297 d_Search_joined_25 ?_
      refine v_lxor E d_Search_joined_28 ?_
      refine v_land E d_Search_joined_29 ?_
      refine v_iconst E d_Search_joined_30 ?_
      refine v_iloadn E d_Search_joined_31 rfl 2 rfl ?_
      refine v_ishl E d_Search_joined_32 ?_
      refine v_lshl E d_Search_joined_33 ?_
      refine v_lor E d_Search_joined_34 ?_
      exact v_lret E hR ⟨rfl, h⟩ d_Search_joined_35
    · replace h := h.2 c2
      refine v_lloadn E d_Search_joined_12 rfl 0 rfl ?_
      exact v_lret E hR ⟨rfl, h⟩ d_Search_joined_13
theorem d_Search_spread_0 : decode prog_5_method_6_code 0 = .ok (.aload_n 0, 1) := by decide +kernel
theorem d_Search_spread_1 : decode prog_5_method_6_code 1 = .ok (.getfield 32, 3) := by decide +kernel
theorem d_Search_spread_4 : decode prog_5_method_6_code 4 = .ok (.aload_n 0, 1) := by decide +kernel
theorem d_Search_spread_5 : decode prog_5_method_6_code 5 = .ok (.getfield 28, 3) := by decide +kernel
theorem d_Search_spread_8 : decode prog_5_method_6_code 8 = .ok (.getfield 98, 3) := by decide +kernel
theorem d_Search_spread_11 : decode prog_5_method_6_code 11 = .ok (.iload_n 2, 1) := by decide +kernel
theorem d_Search_spread_12 : decode prog_5_method_6_code 12 = .ok (.iadd, 1) := by decide +kernel
theorem d_Search_spread_13 : decode prog_5_method_6_code 13 = .ok (.putfield 98, 3) := by decide +kernel
theorem d_Search_spread_16 : decode prog_5_method_6_code 16 = .ok (.iconst 0, 1) := by decide +kernel
theorem d_Search_spread_17 : decode prog_5_method_6_code 17 = .ok (.istore_n 3, 1) := by decide +kernel
theorem d_Search_spread_18 : decode prog_5_method_6_code 18 = .ok (.iload_n 3, 1) := by decide +kernel
theorem d_Search_spread_19 : decode prog_5_method_6_code 19 = .ok (.aload_n 0, 1) := by decide +kernel
theorem d_Search_spread_20 : decode prog_5_method_6_code 20 = .ok (.getfield 35, 3) := by decide +kernel
theorem d_Search_spread_23 : decode prog_5_method_6_code 23 = .ok (.if_icmp .ge 146, 3) := by decide +kernel
theorem d_Search_spread_26 : decode prog_5_method_6_code 26 = .ok (.aload_n 0, 1) := by decide +kernel
theorem d_Search_spread_27 : decode prog_5_method_6_code 27 = .ok (.getfield 9, 3) := by decide +kernel
theorem d_Search_spread_30 : decode prog_5_method_6_code 30 = .ok (.iload_n 2, 1) := by decide +kernel
theorem d_Search_spread_31 : decode prog_5_method_6_code 31 = .ok (.bipush 7, 2) := by decide +kernel
theorem d_Search_spread_33 : decode prog_5_method_6_code 33 = .ok (.imul, 1) := by decide +kernel
theorem d_Search_spread_34 : decode prog_5_method_6_code 34 = .ok (.iload_n 3, 1) := by decide +kernel
theorem d_Search_spread_35 : decode prog_5_method_6_code 35 = .ok (.iadd, 1) := by decide +kernel
theorem d_Search_spread_36 : decode prog_5_method_6_code 36 = .ok (.laload, 1) := by decide +kernel
theorem d_Search_spread_37 : decode prog_5_method_6_code 37 = .ok (.lstore 4, 2) := by decide +kernel
theorem d_Search_spread_39 : decode prog_5_method_6_code 39 = .ok (.lload 4, 2) := by decide +kernel
theorem d_Search_spread_41 : decode prog_5_method_6_code 41 = .ok (.lconst 0, 1) := by decide +kernel
theorem d_Search_spread_42 : decode prog_5_method_6_code 42 = .ok (.lcmp, 1) := by decide +kernel
theorem d_Search_spread_43 : decode prog_5_method_6_code 43 = .ok (.ifCond .ne 6, 3) := by decide +kernel
theorem d_Search_spread_46 : decode prog_5_method_6_code 46 = .ok (.goto 117, 3) := by decide +kernel
theorem d_Search_spread_49 : decode prog_5_method_6_code 49 = .ok (.aload_n 0, 1) := by decide +kernel
theorem d_Search_spread_50 : decode prog_5_method_6_code 50 = .ok (.getfield 32, 3) := by decide +kernel
theorem d_Search_spread_53 : decode prog_5_method_6_code 53 = .ok (.iload_n 3, 1) := by decide +kernel
theorem d_Search_spread_54 : decode prog_5_method_6_code 54 = .ok (.putfield 89, 3) := by decide +kernel
theorem d_Search_spread_57 : decode prog_5_method_6_code 57 = .ok (.aload_n 1, 1) := by decide +kernel
theorem d_Search_spread_58 : decode prog_5_method_6_code 58 = .ok (.aload_n 0, 1) := by decide +kernel
theorem d_Search_spread_59 : decode prog_5_method_6_code 59 = .ok (.getfield 32, 3) := by decide +kernel
theorem d_Search_spread_62 : decode prog_5_method_6_code 62 = .ok (.invokevirtual 101, 3) := by decide +kernel
theorem d_Search_spread_65 : decode prog_5_method_6_code 65 = .ok (.iconst 0, 1) := by decide +kernel
theorem d_Search_spread_66 : decode prog_5_method_6_code 66 = .ok (.istore 6, 2) := by decide +kernel
theorem d_Search_spread_68 : decode prog_5_method_6_code 68 = .ok (.iload 6, 2) := by decide +kernel
theorem d_Search_spread_70 : decode prog_5_method_6_code 70 = .ok (.aload_n 0, 1) := by decide +kernel
theorem d_Search_spread_71 : decode prog_5_method_6_code 71 = .ok (.getfield 35, 3) := by decide +kernel
theorem d_Search_spread_74 : decode prog_5_method_6_code 74 = .ok (.if_icmp .gt 89, 3) := by decide +kernel
theorem d_Search_spread_77 : decode prog_5_method_6_code 77 = .ok (.iload 6, 2) := by decide +kernel
theorem d_Search_spread_79 : decode prog_5_method_6_code 79 = .ok (.ifCond .ne 10, 3) := by decide +kernel
theorem d_Search_spread_82 : decode prog_5_method_6_code 82 = .ok (.aload_n 1, 1) := by decide +kernel
theorem d_Search_spread_83 : decode prog_5_method_6_code 83 = .ok (.getfield 104, 3) := by decide +kernel
theorem d_Search_spread_86 : decode prog_5_method_6_code 86 = .ok (.goto 11, 3) := by decide +kernel
theorem d_Search_spread_89 : decode prog_5_method_6_code 89 = .ok (.aload_n 1, 1) := by decide +kernel
theorem d_Search_spread_90 : decode prog_5_method_6_code 90 = .ok (.iload 6, 2) := by decide +kernel
theorem d_Search_spread_92 : decode prog_5_method_6_code 92 = .ok (.iconst 1, 1) := by decide +kernel
theorem d_Search_spread_93 : decode prog_5_method_6_code 93 = .ok (.isub, 1) := by decide +kernel
theorem d_Search_spread_94 : decode prog_5_method_6_code 94 = .ok (.invokevirtual 107, 3) := by decide +kernel
theorem d_Search_spread_97 : decode prog_5_method_6_code 97 = .ok (.istore 7, 2) := by decide +kernel
theorem d_Search_spread_99 : decode prog_5_method_6_code 99 = .ok (.iload 7, 2) := by decide +kernel
theorem d_Search_spread_101 : decode prog_5_method_6_code 101 = .ok (.bipush (-4), 2) := by decide +kernel
theorem d_Search_spread_103 : decode prog_5_method_6_code 103 = .ok (.if_icmp .ne 7, 3) := by decide +kernel
theorem d_Search_spread_106 : decode prog_5_method_6_code 106 = .ok (.iload_n 3, 1) := by decide +kernel
theorem d_Search_spread_107 : decode prog_5_method_6_code 107 = .ok (.goto 5, 3) := by decide +kernel
theorem d_Search_spread_110 : decode prog_5_method_6_code 110 = .ok (.iload 7, 2) := by decide +kernel
theorem d_Search_spread_112 : decode prog_5_method_6_code 112 = .ok (.istore 8, 2) := by decide +kernel
theorem d_Search_spread_114 : decode prog_5_method_6_code 114 = .ok (.aload_n 0, 1) := by decide +kernel
theorem d_Search_spread_115 : decode prog_5_method_6_code 115 = .ok (.getfield 18, 3) := by decide +kernel
theorem d_Search_spread_118 : decode prog_5_method_6_code 118 = .ok (.iload_n 2, 1) := by decide +kernel
theorem d_Search_spread_119 : decode prog_5_method_6_code 119 = .ok (.iload_n 3, 1) := by decide +kernel
theorem d_Search_spread_120 : decode prog_5_method_6_code 120 = .ok (.iload 6, 2) := by decide +kernel
theorem d_Search_spread_122 : decode prog_5_method_6_code 122 = .ok (.invokestatic 111, 3) := by decide +kernel
theorem d_Search_spread_125 : decode prog_5_method_6_code 125 = .ok (.iload 8, 2) := by decide +kernel
theorem d_Search_spread_127 : decode prog_5_method_6_code 127 = .ok (.iastore, 1) := by decide +kernel
theorem d_Search_spread_128 : decode prog_5_method_6_code 128 = .ok (.aload_n 0, 1) := by decide +kernel
theorem d_Search_spread_129 : decode prog_5_method_6_code 129 = .ok (.getfield 9, 3) := by decide +kernel
theorem d_Search_spread_132 : decode prog_5_method_6_code 132 = .ok (.iload_n 2, 1) := by decide +kernel
theorem d_Search_spread_133 : decode prog_5_method_6_code 133 = .ok (.iconst 1, 1) := by decide +kernel
theorem d_Search_spread_134 : decode prog_5_method_6_code 134 = .ok (.iadd, 1) := by decide +kernel
theorem d_Search_spread_135 : decode prog_5_method_6_code 135 = .ok (.bipush 7, 2) := by decide +kernel
theorem d_Search_spread_137 : decode prog_5_method_6_code 137 = .ok (.imul, 1) := by decide +kernel
theorem d_Search_spread_138 : decode prog_5_method_6_code 138 = .ok (.iload 8, 2) := by decide +kernel
theorem d_Search_spread_140 : decode prog_5_method_6_code 140 = .ok (.iadd, 1) := by decide +kernel
theorem d_Search_spread_141 : decode prog_5_method_6_code 141 = .ok (.dup2, 1) := by decide +kernel
theorem d_Search_spread_142 : decode prog_5_method_6_code 142 = .ok (.laload, 1) := by decide +kernel
theorem d_Search_spread_143 : decode prog_5_method_6_code 143 = .ok (.lload 4, 2) := by decide +kernel
theorem d_Search_spread_145 : decode prog_5_method_6_code 145 = .ok (.aload_n 0, 1) := by decide +kernel
theorem d_Search_spread_146 : decode prog_5_method_6_code 146 = .ok (.getfield 22, 3) := by decide +kernel
theorem d_Search_spread_149 : decode prog_5_method_6_code 149 = .ok (.iload 8, 2) := by decide +kernel
theorem d_Search_spread_151 : decode prog_5_method_6_code 151 = .ok (.iaload, 1) := by decide +kernel
theorem d_Search_spread_152 : decode prog_5_method_6_code 152 = .ok (.invokestatic 115, 3) := by decide +kernel
theorem d_Search_spread_155 : decode prog_5_method_6_code 155 = .ok (.lor, 1) := by decide +kernel
theorem d_Search_spread_156 : decode prog_5_method_6_code 156 = .ok (.lastore, 1) := by decide +kernel
theorem d_Search_spread_157 : decode prog_5_method_6_code 157 = .ok (.iinc 6 1, 3) := by decide +kernel
theorem d_Search_spread_160 : decode prog_5_method_6_code 160 = .ok (.goto (-92), 3) := by decide +kernel
theorem d_Search_spread_163 : decode prog_5_method_6_code 163 = .ok (.iinc 3 1, 3) := by decide +kernel
theorem d_Search_spread_166 : decode prog_5_method_6_code 166 = .ok (.goto (-148), 3) := by decide +kernel
theorem d_Search_spread_169 : decode prog_5_method_6_code 169 = .ok (.return_, 1) := by decide +kernel
set_option maxHeartbeats 4000000 in
set_option maxRecDepth 20000 in
theorem c_Search_spread (p2 : Int) (hp2 : Rng p2) (s0 : MS) (Q : MS → Prop) (h : wp_Search_spread p2 s0 Q) : MT dscC ⟨"BellSchool$Search", "spread", "(LBellSchool$Noon;I)V"⟩ prog_5_method_6_code 9 none 4 (fun ad => [.ref (ad 25), .ref (ad 17), .int (iI p2)]) s0 (po_V dscC Q) := by
  refine met_of (by decide) (fun _ => Nat.le_of_ble_eq_true rfl) (fun X E hR => ?_)
  replace E : EV dscC X prog_5_method_6_code "BellSchool$Search" 9 4 := E
  show VV dscC X 0 [(0, .ref (adX X 25)), (1, .ref (adX X 17)), (2, .int (iI p2))] [] s0
  unfold wp_Search_spread at h
  refine v_aloadn E d_Search_spread_0 rfl 0 rfl ?_
  refine v_getA E cf3 dC_25 5 (by decide) rfl mw281 d_Search_spread_1 rfl ?_
  refine v_aloadn E d_Search_spread_4 rfl 0 rfl ?_
  refine v_getA E cf3 dC_25 4 (by decide) rfl mw272 d_Search_spread_5 rfl ?_
  refine v_getI E cf5 dC_60 1 (by decide) rfl mw300 d_Search_spread_8 rfl ?_
  refine v_iloadn E d_Search_spread_11 rfl 2 rfl ?_
  refine v_iadd E d_Search_spread_12 ?_
  obtain ⟨q1, h⟩ := h
  refine v_putI E cf5 dC_62 1 (by decide) rfl rfl mw300 d_Search_spread_13 rfl rfl rfl q1 ?_
  refine v_nameS (fun s1 hs1 => ?_)
  replace h := h s1 hs1
  refine v_iconst E d_Search_spread_16 ?_
  refine v_istoren E d_Search_spread_17 rfl (by decide) (L' := [(3, .int (iI 0)), (0, .ref (adX X 25)), (1, .ref (adX X 17)), (2, .int (iI p2))]) rfl ?_
  refine v_sub [1, 2, 3, 0] (L' := [(0, .ref (adX X 25)), (1, .ref (adX X 17)), (2, .int (iI p2)), (3, .int (iI 0))]) rfl ?_
  obtain ⟨I1, μ1, h01, h⟩ := h
  refine v_loop1 (fun (x1 : Int) => [(0, .ref (adX X 25)), (1, .ref (adX X 17)), (2, .int (iI p2)), (3, .int (iI x1))]) I1 μ1 (fun x1 s2 hI1 ih1 => ?_) 0 s1 h01
  replace h := h x1 s2 hI1
  refine v_iloadn E d_Search_spread_18 rfl 3 rfl ?_
  refine v_aloadn E d_Search_spread_19 rfl 0 rfl ?_
  refine v_getI E cf3 dC_25 6 (by decide) rfl mw270 d_Search_spread_20 rfl ?_
  obtain ⟨q2, h⟩ := h
  refine v_wt (fun wt1 => ?_)
  refine v_icmp_ge E 169 d_Search_spread_23 (by decide) q2 (wt1 25 6) (fun c1 => ?_) (fun c1 => ?_)
  · replace h := h.1 c1
    exact v_vret E hR h d_Search_spread_169
  · replace h := h.2 c1
    refine v_aloadn E d_Search_spread_26 rfl 0 rfl ?_
    refine v_getA E cf3 dC_25 0 (by decide) rfl mw284 d_Search_spread_27 rfl ?_
    refine v_iloadn E d_Search_spread_30 rfl 2 rfl ?_
    refine v_bipush E d_Search_spread_31 rfl ?_
    refine v_imul E d_Search_spread_33 ?_
    refine v_iloadn E d_Search_spread_34 rfl 3 rfl ?_
    refine v_iadd E d_Search_spread_35 ?_
    obtain ⟨q3, h⟩ := h
    refine v_lald E dC_26 (by decide) q3.1 q3.2 d_Search_spread_36 ?_
    refine v_nameL (fun y1 hy1 => ?_)
    replace h := h y1 hy1
    refine v_lstore E d_Search_spread_37 (by decide) (L' := [(4, .long y1), (0, .ref (adX X 25)), (1, .ref (adX X 17)), (2, .int (iI p2)), (3, .int (iI x1))]) rfl ?_
    refine v_lload E d_Search_spread_39 0 rfl ?_
    refine v_lconst E (0 : Int64) rfl d_Search_spread_41 ?_
    refine v_lcmp_ne E 49 d_Search_spread_42 d_Search_spread_43 (by decide) (fun c2 => ?_) (fun c2 => ?_)
    · replace h := h.1 c2
      refine v_aloadn E d_Search_spread_49 rfl 1 rfl ?_
      refine v_getA E cf3 dC_25 5 (by decide) rfl mw281 d_Search_spread_50 rfl ?_
      refine v_iloadn E d_Search_spread_53 rfl 4 rfl ?_
      refine v_putI E cf5 dC_62 2 (by decide) rfl rfl mw285 d_Search_spread_54 rfl rfl rfl q2 ?_
      refine v_nameS (fun s3 hs3 => ?_)
      replace h := h s3 hs3
      refine v_aloadn E d_Search_spread_57 rfl 2 rfl ?_
      refine v_aloadn E d_Search_spread_58 rfl 1 rfl ?_
      refine v_getA E cf3 dC_25 5 (by decide) rfl mw281 d_Search_spread_59 rfl ?_
      refine v_callVV E md_Noon_gather (c_Noon_gather 62 dC_62 s3 _ h) dC_17 rfl ⟨by decide, by decide⟩ mw301 d_Search_spread_62 (fun _ => rfl) (st := []) rfl (Nat.le_of_ble_eq_true rfl) (fun s4 h => ?_)
      refine v_iconst E d_Search_spread_65 ?_
      refine v_istore E d_Search_spread_66 (by decide) (L' := [(6, .int (iI 0)), (4, .long y1), (0, .ref (adX X 25)), (1, .ref (adX X 17)), (2, .int (iI p2)), (3, .int (iI x1))]) rfl ?_
      refine v_sub [2, 3, 4, 5, 1, 0] (L' := [(0, .ref (adX X 25)), (1, .ref (adX X 17)), (2, .int (iI p2)), (3, .int (iI x1)), (4, .long y1), (6, .int (iI 0))]) rfl ?_
      obtain ⟨I2, μ2, h02, h⟩ := h
      refine v_loop1 (fun (x2 : Int) => [(0, .ref (adX X 25)), (1, .ref (adX X 17)), (2, .int (iI p2)), (3, .int (iI x1)), (4, .long y1), (6, .int (iI x2))]) I2 μ2 (fun x2 s5 hI2 ih2 => ?_) 0 s4 h02
      replace h := h x2 s5 hI2
      refine v_iload E d_Search_spread_68 5 rfl ?_
      refine v_aloadn E d_Search_spread_70 rfl 0 rfl ?_
      refine v_getI E cf3 dC_25 6 (by decide) rfl mw270 d_Search_spread_71 rfl ?_
      obtain ⟨q4, h⟩ := h
      refine v_wt (fun wt2 => ?_)
      refine v_icmp_gt E 163 d_Search_spread_74 (by decide) q4 (wt2 25 6) (fun c3 => ?_) (fun c3 => ?_)
      · replace h := h.1 c3
        refine v_iincN E d_Search_spread_163 3 rfl (by decide) (fun y => [(3, .int (iI y)), (0, .ref (adX X 25)), (1, .ref (adX X 17)), (2, .int (iI p2)), (4, .long y1), (6, .int (iI x2))]) (fun _ => rfl) (fun x3 hx3 => ?_)
        replace h := h x3 hx3
        refine v_goto E 18 d_Search_spread_166 (by decide) ?_
        obtain ⟨hb, hm⟩ := h
        exact v_sub [1, 2, 3, 0] rfl (ih1 x3 s5 hb hm)
      · replace h := h.2 c3
        refine v_iload E d_Search_spread_77 5 rfl ?_
        refine v_if_ne E 89 d_Search_spread_79 (by decide) q4 (fun c4 => ?_) (fun c4 => ?_)
        · replace h := h.1 c4
          refine v_aloadn E d_Search_spread_89 rfl 1 rfl ?_
          refine v_iload E d_Search_spread_90 5 rfl ?_
          refine v_iconst E d_Search_spread_92 ?_
          refine v_isub E d_Search_spread_93 ?_
          obtain ⟨q5, h⟩ := h
          refine v_callVIp E md_Noon_latestHolding (c_Noon_latestHolding (x2 - 1) q5 s5 _ h) dC_17 rfl ⟨by decide, by decide⟩ mw302 d_Search_spread_94 (fun _ => rfl) (st := []) rfl (Nat.le_of_ble_eq_true rfl) (fun r2 hr2 h => ?_)
          refine v_istore E d_Search_spread_97 (by decide) (L' := [(7, .int (iI r2)), (0, .ref (adX X 25)), (1, .ref (adX X 17)), (2, .int (iI p2)), (3, .int (iI x1)), (4, .long y1), (6, .int (iI x2))]) rfl ?_
          refine v_iload E d_Search_spread_99 0 rfl ?_
          refine v_bipush E d_Search_spread_101 rfl ?_
          refine v_icmp_ne E 110 d_Search_spread_103 (by decide) hr2 (by decide) (fun c5 => ?_) (fun c5 => ?_)
          · replace h := h.1 c5
            refine v_iload E d_Search_spread_110 0 rfl ?_
            refine v_istore E d_Search_spread_112 (by decide) (L' := [(8, .int (iI r2)), (7, .int (iI r2)), (0, .ref (adX X 25)), (1, .ref (adX X 17)), (2, .int (iI p2)), (3, .int (iI x1)), (4, .long y1), (6, .int (iI x2))]) rfl ?_
            refine v_aloadn E d_Search_spread_114 rfl 2 rfl ?_
            refine v_getA E cf3 dC_25 2 (by decide) rfl mw303 d_Search_spread_115 rfl ?_
            refine v_iloadn E d_Search_spread_118 rfl 4 rfl ?_
            refine v_iloadn E d_Search_spread_119 rfl 5 rfl ?_
            refine v_iload E d_Search_spread_120 7 rfl ?_
            refine v_callSIp E md_Search_placeOf (c_Search_placeOf dscC p2 hp2 x1 q2 x2 q4 s5 _ h) ⟨by decide, by decide⟩ mw304 d_Search_spread_122 (fun _ => rfl) (st := [.ref (adX X 28)]) rfl (Nat.le_of_ble_eq_true rfl) (fun r3 hr3 h => ?_)
            refine v_iload E d_Search_spread_125 0 rfl ?_
            obtain ⟨q6, h⟩ := h
            refine v_iast E dC_28 (by decide) q6.1 q6.2 hr2 d_Search_spread_127 ?_
            refine v_nameS (fun s6 hs6 => ?_)
            replace h := h s6 hs6
            refine v_aloadn E d_Search_spread_128 rfl 2 rfl ?_
            refine v_getA E cf3 dC_25 0 (by decide) rfl mw284 d_Search_spread_129 rfl ?_
            refine v_iloadn E d_Search_spread_132 rfl 4 rfl ?_
            refine v_iconst E d_Search_spread_133 ?_
            refine v_iadd E d_Search_spread_134 ?_
            refine v_bipush E d_Search_spread_135 rfl ?_
            refine v_imul E d_Search_spread_137 ?_
            refine v_iload E d_Search_spread_138 0 rfl ?_
            refine v_iadd E d_Search_spread_140 ?_
            refine v_dup2 E d_Search_spread_141 rfl rfl ?_
            obtain ⟨q7, h⟩ := h
            refine v_lald E dC_26 (by decide) q7.1 q7.2 d_Search_spread_142 ?_
            refine v_lload E d_Search_spread_143 6 rfl ?_
            refine v_aloadn E d_Search_spread_145 rfl 2 rfl ?_
            refine v_getA E cf3 dC_25 3 (by decide) rfl mw271 d_Search_spread_146 rfl ?_
            refine v_iload E d_Search_spread_149 0 rfl ?_
            obtain ⟨q8, h⟩ := h
            refine v_iald E dC_29 (by decide) q8.1 q8.2 d_Search_spread_151 ?_
            refine v_wt (fun wt3 => ?_)
            refine v_callSLp E md_Search_joined (c_Search_joined y1 (gI s6 29 r2) (wt3 29 r2) s6 _ h) ⟨by decide, by decide⟩ mw305 d_Search_spread_152 (fun _ => rfl) (st := [.long (gL s6 26 (((p2 + 1) * 7) + r2)), .int (iI (((p2 + 1) * 7) + r2)), .ref (adX X 26)]) rfl (Nat.le_of_ble_eq_true rfl) (fun r4 h => ?_)
            refine v_lor E d_Search_spread_155 ?_
            refine v_last E dC_26 (by decide) q7.1 q7.2 d_Search_spread_156 ?_
            refine v_nameS (fun s7 hs7 => ?_)
            replace h := h s7 hs7
            refine v_iincN E d_Search_spread_157 7 rfl (by decide) (fun y => [(6, .int (iI y)), (8, .int (iI r2)), (7, .int (iI r2)), (0, .ref (adX X 25)), (1, .ref (adX X 17)), (2, .int (iI p2)), (3, .int (iI x1)), (4, .long y1)]) (fun _ => rfl) (fun x4 hx4 => ?_)
            replace h := h x4 hx4
            refine v_goto E 68 d_Search_spread_160 (by decide) ?_
            obtain ⟨hb, hm⟩ := h
            exact v_sub [3, 4, 5, 6, 7, 0] rfl (ih2 x4 s7 hb hm)
          · replace h := h.2 c5
            refine v_iloadn E d_Search_spread_106 rfl 4 rfl ?_
            refine v_goto E 112 d_Search_spread_107 (by decide) ?_
            refine v_istore E d_Search_spread_112 (by decide) (L' := [(8, .int (iI x1)), (7, .int (iI r2)), (0, .ref (adX X 25)), (1, .ref (adX X 17)), (2, .int (iI p2)), (3, .int (iI x1)), (4, .long y1), (6, .int (iI x2))]) rfl ?_
            refine v_aloadn E d_Search_spread_114 rfl 2 rfl ?_
            refine v_getA E cf3 dC_25 2 (by decide) rfl mw303 d_Search_spread_115 rfl ?_
            refine v_iloadn E d_Search_spread_118 rfl 4 rfl ?_
            refine v_iloadn E d_Search_spread_119 rfl 5 rfl ?_
            refine v_iload E d_Search_spread_120 7 rfl ?_
            refine v_callSIp E md_Search_placeOf (c_Search_placeOf dscC p2 hp2 x1 q2 x2 q4 s5 _ h) ⟨by decide, by decide⟩ mw304 d_Search_spread_122 (fun _ => rfl) (st := [.ref (adX X 28)]) rfl (Nat.le_of_ble_eq_true rfl) (fun r5 hr5 h => ?_)
            refine v_iload E d_Search_spread_125 0 rfl ?_
            obtain ⟨q9, h⟩ := h
            refine v_iast E dC_28 (by decide) q9.1 q9.2 q2 d_Search_spread_127 ?_
            refine v_nameS (fun s8 hs8 => ?_)
            replace h := h s8 hs8
            refine v_aloadn E d_Search_spread_128 rfl 2 rfl ?_
            refine v_getA E cf3 dC_25 0 (by decide) rfl mw284 d_Search_spread_129 rfl ?_
            refine v_iloadn E d_Search_spread_132 rfl 4 rfl ?_
            refine v_iconst E d_Search_spread_133 ?_
            refine v_iadd E d_Search_spread_134 ?_
            refine v_bipush E d_Search_spread_135 rfl ?_
            refine v_imul E d_Search_spread_137 ?_
            refine v_iload E d_Search_spread_138 0 rfl ?_
            refine v_iadd E d_Search_spread_140 ?_
            refine v_dup2 E d_Search_spread_141 rfl rfl ?_
            obtain ⟨q10, h⟩ := h
            refine v_lald E dC_26 (by decide) q10.1 q10.2 d_Search_spread_142 ?_
            refine v_lload E d_Search_spread_143 6 rfl ?_
            refine v_aloadn E d_Search_spread_145 rfl 2 rfl ?_
            refine v_getA E cf3 dC_25 3 (by decide) rfl mw271 d_Search_spread_146 rfl ?_
            refine v_iload E d_Search_spread_149 0 rfl ?_
            obtain ⟨q11, h⟩ := h
            refine v_iald E dC_29 (by decide) q11.1 q11.2 d_Search_spread_151 ?_
            refine v_wt (fun wt4 => ?_)
            refine v_callSLp E md_Search_joined (c_Search_joined y1 (gI s8 29 x1) (wt4 29 x1) s8 _ h) ⟨by decide, by decide⟩ mw305 d_Search_spread_152 (fun _ => rfl) (st := [.long (gL s8 26 (((p2 + 1) * 7) + x1)), .int (iI (((p2 + 1) * 7) + x1)), .ref (adX X 26)]) rfl (Nat.le_of_ble_eq_true rfl) (fun r6 h => ?_)
            refine v_lor E d_Search_spread_155 ?_
            refine v_last E dC_26 (by decide) q10.1 q10.2 d_Search_spread_156 ?_
            refine v_nameS (fun s9 hs9 => ?_)
            replace h := h s9 hs9
            refine v_iincN E d_Search_spread_157 7 rfl (by decide) (fun y => [(6, .int (iI y)), (8, .int (iI x1)), (7, .int (iI r2)), (0, .ref (adX X 25)), (1, .ref (adX X 17)), (2, .int (iI p2)), (3, .int (iI x1)), (4, .long y1)]) (fun _ => rfl) (fun x5 hx5 => ?_)
            replace h := h x5 hx5
            refine v_goto E 68 d_Search_spread_160 (by decide) ?_
            obtain ⟨hb, hm⟩ := h
            exact v_sub [3, 4, 5, 6, 7, 0] rfl (ih2 x5 s9 hb hm)
        · replace h := h.2 c4
          refine v_aloadn E d_Search_spread_82 rfl 1 rfl ?_
          refine v_getI E cf1 dC_17 4 (by decide) rfl mw306 d_Search_spread_83 rfl ?_
          refine v_goto E 97 d_Search_spread_86 (by decide) ?_
          refine v_istore E d_Search_spread_97 (by decide) (L' := [(7, .int (iI (gI s5 17 4))), (0, .ref (adX X 25)), (1, .ref (adX X 17)), (2, .int (iI p2)), (3, .int (iI x1)), (4, .long y1), (6, .int (iI x2))]) rfl ?_
          refine v_iload E d_Search_spread_99 0 rfl ?_
          refine v_bipush E d_Search_spread_101 rfl ?_
          refine v_icmp_ne E 110 d_Search_spread_103 (by decide) (wt2 17 4) (by decide) (fun c6 => ?_) (fun c6 => ?_)
          · replace h := h.1 c6
            refine v_iload E d_Search_spread_110 0 rfl ?_
            refine v_istore E d_Search_spread_112 (by decide) (L' := [(8, .int (iI (gI s5 17 4))), (7, .int (iI (gI s5 17 4))), (0, .ref (adX X 25)), (1, .ref (adX X 17)), (2, .int (iI p2)), (3, .int (iI x1)), (4, .long y1), (6, .int (iI x2))]) rfl ?_
            refine v_aloadn E d_Search_spread_114 rfl 2 rfl ?_
            refine v_getA E cf3 dC_25 2 (by decide) rfl mw303 d_Search_spread_115 rfl ?_
            refine v_iloadn E d_Search_spread_118 rfl 4 rfl ?_
            refine v_iloadn E d_Search_spread_119 rfl 5 rfl ?_
            refine v_iload E d_Search_spread_120 7 rfl ?_
            refine v_callSIp E md_Search_placeOf (c_Search_placeOf dscC p2 hp2 x1 q2 x2 q4 s5 _ h) ⟨by decide, by decide⟩ mw304 d_Search_spread_122 (fun _ => rfl) (st := [.ref (adX X 28)]) rfl (Nat.le_of_ble_eq_true rfl) (fun r7 hr7 h => ?_)
            refine v_iload E d_Search_spread_125 0 rfl ?_
            obtain ⟨q12, h⟩ := h
            refine v_iast E dC_28 (by decide) q12.1 q12.2 (wt2 17 4) d_Search_spread_127 ?_
            refine v_nameS (fun s10 hs10 => ?_)
            replace h := h s10 hs10
            refine v_aloadn E d_Search_spread_128 rfl 2 rfl ?_
            refine v_getA E cf3 dC_25 0 (by decide) rfl mw284 d_Search_spread_129 rfl ?_
            refine v_iloadn E d_Search_spread_132 rfl 4 rfl ?_
            refine v_iconst E d_Search_spread_133 ?_
            refine v_iadd E d_Search_spread_134 ?_
            refine v_bipush E d_Search_spread_135 rfl ?_
            refine v_imul E d_Search_spread_137 ?_
            refine v_iload E d_Search_spread_138 0 rfl ?_
            refine v_iadd E d_Search_spread_140 ?_
            refine v_dup2 E d_Search_spread_141 rfl rfl ?_
            obtain ⟨q13, h⟩ := h
            refine v_lald E dC_26 (by decide) q13.1 q13.2 d_Search_spread_142 ?_
            refine v_lload E d_Search_spread_143 6 rfl ?_
            refine v_aloadn E d_Search_spread_145 rfl 2 rfl ?_
            refine v_getA E cf3 dC_25 3 (by decide) rfl mw271 d_Search_spread_146 rfl ?_
            refine v_iload E d_Search_spread_149 0 rfl ?_
            obtain ⟨q14, h⟩ := h
            refine v_iald E dC_29 (by decide) q14.1 q14.2 d_Search_spread_151 ?_
            refine v_wt (fun wt5 => ?_)
            refine v_callSLp E md_Search_joined (c_Search_joined y1 (gI s10 29 (gI s5 17 4)) (wt5 29 (gI s5 17 4)) s10 _ h) ⟨by decide, by decide⟩ mw305 d_Search_spread_152 (fun _ => rfl) (st := [.long (gL s10 26 (((p2 + 1) * 7) + (gI s5 17 4))), .int (iI (((p2 + 1) * 7) + (gI s5 17 4))), .ref (adX X 26)]) rfl (Nat.le_of_ble_eq_true rfl) (fun r8 h => ?_)
            refine v_lor E d_Search_spread_155 ?_
            refine v_last E dC_26 (by decide) q13.1 q13.2 d_Search_spread_156 ?_
            refine v_nameS (fun s11 hs11 => ?_)
            replace h := h s11 hs11
            refine v_iincN E d_Search_spread_157 7 rfl (by decide) (fun y => [(6, .int (iI y)), (8, .int (iI (gI s5 17 4))), (7, .int (iI (gI s5 17 4))), (0, .ref (adX X 25)), (1, .ref (adX X 17)), (2, .int (iI p2)), (3, .int (iI x1)), (4, .long y1)]) (fun _ => rfl) (fun x6 hx6 => ?_)
            replace h := h x6 hx6
            refine v_goto E 68 d_Search_spread_160 (by decide) ?_
            obtain ⟨hb, hm⟩ := h
            exact v_sub [3, 4, 5, 6, 7, 0] rfl (ih2 x6 s11 hb hm)
          · replace h := h.2 c6
            refine v_iloadn E d_Search_spread_106 rfl 4 rfl ?_
            refine v_goto E 112 d_Search_spread_107 (by decide) ?_
            refine v_istore E d_Search_spread_112 (by decide) (L' := [(8, .int (iI x1)), (7, .int (iI (gI s5 17 4))), (0, .ref (adX X 25)), (1, .ref (adX X 17)), (2, .int (iI p2)), (3, .int (iI x1)), (4, .long y1), (6, .int (iI x2))]) rfl ?_
            refine v_aloadn E d_Search_spread_114 rfl 2 rfl ?_
            refine v_getA E cf3 dC_25 2 (by decide) rfl mw303 d_Search_spread_115 rfl ?_
            refine v_iloadn E d_Search_spread_118 rfl 4 rfl ?_
            refine v_iloadn E d_Search_spread_119 rfl 5 rfl ?_
            refine v_iload E d_Search_spread_120 7 rfl ?_
            refine v_callSIp E md_Search_placeOf (c_Search_placeOf dscC p2 hp2 x1 q2 x2 q4 s5 _ h) ⟨by decide, by decide⟩ mw304 d_Search_spread_122 (fun _ => rfl) (st := [.ref (adX X 28)]) rfl (Nat.le_of_ble_eq_true rfl) (fun r9 hr9 h => ?_)
            refine v_iload E d_Search_spread_125 0 rfl ?_
            obtain ⟨q15, h⟩ := h
            refine v_iast E dC_28 (by decide) q15.1 q15.2 q2 d_Search_spread_127 ?_
            refine v_nameS (fun s12 hs12 => ?_)
            replace h := h s12 hs12
            refine v_aloadn E d_Search_spread_128 rfl 2 rfl ?_
            refine v_getA E cf3 dC_25 0 (by decide) rfl mw284 d_Search_spread_129 rfl ?_
            refine v_iloadn E d_Search_spread_132 rfl 4 rfl ?_
            refine v_iconst E d_Search_spread_133 ?_
            refine v_iadd E d_Search_spread_134 ?_
            refine v_bipush E d_Search_spread_135 rfl ?_
            refine v_imul E d_Search_spread_137 ?_
            refine v_iload E d_Search_spread_138 0 rfl ?_
            refine v_iadd E d_Search_spread_140 ?_
            refine v_dup2 E d_Search_spread_141 rfl rfl ?_
            obtain ⟨q16, h⟩ := h
            refine v_lald E dC_26 (by decide) q16.1 q16.2 d_Search_spread_142 ?_
            refine v_lload E d_Search_spread_143 6 rfl ?_
            refine v_aloadn E d_Search_spread_145 rfl 2 rfl ?_
            refine v_getA E cf3 dC_25 3 (by decide) rfl mw271 d_Search_spread_146 rfl ?_
            refine v_iload E d_Search_spread_149 0 rfl ?_
            obtain ⟨q17, h⟩ := h
            refine v_iald E dC_29 (by decide) q17.1 q17.2 d_Search_spread_151 ?_
            refine v_wt (fun wt6 => ?_)
            refine v_callSLp E md_Search_joined (c_Search_joined y1 (gI s12 29 x1) (wt6 29 x1) s12 _ h) ⟨by decide, by decide⟩ mw305 d_Search_spread_152 (fun _ => rfl) (st := [.long (gL s12 26 (((p2 + 1) * 7) + x1)), .int (iI (((p2 + 1) * 7) + x1)), .ref (adX X 26)]) rfl (Nat.le_of_ble_eq_true rfl) (fun r10 h => ?_)
            refine v_lor E d_Search_spread_155 ?_
            refine v_last E dC_26 (by decide) q16.1 q16.2 d_Search_spread_156 ?_
            refine v_nameS (fun s13 hs13 => ?_)
            replace h := h s13 hs13
            refine v_iincN E d_Search_spread_157 7 rfl (by decide) (fun y => [(6, .int (iI y)), (8, .int (iI x1)), (7, .int (iI (gI s5 17 4))), (0, .ref (adX X 25)), (1, .ref (adX X 17)), (2, .int (iI p2)), (3, .int (iI x1)), (4, .long y1)]) (fun _ => rfl) (fun x7 hx7 => ?_)
            replace h := h x7 hx7
            refine v_goto E 68 d_Search_spread_160 (by decide) ?_
            obtain ⟨hb, hm⟩ := h
            exact v_sub [3, 4, 5, 6, 7, 0] rfl (ih2 x7 s13 hb hm)
    · replace h := h.2 c2
      refine v_goto E 163 d_Search_spread_46 (by decide) ?_
      refine v_iincN E d_Search_spread_163 4 rfl (by decide) (fun y => [(3, .int (iI y)), (4, .long y1), (0, .ref (adX X 25)), (1, .ref (adX X 17)), (2, .int (iI p2))]) (fun _ => rfl) (fun x8 hx8 => ?_)
      replace h := h x8 hx8
      refine v_goto E 18 d_Search_spread_166 (by decide) ?_
      obtain ⟨hb, hm⟩ := h
      exact v_sub [2, 3, 4, 0] rfl (ih1 x8 s2 hb hm)
theorem d_Search_before_0 : decode prog_5_method_9_code 0 = .ok (.iload_n 2, 1) := by decide +kernel
theorem d_Search_before_1 : decode prog_5_method_9_code 1 = .ok (.ifCond .lt 11, 3) := by decide +kernel
theorem d_Search_before_4 : decode prog_5_method_9_code 4 = .ok (.iload_n 2, 1) := by decide +kernel
theorem d_Search_before_5 : decode prog_5_method_9_code 5 = .ok (.getstatic 95, 3) := by decide +kernel
theorem d_Search_before_8 : decode prog_5_method_9_code 8 = .ok (.arraylength, 1) := by decide +kernel
theorem d_Search_before_9 : decode prog_5_method_9_code 9 = .ok (.if_icmp .lt 5, 3) := by decide +kernel
theorem d_Search_before_12 : decode prog_5_method_9_code 12 = .ok (.lload_n 0, 1) := by decide +kernel
theorem d_Search_before_13 : decode prog_5_method_9_code 13 = .ok (.lreturn, 1) := by decide +kernel
theorem d_Search_before_14 : decode prog_5_method_9_code 14 = .ok (.lload_n 0, 1) := by decide +kernel
theorem d_Search_before_15 : decode prog_5_method_9_code 15 = .ok (.getstatic 95, 3) := by decide +kernel
theorem d_Search_before_18 : decode prog_5_method_9_code 18 = .ok (.iload_n 2, 1) := by decide +kernel
theorem d_Search_before_19 : decode prog_5_method_9_code 19 = .ok (.laload, 1) := by decide +kernel
theorem d_Search_before_20 : decode prog_5_method_9_code 20 = .ok (.land, 1) := by decide +kernel
theorem d_Search_before_21 : decode prog_5_method_9_code 21 = .ok (.lstore_n 3, 1) := by decide +kernel
theorem d_Search_before_22 : decode prog_5_method_9_code 22 = .ok (.lload_n 3, 1) := by decide +kernel
theorem d_Search_before_23 : decode prog_5_method_9_code 23 = .ok (.lload_n 3, 1) := by decide +kernel
theorem d_Search_before_24 : decode prog_5_method_9_code 24 = .ok (.iconst 1, 1) := by decide +kernel
theorem d_Search_before_25 : decode prog_5_method_9_code 25 = .ok (.iload_n 2, 1) := by decide +kernel
theorem d_Search_before_26 : decode prog_5_method_9_code 26 = .ok (.ishl, 1) := by decide +kernel
theorem d_Search_before_27 : decode prog_5_method_9_code 27 = .ok (.lushr, 1) := by decide +kernel
theorem d_Search_before_28 : decode prog_5_method_9_code 28 = .ok (.lor, 1) := by decide +kernel
theorem d_Search_before_29 : decode prog_5_method_9_code 29 = .ok (.lreturn, 1) := by decide +kernel
set_option maxHeartbeats 4000000 in
set_option maxRecDepth 20000 in
theorem c_Search_before (p1 : Int64) (p2 : Int) (hp2 : Rng p2) (s0 : MS) (Q : Int64 → Prop) (h : wp_Search_before p1 p2 s0 Q) : MT dscC ⟨"BellSchool$Search", "before", "(JI)J"⟩ prog_5_method_9_code 5 (some .long) 0 (fun ad => [.long p1, .int (iI p2)]) s0 (po_L dscC (fun r z => z = s0 ∧ Q r)) := by
  refine met_of (by decide) (fun _ => Nat.le_of_ble_eq_true rfl) (fun X E hR => ?_)
  replace E : EV dscC X prog_5_method_9_code "BellSchool$Search" 5 0 := E
  show VV dscC X 0 [(0, .long p1), (2, .int (iI p2))] [] s0
  unfold wp_Search_before at h
  refine v_iloadn E d_Search_before_0 rfl 1 rfl ?_
  refine v_if_lt E 12 d_Search_before_1 (by decide) hp2 (fun c1 => ?_) (fun c1 => ?_)
  · replace h := h.1 c1
    refine v_lloadn E d_Search_before_12 rfl 0 rfl ?_
    exact v_lret E hR ⟨rfl, h⟩ d_Search_before_13
  · replace h := h.2 c1
    refine v_iloadn E d_Search_before_4 rfl 1 rfl ?_
    refine v_getH E mw274 d_Search_before_5 (fun t1 ht1 => ?_)
    refine v_lenH E ht1 d_Search_before_8 ?_
    refine v_icmp_lt E 14 d_Search_before_9 (by decide) hp2 (by decide) (fun c2 => ?_) (fun c2 => ?_)
    · replace h := h.1 c2
      refine v_lloadn E d_Search_before_14 rfl 0 rfl ?_
      refine v_getH E mw274 d_Search_before_15 (fun t2 ht2 => ?_)
      refine v_iloadn E d_Search_before_18 rfl 1 rfl ?_
      obtain ⟨q1, h⟩ := h
      refine v_laldH E ht2 q1.1 q1.2 d_Search_before_19 ?_
      refine v_land E d_Search_before_20 ?_
      refine v_nameL (fun y1 hy1 => ?_)
      replace h := h y1 hy1
      refine v_lstoren E d_Search_before_21 rfl (by decide) (L' := [(3, .long y1), (0, .long p1), (2, .int (iI p2))]) rfl ?_
      refine v_lloadn E d_Search_before_22 rfl 0 rfl ?_
      refine v_lloadn E d_Search_before_23 rfl 0 rfl ?_
      refine v_iconst E d_Search_before_24 ?_
      refine v_iloadn E d_Search_before_25 rfl 2 rfl ?_
      refine v_ishl E d_Search_before_26 ?_
      refine v_lushr E d_Search_before_27 ?_
      refine v_lor E d_Search_before_28 ?_
      exact v_lret E hR ⟨rfl, h⟩ d_Search_before_29
    · replace h := h.2 c2
      refine v_lloadn E d_Search_before_12 rfl 0 rfl ?_
      exact v_lret E hR ⟨rfl, h⟩ d_Search_before_13
theorem d_Search_hopesFrom_0 : decode prog_5_method_11_code 0 = .ok (.lconst 0, 1) := by decide +kernel
theorem d_Search_hopesFrom_1 : decode prog_5_method_11_code 1 = .ok (.lstore_n 3, 1) := by decide +kernel
theorem d_Search_hopesFrom_2 : decode prog_5_method_11_code 2 = .ok (.aload_n 0, 1) := by decide +kernel
theorem d_Search_hopesFrom_3 : decode prog_5_method_11_code 3 = .ok (.getfield 9, 3) := by decide +kernel
theorem d_Search_hopesFrom_6 : decode prog_5_method_11_code 6 = .ok (.iload_n 1, 1) := by decide +kernel
theorem d_Search_hopesFrom_7 : decode prog_5_method_11_code 7 = .ok (.bipush 7, 2) := by decide +kernel
theorem d_Search_hopesFrom_9 : decode prog_5_method_11_code 9 = .ok (.imul, 1) := by decide +kernel
theorem d_Search_hopesFrom_10 : decode prog_5_method_11_code 10 = .ok (.iload_n 2, 1) := by decide +kernel
theorem d_Search_hopesFrom_11 : decode prog_5_method_11_code 11 = .ok (.iadd, 1) := by decide +kernel
theorem d_Search_hopesFrom_12 : decode prog_5_method_11_code 12 = .ok (.laload, 1) := by decide +kernel
theorem d_Search_hopesFrom_13 : decode prog_5_method_11_code 13 = .ok (.lconst 0, 1) := by decide +kernel
theorem d_Search_hopesFrom_14 : decode prog_5_method_11_code 14 = .ok (.lcmp, 1) := by decide +kernel
theorem d_Search_hopesFrom_15 : decode prog_5_method_11_code 15 = .ok (.ifCond .ne 5, 3) := by decide +kernel
theorem d_Search_hopesFrom_18 : decode prog_5_method_11_code 18 = .ok (.lload_n 3, 1) := by decide +kernel
theorem d_Search_hopesFrom_19 : decode prog_5_method_11_code 19 = .ok (.lreturn, 1) := by decide +kernel
theorem d_Search_hopesFrom_20 : decode prog_5_method_11_code 20 = .ok (.iconst 0, 1) := by decide +kernel
theorem d_Search_hopesFrom_21 : decode prog_5_method_11_code 21 = .ok (.istore 5, 2) := by decide +kernel
theorem d_Search_hopesFrom_23 : decode prog_5_method_11_code 23 = .ok (.iload 5, 2) := by decide +kernel
theorem d_Search_hopesFrom_25 : decode prog_5_method_11_code 25 = .ok (.aload_n 0, 1) := by decide +kernel
theorem d_Search_hopesFrom_26 : decode prog_5_method_11_code 26 = .ok (.getfield 35, 3) := by decide +kernel
theorem d_Search_hopesFrom_29 : decode prog_5_method_11_code 29 = .ok (.if_icmp .gt 50, 3) := by decide +kernel
theorem d_Search_hopesFrom_32 : decode prog_5_method_11_code 32 = .ok (.aload_n 0, 1) := by decide +kernel
theorem d_Search_hopesFrom_33 : decode prog_5_method_11_code 33 = .ok (.getfield 18, 3) := by decide +kernel
theorem d_Search_hopesFrom_36 : decode prog_5_method_11_code 36 = .ok (.iload_n 1, 1) := by decide +kernel
theorem d_Search_hopesFrom_37 : decode prog_5_method_11_code 37 = .ok (.iload_n 2, 1) := by decide +kernel
theorem d_Search_hopesFrom_38 : decode prog_5_method_11_code 38 = .ok (.iload 5, 2) := by decide +kernel
theorem d_Search_hopesFrom_40 : decode prog_5_method_11_code 40 = .ok (.invokestatic 111, 3) := by decide +kernel
theorem d_Search_hopesFrom_43 : decode prog_5_method_11_code 43 = .ok (.iaload, 1) := by decide +kernel
theorem d_Search_hopesFrom_44 : decode prog_5_method_11_code 44 = .ok (.istore 6, 2) := by decide +kernel
theorem d_Search_hopesFrom_46 : decode prog_5_method_11_code 46 = .ok (.lload_n 3, 1) := by decide +kernel
theorem d_Search_hopesFrom_47 : decode prog_5_method_11_code 47 = .ok (.aload_n 0, 1) := by decide +kernel
theorem d_Search_hopesFrom_48 : decode prog_5_method_11_code 48 = .ok (.getfield 15, 3) := by decide +kernel
theorem d_Search_hopesFrom_51 : decode prog_5_method_11_code 51 = .ok (.iload_n 1, 1) := by decide +kernel
theorem d_Search_hopesFrom_52 : decode prog_5_method_11_code 52 = .ok (.iconst 1, 1) := by decide +kernel
theorem d_Search_hopesFrom_53 : decode prog_5_method_11_code 53 = .ok (.iadd, 1) := by decide +kernel
theorem d_Search_hopesFrom_54 : decode prog_5_method_11_code 54 = .ok (.bipush 7, 2) := by decide +kernel
theorem d_Search_hopesFrom_56 : decode prog_5_method_11_code 56 = .ok (.imul, 1) := by decide +kernel
theorem d_Search_hopesFrom_57 : decode prog_5_method_11_code 57 = .ok (.iload 6, 2) := by decide +kernel
theorem d_Search_hopesFrom_59 : decode prog_5_method_11_code 59 = .ok (.iadd, 1) := by decide +kernel
theorem d_Search_hopesFrom_60 : decode prog_5_method_11_code 60 = .ok (.laload, 1) := by decide +kernel
theorem d_Search_hopesFrom_61 : decode prog_5_method_11_code 61 = .ok (.aload_n 0, 1) := by decide +kernel
theorem d_Search_hopesFrom_62 : decode prog_5_method_11_code 62 = .ok (.getfield 22, 3) := by decide +kernel
theorem d_Search_hopesFrom_65 : decode prog_5_method_11_code 65 = .ok (.iload 6, 2) := by decide +kernel
theorem d_Search_hopesFrom_67 : decode prog_5_method_11_code 67 = .ok (.iaload, 1) := by decide +kernel
theorem d_Search_hopesFrom_68 : decode prog_5_method_11_code 68 = .ok (.invokestatic 125, 3) := by decide +kernel
theorem d_Search_hopesFrom_71 : decode prog_5_method_11_code 71 = .ok (.lor, 1) := by decide +kernel
theorem d_Search_hopesFrom_72 : decode prog_5_method_11_code 72 = .ok (.lstore_n 3, 1) := by decide +kernel
theorem d_Search_hopesFrom_73 : decode prog_5_method_11_code 73 = .ok (.iinc 5 1, 3) := by decide +kernel
theorem d_Search_hopesFrom_76 : decode prog_5_method_11_code 76 = .ok (.goto (-53), 3) := by decide +kernel
theorem d_Search_hopesFrom_79 : decode prog_5_method_11_code 79 = .ok (.lload_n 3, 1) := by decide +kernel
theorem d_Search_hopesFrom_80 : decode prog_5_method_11_code 80 = .ok (.lreturn, 1) := by decide +kernel
set_option maxHeartbeats 4000000 in
set_option maxRecDepth 20000 in
theorem c_Search_hopesFrom (p1 : Int) (hp1 : Rng p1) (p2 : Int) (hp2 : Rng p2) (s0 : MS) (Q : Int64 → Prop) (h : wp_Search_hopesFrom p1 p2 s0 Q) : MT dscC ⟨"BellSchool$Search", "hopesFrom", "(II)J"⟩ prog_5_method_11_code 7 (some .long) 1 (fun ad => [.ref (ad 25), .int (iI p1), .int (iI p2)]) s0 (po_L dscC (fun r z => z = s0 ∧ Q r)) := by
  refine met_of (by decide) (fun _ => Nat.le_of_ble_eq_true rfl) (fun X E hR => ?_)
  replace E : EV dscC X prog_5_method_11_code "BellSchool$Search" 7 1 := E
  show VV dscC X 0 [(0, .ref (adX X 25)), (1, .int (iI p1)), (2, .int (iI p2))] [] s0
  unfold wp_Search_hopesFrom at h
  refine v_lconst E (0 : Int64) rfl d_Search_hopesFrom_0 ?_
  refine v_lstoren E d_Search_hopesFrom_1 rfl (by decide) (L' := [(3, .long (0 : Int64)), (0, .ref (adX X 25)), (1, .int (iI p1)), (2, .int (iI p2))]) rfl ?_
  refine v_aloadn E d_Search_hopesFrom_2 rfl 1 rfl ?_
  refine v_getA E cf3 dC_25 0 (by decide) rfl mw284 d_Search_hopesFrom_3 rfl ?_
  refine v_iloadn E d_Search_hopesFrom_6 rfl 2 rfl ?_
  refine v_bipush E d_Search_hopesFrom_7 rfl ?_
  refine v_imul E d_Search_hopesFrom_9 ?_
  refine v_iloadn E d_Search_hopesFrom_10 rfl 3 rfl ?_
  refine v_iadd E d_Search_hopesFrom_11 ?_
  obtain ⟨q1, h⟩ := h
  refine v_lald E dC_26 (by decide) q1.1 q1.2 d_Search_hopesFrom_12 ?_
  refine v_lconst E (0 : Int64) rfl d_Search_hopesFrom_13 ?_
  refine v_lcmp_ne E 20 d_Search_hopesFrom_14 d_Search_hopesFrom_15 (by decide) (fun c1 => ?_) (fun c1 => ?_)
  · replace h := h.1 c1
    refine v_iconst E d_Search_hopesFrom_20 ?_
    refine v_istore E d_Search_hopesFrom_21 (by decide) (L' := [(5, .int (iI 0)), (3, .long (0 : Int64)), (0, .ref (adX X 25)), (1, .int (iI p1)), (2, .int (iI p2))]) rfl ?_
    refine v_sub [2, 3, 4, 1, 0] (L' := [(0, .ref (adX X 25)), (1, .int (iI p1)), (2, .int (iI p2)), (3, .long (0 : Int64)), (5, .int (iI 0))]) rfl ?_
    obtain ⟨I1, μ1, h01, h⟩ := h
    refine v_ploop2 s0 (fun (y1 : Int64) (x1 : Int) => [(0, .ref (adX X 25)), (1, .int (iI p1)), (2, .int (iI p2)), (3, .long y1), (5, .int (iI x1))]) I1 μ1 (fun y1 x1 hI1 ih1 => ?_) (0 : Int64) 0 h01
    replace h := h y1 x1  hI1
    refine v_iload E d_Search_hopesFrom_23 4 rfl ?_
    refine v_aloadn E d_Search_hopesFrom_25 rfl 0 rfl ?_
    refine v_getI E cf3 dC_25 6 (by decide) rfl mw270 d_Search_hopesFrom_26 rfl ?_
    obtain ⟨q2, h⟩ := h
    refine v_wt (fun wt1 => ?_)
    refine v_icmp_gt E 79 d_Search_hopesFrom_29 (by decide) q2 (wt1 25 6) (fun c2 => ?_) (fun c2 => ?_)
    · replace h := h.1 c2
      refine v_lloadn E d_Search_hopesFrom_79 rfl 3 rfl ?_
      exact v_lret E hR ⟨rfl, h⟩ d_Search_hopesFrom_80
    · replace h := h.2 c2
      refine v_aloadn E d_Search_hopesFrom_32 rfl 0 rfl ?_
      refine v_getA E cf3 dC_25 2 (by decide) rfl mw303 d_Search_hopesFrom_33 rfl ?_
      refine v_iloadn E d_Search_hopesFrom_36 rfl 1 rfl ?_
      refine v_iloadn E d_Search_hopesFrom_37 rfl 2 rfl ?_
      refine v_iload E d_Search_hopesFrom_38 4 rfl ?_
      refine v_callSIp E md_Search_placeOf (c_Search_placeOf dscC p1 hp1 p2 hp2 x1 q2 s0 _ h) ⟨by decide, by decide⟩ mw304 d_Search_hopesFrom_40 (fun _ => rfl) (st := [.ref (adX X 28)]) rfl (Nat.le_of_ble_eq_true rfl) (fun r1 hr1 h => ?_)
      obtain ⟨q3, h⟩ := h
      refine v_iald E dC_28 (by decide) q3.1 q3.2 d_Search_hopesFrom_43 ?_
      refine v_istore E d_Search_hopesFrom_44 (by decide) (L' := [(6, .int (iI (gI s0 28 r1))), (0, .ref (adX X 25)), (1, .int (iI p1)), (2, .int (iI p2)), (3, .long y1), (5, .int (iI x1))]) rfl ?_
      refine v_lloadn E d_Search_hopesFrom_46 rfl 4 rfl ?_
      refine v_aloadn E d_Search_hopesFrom_47 rfl 1 rfl ?_
      refine v_getA E cf3 dC_25 1 (by decide) rfl mw312 d_Search_hopesFrom_48 rfl ?_
      refine v_iloadn E d_Search_hopesFrom_51 rfl 2 rfl ?_
      refine v_iconst E d_Search_hopesFrom_52 ?_
      refine v_iadd E d_Search_hopesFrom_53 ?_
      refine v_bipush E d_Search_hopesFrom_54 rfl ?_
      refine v_imul E d_Search_hopesFrom_56 ?_
      refine v_iload E d_Search_hopesFrom_57 0 rfl ?_
      refine v_iadd E d_Search_hopesFrom_59 ?_
      obtain ⟨q4, h⟩ := h
      refine v_lald E dC_27 (by decide) q4.1 q4.2 d_Search_hopesFrom_60 ?_
      refine v_aloadn E d_Search_hopesFrom_61 rfl 1 rfl ?_
      refine v_getA E cf3 dC_25 3 (by decide) rfl mw271 d_Search_hopesFrom_62 rfl ?_
      refine v_iload E d_Search_hopesFrom_65 0 rfl ?_
      obtain ⟨q5, h⟩ := h
      refine v_iald E dC_29 (by decide) q5.1 q5.2 d_Search_hopesFrom_67 ?_
      refine v_callSLp E md_Search_before (c_Search_before (gL s0 27 (((p1 + 1) * 7) + (gI s0 28 r1))) (gI s0 29 (gI s0 28 r1)) (wt1 29 (gI s0 28 r1)) s0 _ h) ⟨by decide, by decide⟩ mw313 d_Search_hopesFrom_68 (fun _ => rfl) (st := [.long y1]) rfl (Nat.le_of_ble_eq_true rfl) (fun r2 h => ?_)
      refine v_lor E d_Search_hopesFrom_71 ?_
      refine v_nameL (fun y2 hy2 => ?_)
      replace h := h y2 hy2
      refine v_lstoren E d_Search_hopesFrom_72 rfl (by decide) (L' := [(3, .long y2), (6, .int (iI (gI s0 28 r1))), (0, .ref (adX X 25)), (1, .int (iI p1)), (2, .int (iI p2)), (5, .int (iI x1))]) rfl ?_
      refine v_iincN E d_Search_hopesFrom_73 5 rfl (by decide) (fun y => [(5, .int (iI y)), (3, .long y2), (6, .int (iI (gI s0 28 r1))), (0, .ref (adX X 25)), (1, .int (iI p1)), (2, .int (iI p2))]) (fun _ => rfl) (fun x2 hx2 => ?_)
      replace h := h x2 hx2
      refine v_goto E 23 d_Search_hopesFrom_76 (by decide) ?_
      obtain ⟨hb, hm⟩ := h
      exact v_sub [3, 4, 5, 1, 0] rfl (ih1 y2 x2 hb hm)
  · replace h := h.2 c1
    refine v_lloadn E d_Search_hopesFrom_18 rfl 0 rfl ?_
    exact v_lret E hR ⟨rfl, h⟩ d_Search_hopesFrom_19
theorem d_Search_findHopeful_0 : decode prog_5_method_10_code 0 = .ok (.iconst 0, 1) := by decide +kernel
theorem d_Search_findHopeful_1 : decode prog_5_method_10_code 1 = .ok (.istore_n 1, 1) := by decide +kernel
theorem d_Search_findHopeful_2 : decode prog_5_method_10_code 2 = .ok (.iload_n 1, 1) := by decide +kernel
theorem d_Search_findHopeful_3 : decode prog_5_method_10_code 3 = .ok (.aload_n 0, 1) := by decide +kernel
theorem d_Search_findHopeful_4 : decode prog_5_method_10_code 4 = .ok (.getfield 35, 3) := by decide +kernel
theorem d_Search_findHopeful_7 : decode prog_5_method_10_code 7 = .ok (.if_icmp .ge 29, 3) := by decide +kernel
theorem d_Search_findHopeful_10 : decode prog_5_method_10_code 10 = .ok (.aload_n 0, 1) := by decide +kernel
theorem d_Search_findHopeful_11 : decode prog_5_method_10_code 11 = .ok (.getfield 15, 3) := by decide +kernel
theorem d_Search_findHopeful_14 : decode prog_5_method_10_code 14 = .ok (.aload_n 0, 1) := by decide +kernel
theorem d_Search_findHopeful_15 : decode prog_5_method_10_code 15 = .ok (.getfield 45, 3) := by decide +kernel
theorem d_Search_findHopeful_18 : decode prog_5_method_10_code 18 = .ok (.bipush 7, 2) := by decide +kernel
theorem d_Search_findHopeful_20 : decode prog_5_method_10_code 20 = .ok (.imul, 1) := by decide +kernel
theorem d_Search_findHopeful_21 : decode prog_5_method_10_code 21 = .ok (.iload_n 1, 1) := by decide +kernel
theorem d_Search_findHopeful_22 : decode prog_5_method_10_code 22 = .ok (.iadd, 1) := by decide +kernel
theorem d_Search_findHopeful_23 : decode prog_5_method_10_code 23 = .ok (.lconst 1, 1) := by decide +kernel
theorem d_Search_findHopeful_24 : decode prog_5_method_10_code 24 = .ok (.aload_n 0, 1) := by decide +kernel
theorem d_Search_findHopeful_25 : decode prog_5_method_10_code 25 = .ok (.getfield 39, 3) := by decide +kernel
theorem d_Search_findHopeful_28 : decode prog_5_method_10_code 28 = .ok (.lshl, 1) := by decide +kernel
theorem d_Search_findHopeful_29 : decode prog_5_method_10_code 29 = .ok (.lastore, 1) := by decide +kernel
theorem d_Search_findHopeful_30 : decode prog_5_method_10_code 30 = .ok (.iinc 1 1, 3) := by decide +kernel
theorem d_Search_findHopeful_33 : decode prog_5_method_10_code 33 = .ok (.goto (-31), 3) := by decide +kernel
theorem d_Search_findHopeful_36 : decode prog_5_method_10_code 36 = .ok (.aload_n 0, 1) := by decide +kernel
theorem d_Search_findHopeful_37 : decode prog_5_method_10_code 37 = .ok (.getfield 45, 3) := by decide +kernel
theorem d_Search_findHopeful_40 : decode prog_5_method_10_code 40 = .ok (.iconst 1, 1) := by decide +kernel
theorem d_Search_findHopeful_41 : decode prog_5_method_10_code 41 = .ok (.isub, 1) := by decide +kernel
theorem d_Search_findHopeful_42 : decode prog_5_method_10_code 42 = .ok (.istore_n 1, 1) := by decide +kernel
theorem d_Search_findHopeful_43 : decode prog_5_method_10_code 43 = .ok (.iload_n 1, 1) := by decide +kernel
theorem d_Search_findHopeful_44 : decode prog_5_method_10_code 44 = .ok (.ifCond .lt 42, 3) := by decide +kernel
theorem d_Search_findHopeful_47 : decode prog_5_method_10_code 47 = .ok (.iconst 0, 1) := by decide +kernel
theorem d_Search_findHopeful_48 : decode prog_5_method_10_code 48 = .ok (.istore_n 2, 1) := by decide +kernel
theorem d_Search_findHopeful_49 : decode prog_5_method_10_code 49 = .ok (.iload_n 2, 1) := by decide +kernel
theorem d_Search_findHopeful_50 : decode prog_5_method_10_code 50 = .ok (.aload_n 0, 1) := by decide +kernel
theorem d_Search_findHopeful_51 : decode prog_5_method_10_code 51 = .ok (.getfield 35, 3) := by decide +kernel
theorem d_Search_findHopeful_54 : decode prog_5_method_10_code 54 = .ok (.if_icmp .ge 26, 3) := by decide +kernel
theorem d_Search_findHopeful_57 : decode prog_5_method_10_code 57 = .ok (.aload_n 0, 1) := by decide +kernel
theorem d_Search_findHopeful_58 : decode prog_5_method_10_code 58 = .ok (.getfield 15, 3) := by decide +kernel
theorem d_Search_findHopeful_61 : decode prog_5_method_10_code 61 = .ok (.iload_n 1, 1) := by decide +kernel
theorem d_Search_findHopeful_62 : decode prog_5_method_10_code 62 = .ok (.bipush 7, 2) := by decide +kernel
theorem d_Search_findHopeful_64 : decode prog_5_method_10_code 64 = .ok (.imul, 1) := by decide +kernel
theorem d_Search_findHopeful_65 : decode prog_5_method_10_code 65 = .ok (.iload_n 2, 1) := by decide +kernel
theorem d_Search_findHopeful_66 : decode prog_5_method_10_code 66 = .ok (.iadd, 1) := by decide +kernel
theorem d_Search_findHopeful_67 : decode prog_5_method_10_code 67 = .ok (.aload_n 0, 1) := by decide +kernel
theorem d_Search_findHopeful_68 : decode prog_5_method_10_code 68 = .ok (.iload_n 1, 1) := by decide +kernel
theorem d_Search_findHopeful_69 : decode prog_5_method_10_code 69 = .ok (.iload_n 2, 1) := by decide +kernel
theorem d_Search_findHopeful_70 : decode prog_5_method_10_code 70 = .ok (.invokevirtual 121, 3) := by decide +kernel
theorem d_Search_findHopeful_73 : decode prog_5_method_10_code 73 = .ok (.lastore, 1) := by decide +kernel
theorem d_Search_findHopeful_74 : decode prog_5_method_10_code 74 = .ok (.iinc 2 1, 3) := by decide +kernel
theorem d_Search_findHopeful_77 : decode prog_5_method_10_code 77 = .ok (.goto (-28), 3) := by decide +kernel
theorem d_Search_findHopeful_80 : decode prog_5_method_10_code 80 = .ok (.iinc 1 (-1), 3) := by decide +kernel
theorem d_Search_findHopeful_83 : decode prog_5_method_10_code 83 = .ok (.goto (-40), 3) := by decide +kernel
theorem d_Search_findHopeful_86 : decode prog_5_method_10_code 86 = .ok (.return_, 1) := by decide +kernel
set_option maxHeartbeats 4000000 in
set_option maxRecDepth 20000 in
theorem c_Search_findHopeful (s0 : MS) (Q : MS → Prop) (h : wp_Search_findHopeful s0 Q) : MT dscC ⟨"BellSchool$Search", "findHopeful", "()V"⟩ prog_5_method_10_code 3 none 2 (fun ad => [.ref (ad 25)]) s0 (po_V dscC Q) := by
  refine met_of (by decide) (fun _ => Nat.le_of_ble_eq_true rfl) (fun X E hR => ?_)
  replace E : EV dscC X prog_5_method_10_code "BellSchool$Search" 3 2 := E
  show VV dscC X 0 [(0, .ref (adX X 25))] [] s0
  unfold wp_Search_findHopeful at h
  refine v_iconst E d_Search_findHopeful_0 ?_
  refine v_istoren E d_Search_findHopeful_1 rfl (by decide) (L' := [(1, .int (iI 0)), (0, .ref (adX X 25))]) rfl ?_
  refine v_sub [1, 0] (L' := [(0, .ref (adX X 25)), (1, .int (iI 0))]) rfl ?_
  obtain ⟨I1, μ1, h01, h⟩ := h
  refine v_loop1 (fun (x1 : Int) => [(0, .ref (adX X 25)), (1, .int (iI x1))]) I1 μ1 (fun x1 s1 hI1 ih1 => ?_) 0 s0 h01
  replace h := h x1 s1 hI1
  refine v_iloadn E d_Search_findHopeful_2 rfl 1 rfl ?_
  refine v_aloadn E d_Search_findHopeful_3 rfl 0 rfl ?_
  refine v_getI E cf3 dC_25 6 (by decide) rfl mw270 d_Search_findHopeful_4 rfl ?_
  obtain ⟨q1, h⟩ := h
  refine v_wt (fun wt1 => ?_)
  refine v_icmp_ge E 36 d_Search_findHopeful_7 (by decide) q1 (wt1 25 6) (fun c1 => ?_) (fun c1 => ?_)
  · replace h := h.1 c1
    refine v_aloadn E d_Search_findHopeful_36 rfl 0 rfl ?_
    refine v_getI E cf3 dC_25 9 (by decide) rfl mw317 d_Search_findHopeful_37 rfl ?_
    refine v_iconst E d_Search_findHopeful_40 ?_
    refine v_isub E d_Search_findHopeful_41 ?_
    refine v_nameI (fun x2 hx2 => ?_)
    replace h := h x2 hx2
    refine v_istoren E d_Search_findHopeful_42 rfl (by decide) (L' := [(1, .int (iI x2)), (0, .ref (adX X 25))]) rfl ?_
    refine v_sub [1, 0] (L' := [(0, .ref (adX X 25)), (1, .int (iI x2))]) rfl ?_
    obtain ⟨I2, μ2, h02, h⟩ := h
    refine v_loop1 (fun (x3 : Int) => [(0, .ref (adX X 25)), (1, .int (iI x3))]) I2 μ2 (fun x3 s2 hI2 ih2 => ?_) x2 s1 h02
    replace h := h x3 s2 hI2
    refine v_iloadn E d_Search_findHopeful_43 rfl 1 rfl ?_
    obtain ⟨q2, h⟩ := h
    refine v_if_lt E 86 d_Search_findHopeful_44 (by decide) q2 (fun c2 => ?_) (fun c2 => ?_)
    · replace h := h.1 c2
      exact v_vret E hR h d_Search_findHopeful_86
    · replace h := h.2 c2
      refine v_iconst E d_Search_findHopeful_47 ?_
      refine v_istoren E d_Search_findHopeful_48 rfl (by decide) (L' := [(2, .int (iI 0)), (0, .ref (adX X 25)), (1, .int (iI x3))]) rfl ?_
      refine v_sub [1, 2, 0] (L' := [(0, .ref (adX X 25)), (1, .int (iI x3)), (2, .int (iI 0))]) rfl ?_
      obtain ⟨I3, μ3, h03, h⟩ := h
      refine v_loop1 (fun (x4 : Int) => [(0, .ref (adX X 25)), (1, .int (iI x3)), (2, .int (iI x4))]) I3 μ3 (fun x4 s3 hI3 ih3 => ?_) 0 s2 h03
      replace h := h x4 s3 hI3
      refine v_iloadn E d_Search_findHopeful_49 rfl 2 rfl ?_
      refine v_aloadn E d_Search_findHopeful_50 rfl 0 rfl ?_
      refine v_getI E cf3 dC_25 6 (by decide) rfl mw270 d_Search_findHopeful_51 rfl ?_
      obtain ⟨q3, h⟩ := h
      refine v_wt (fun wt2 => ?_)
      refine v_icmp_ge E 80 d_Search_findHopeful_54 (by decide) q3 (wt2 25 6) (fun c3 => ?_) (fun c3 => ?_)
      · replace h := h.1 c3
        refine v_iincN E d_Search_findHopeful_80 1 rfl (by decide) (fun y => [(1, .int (iI y)), (0, .ref (adX X 25)), (2, .int (iI x4))]) (fun _ => rfl) (fun x5 hx5 => ?_)
        replace h := h x5 hx5
        refine v_goto E 43 d_Search_findHopeful_83 (by decide) ?_
        obtain ⟨hb, hm⟩ := h
        exact v_sub [1, 0] rfl (ih2 x5 s3 hb hm)
      · replace h := h.2 c3
        refine v_aloadn E d_Search_findHopeful_57 rfl 0 rfl ?_
        refine v_getA E cf3 dC_25 1 (by decide) rfl mw312 d_Search_findHopeful_58 rfl ?_
        refine v_iloadn E d_Search_findHopeful_61 rfl 1 rfl ?_
        refine v_bipush E d_Search_findHopeful_62 rfl ?_
        refine v_imul E d_Search_findHopeful_64 ?_
        refine v_iloadn E d_Search_findHopeful_65 rfl 2 rfl ?_
        refine v_iadd E d_Search_findHopeful_66 ?_
        refine v_aloadn E d_Search_findHopeful_67 rfl 0 rfl ?_
        refine v_iloadn E d_Search_findHopeful_68 rfl 1 rfl ?_
        refine v_iloadn E d_Search_findHopeful_69 rfl 2 rfl ?_
        refine v_callVLp E md_Search_hopesFrom (c_Search_hopesFrom x3 q2 x4 q3 s3 _ h) dC_25 rfl ⟨by decide, by decide⟩ mw318 d_Search_findHopeful_70 (fun _ => rfl) (st := [.int (iI ((x3 * 7) + x4)), .ref (adX X 27)]) rfl (Nat.le_of_ble_eq_true rfl) (fun r1 h => ?_)
        obtain ⟨q4, h⟩ := h
        refine v_last E dC_27 (by decide) q4.1 q4.2 d_Search_findHopeful_73 ?_
        refine v_nameS (fun s4 hs4 => ?_)
        replace h := h s4 hs4
        refine v_iincN E d_Search_findHopeful_74 2 rfl (by decide) (fun y => [(2, .int (iI y)), (0, .ref (adX X 25)), (1, .int (iI x3))]) (fun _ => rfl) (fun x6 hx6 => ?_)
        replace h := h x6 hx6
        refine v_goto E 49 d_Search_findHopeful_77 (by decide) ?_
        obtain ⟨hb, hm⟩ := h
        exact v_sub [1, 2, 0] rfl (ih3 x6 s4 hb hm)
  · replace h := h.2 c1
    refine v_aloadn E d_Search_findHopeful_10 rfl 0 rfl ?_
    refine v_getA E cf3 dC_25 1 (by decide) rfl mw312 d_Search_findHopeful_11 rfl ?_
    refine v_aloadn E d_Search_findHopeful_14 rfl 0 rfl ?_
    refine v_getI E cf3 dC_25 9 (by decide) rfl mw317 d_Search_findHopeful_15 rfl ?_
    refine v_bipush E d_Search_findHopeful_18 rfl ?_
    refine v_imul E d_Search_findHopeful_20 ?_
    refine v_iloadn E d_Search_findHopeful_21 rfl 1 rfl ?_
    refine v_iadd E d_Search_findHopeful_22 ?_
    refine v_lconst E (1 : Int64) rfl d_Search_findHopeful_23 ?_
    refine v_aloadn E d_Search_findHopeful_24 rfl 0 rfl ?_
    refine v_getI E cf3 dC_25 7 (by decide) rfl mw269 d_Search_findHopeful_25 rfl ?_
    refine v_lshl E d_Search_findHopeful_28 ?_
    obtain ⟨q5, h⟩ := h
    refine v_last E dC_27 (by decide) q5.1 q5.2 d_Search_findHopeful_29 ?_
    refine v_nameS (fun s5 hs5 => ?_)
    replace h := h s5 hs5
    refine v_iincN E d_Search_findHopeful_30 1 rfl (by decide) (fun y => [(1, .int (iI y)), (0, .ref (adX X 25))]) (fun _ => rfl) (fun x7 hx7 => ?_)
    replace h := h x7 hx7
    refine v_goto E 2 d_Search_findHopeful_33 (by decide) ?_
    obtain ⟨hb, hm⟩ := h
    exact v_sub [1, 0] rfl (ih1 x7 s5 hb hm)
theorem d_Search_firstHopeful_0 : decode prog_5_method_13_code 0 = .ok (.iconst 0, 1) := by decide +kernel
theorem d_Search_firstHopeful_1 : decode prog_5_method_13_code 1 = .ok (.istore 5, 2) := by decide +kernel
theorem d_Search_firstHopeful_3 : decode prog_5_method_13_code 3 = .ok (.iload 5, 2) := by decide +kernel
theorem d_Search_firstHopeful_5 : decode prog_5_method_13_code 5 = .ok (.aload_n 0, 1) := by decide +kernel
theorem d_Search_firstHopeful_6 : decode prog_5_method_13_code 6 = .ok (.getfield 35, 3) := by decide +kernel
theorem d_Search_firstHopeful_9 : decode prog_5_method_13_code 9 = .ok (.if_icmp .ge 57, 3) := by decide +kernel
theorem d_Search_firstHopeful_12 : decode prog_5_method_13_code 12 = .ok (.aload_n 0, 1) := by decide +kernel
theorem d_Search_firstHopeful_13 : decode prog_5_method_13_code 13 = .ok (.getfield 18, 3) := by decide +kernel
theorem d_Search_firstHopeful_16 : decode prog_5_method_13_code 16 = .ok (.iload_n 1, 1) := by decide +kernel
theorem d_Search_firstHopeful_17 : decode prog_5_method_13_code 17 = .ok (.iload_n 2, 1) := by decide +kernel
theorem d_Search_firstHopeful_18 : decode prog_5_method_13_code 18 = .ok (.iload 5, 2) := by decide +kernel
theorem d_Search_firstHopeful_20 : decode prog_5_method_13_code 20 = .ok (.invokestatic 111, 3) := by decide +kernel
theorem d_Search_firstHopeful_23 : decode prog_5_method_13_code 23 = .ok (.iaload, 1) := by decide +kernel
theorem d_Search_firstHopeful_24 : decode prog_5_method_13_code 24 = .ok (.istore 6, 2) := by decide +kernel
theorem d_Search_firstHopeful_26 : decode prog_5_method_13_code 26 = .ok (.lload_n 3, 1) := by decide +kernel
theorem d_Search_firstHopeful_27 : decode prog_5_method_13_code 27 = .ok (.aload_n 0, 1) := by decide +kernel
theorem d_Search_firstHopeful_28 : decode prog_5_method_13_code 28 = .ok (.getfield 22, 3) := by decide +kernel
theorem d_Search_firstHopeful_31 : decode prog_5_method_13_code 31 = .ok (.iload 6, 2) := by decide +kernel
theorem d_Search_firstHopeful_33 : decode prog_5_method_13_code 33 = .ok (.iaload, 1) := by decide +kernel
theorem d_Search_firstHopeful_34 : decode prog_5_method_13_code 34 = .ok (.invokestatic 115, 3) := by decide +kernel
theorem d_Search_firstHopeful_37 : decode prog_5_method_13_code 37 = .ok (.aload_n 0, 1) := by decide +kernel
theorem d_Search_firstHopeful_38 : decode prog_5_method_13_code 38 = .ok (.getfield 15, 3) := by decide +kernel
theorem d_Search_firstHopeful_41 : decode prog_5_method_13_code 41 = .ok (.iload_n 1, 1) := by decide +kernel
theorem d_Search_firstHopeful_42 : decode prog_5_method_13_code 42 = .ok (.iconst 1, 1) := by decide +kernel
theorem d_Search_firstHopeful_43 : decode prog_5_method_13_code 43 = .ok (.iadd, 1) := by decide +kernel
theorem d_Search_firstHopeful_44 : decode prog_5_method_13_code 44 = .ok (.bipush 7, 2) := by decide +kernel
theorem d_Search_firstHopeful_46 : decode prog_5_method_13_code 46 = .ok (.imul, 1) := by decide +kernel
theorem d_Search_firstHopeful_47 : decode prog_5_method_13_code 47 = .ok (.iload 6, 2) := by decide +kernel
theorem d_Search_firstHopeful_49 : decode prog_5_method_13_code 49 = .ok (.iadd, 1) := by decide +kernel
theorem d_Search_firstHopeful_50 : decode prog_5_method_13_code 50 = .ok (.laload, 1) := by decide +kernel
theorem d_Search_firstHopeful_51 : decode prog_5_method_13_code 51 = .ok (.land, 1) := by decide +kernel
theorem d_Search_firstHopeful_52 : decode prog_5_method_13_code 52 = .ok (.lconst 0, 1) := by decide +kernel
theorem d_Search_firstHopeful_53 : decode prog_5_method_13_code 53 = .ok (.lcmp, 1) := by decide +kernel
theorem d_Search_firstHopeful_54 : decode prog_5_method_13_code 54 = .ok (.ifCond .eq 6, 3) := by decide +kernel
theorem d_Search_firstHopeful_57 : decode prog_5_method_13_code 57 = .ok (.iload 5, 2) := by decide +kernel
theorem d_Search_firstHopeful_59 : decode prog_5_method_13_code 59 = .ok (.ireturn, 1) := by decide +kernel
theorem d_Search_firstHopeful_60 : decode prog_5_method_13_code 60 = .ok (.iinc 5 1, 3) := by decide +kernel
theorem d_Search_firstHopeful_63 : decode prog_5_method_13_code 63 = .ok (.goto (-60), 3) := by decide +kernel
theorem d_Search_firstHopeful_66 : decode prog_5_method_13_code 66 = .ok (.aload_n 0, 1) := by decide +kernel
theorem d_Search_firstHopeful_67 : decode prog_5_method_13_code 67 = .ok (.getfield 35, 3) := by decide +kernel
theorem d_Search_firstHopeful_70 : decode prog_5_method_13_code 70 = .ok (.ireturn, 1) := by decide +kernel
set_option maxHeartbeats 4000000 in
set_option maxRecDepth 20000 in
theorem c_Search_firstHopeful (p1 : Int) (hp1 : Rng p1) (p2 : Int) (hp2 : Rng p2) (p3 : Int64) (s0 : MS) (Q : Int → Prop) (h : wp_Search_firstHopeful p1 p2 p3 s0 Q) : MT dscC ⟨"BellSchool$Search", "firstHopeful", "(IIJ)I"⟩ prog_5_method_13_code 7 (some .int) 1 (fun ad => [.ref (ad 25), .int (iI p1), .int (iI p2), .long p3]) s0 (po_I dscC (fun r z => z = s0 ∧ Q r)) := by
  refine met_of (by decide) (fun _ => Nat.le_of_ble_eq_true rfl) (fun X E hR => ?_)
  replace E : EV dscC X prog_5_method_13_code "BellSchool$Search" 7 1 := E
  show VV dscC X 0 [(0, .ref (adX X 25)), (1, .int (iI p1)), (2, .int (iI p2)), (3, .long p3)] [] s0
  unfold wp_Search_firstHopeful at h
  refine v_iconst E d_Search_firstHopeful_0 ?_
  refine v_istore E d_Search_firstHopeful_1 (by decide) (L' := [(5, .int (iI 0)), (0, .ref (adX X 25)), (1, .int (iI p1)), (2, .int (iI p2)), (3, .long p3)]) rfl ?_
  refine v_sub [1, 2, 3, 4, 0] (L' := [(0, .ref (adX X 25)), (1, .int (iI p1)), (2, .int (iI p2)), (3, .long p3), (5, .int (iI 0))]) rfl ?_
  obtain ⟨I1, μ1, h01, h⟩ := h
  refine v_ploop1 s0 (fun (x1 : Int) => [(0, .ref (adX X 25)), (1, .int (iI p1)), (2, .int (iI p2)), (3, .long p3), (5, .int (iI x1))]) I1 μ1 (fun x1 hI1 ih1 => ?_) 0 h01
  replace h := h x1  hI1
  refine v_iload E d_Search_firstHopeful_3 4 rfl ?_
  refine v_aloadn E d_Search_firstHopeful_5 rfl 0 rfl ?_
  refine v_getI E cf3 dC_25 6 (by decide) rfl mw270 d_Search_firstHopeful_6 rfl ?_
  obtain ⟨q1, h⟩ := h
  refine v_wt (fun wt1 => ?_)
  refine v_icmp_ge E 66 d_Search_firstHopeful_9 (by decide) q1 (wt1 25 6) (fun c1 => ?_) (fun c1 => ?_)
  · replace h := h.1 c1
    refine v_aloadn E d_Search_firstHopeful_66 rfl 0 rfl ?_
    refine v_getI E cf3 dC_25 6 (by decide) rfl mw270 d_Search_firstHopeful_67 rfl ?_
    exact v_iret E hR rfl (wt1 25 6) ⟨rfl, h⟩ d_Search_firstHopeful_70
  · replace h := h.2 c1
    refine v_aloadn E d_Search_firstHopeful_12 rfl 0 rfl ?_
    refine v_getA E cf3 dC_25 2 (by decide) rfl mw303 d_Search_firstHopeful_13 rfl ?_
    refine v_iloadn E d_Search_firstHopeful_16 rfl 1 rfl ?_
    refine v_iloadn E d_Search_firstHopeful_17 rfl 2 rfl ?_
    refine v_iload E d_Search_firstHopeful_18 4 rfl ?_
    refine v_callSIp E md_Search_placeOf (c_Search_placeOf dscC p1 hp1 p2 hp2 x1 q1 s0 _ h) ⟨by decide, by decide⟩ mw304 d_Search_firstHopeful_20 (fun _ => rfl) (st := [.ref (adX X 28)]) rfl (Nat.le_of_ble_eq_true rfl) (fun r1 hr1 h => ?_)
    obtain ⟨q2, h⟩ := h
    refine v_iald E dC_28 (by decide) q2.1 q2.2 d_Search_firstHopeful_23 ?_
    refine v_istore E d_Search_firstHopeful_24 (by decide) (L' := [(6, .int (iI (gI s0 28 r1))), (0, .ref (adX X 25)), (1, .int (iI p1)), (2, .int (iI p2)), (3, .long p3), (5, .int (iI x1))]) rfl ?_
    refine v_lloadn E d_Search_firstHopeful_26 rfl 4 rfl ?_
    refine v_aloadn E d_Search_firstHopeful_27 rfl 1 rfl ?_
    refine v_getA E cf3 dC_25 3 (by decide) rfl mw271 d_Search_firstHopeful_28 rfl ?_
    refine v_iload E d_Search_firstHopeful_31 0 rfl ?_
    obtain ⟨q3, h⟩ := h
    refine v_iald E dC_29 (by decide) q3.1 q3.2 d_Search_firstHopeful_33 ?_
    refine v_callSLp E md_Search_joined (c_Search_joined p3 (gI s0 29 (gI s0 28 r1)) (wt1 29 (gI s0 28 r1)) s0 _ h) ⟨by decide, by decide⟩ mw305 d_Search_firstHopeful_34 (fun _ => rfl) (st := []) rfl (Nat.le_of_ble_eq_true rfl) (fun r2 h => ?_)
    refine v_aloadn E d_Search_firstHopeful_37 rfl 1 rfl ?_
    refine v_getA E cf3 dC_25 1 (by decide) rfl mw312 d_Search_firstHopeful_38 rfl ?_
    refine v_iloadn E d_Search_firstHopeful_41 rfl 2 rfl ?_
    refine v_iconst E d_Search_firstHopeful_42 ?_
    refine v_iadd E d_Search_firstHopeful_43 ?_
    refine v_bipush E d_Search_firstHopeful_44 rfl ?_
    refine v_imul E d_Search_firstHopeful_46 ?_
    refine v_iload E d_Search_firstHopeful_47 0 rfl ?_
    refine v_iadd E d_Search_firstHopeful_49 ?_
    obtain ⟨q4, h⟩ := h
    refine v_lald E dC_27 (by decide) q4.1 q4.2 d_Search_firstHopeful_50 ?_
    refine v_land E d_Search_firstHopeful_51 ?_
    refine v_lconst E (0 : Int64) rfl d_Search_firstHopeful_52 ?_
    refine v_lcmp_eq E 60 d_Search_firstHopeful_53 d_Search_firstHopeful_54 (by decide) (fun c2 => ?_) (fun c2 => ?_)
    · replace h := h.1 c2
      refine v_iincN E d_Search_firstHopeful_60 5 rfl (by decide) (fun y => [(5, .int (iI y)), (6, .int (iI (gI s0 28 r1))), (0, .ref (adX X 25)), (1, .int (iI p1)), (2, .int (iI p2)), (3, .long p3)]) (fun _ => rfl) (fun x2 hx2 => ?_)
      replace h := h x2 hx2
      refine v_goto E 3 d_Search_firstHopeful_63 (by decide) ?_
      obtain ⟨hb, hm⟩ := h
      exact v_sub [2, 3, 4, 5, 0] rfl (ih1 x2 hb hm)
    · replace h := h.2 c2
      refine v_iload E d_Search_firstHopeful_57 5 rfl ?_
      exact v_iret E hR rfl q1 ⟨rfl, h⟩ d_Search_firstHopeful_59
theorem d_Search_findRow_0 : decode prog_5_method_12_code 0 = .ok (.aload_n 0, 1) := by decide +kernel
theorem d_Search_findRow_1 : decode prog_5_method_12_code 1 = .ok (.getfield 28, 3) := by decide +kernel
theorem d_Search_findRow_4 : decode prog_5_method_12_code 4 = .ok (.getfield 89, 3) := by decide +kernel
theorem d_Search_findRow_7 : decode prog_5_method_12_code 7 = .ok (.istore_n 1, 1) := by decide +kernel
theorem d_Search_findRow_8 : decode prog_5_method_12_code 8 = .ok (.lconst 1, 1) := by decide +kernel
theorem d_Search_findRow_9 : decode prog_5_method_12_code 9 = .ok (.lstore_n 2, 1) := by decide +kernel
theorem d_Search_findRow_10 : decode prog_5_method_12_code 10 = .ok (.iconst 0, 1) := by decide +kernel
theorem d_Search_findRow_11 : decode prog_5_method_12_code 11 = .ok (.istore 4, 2) := by decide +kernel
theorem d_Search_findRow_13 : decode prog_5_method_12_code 13 = .ok (.iload 4, 2) := by decide +kernel
theorem d_Search_findRow_15 : decode prog_5_method_12_code 15 = .ok (.aload_n 0, 1) := by decide +kernel
theorem d_Search_findRow_16 : decode prog_5_method_12_code 16 = .ok (.getfield 45, 3) := by decide +kernel
theorem d_Search_findRow_19 : decode prog_5_method_12_code 19 = .ok (.if_icmp .ge 65, 3) := by decide +kernel
theorem d_Search_findRow_22 : decode prog_5_method_12_code 22 = .ok (.aload_n 0, 1) := by decide +kernel
theorem d_Search_findRow_23 : decode prog_5_method_12_code 23 = .ok (.iload 4, 2) := by decide +kernel
theorem d_Search_findRow_25 : decode prog_5_method_12_code 25 = .ok (.iload_n 1, 1) := by decide +kernel
theorem d_Search_findRow_26 : decode prog_5_method_12_code 26 = .ok (.lload_n 2, 1) := by decide +kernel
theorem d_Search_findRow_27 : decode prog_5_method_12_code 27 = .ok (.invokevirtual 128, 3) := by decide +kernel
theorem d_Search_findRow_30 : decode prog_5_method_12_code 30 = .ok (.istore 5, 2) := by decide +kernel
theorem d_Search_findRow_32 : decode prog_5_method_12_code 32 = .ok (.aload_n 0, 1) := by decide +kernel
theorem d_Search_findRow_33 : decode prog_5_method_12_code 33 = .ok (.getfield 42, 3) := by decide +kernel
theorem d_Search_findRow_36 : decode prog_5_method_12_code 36 = .ok (.iload 4, 2) := by decide +kernel
theorem d_Search_findRow_38 : decode prog_5_method_12_code 38 = .ok (.iload 5, 2) := by decide +kernel
theorem d_Search_findRow_40 : decode prog_5_method_12_code 40 = .ok (.ifCond .ne 8, 3) := by decide +kernel
theorem d_Search_findRow_43 : decode prog_5_method_12_code 43 = .ok (.bipush (-4), 2) := by decide +kernel
theorem d_Search_findRow_45 : decode prog_5_method_12_code 45 = .ok (.goto 7, 3) := by decide +kernel
theorem d_Search_findRow_48 : decode prog_5_method_12_code 48 = .ok (.iload 5, 2) := by decide +kernel
theorem d_Search_findRow_50 : decode prog_5_method_12_code 50 = .ok (.iconst 1, 1) := by decide +kernel
theorem d_Search_findRow_51 : decode prog_5_method_12_code 51 = .ok (.isub, 1) := by decide +kernel
theorem d_Search_findRow_52 : decode prog_5_method_12_code 52 = .ok (.iastore, 1) := by decide +kernel
theorem d_Search_findRow_53 : decode prog_5_method_12_code 53 = .ok (.aload_n 0, 1) := by decide +kernel
theorem d_Search_findRow_54 : decode prog_5_method_12_code 54 = .ok (.getfield 18, 3) := by decide +kernel
theorem d_Search_findRow_57 : decode prog_5_method_12_code 57 = .ok (.iload 4, 2) := by decide +kernel
theorem d_Search_findRow_59 : decode prog_5_method_12_code 59 = .ok (.iload_n 1, 1) := by decide +kernel
theorem d_Search_findRow_60 : decode prog_5_method_12_code 60 = .ok (.iload 5, 2) := by decide +kernel
theorem d_Search_findRow_62 : decode prog_5_method_12_code 62 = .ok (.invokestatic 111, 3) := by decide +kernel
theorem d_Search_findRow_65 : decode prog_5_method_12_code 65 = .ok (.iaload, 1) := by decide +kernel
theorem d_Search_findRow_66 : decode prog_5_method_12_code 66 = .ok (.istore_n 1, 1) := by decide +kernel
theorem d_Search_findRow_67 : decode prog_5_method_12_code 67 = .ok (.lload_n 2, 1) := by decide +kernel
theorem d_Search_findRow_68 : decode prog_5_method_12_code 68 = .ok (.aload_n 0, 1) := by decide +kernel
theorem d_Search_findRow_69 : decode prog_5_method_12_code 69 = .ok (.getfield 22, 3) := by decide +kernel
theorem d_Search_findRow_72 : decode prog_5_method_12_code 72 = .ok (.iload_n 1, 1) := by decide +kernel
theorem d_Search_findRow_73 : decode prog_5_method_12_code 73 = .ok (.iaload, 1) := by decide +kernel
theorem d_Search_findRow_74 : decode prog_5_method_12_code 74 = .ok (.invokestatic 115, 3) := by decide +kernel
theorem d_Search_findRow_77 : decode prog_5_method_12_code 77 = .ok (.lstore_n 2, 1) := by decide +kernel
theorem d_Search_findRow_78 : decode prog_5_method_12_code 78 = .ok (.iinc 4 1, 3) := by decide +kernel
theorem d_Search_findRow_81 : decode prog_5_method_12_code 81 = .ok (.goto (-68), 3) := by decide +kernel
theorem d_Search_findRow_84 : decode prog_5_method_12_code 84 = .ok (.return_, 1) := by decide +kernel
set_option maxHeartbeats 4000000 in
set_option maxRecDepth 20000 in
theorem c_Search_findRow (s0 : MS) (Q : MS → Prop) (h : wp_Search_findRow s0 Q) : MT dscC ⟨"BellSchool$Search", "findRow", "()V"⟩ prog_5_method_12_code 6 none 2 (fun ad => [.ref (ad 25)]) s0 (po_V dscC Q) := by
  refine met_of (by decide) (fun _ => Nat.le_of_ble_eq_true rfl) (fun X E hR => ?_)
  replace E : EV dscC X prog_5_method_12_code "BellSchool$Search" 6 2 := E
  show VV dscC X 0 [(0, .ref (adX X 25))] [] s0
  unfold wp_Search_findRow at h
  refine v_aloadn E d_Search_findRow_0 rfl 0 rfl ?_
  refine v_getA E cf3 dC_25 4 (by decide) rfl mw272 d_Search_findRow_1 rfl ?_
  refine v_getI E cf5 dC_60 2 (by decide) rfl mw285 d_Search_findRow_4 rfl ?_
  refine v_istoren E d_Search_findRow_7 rfl (by decide) (L' := [(1, .int (iI (gI s0 60 2))), (0, .ref (adX X 25))]) rfl ?_
  refine v_lconst E (1 : Int64) rfl d_Search_findRow_8 ?_
  refine v_lstoren E d_Search_findRow_9 rfl (by decide) (L' := [(2, .long (1 : Int64)), (1, .int (iI (gI s0 60 2))), (0, .ref (adX X 25))]) rfl ?_
  refine v_iconst E d_Search_findRow_10 ?_
  refine v_istore E d_Search_findRow_11 (by decide) (L' := [(4, .int (iI 0)), (2, .long (1 : Int64)), (1, .int (iI (gI s0 60 2))), (0, .ref (adX X 25))]) rfl ?_
  refine v_sub [3, 2, 1, 0] (L' := [(0, .ref (adX X 25)), (1, .int (iI (gI s0 60 2))), (2, .long (1 : Int64)), (4, .int (iI 0))]) rfl ?_
  obtain ⟨I1, μ1, h01, h⟩ := h
  refine v_loop3 (fun (x1 : Int) (y1 : Int64) (x2 : Int) => [(0, .ref (adX X 25)), (1, .int (iI x1)), (2, .long y1), (4, .int (iI x2))]) I1 μ1 (fun x1 y1 x2 s1 hI1 ih1 => ?_) (gI s0 60 2) (1 : Int64) 0 s0 h01
  replace h := h x1 y1 x2 s1 hI1
  refine v_iload E d_Search_findRow_13 3 rfl ?_
  refine v_aloadn E d_Search_findRow_15 rfl 0 rfl ?_
  refine v_getI E cf3 dC_25 9 (by decide) rfl mw317 d_Search_findRow_16 rfl ?_
  obtain ⟨q1, h⟩ := h
  refine v_wt (fun wt1 => ?_)
  refine v_icmp_ge E 84 d_Search_findRow_19 (by decide) q1 (wt1 25 9) (fun c1 => ?_) (fun c1 => ?_)
  · replace h := h.1 c1
    exact v_vret E hR h d_Search_findRow_84
  · replace h := h.2 c1
    refine v_aloadn E d_Search_findRow_22 rfl 0 rfl ?_
    refine v_iload E d_Search_findRow_23 3 rfl ?_
    refine v_iloadn E d_Search_findRow_25 rfl 1 rfl ?_
    refine v_lloadn E d_Search_findRow_26 rfl 2 rfl ?_
    obtain ⟨q2, h⟩ := h
    refine v_callVIp E md_Search_firstHopeful (c_Search_firstHopeful x2 q1 x1 q2 y1 s1 _ h) dC_25 rfl ⟨by decide, by decide⟩ mw325 d_Search_findRow_27 (fun _ => rfl) (st := []) rfl (Nat.le_of_ble_eq_true rfl) (fun r1 hr1 h => ?_)
    refine v_istore E d_Search_findRow_30 (by decide) (L' := [(5, .int (iI r1)), (0, .ref (adX X 25)), (1, .int (iI x1)), (2, .long y1), (4, .int (iI x2))]) rfl ?_
    refine v_aloadn E d_Search_findRow_32 rfl 1 rfl ?_
    refine v_getA E cf3 dC_25 8 (by decide) rfl mw326 d_Search_findRow_33 rfl ?_
    refine v_iload E d_Search_findRow_36 4 rfl ?_
    refine v_iload E d_Search_findRow_38 0 rfl ?_
    refine v_if_ne E 48 d_Search_findRow_40 (by decide) hr1 (fun c2 => ?_) (fun c2 => ?_)
    · replace h := h.1 c2
      refine v_iload E d_Search_findRow_48 0 rfl ?_
      refine v_iconst E d_Search_findRow_50 ?_
      refine v_isub E d_Search_findRow_51 ?_
      obtain ⟨q3, h⟩ := h
      obtain ⟨q4, h⟩ := h
      refine v_iast E dC_30 (by decide) q3.1 q3.2 q4 d_Search_findRow_52 ?_
      refine v_nameS (fun s2 hs2 => ?_)
      replace h := h s2 hs2
      refine v_aloadn E d_Search_findRow_53 rfl 1 rfl ?_
      refine v_getA E cf3 dC_25 2 (by decide) rfl mw303 d_Search_findRow_54 rfl ?_
      refine v_iload E d_Search_findRow_57 4 rfl ?_
      refine v_iloadn E d_Search_findRow_59 rfl 2 rfl ?_
      refine v_iload E d_Search_findRow_60 0 rfl ?_
      refine v_callSIp E md_Search_placeOf (c_Search_placeOf dscC x2 q1 x1 q2 r1 hr1 s2 _ h) ⟨by decide, by decide⟩ mw304 d_Search_findRow_62 (fun _ => rfl) (st := [.ref (adX X 28)]) rfl (Nat.le_of_ble_eq_true rfl) (fun r2 hr2 h => ?_)
      obtain ⟨q5, h⟩ := h
      refine v_iald E dC_28 (by decide) q5.1 q5.2 d_Search_findRow_65 ?_
      refine v_istoren E d_Search_findRow_66 rfl (by decide) (L' := [(1, .int (iI (gI s2 28 r2))), (5, .int (iI r1)), (0, .ref (adX X 25)), (2, .long y1), (4, .int (iI x2))]) rfl ?_
      refine v_lloadn E d_Search_findRow_67 rfl 3 rfl ?_
      refine v_aloadn E d_Search_findRow_68 rfl 2 rfl ?_
      refine v_getA E cf3 dC_25 3 (by decide) rfl mw271 d_Search_findRow_69 rfl ?_
      refine v_iloadn E d_Search_findRow_72 rfl 0 rfl ?_
      obtain ⟨q6, h⟩ := h
      refine v_iald E dC_29 (by decide) q6.1 q6.2 d_Search_findRow_73 ?_
      refine v_wt (fun wt2 => ?_)
      refine v_callSLp E md_Search_joined (c_Search_joined y1 (gI s2 29 (gI s2 28 r2)) (wt2 29 (gI s2 28 r2)) s2 _ h) ⟨by decide, by decide⟩ mw305 d_Search_findRow_74 (fun _ => rfl) (st := []) rfl (Nat.le_of_ble_eq_true rfl) (fun r3 h => ?_)
      refine v_lstoren E d_Search_findRow_77 rfl (by decide) (L' := [(2, .long r3), (1, .int (iI (gI s2 28 r2))), (5, .int (iI r1)), (0, .ref (adX X 25)), (4, .int (iI x2))]) rfl ?_
      refine v_iincN E d_Search_findRow_78 4 rfl (by decide) (fun y => [(4, .int (iI y)), (2, .long r3), (1, .int (iI (gI s2 28 r2))), (5, .int (iI r1)), (0, .ref (adX X 25))]) (fun _ => rfl) (fun x3 hx3 => ?_)
      replace h := h x3 hx3
      refine v_goto E 13 d_Search_findRow_81 (by decide) ?_
      obtain ⟨hb, hm⟩ := h
      exact v_sub [4, 2, 1, 0] rfl (ih1 (gI s2 28 r2) r3 x3 s2 hb hm)
    · replace h := h.2 c2
      refine v_bipush E d_Search_findRow_43 rfl ?_
      refine v_goto E 52 d_Search_findRow_45 (by decide) ?_
      obtain ⟨q7, h⟩ := h
      refine v_iast E dC_30 (by decide) q7.1 q7.2 (by decide) d_Search_findRow_52 ?_
      refine v_nameS (fun s3 hs3 => ?_)
      replace h := h s3 hs3
      refine v_aloadn E d_Search_findRow_53 rfl 1 rfl ?_
      refine v_getA E cf3 dC_25 2 (by decide) rfl mw303 d_Search_findRow_54 rfl ?_
      refine v_iload E d_Search_findRow_57 4 rfl ?_
      refine v_iloadn E d_Search_findRow_59 rfl 2 rfl ?_
      refine v_iload E d_Search_findRow_60 0 rfl ?_
      refine v_callSIp E md_Search_placeOf (c_Search_placeOf dscC x2 q1 x1 q2 r1 hr1 s3 _ h) ⟨by decide, by decide⟩ mw304 d_Search_findRow_62 (fun _ => rfl) (st := [.ref (adX X 28)]) rfl (Nat.le_of_ble_eq_true rfl) (fun r4 hr4 h => ?_)
      obtain ⟨q8, h⟩ := h
      refine v_iald E dC_28 (by decide) q8.1 q8.2 d_Search_findRow_65 ?_
      refine v_istoren E d_Search_findRow_66 rfl (by decide) (L' := [(1, .int (iI (gI s3 28 r4))), (5, .int (iI r1)), (0, .ref (adX X 25)), (2, .long y1), (4, .int (iI x2))]) rfl ?_
      refine v_lloadn E d_Search_findRow_67 rfl 3 rfl ?_
      refine v_aloadn E d_Search_findRow_68 rfl 2 rfl ?_
      refine v_getA E cf3 dC_25 3 (by decide) rfl mw271 d_Search_findRow_69 rfl ?_
      refine v_iloadn E d_Search_findRow_72 rfl 0 rfl ?_
      obtain ⟨q9, h⟩ := h
      refine v_iald E dC_29 (by decide) q9.1 q9.2 d_Search_findRow_73 ?_
      refine v_wt (fun wt3 => ?_)
      refine v_callSLp E md_Search_joined (c_Search_joined y1 (gI s3 29 (gI s3 28 r4)) (wt3 29 (gI s3 28 r4)) s3 _ h) ⟨by decide, by decide⟩ mw305 d_Search_findRow_74 (fun _ => rfl) (st := []) rfl (Nat.le_of_ble_eq_true rfl) (fun r5 h => ?_)
      refine v_lstoren E d_Search_findRow_77 rfl (by decide) (L' := [(2, .long r5), (1, .int (iI (gI s3 28 r4))), (5, .int (iI r1)), (0, .ref (adX X 25)), (4, .int (iI x2))]) rfl ?_
      refine v_iincN E d_Search_findRow_78 4 rfl (by decide) (fun y => [(4, .int (iI y)), (2, .long r5), (1, .int (iI (gI s3 28 r4))), (5, .int (iI r1)), (0, .ref (adX X 25))]) (fun _ => rfl) (fun x4 hx4 => ?_)
      replace h := h x4 hx4
      refine v_goto E 13 d_Search_findRow_81 (by decide) ?_
      obtain ⟨hb, hm⟩ := h
      exact v_sub [4, 2, 1, 0] rfl (ih1 (gI s3 28 r4) r5 x4 s3 hb hm)
theorem d_Search_search_0 : decode prog_5_method_2_code 0 = .ok (.aload_n 0, 1) := by decide +kernel
theorem d_Search_search_1 : decode prog_5_method_2_code 1 = .ok (.getfield 48, 3) := by decide +kernel
theorem d_Search_search_4 : decode prog_5_method_2_code 4 = .ok (.ifCond .eq 15, 3) := by decide +kernel
theorem d_Search_search_7 : decode prog_5_method_2_code 7 = .ok (.aload_n 0, 1) := by decide +kernel
theorem d_Search_search_8 : decode prog_5_method_2_code 8 = .ok (.getfield 28, 3) := by decide +kernel
theorem d_Search_search_11 : decode prog_5_method_2_code 11 = .ok (.aload_n 2, 1) := by decide +kernel
theorem d_Search_search_12 : decode prog_5_method_2_code 12 = .ok (.invokevirtual 52, 3) := by decide +kernel
theorem d_Search_search_15 : decode prog_5_method_2_code 15 = .ok (.ifCond .eq 4, 3) := by decide +kernel
theorem d_Search_search_18 : decode prog_5_method_2_code 18 = .ok (.return_, 1) := by decide +kernel
theorem d_Search_search_19 : decode prog_5_method_2_code 19 = .ok (.aload_n 0, 1) := by decide +kernel
theorem d_Search_search_20 : decode prog_5_method_2_code 20 = .ok (.aload_n 2, 1) := by decide +kernel
theorem d_Search_search_21 : decode prog_5_method_2_code 21 = .ok (.aload_n 1, 1) := by decide +kernel
theorem d_Search_search_22 : decode prog_5_method_2_code 22 = .ok (.invokevirtual 56, 3) := by decide +kernel
theorem d_Search_search_25 : decode prog_5_method_2_code 25 = .ok (.invokevirtual 61, 3) := by decide +kernel
theorem d_Search_search_28 : decode prog_5_method_2_code 28 = .ok (.iconst 0, 1) := by decide +kernel
theorem d_Search_search_29 : decode prog_5_method_2_code 29 = .ok (.istore_n 3, 1) := by decide +kernel
theorem d_Search_search_30 : decode prog_5_method_2_code 30 = .ok (.iload_n 3, 1) := by decide +kernel
theorem d_Search_search_31 : decode prog_5_method_2_code 31 = .ok (.bipush 28, 2) := by decide +kernel
theorem d_Search_search_33 : decode prog_5_method_2_code 33 = .ok (.if_icmp .ge 23, 3) := by decide +kernel
theorem d_Search_search_36 : decode prog_5_method_2_code 36 = .ok (.aload_n 0, 1) := by decide +kernel
theorem d_Search_search_37 : decode prog_5_method_2_code 37 = .ok (.iload_n 3, 1) := by decide +kernel
theorem d_Search_search_38 : decode prog_5_method_2_code 38 = .ok (.invokevirtual 65, 3) := by decide +kernel
theorem d_Search_search_41 : decode prog_5_method_2_code 41 = .ok (.ifCond .ne 15, 3) := by decide +kernel
theorem d_Search_search_44 : decode prog_5_method_2_code 44 = .ok (.aload_n 0, 1) := by decide +kernel
theorem d_Search_search_45 : decode prog_5_method_2_code 45 = .ok (.aload_n 1, 1) := by decide +kernel
theorem d_Search_search_46 : decode prog_5_method_2_code 46 = .ok (.iload_n 3, 1) := by decide +kernel
theorem d_Search_search_47 : decode prog_5_method_2_code 47 = .ok (.invokevirtual 69, 3) := by decide +kernel
theorem d_Search_search_50 : decode prog_5_method_2_code 50 = .ok (.iinc 3 1, 3) := by decide +kernel
theorem d_Search_search_53 : decode prog_5_method_2_code 53 = .ok (.goto (-23), 3) := by decide +kernel
theorem d_Search_search_56 : decode prog_5_method_2_code 56 = .ok (.aload_n 0, 1) := by decide +kernel
theorem d_Search_search_57 : decode prog_5_method_2_code 57 = .ok (.aload_n 0, 1) := by decide +kernel
theorem d_Search_search_58 : decode prog_5_method_2_code 58 = .ok (.iload_n 3, 1) := by decide +kernel
theorem d_Search_search_59 : decode prog_5_method_2_code 59 = .ok (.invokevirtual 65, 3) := by decide +kernel
theorem d_Search_search_62 : decode prog_5_method_2_code 62 = .ok (.ifCond .eq 7, 3) := by decide +kernel
theorem d_Search_search_65 : decode prog_5_method_2_code 65 = .ok (.iload_n 3, 1) := by decide +kernel
theorem d_Search_search_66 : decode prog_5_method_2_code 66 = .ok (.goto 5, 3) := by decide +kernel
theorem d_Search_search_69 : decode prog_5_method_2_code 69 = .ok (.bipush (-4), 2) := by decide +kernel
theorem d_Search_search_71 : decode prog_5_method_2_code 71 = .ok (.putfield 45, 3) := by decide +kernel
theorem d_Search_search_74 : decode prog_5_method_2_code 74 = .ok (.aload_n 0, 1) := by decide +kernel
theorem d_Search_search_75 : decode prog_5_method_2_code 75 = .ok (.getfield 45, 3) := by decide +kernel
theorem d_Search_search_78 : decode prog_5_method_2_code 78 = .ok (.bipush (-4), 2) := by decide +kernel
theorem d_Search_search_80 : decode prog_5_method_2_code 80 = .ok (.if_icmp .eq 11, 3) := by decide +kernel
theorem d_Search_search_83 : decode prog_5_method_2_code 83 = .ok (.aload_n 0, 1) := by decide +kernel
theorem d_Search_search_84 : decode prog_5_method_2_code 84 = .ok (.invokevirtual 73, 3) := by decide +kernel
theorem d_Search_search_87 : decode prog_5_method_2_code 87 = .ok (.aload_n 0, 1) := by decide +kernel
theorem d_Search_search_88 : decode prog_5_method_2_code 88 = .ok (.invokevirtual 76, 3) := by decide +kernel
theorem d_Search_search_91 : decode prog_5_method_2_code 91 = .ok (.return_, 1) := by decide +kernel
set_option maxHeartbeats 4000000 in
set_option maxRecDepth 20000 in
theorem c_Search_search (p2 : Nat) (hp2 : dscC[p2]? = some dSt) (s0 : MS) (Q : MS → Prop) (h : wp_Search_search p2 s0 Q) : MT dscC ⟨"BellSchool$Search", "search", "(LBellSchool$Noon;LBellSchool$Standing;)V"⟩ prog_5_method_2_code 4 none 5 (fun ad => [.ref (ad 25), .ref (ad 17), .ref (ad p2)]) s0 (po_V dscC Q) := by
  refine met_of (by decide) (fun _ => Nat.le_of_ble_eq_true rfl) (fun X E hR => ?_)
  replace E : EV dscC X prog_5_method_2_code "BellSchool$Search" 4 5 := E
  show VV dscC X 0 [(0, .ref (adX X 25)), (1, .ref (adX X 17)), (2, .ref (adX X p2))] [] s0
  unfold wp_Search_search at h
  refine v_aloadn E d_Search_search_0 rfl 0 rfl ?_
  refine v_getI E cf3 dC_25 10 (by decide) rfl mw279 d_Search_search_1 rfl ?_
  refine v_wt (fun wt1 => ?_)
  refine v_if_eq E 19 d_Search_search_4 (by decide) (wt1 25 10) (fun c1 => ?_) (fun c1 => ?_)
  · replace h := h.1 c1
    refine v_aloadn E d_Search_search_19 rfl 0 rfl ?_
    refine v_aloadn E d_Search_search_20 rfl 2 rfl ?_
    refine v_aloadn E d_Search_search_21 rfl 1 rfl ?_
    refine v_callVIp E md_Noon_homes (c_Noon_homes s0 _ h) dC_17 rfl ⟨by decide, by decide⟩ mw330 d_Search_search_22 (fun _ => rfl) (st := [.ref (adX X p2), .ref (adX X 25)]) rfl (Nat.le_of_ble_eq_true rfl) (fun r1 hr1 h => ?_)
    refine v_callVV E md_Search_begin (c_Search_begin p2 hp2 r1 hr1 s0 _ h) dC_25 rfl ⟨by decide, by decide⟩ mw331 d_Search_search_25 (fun _ => rfl) (st := []) rfl (Nat.le_of_ble_eq_true rfl) (fun s1 h => ?_)
    refine v_iconst E d_Search_search_28 ?_
    refine v_istoren E d_Search_search_29 rfl (by decide) (L' := [(3, .int (iI 0)), (0, .ref (adX X 25)), (1, .ref (adX X 17)), (2, .ref (adX X p2))]) rfl ?_
    refine v_sub [1, 2, 0] (L' := [(0, .ref (adX X 25)), (1, .ref (adX X 17)), (3, .int (iI 0))]) rfl ?_
    obtain ⟨I1, μ1, h01, h⟩ := h
    refine v_loop1 (fun (x1 : Int) => [(0, .ref (adX X 25)), (1, .ref (adX X 17)), (3, .int (iI x1))]) I1 μ1 (fun x1 s2 hI1 ih1 => ?_) 0 s1 h01
    replace h := h x1 s2 hI1
    refine v_iloadn E d_Search_search_30 rfl 2 rfl ?_
    refine v_bipush E d_Search_search_31 rfl ?_
    obtain ⟨q1, h⟩ := h
    refine v_icmp_ge E 56 d_Search_search_33 (by decide) q1 (by decide) (fun c2 => ?_) (fun c2 => ?_)
    · replace h := h.1 c2
      refine v_aloadn E d_Search_search_56 rfl 0 rfl ?_
      refine v_aloadn E d_Search_search_57 rfl 0 rfl ?_
      refine v_iloadn E d_Search_search_58 rfl 2 rfl ?_
      refine v_callVIpz E md_Search_isWholeBy (c_Search_isWholeBy x1 q1 s2 _ h) dC_25 rfl ⟨by decide, by decide⟩ mw332 d_Search_search_59 (fun _ => rfl) (st := [.ref (adX X 25)]) rfl (Nat.le_of_ble_eq_true rfl) (fun r3 hr3 hz3 h => ?_)
      refine v_if_eq E 69 d_Search_search_62 (by decide) hr3 (fun c3 => ?_) (fun c3 => ?_)
      · replace h := h.1 c3
        refine v_bipush E d_Search_search_69 rfl ?_
        refine v_putI E cf3 dC_25 9 (by decide) rfl rfl mw317 d_Search_search_71 rfl rfl rfl (by decide) ?_
        refine v_nameS (fun s3 hs3 => ?_)
        replace h := h s3 hs3
        refine v_aloadn E d_Search_search_74 rfl 0 rfl ?_
        refine v_getI E cf3 dC_25 9 (by decide) rfl mw317 d_Search_search_75 rfl ?_
        refine v_bipush E d_Search_search_78 rfl ?_
        refine v_wt (fun wt2 => ?_)
        refine v_icmp_eq E 91 d_Search_search_80 (by decide) (wt2 25 9) (by decide) (fun c4 => ?_) (fun c4 => ?_)
        · replace h := h.1 c4
          exact v_vret E hR h d_Search_search_91
        · replace h := h.2 c4
          refine v_aloadn E d_Search_search_83 rfl 0 rfl ?_
          refine v_callVV E md_Search_findHopeful (c_Search_findHopeful s3 _ h) dC_25 rfl ⟨by decide, by decide⟩ mw333 d_Search_search_84 (fun _ => rfl) (st := []) rfl (Nat.le_of_ble_eq_true rfl) (fun s4 h => ?_)
          refine v_aloadn E d_Search_search_87 rfl 0 rfl ?_
          refine v_callVV E md_Search_findRow (c_Search_findRow s4 _ h) dC_25 rfl ⟨by decide, by decide⟩ mw334 d_Search_search_88 (fun _ => rfl) (st := []) rfl (Nat.le_of_ble_eq_true rfl) (fun s5 h => ?_)
          exact v_vret E hR h d_Search_search_91
      · replace h := h.2 c3
        refine v_iloadn E d_Search_search_65 rfl 2 rfl ?_
        refine v_goto E 71 d_Search_search_66 (by decide) ?_
        refine v_putI E cf3 dC_25 9 (by decide) rfl rfl mw317 d_Search_search_71 rfl rfl rfl q1 ?_
        refine v_nameS (fun s6 hs6 => ?_)
        replace h := h s6 hs6
        refine v_aloadn E d_Search_search_74 rfl 0 rfl ?_
        refine v_getI E cf3 dC_25 9 (by decide) rfl mw317 d_Search_search_75 rfl ?_
        refine v_bipush E d_Search_search_78 rfl ?_
        refine v_wt (fun wt3 => ?_)
        refine v_icmp_eq E 91 d_Search_search_80 (by decide) (wt3 25 9) (by decide) (fun c5 => ?_) (fun c5 => ?_)
        · replace h := h.1 c5
          exact v_vret E hR h d_Search_search_91
        · replace h := h.2 c5
          refine v_aloadn E d_Search_search_83 rfl 0 rfl ?_
          refine v_callVV E md_Search_findHopeful (c_Search_findHopeful s6 _ h) dC_25 rfl ⟨by decide, by decide⟩ mw333 d_Search_search_84 (fun _ => rfl) (st := []) rfl (Nat.le_of_ble_eq_true rfl) (fun s7 h => ?_)
          refine v_aloadn E d_Search_search_87 rfl 0 rfl ?_
          refine v_callVV E md_Search_findRow (c_Search_findRow s7 _ h) dC_25 rfl ⟨by decide, by decide⟩ mw334 d_Search_search_88 (fun _ => rfl) (st := []) rfl (Nat.le_of_ble_eq_true rfl) (fun s8 h => ?_)
          exact v_vret E hR h d_Search_search_91
    · replace h := h.2 c2
      refine v_aloadn E d_Search_search_36 rfl 0 rfl ?_
      refine v_iloadn E d_Search_search_37 rfl 2 rfl ?_
      refine v_callVIpz E md_Search_isWholeBy (c_Search_isWholeBy x1 q1 s2 _ h) dC_25 rfl ⟨by decide, by decide⟩ mw332 d_Search_search_38 (fun _ => rfl) (st := []) rfl (Nat.le_of_ble_eq_true rfl) (fun r8 hr8 hz8 h => ?_)
      refine v_if_ne E 56 d_Search_search_41 (by decide) hr8 (fun c6 => ?_) (fun c6 => ?_)
      · replace h := h.1 c6
        refine v_aloadn E d_Search_search_56 rfl 0 rfl ?_
        refine v_aloadn E d_Search_search_57 rfl 0 rfl ?_
        refine v_iloadn E d_Search_search_58 rfl 2 rfl ?_
        refine v_callVIpz E md_Search_isWholeBy (c_Search_isWholeBy x1 q1 s2 _ h) dC_25 rfl ⟨by decide, by decide⟩ mw332 d_Search_search_59 (fun _ => rfl) (st := [.ref (adX X 25)]) rfl (Nat.le_of_ble_eq_true rfl) (fun r9 hr9 hz9 h => ?_)
        refine v_if_eq E 69 d_Search_search_62 (by decide) hr9 (fun c7 => ?_) (fun c7 => ?_)
        · replace h := h.1 c7
          refine v_bipush E d_Search_search_69 rfl ?_
          refine v_putI E cf3 dC_25 9 (by decide) rfl rfl mw317 d_Search_search_71 rfl rfl rfl (by decide) ?_
          refine v_nameS (fun s9 hs9 => ?_)
          replace h := h s9 hs9
          refine v_aloadn E d_Search_search_74 rfl 0 rfl ?_
          refine v_getI E cf3 dC_25 9 (by decide) rfl mw317 d_Search_search_75 rfl ?_
          refine v_bipush E d_Search_search_78 rfl ?_
          refine v_wt (fun wt4 => ?_)
          refine v_icmp_eq E 91 d_Search_search_80 (by decide) (wt4 25 9) (by decide) (fun c8 => ?_) (fun c8 => ?_)
          · replace h := h.1 c8
            exact v_vret E hR h d_Search_search_91
          · replace h := h.2 c8
            refine v_aloadn E d_Search_search_83 rfl 0 rfl ?_
            refine v_callVV E md_Search_findHopeful (c_Search_findHopeful s9 _ h) dC_25 rfl ⟨by decide, by decide⟩ mw333 d_Search_search_84 (fun _ => rfl) (st := []) rfl (Nat.le_of_ble_eq_true rfl) (fun s10 h => ?_)
            refine v_aloadn E d_Search_search_87 rfl 0 rfl ?_
            refine v_callVV E md_Search_findRow (c_Search_findRow s10 _ h) dC_25 rfl ⟨by decide, by decide⟩ mw334 d_Search_search_88 (fun _ => rfl) (st := []) rfl (Nat.le_of_ble_eq_true rfl) (fun s11 h => ?_)
            exact v_vret E hR h d_Search_search_91
        · replace h := h.2 c7
          refine v_iloadn E d_Search_search_65 rfl 2 rfl ?_
          refine v_goto E 71 d_Search_search_66 (by decide) ?_
          refine v_putI E cf3 dC_25 9 (by decide) rfl rfl mw317 d_Search_search_71 rfl rfl rfl q1 ?_
          refine v_nameS (fun s12 hs12 => ?_)
          replace h := h s12 hs12
          refine v_aloadn E d_Search_search_74 rfl 0 rfl ?_
          refine v_getI E cf3 dC_25 9 (by decide) rfl mw317 d_Search_search_75 rfl ?_
          refine v_bipush E d_Search_search_78 rfl ?_
          refine v_wt (fun wt5 => ?_)
          refine v_icmp_eq E 91 d_Search_search_80 (by decide) (wt5 25 9) (by decide) (fun c9 => ?_) (fun c9 => ?_)
          · replace h := h.1 c9
            exact v_vret E hR h d_Search_search_91
          · replace h := h.2 c9
            refine v_aloadn E d_Search_search_83 rfl 0 rfl ?_
            refine v_callVV E md_Search_findHopeful (c_Search_findHopeful s12 _ h) dC_25 rfl ⟨by decide, by decide⟩ mw333 d_Search_search_84 (fun _ => rfl) (st := []) rfl (Nat.le_of_ble_eq_true rfl) (fun s13 h => ?_)
            refine v_aloadn E d_Search_search_87 rfl 0 rfl ?_
            refine v_callVV E md_Search_findRow (c_Search_findRow s13 _ h) dC_25 rfl ⟨by decide, by decide⟩ mw334 d_Search_search_88 (fun _ => rfl) (st := []) rfl (Nat.le_of_ble_eq_true rfl) (fun s14 h => ?_)
            exact v_vret E hR h d_Search_search_91
      · replace h := h.2 c6
        refine v_aloadn E d_Search_search_44 rfl 0 rfl ?_
        refine v_aloadn E d_Search_search_45 rfl 1 rfl ?_
        refine v_iloadn E d_Search_search_46 rfl 2 rfl ?_
        refine v_callVV E md_Search_spread (c_Search_spread x1 q1 s2 _ h) dC_25 rfl ⟨by decide, by decide⟩ mw335 d_Search_search_47 (fun _ => rfl) (st := []) rfl (Nat.le_of_ble_eq_true rfl) (fun s15 h => ?_)
        refine v_iincN E d_Search_search_50 2 rfl (by decide) (fun y => [(3, .int (iI y)), (0, .ref (adX X 25)), (1, .ref (adX X 17))]) (fun _ => rfl) (fun x2 hx2 => ?_)
        replace h := h x2 hx2
        refine v_goto E 30 d_Search_search_53 (by decide) ?_
        obtain ⟨hb, hm⟩ := h
        exact v_sub [1, 2, 0] rfl (ih1 x2 s15 hb hm)
  · replace h := h.2 c1
    refine v_aloadn E d_Search_search_7 rfl 0 rfl ?_
    refine v_getA E cf3 dC_25 4 (by decide) rfl mw272 d_Search_search_8 rfl ?_
    refine v_aloadn E d_Search_search_11 rfl 2 rfl ?_
    refine v_callVIpz E md_Standing_isLike (c_Standing_isLike 60 dC_60 p2 hp2 s0 _ h) dC_60 rfl ⟨by decide, by decide⟩ mw336 d_Search_search_12 (fun _ => rfl) (st := []) rfl (Nat.le_of_ble_eq_true rfl) (fun r15 hr15 hz15 h => ?_)
    refine v_if_eq E 19 d_Search_search_15 (by decide) hr15 (fun c10 => ?_) (fun c10 => ?_)
    · replace h := h.1 c10
      refine v_aloadn E d_Search_search_19 rfl 0 rfl ?_
      refine v_aloadn E d_Search_search_20 rfl 2 rfl ?_
      refine v_aloadn E d_Search_search_21 rfl 1 rfl ?_
      refine v_callVIp E md_Noon_homes (c_Noon_homes s0 _ h) dC_17 rfl ⟨by decide, by decide⟩ mw330 d_Search_search_22 (fun _ => rfl) (st := [.ref (adX X p2), .ref (adX X 25)]) rfl (Nat.le_of_ble_eq_true rfl) (fun r16 hr16 h => ?_)
      refine v_callVV E md_Search_begin (c_Search_begin p2 hp2 r16 hr16 s0 _ h) dC_25 rfl ⟨by decide, by decide⟩ mw331 d_Search_search_25 (fun _ => rfl) (st := []) rfl (Nat.le_of_ble_eq_true rfl) (fun s16 h => ?_)
      refine v_iconst E d_Search_search_28 ?_
      refine v_istoren E d_Search_search_29 rfl (by decide) (L' := [(3, .int (iI 0)), (0, .ref (adX X 25)), (1, .ref (adX X 17)), (2, .ref (adX X p2))]) rfl ?_
      refine v_sub [1, 2, 0] (L' := [(0, .ref (adX X 25)), (1, .ref (adX X 17)), (3, .int (iI 0))]) rfl ?_
      obtain ⟨I2, μ2, h02, h⟩ := h
      refine v_loop1 (fun (x3 : Int) => [(0, .ref (adX X 25)), (1, .ref (adX X 17)), (3, .int (iI x3))]) I2 μ2 (fun x3 s17 hI2 ih2 => ?_) 0 s16 h02
      replace h := h x3 s17 hI2
      refine v_iloadn E d_Search_search_30 rfl 2 rfl ?_
      refine v_bipush E d_Search_search_31 rfl ?_
      obtain ⟨q2, h⟩ := h
      refine v_icmp_ge E 56 d_Search_search_33 (by decide) q2 (by decide) (fun c11 => ?_) (fun c11 => ?_)
      · replace h := h.1 c11
        refine v_aloadn E d_Search_search_56 rfl 0 rfl ?_
        refine v_aloadn E d_Search_search_57 rfl 0 rfl ?_
        refine v_iloadn E d_Search_search_58 rfl 2 rfl ?_
        refine v_callVIpz E md_Search_isWholeBy (c_Search_isWholeBy x3 q2 s17 _ h) dC_25 rfl ⟨by decide, by decide⟩ mw332 d_Search_search_59 (fun _ => rfl) (st := [.ref (adX X 25)]) rfl (Nat.le_of_ble_eq_true rfl) (fun r18 hr18 hz18 h => ?_)
        refine v_if_eq E 69 d_Search_search_62 (by decide) hr18 (fun c12 => ?_) (fun c12 => ?_)
        · replace h := h.1 c12
          refine v_bipush E d_Search_search_69 rfl ?_
          refine v_putI E cf3 dC_25 9 (by decide) rfl rfl mw317 d_Search_search_71 rfl rfl rfl (by decide) ?_
          refine v_nameS (fun s18 hs18 => ?_)
          replace h := h s18 hs18
          refine v_aloadn E d_Search_search_74 rfl 0 rfl ?_
          refine v_getI E cf3 dC_25 9 (by decide) rfl mw317 d_Search_search_75 rfl ?_
          refine v_bipush E d_Search_search_78 rfl ?_
          refine v_wt (fun wt6 => ?_)
          refine v_icmp_eq E 91 d_Search_search_80 (by decide) (wt6 25 9) (by decide) (fun c13 => ?_) (fun c13 => ?_)
          · replace h := h.1 c13
            exact v_vret E hR h d_Search_search_91
          · replace h := h.2 c13
            refine v_aloadn E d_Search_search_83 rfl 0 rfl ?_
            refine v_callVV E md_Search_findHopeful (c_Search_findHopeful s18 _ h) dC_25 rfl ⟨by decide, by decide⟩ mw333 d_Search_search_84 (fun _ => rfl) (st := []) rfl (Nat.le_of_ble_eq_true rfl) (fun s19 h => ?_)
            refine v_aloadn E d_Search_search_87 rfl 0 rfl ?_
            refine v_callVV E md_Search_findRow (c_Search_findRow s19 _ h) dC_25 rfl ⟨by decide, by decide⟩ mw334 d_Search_search_88 (fun _ => rfl) (st := []) rfl (Nat.le_of_ble_eq_true rfl) (fun s20 h => ?_)
            exact v_vret E hR h d_Search_search_91
        · replace h := h.2 c12
          refine v_iloadn E d_Search_search_65 rfl 2 rfl ?_
          refine v_goto E 71 d_Search_search_66 (by decide) ?_
          refine v_putI E cf3 dC_25 9 (by decide) rfl rfl mw317 d_Search_search_71 rfl rfl rfl q2 ?_
          refine v_nameS (fun s21 hs21 => ?_)
          replace h := h s21 hs21
          refine v_aloadn E d_Search_search_74 rfl 0 rfl ?_
          refine v_getI E cf3 dC_25 9 (by decide) rfl mw317 d_Search_search_75 rfl ?_
          refine v_bipush E d_Search_search_78 rfl ?_
          refine v_wt (fun wt7 => ?_)
          refine v_icmp_eq E 91 d_Search_search_80 (by decide) (wt7 25 9) (by decide) (fun c14 => ?_) (fun c14 => ?_)
          · replace h := h.1 c14
            exact v_vret E hR h d_Search_search_91
          · replace h := h.2 c14
            refine v_aloadn E d_Search_search_83 rfl 0 rfl ?_
            refine v_callVV E md_Search_findHopeful (c_Search_findHopeful s21 _ h) dC_25 rfl ⟨by decide, by decide⟩ mw333 d_Search_search_84 (fun _ => rfl) (st := []) rfl (Nat.le_of_ble_eq_true rfl) (fun s22 h => ?_)
            refine v_aloadn E d_Search_search_87 rfl 0 rfl ?_
            refine v_callVV E md_Search_findRow (c_Search_findRow s22 _ h) dC_25 rfl ⟨by decide, by decide⟩ mw334 d_Search_search_88 (fun _ => rfl) (st := []) rfl (Nat.le_of_ble_eq_true rfl) (fun s23 h => ?_)
            exact v_vret E hR h d_Search_search_91
      · replace h := h.2 c11
        refine v_aloadn E d_Search_search_36 rfl 0 rfl ?_
        refine v_iloadn E d_Search_search_37 rfl 2 rfl ?_
        refine v_callVIpz E md_Search_isWholeBy (c_Search_isWholeBy x3 q2 s17 _ h) dC_25 rfl ⟨by decide, by decide⟩ mw332 d_Search_search_38 (fun _ => rfl) (st := []) rfl (Nat.le_of_ble_eq_true rfl) (fun r23 hr23 hz23 h => ?_)
        refine v_if_ne E 56 d_Search_search_41 (by decide) hr23 (fun c15 => ?_) (fun c15 => ?_)
        · replace h := h.1 c15
          refine v_aloadn E d_Search_search_56 rfl 0 rfl ?_
          refine v_aloadn E d_Search_search_57 rfl 0 rfl ?_
          refine v_iloadn E d_Search_search_58 rfl 2 rfl ?_
          refine v_callVIpz E md_Search_isWholeBy (c_Search_isWholeBy x3 q2 s17 _ h) dC_25 rfl ⟨by decide, by decide⟩ mw332 d_Search_search_59 (fun _ => rfl) (st := [.ref (adX X 25)]) rfl (Nat.le_of_ble_eq_true rfl) (fun r24 hr24 hz24 h => ?_)
          refine v_if_eq E 69 d_Search_search_62 (by decide) hr24 (fun c16 => ?_) (fun c16 => ?_)
          · replace h := h.1 c16
            refine v_bipush E d_Search_search_69 rfl ?_
            refine v_putI E cf3 dC_25 9 (by decide) rfl rfl mw317 d_Search_search_71 rfl rfl rfl (by decide) ?_
            refine v_nameS (fun s24 hs24 => ?_)
            replace h := h s24 hs24
            refine v_aloadn E d_Search_search_74 rfl 0 rfl ?_
            refine v_getI E cf3 dC_25 9 (by decide) rfl mw317 d_Search_search_75 rfl ?_
            refine v_bipush E d_Search_search_78 rfl ?_
            refine v_wt (fun wt8 => ?_)
            refine v_icmp_eq E 91 d_Search_search_80 (by decide) (wt8 25 9) (by decide) (fun c17 => ?_) (fun c17 => ?_)
            · replace h := h.1 c17
              exact v_vret E hR h d_Search_search_91
            · replace h := h.2 c17
              refine v_aloadn E d_Search_search_83 rfl 0 rfl ?_
              refine v_callVV E md_Search_findHopeful (c_Search_findHopeful s24 _ h) dC_25 rfl ⟨by decide, by decide⟩ mw333 d_Search_search_84 (fun _ => rfl) (st := []) rfl (Nat.le_of_ble_eq_true rfl) (fun s25 h => ?_)
              refine v_aloadn E d_Search_search_87 rfl 0 rfl ?_
              refine v_callVV E md_Search_findRow (c_Search_findRow s25 _ h) dC_25 rfl ⟨by decide, by decide⟩ mw334 d_Search_search_88 (fun _ => rfl) (st := []) rfl (Nat.le_of_ble_eq_true rfl) (fun s26 h => ?_)
              exact v_vret E hR h d_Search_search_91
          · replace h := h.2 c16
            refine v_iloadn E d_Search_search_65 rfl 2 rfl ?_
            refine v_goto E 71 d_Search_search_66 (by decide) ?_
            refine v_putI E cf3 dC_25 9 (by decide) rfl rfl mw317 d_Search_search_71 rfl rfl rfl q2 ?_
            refine v_nameS (fun s27 hs27 => ?_)
            replace h := h s27 hs27
            refine v_aloadn E d_Search_search_74 rfl 0 rfl ?_
            refine v_getI E cf3 dC_25 9 (by decide) rfl mw317 d_Search_search_75 rfl ?_
            refine v_bipush E d_Search_search_78 rfl ?_
            refine v_wt (fun wt9 => ?_)
            refine v_icmp_eq E 91 d_Search_search_80 (by decide) (wt9 25 9) (by decide) (fun c18 => ?_) (fun c18 => ?_)
            · replace h := h.1 c18
              exact v_vret E hR h d_Search_search_91
            · replace h := h.2 c18
              refine v_aloadn E d_Search_search_83 rfl 0 rfl ?_
              refine v_callVV E md_Search_findHopeful (c_Search_findHopeful s27 _ h) dC_25 rfl ⟨by decide, by decide⟩ mw333 d_Search_search_84 (fun _ => rfl) (st := []) rfl (Nat.le_of_ble_eq_true rfl) (fun s28 h => ?_)
              refine v_aloadn E d_Search_search_87 rfl 0 rfl ?_
              refine v_callVV E md_Search_findRow (c_Search_findRow s28 _ h) dC_25 rfl ⟨by decide, by decide⟩ mw334 d_Search_search_88 (fun _ => rfl) (st := []) rfl (Nat.le_of_ble_eq_true rfl) (fun s29 h => ?_)
              exact v_vret E hR h d_Search_search_91
        · replace h := h.2 c15
          refine v_aloadn E d_Search_search_44 rfl 0 rfl ?_
          refine v_aloadn E d_Search_search_45 rfl 1 rfl ?_
          refine v_iloadn E d_Search_search_46 rfl 2 rfl ?_
          refine v_callVV E md_Search_spread (c_Search_spread x3 q2 s17 _ h) dC_25 rfl ⟨by decide, by decide⟩ mw335 d_Search_search_47 (fun _ => rfl) (st := []) rfl (Nat.le_of_ble_eq_true rfl) (fun s30 h => ?_)
          refine v_iincN E d_Search_search_50 2 rfl (by decide) (fun y => [(3, .int (iI y)), (0, .ref (adX X 25)), (1, .ref (adX X 17))]) (fun _ => rfl) (fun x4 hx4 => ?_)
          replace h := h x4 hx4
          refine v_goto E 30 d_Search_search_53 (by decide) ?_
          obtain ⟨hb, hm⟩ := h
          exact v_sub [1, 2, 0] rfl (ih2 x4 s30 hb hm)
    · replace h := h.2 c10
      exact v_vret E hR h d_Search_search_18
theorem d_B_each_0 : decode prog_1_method_18_code 0 = .ok (.iload_n 1, 1) := by decide +kernel
theorem d_B_each_1 : decode prog_1_method_18_code 1 = .ok (.ifCond .lt 9, 3) := by decide +kernel
theorem d_B_each_4 : decode prog_1_method_18_code 4 = .ok (.iload_n 1, 1) := by decide +kernel
theorem d_B_each_5 : decode prog_1_method_18_code 5 = .ok (.bipush 28, 2) := by decide +kernel
theorem d_B_each_7 : decode prog_1_method_18_code 7 = .ok (.if_icmp .le 5, 3) := by decide +kernel
theorem d_B_each_10 : decode prog_1_method_18_code 10 = .ok (.iconst (-1), 1) := by decide +kernel
theorem d_B_each_11 : decode prog_1_method_18_code 11 = .ok (.ireturn, 1) := by decide +kernel
theorem d_B_each_12 : decode prog_1_method_18_code 12 = .ok (.aload_n 0, 1) := by decide +kernel
theorem d_B_each_13 : decode prog_1_method_18_code 13 = .ok (.getfield 67, 3) := by decide +kernel
theorem d_B_each_16 : decode prog_1_method_18_code 16 = .ok (.aload_n 0, 1) := by decide +kernel
theorem d_B_each_17 : decode prog_1_method_18_code 17 = .ok (.getfield 38, 3) := by decide +kernel
theorem d_B_each_20 : decode prog_1_method_18_code 20 = .ok (.aload_n 0, 1) := by decide +kernel
theorem d_B_each_21 : decode prog_1_method_18_code 21 = .ok (.getfield 45, 3) := by decide +kernel
theorem d_B_each_24 : decode prog_1_method_18_code 24 = .ok (.invokevirtual 198, 3) := by decide +kernel
theorem d_B_each_27 : decode prog_1_method_18_code 27 = .ok (.iload_n 1, 1) := by decide +kernel
theorem d_B_each_28 : decode prog_1_method_18_code 28 = .ok (.ifCond .ne 11, 3) := by decide +kernel
theorem d_B_each_31 : decode prog_1_method_18_code 31 = .ok (.aload_n 0, 1) := by decide +kernel
theorem d_B_each_32 : decode prog_1_method_18_code 32 = .ok (.getfield 67, 3) := by decide +kernel
theorem d_B_each_35 : decode prog_1_method_18_code 35 = .ok (.getfield 201, 3) := by decide +kernel
theorem d_B_each_38 : decode prog_1_method_18_code 38 = .ok (.ireturn, 1) := by decide +kernel
theorem d_B_each_39 : decode prog_1_method_18_code 39 = .ok (.iload_n 1, 1) := by decide +kernel
theorem d_B_each_40 : decode prog_1_method_18_code 40 = .ok (.aload_n 0, 1) := by decide +kernel
theorem d_B_each_41 : decode prog_1_method_18_code 41 = .ok (.getfield 67, 3) := by decide +kernel
theorem d_B_each_44 : decode prog_1_method_18_code 44 = .ok (.getfield 201, 3) := by decide +kernel
theorem d_B_each_47 : decode prog_1_method_18_code 47 = .ok (.if_icmp .gt 17, 3) := by decide +kernel
theorem d_B_each_50 : decode prog_1_method_18_code 50 = .ok (.aload_n 0, 1) := by decide +kernel
theorem d_B_each_51 : decode prog_1_method_18_code 51 = .ok (.getfield 67, 3) := by decide +kernel
theorem d_B_each_54 : decode prog_1_method_18_code 54 = .ok (.getfield 204, 3) := by decide +kernel
theorem d_B_each_57 : decode prog_1_method_18_code 57 = .ok (.iload_n 1, 1) := by decide +kernel
theorem d_B_each_58 : decode prog_1_method_18_code 58 = .ok (.iconst 1, 1) := by decide +kernel
theorem d_B_each_59 : decode prog_1_method_18_code 59 = .ok (.isub, 1) := by decide +kernel
theorem d_B_each_60 : decode prog_1_method_18_code 60 = .ok (.iaload, 1) := by decide +kernel
theorem d_B_each_61 : decode prog_1_method_18_code 61 = .ok (.goto 5, 3) := by decide +kernel
theorem d_B_each_64 : decode prog_1_method_18_code 64 = .ok (.bipush (-4), 2) := by decide +kernel
theorem d_B_each_66 : decode prog_1_method_18_code 66 = .ok (.ireturn, 1) := by decide +kernel
set_option maxHeartbeats 4000000 in
set_option maxRecDepth 20000 in
theorem c_B_each (p1 : Int) (hp1 : Rng p1) (s0 : MS) (Q : Int → MS → Prop) (h : wp_B_each p1 s0 Q) : MT dscC ⟨"BellSchool", "each", "(I)I"⟩ prog_1_method_18_code 2 (some .int) 6 (fun ad => [.ref (ad 0), .int (iI p1)]) s0 (po_I dscC Q) := by
  refine met_of (by decide) (fun _ => Nat.le_of_ble_eq_true rfl) (fun X E hR => ?_)
  replace E : EV dscC X prog_1_method_18_code "BellSchool" 2 6 := E
  show VV dscC X 0 [(0, .ref (adX X 0)), (1, .int (iI p1))] [] s0
  unfold wp_B_each at h
  refine v_iloadn E d_B_each_0 rfl 1 rfl ?_
  refine v_if_lt E 10 d_B_each_1 (by decide) hp1 (fun c1 => ?_) (fun c1 => ?_)
  · replace h := h.1 c1
    refine v_iconst E d_B_each_10 ?_
    exact v_iret E hR rfl (by decide) h d_B_each_11
  · replace h := h.2 c1
    refine v_iloadn E d_B_each_4 rfl 1 rfl ?_
    refine v_bipush E d_B_each_5 rfl ?_
    refine v_icmp_le E 12 d_B_each_7 (by decide) hp1 (by decide) (fun c2 => ?_) (fun c2 => ?_)
    · replace h := h.1 c2
      refine v_aloadn E d_B_each_12 rfl 0 rfl ?_
      refine v_getA E cf8 dC_0 9 (by decide) rfl mw121 d_B_each_13 rfl ?_
      refine v_aloadn E d_B_each_16 rfl 0 rfl ?_
      refine v_getA E cf8 dC_0 4 (by decide) rfl mw119 d_B_each_17 rfl ?_
      refine v_aloadn E d_B_each_20 rfl 0 rfl ?_
      refine v_getA E cf8 dC_0 5 (by decide) rfl mw123 d_B_each_21 rfl ?_
      refine v_callVV E md_Search_search (c_Search_search 36 dC_36 s0 _ h) dC_25 rfl ⟨by decide, by decide⟩ mw340 d_B_each_24 (fun _ => rfl) (st := []) rfl (Nat.le_of_ble_eq_true rfl) (fun s1 h => ?_)
      refine v_iloadn E d_B_each_27 rfl 1 rfl ?_
      refine v_if_ne E 39 d_B_each_28 (by decide) hp1 (fun c3 => ?_) (fun c3 => ?_)
      · replace h := h.1 c3
        refine v_iloadn E d_B_each_39 rfl 1 rfl ?_
        refine v_aloadn E d_B_each_40 rfl 0 rfl ?_
        refine v_getA E cf8 dC_0 9 (by decide) rfl mw121 d_B_each_41 rfl ?_
        refine v_getI E cf3 dC_25 9 (by decide) rfl mw341 d_B_each_44 rfl ?_
        refine v_wt (fun wt1 => ?_)
        refine v_icmp_gt E 64 d_B_each_47 (by decide) hp1 (wt1 25 9) (fun c4 => ?_) (fun c4 => ?_)
        · replace h := h.1 c4
          refine v_bipush E d_B_each_64 rfl ?_
          exact v_iret E hR rfl (by decide) h d_B_each_66
        · replace h := h.2 c4
          refine v_aloadn E d_B_each_50 rfl 0 rfl ?_
          refine v_getA E cf8 dC_0 9 (by decide) rfl mw121 d_B_each_51 rfl ?_
          refine v_getA E cf3 dC_25 8 (by decide) rfl mw342 d_B_each_54 rfl ?_
          refine v_iloadn E d_B_each_57 rfl 1 rfl ?_
          refine v_iconst E d_B_each_58 ?_
          refine v_isub E d_B_each_59 ?_
          obtain ⟨q1, h⟩ := h
          refine v_iald E dC_30 (by decide) q1.1 q1.2 d_B_each_60 ?_
          refine v_goto E 66 d_B_each_61 (by decide) ?_
          exact v_iret E hR rfl (wt1 30 (p1 - 1)) h d_B_each_66
      · replace h := h.2 c3
        refine v_aloadn E d_B_each_31 rfl 0 rfl ?_
        refine v_getA E cf8 dC_0 9 (by decide) rfl mw121 d_B_each_32 rfl ?_
        refine v_getI E cf3 dC_25 9 (by decide) rfl mw341 d_B_each_35 rfl ?_
        refine v_wt (fun wt2 => ?_)
        exact v_iret E hR rfl (wt2 25 9) h d_B_each_38
    · replace h := h.2 c2
      refine v_iconst E d_B_each_10 ?_
      exact v_iret E hR rfl (by decide) h d_B_each_11
theorem d_B_allBits_0 : decode prog_1_method_32_code 0 = .ok (.iconst 1, 1) := by decide +kernel
theorem d_B_allBits_1 : decode prog_1_method_32_code 1 = .ok (.aload_n 0, 1) := by decide +kernel
theorem d_B_allBits_2 : decode prog_1_method_32_code 2 = .ok (.getfield 10, 3) := by decide +kernel
theorem d_B_allBits_5 : decode prog_1_method_32_code 5 = .ok (.getfield 115, 3) := by decide +kernel
theorem d_B_allBits_8 : decode prog_1_method_32_code 8 = .ok (.ishl, 1) := by decide +kernel
theorem d_B_allBits_9 : decode prog_1_method_32_code 9 = .ok (.iconst 1, 1) := by decide +kernel
theorem d_B_allBits_10 : decode prog_1_method_32_code 10 = .ok (.isub, 1) := by decide +kernel
theorem d_B_allBits_11 : decode prog_1_method_32_code 11 = .ok (.ireturn, 1) := by decide +kernel
set_option maxHeartbeats 4000000 in
set_option maxRecDepth 20000 in
theorem c_B_allBits (s0 : MS) (Q : Int → Prop) (h : wp_B_allBits s0 Q) : MT dscC ⟨"BellSchool", "allBits", "()I"⟩ prog_1_method_32_code 1 (some .int) 0 (fun ad => [.ref (ad 0)]) s0 (po_I dscC (fun r z => z = s0 ∧ Q r)) := by
  refine met_of (by decide) (fun _ => Nat.le_of_ble_eq_true rfl) (fun X E hR => ?_)
  replace E : EV dscC X prog_1_method_32_code "BellSchool" 1 0 := E
  show VV dscC X 0 [(0, .ref (adX X 0))] [] s0
  unfold wp_B_allBits at h
  refine v_iconst E d_B_allBits_0 ?_
  refine v_aloadn E d_B_allBits_1 rfl 0 rfl ?_
  refine v_getR E cf8 dC_0 0 (by decide) rfl mw118 d_B_allBits_2 rfl (fun hv1 => ?_)
  refine v_getI E cf7 hv1 5 (by decide) rfl mw133 d_B_allBits_5 rfl ?_
  refine v_ishl E d_B_allBits_8 ?_
  refine v_iconst E d_B_allBits_9 ?_
  refine v_isub E d_B_allBits_10 ?_
  obtain ⟨q1, h⟩ := h
  exact v_iret E hR rfl q1 ⟨rfl, h⟩ d_B_allBits_11
theorem d_B_always_0 : decode prog_1_method_19_code 0 = .ok (.aload_n 0, 1) := by decide +kernel
theorem d_B_always_1 : decode prog_1_method_19_code 1 = .ok (.invokevirtual 207, 3) := by decide +kernel
theorem d_B_always_4 : decode prog_1_method_19_code 4 = .ok (.istore_n 1, 1) := by decide +kernel
theorem d_B_always_5 : decode prog_1_method_19_code 5 = .ok (.aload_n 0, 1) := by decide +kernel
theorem d_B_always_6 : decode prog_1_method_19_code 6 = .ok (.getfield 49, 3) := by decide +kernel
theorem d_B_always_9 : decode prog_1_method_19_code 9 = .ok (.aload_n 0, 1) := by decide +kernel
theorem d_B_always_10 : decode prog_1_method_19_code 10 = .ok (.getfield 45, 3) := by decide +kernel
theorem d_B_always_13 : decode prog_1_method_19_code 13 = .ok (.invokevirtual 193, 3) := by decide +kernel
theorem d_B_always_16 : decode prog_1_method_19_code 16 = .ok (.iconst 0, 1) := by decide +kernel
theorem d_B_always_17 : decode prog_1_method_19_code 17 = .ok (.istore_n 2, 1) := by decide +kernel
theorem d_B_always_18 : decode prog_1_method_19_code 18 = .ok (.iload_n 2, 1) := by decide +kernel
theorem d_B_always_19 : decode prog_1_method_19_code 19 = .ok (.aload_n 0, 1) := by decide +kernel
theorem d_B_always_20 : decode prog_1_method_19_code 20 = .ok (.getfield 10, 3) := by decide +kernel
theorem d_B_always_23 : decode prog_1_method_19_code 23 = .ok (.getfield 115, 3) := by decide +kernel
theorem d_B_always_26 : decode prog_1_method_19_code 26 = .ok (.if_icmp .ge 56, 3) := by decide +kernel
theorem d_B_always_29 : decode prog_1_method_19_code 29 = .ok (.aload_n 0, 1) := by decide +kernel
theorem d_B_always_30 : decode prog_1_method_19_code 30 = .ok (.getfield 49, 3) := by decide +kernel
theorem d_B_always_33 : decode prog_1_method_19_code 33 = .ok (.iload_n 2, 1) := by decide +kernel
theorem d_B_always_34 : decode prog_1_method_19_code 34 = .ok (.putfield 128, 3) := by decide +kernel
theorem d_B_always_37 : decode prog_1_method_19_code 37 = .ok (.aload_n 0, 1) := by decide +kernel
theorem d_B_always_38 : decode prog_1_method_19_code 38 = .ok (.getfield 38, 3) := by decide +kernel
theorem d_B_always_41 : decode prog_1_method_19_code 41 = .ok (.aload_n 0, 1) := by decide +kernel
theorem d_B_always_42 : decode prog_1_method_19_code 42 = .ok (.getfield 49, 3) := by decide +kernel
theorem d_B_always_45 : decode prog_1_method_19_code 45 = .ok (.invokevirtual 169, 3) := by decide +kernel
theorem d_B_always_48 : decode prog_1_method_19_code 48 = .ok (.iload_n 1, 1) := by decide +kernel
theorem d_B_always_49 : decode prog_1_method_19_code 49 = .ok (.aload_n 0, 1) := by decide +kernel
theorem d_B_always_50 : decode prog_1_method_19_code 50 = .ok (.getfield 38, 3) := by decide +kernel
theorem d_B_always_53 : decode prog_1_method_19_code 53 = .ok (.getfield 176, 3) := by decide +kernel
theorem d_B_always_56 : decode prog_1_method_19_code 56 = .ok (.bipush (-4), 2) := by decide +kernel
theorem d_B_always_58 : decode prog_1_method_19_code 58 = .ok (.if_icmp .ne 7, 3) := by decide +kernel
theorem d_B_always_61 : decode prog_1_method_19_code 61 = .ok (.iconst 0, 1) := by decide +kernel
theorem d_B_always_62 : decode prog_1_method_19_code 62 = .ok (.goto 12, 3) := by decide +kernel
theorem d_B_always_65 : decode prog_1_method_19_code 65 = .ok (.iconst 1, 1) := by decide +kernel
theorem d_B_always_66 : decode prog_1_method_19_code 66 = .ok (.aload_n 0, 1) := by decide +kernel
theorem d_B_always_67 : decode prog_1_method_19_code 67 = .ok (.getfield 38, 3) := by decide +kernel
theorem d_B_always_70 : decode prog_1_method_19_code 70 = .ok (.getfield 176, 3) := by decide +kernel
theorem d_B_always_73 : decode prog_1_method_19_code 73 = .ok (.ishl, 1) := by decide +kernel
theorem d_B_always_74 : decode prog_1_method_19_code 74 = .ok (.iand, 1) := by decide +kernel
theorem d_B_always_75 : decode prog_1_method_19_code 75 = .ok (.istore_n 1, 1) := by decide +kernel
theorem d_B_always_76 : decode prog_1_method_19_code 76 = .ok (.iinc 2 1, 3) := by decide +kernel
theorem d_B_always_79 : decode prog_1_method_19_code 79 = .ok (.goto (-61), 3) := by decide +kernel
theorem d_B_always_82 : decode prog_1_method_19_code 82 = .ok (.iload_n 1, 1) := by decide +kernel
theorem d_B_always_83 : decode prog_1_method_19_code 83 = .ok (.ireturn, 1) := by decide +kernel
set_option maxHeartbeats 4000000 in
set_option maxRecDepth 20000 in
theorem c_B_always (s0 : MS) (Q : Int → MS → Prop) (h : wp_B_always s0 Q) : MT dscC ⟨"BellSchool", "always", "()I"⟩ prog_1_method_19_code 3 (some .int) 4 (fun ad => [.ref (ad 0)]) s0 (po_I dscC Q) := by
  refine met_of (by decide) (fun _ => Nat.le_of_ble_eq_true rfl) (fun X E hR => ?_)
  replace E : EV dscC X prog_1_method_19_code "BellSchool" 3 4 := E
  show VV dscC X 0 [(0, .ref (adX X 0))] [] s0
  unfold wp_B_always at h
  refine v_aloadn E d_B_always_0 rfl 0 rfl ?_
  refine v_callVIp E md_B_allBits (c_B_allBits s0 _ h) dC_0 rfl ⟨by decide, by decide⟩ mw349 d_B_always_1 (fun _ => rfl) (st := []) rfl (Nat.le_of_ble_eq_true rfl) (fun r1 hr1 h => ?_)
  refine v_istoren E d_B_always_4 rfl (by decide) (L' := [(1, .int (iI r1)), (0, .ref (adX X 0))]) rfl ?_
  refine v_aloadn E d_B_always_5 rfl 1 rfl ?_
  refine v_getA E cf8 dC_0 6 (by decide) rfl mw255 d_B_always_6 rfl ?_
  refine v_aloadn E d_B_always_9 rfl 1 rfl ?_
  refine v_getA E cf8 dC_0 5 (by decide) rfl mw123 d_B_always_10 rfl ?_
  refine v_callVV E md_Standing_copy (c_Standing_copy 38 dC_38 36 dC_36 s0 _ h) dC_38 rfl ⟨by decide, by decide⟩ mw256 d_B_always_13 (fun _ => rfl) (st := []) rfl (Nat.le_of_ble_eq_true rfl) (fun s1 h => ?_)
  refine v_iconst E d_B_always_16 ?_
  refine v_istoren E d_B_always_17 rfl (by decide) (L' := [(2, .int (iI 0)), (1, .int (iI r1)), (0, .ref (adX X 0))]) rfl ?_
  refine v_sub [2, 1, 0] (L' := [(0, .ref (adX X 0)), (1, .int (iI r1)), (2, .int (iI 0))]) rfl ?_
  obtain ⟨I1, μ1, h01, h⟩ := h
  refine v_loop2 (fun (x1 : Int) (x2 : Int) => [(0, .ref (adX X 0)), (1, .int (iI x1)), (2, .int (iI x2))]) I1 μ1 (fun x1 x2 s2 hI1 ih1 => ?_) r1 0 s1 h01
  replace h := h x1 x2 s2 hI1
  refine v_iloadn E d_B_always_18 rfl 2 rfl ?_
  refine v_aloadn E d_B_always_19 rfl 0 rfl ?_
  refine v_getR E cf8 dC_0 0 (by decide) rfl mw118 d_B_always_20 rfl (fun hv1 => ?_)
  refine v_getI E cf7 hv1 5 (by decide) rfl mw133 d_B_always_23 rfl ?_
  obtain ⟨q1, h⟩ := h
  refine v_wt (fun wt1 => ?_)
  refine v_icmp_ge E 82 d_B_always_26 (by decide) q1 (wt1 (gR s2 0 0) 5) (fun c1 => ?_) (fun c1 => ?_)
  · replace h := h.1 c1
    refine v_iloadn E d_B_always_82 rfl 1 rfl ?_
    obtain ⟨q2, h⟩ := h
    exact v_iret E hR rfl q2 h d_B_always_83
  · replace h := h.2 c1
    refine v_aloadn E d_B_always_29 rfl 0 rfl ?_
    refine v_getA E cf8 dC_0 6 (by decide) rfl mw255 d_B_always_30 rfl ?_
    refine v_iloadn E d_B_always_33 rfl 2 rfl ?_
    refine v_putI E cf5 dC_38 2 (by decide) rfl rfl mw139 d_B_always_34 rfl rfl rfl q1 ?_
    refine v_nameS (fun s3 hs3 => ?_)
    replace h := h s3 hs3
    refine v_aloadn E d_B_always_37 rfl 0 rfl ?_
    refine v_getA E cf8 dC_0 4 (by decide) rfl mw119 d_B_always_38 rfl ?_
    refine v_aloadn E d_B_always_41 rfl 0 rfl ?_
    refine v_getA E cf8 dC_0 6 (by decide) rfl mw255 d_B_always_42 rfl ?_
    refine v_callVV E md_Noon_gather (c_Noon_gather 38 dC_38 s3 _ h) dC_17 rfl ⟨by decide, by decide⟩ mw201 d_B_always_45 (fun _ => rfl) (st := []) rfl (Nat.le_of_ble_eq_true rfl) (fun s4 h => ?_)
    refine v_iloadn E d_B_always_48 rfl 1 rfl ?_
    refine v_aloadn E d_B_always_49 rfl 0 rfl ?_
    refine v_getA E cf8 dC_0 4 (by decide) rfl mw119 d_B_always_50 rfl ?_
    refine v_getI E cf1 dC_17 4 (by decide) rfl mw206 d_B_always_53 rfl ?_
    refine v_bipush E d_B_always_56 rfl ?_
    refine v_wt (fun wt2 => ?_)
    refine v_icmp_ne E 65 d_B_always_58 (by decide) (wt2 17 4) (by decide) (fun c2 => ?_) (fun c2 => ?_)
    · replace h := h.1 c2
      refine v_iconst E d_B_always_65 ?_
      refine v_aloadn E d_B_always_66 rfl 0 rfl ?_
      refine v_getA E cf8 dC_0 4 (by decide) rfl mw119 d_B_always_67 rfl ?_
      refine v_getI E cf1 dC_17 4 (by decide) rfl mw206 d_B_always_70 rfl ?_
      refine v_ishl E d_B_always_73 ?_
      refine v_iand E d_B_always_74 ?_
      refine v_nameI (fun x3 hx3 => ?_)
      replace h := h x3 hx3
      refine v_istoren E d_B_always_75 rfl (by decide) (L' := [(1, .int (iI x3)), (0, .ref (adX X 0)), (2, .int (iI x2))]) rfl ?_
      refine v_iincN E d_B_always_76 2 rfl (by decide) (fun y => [(2, .int (iI y)), (1, .int (iI x3)), (0, .ref (adX X 0))]) (fun _ => rfl) (fun x4 hx4 => ?_)
      replace h := h x4 hx4
      refine v_goto E 18 d_B_always_79 (by decide) ?_
      obtain ⟨hb, hm⟩ := h
      exact v_sub [2, 1, 0] rfl (ih1 x3 x4 s4 hb hm)
    · replace h := h.2 c2
      refine v_iconst E d_B_always_61 ?_
      refine v_goto E 74 d_B_always_62 (by decide) ?_
      refine v_iand E d_B_always_74 ?_
      refine v_nameI (fun x5 hx5 => ?_)
      replace h := h x5 hx5
      refine v_istoren E d_B_always_75 rfl (by decide) (L' := [(1, .int (iI x5)), (0, .ref (adX X 0)), (2, .int (iI x2))]) rfl ?_
      refine v_iincN E d_B_always_76 2 rfl (by decide) (fun y => [(2, .int (iI y)), (1, .int (iI x5)), (0, .ref (adX X 0))]) (fun _ => rfl) (fun x6 hx6 => ?_)
      replace h := h x6 hx6
      refine v_goto E 18 d_B_always_79 (by decide) ?_
      obtain ⟨hb, hm⟩ := h
      exact v_sub [2, 1, 0] rfl (ih1 x5 x6 s4 hb hm)
theorem d_B_never_0 : decode prog_1_method_20_code 0 = .ok (.aload_n 0, 1) := by decide +kernel
theorem d_B_never_1 : decode prog_1_method_20_code 1 = .ok (.invokevirtual 207, 3) := by decide +kernel
theorem d_B_never_4 : decode prog_1_method_20_code 4 = .ok (.iconst 1, 1) := by decide +kernel
theorem d_B_never_5 : decode prog_1_method_20_code 5 = .ok (.aload_n 0, 1) := by decide +kernel
theorem d_B_never_6 : decode prog_1_method_20_code 6 = .ok (.getfield 45, 3) := by decide +kernel
theorem d_B_never_9 : decode prog_1_method_20_code 9 = .ok (.getfield 128, 3) := by decide +kernel
theorem d_B_never_12 : decode prog_1_method_20_code 12 = .ok (.ishl, 1) := by decide +kernel
theorem d_B_never_13 : decode prog_1_method_20_code 13 = .ok (.iconst (-1), 1) := by decide +kernel
theorem d_B_never_14 : decode prog_1_method_20_code 14 = .ok (.ixor, 1) := by decide +kernel
theorem d_B_never_15 : decode prog_1_method_20_code 15 = .ok (.iand, 1) := by decide +kernel
theorem d_B_never_16 : decode prog_1_method_20_code 16 = .ok (.istore_n 1, 1) := by decide +kernel
theorem d_B_never_17 : decode prog_1_method_20_code 17 = .ok (.aload_n 0, 1) := by decide +kernel
theorem d_B_never_18 : decode prog_1_method_20_code 18 = .ok (.getfield 49, 3) := by decide +kernel
theorem d_B_never_21 : decode prog_1_method_20_code 21 = .ok (.aload_n 0, 1) := by decide +kernel
theorem d_B_never_22 : decode prog_1_method_20_code 22 = .ok (.getfield 45, 3) := by decide +kernel
theorem d_B_never_25 : decode prog_1_method_20_code 25 = .ok (.invokevirtual 193, 3) := by decide +kernel
theorem d_B_never_28 : decode prog_1_method_20_code 28 = .ok (.iconst 1, 1) := by decide +kernel
theorem d_B_never_29 : decode prog_1_method_20_code 29 = .ok (.istore_n 2, 1) := by decide +kernel
theorem d_B_never_30 : decode prog_1_method_20_code 30 = .ok (.iload_n 2, 1) := by decide +kernel
theorem d_B_never_31 : decode prog_1_method_20_code 31 = .ok (.bipush 56, 2) := by decide +kernel
theorem d_B_never_33 : decode prog_1_method_20_code 33 = .ok (.if_icmp .gt 34, 3) := by decide +kernel
theorem d_B_never_36 : decode prog_1_method_20_code 36 = .ok (.aload_n 0, 1) := by decide +kernel
theorem d_B_never_37 : decode prog_1_method_20_code 37 = .ok (.getfield 38, 3) := by decide +kernel
theorem d_B_never_40 : decode prog_1_method_20_code 40 = .ok (.aload_n 0, 1) := by decide +kernel
theorem d_B_never_41 : decode prog_1_method_20_code 41 = .ok (.getfield 49, 3) := by decide +kernel
theorem d_B_never_44 : decode prog_1_method_20_code 44 = .ok (.invokevirtual 196, 3) := by decide +kernel
theorem d_B_never_47 : decode prog_1_method_20_code 47 = .ok (.iload_n 1, 1) := by decide +kernel
theorem d_B_never_48 : decode prog_1_method_20_code 48 = .ok (.iconst 1, 1) := by decide +kernel
theorem d_B_never_49 : decode prog_1_method_20_code 49 = .ok (.aload_n 0, 1) := by decide +kernel
theorem d_B_never_50 : decode prog_1_method_20_code 50 = .ok (.getfield 49, 3) := by decide +kernel
theorem d_B_never_53 : decode prog_1_method_20_code 53 = .ok (.getfield 128, 3) := by decide +kernel
theorem d_B_never_56 : decode prog_1_method_20_code 56 = .ok (.ishl, 1) := by decide +kernel
theorem d_B_never_57 : decode prog_1_method_20_code 57 = .ok (.iconst (-1), 1) := by decide +kernel
theorem d_B_never_58 : decode prog_1_method_20_code 58 = .ok (.ixor, 1) := by decide +kernel
theorem d_B_never_59 : decode prog_1_method_20_code 59 = .ok (.iand, 1) := by decide +kernel
theorem d_B_never_60 : decode prog_1_method_20_code 60 = .ok (.istore_n 1, 1) := by decide +kernel
theorem d_B_never_61 : decode prog_1_method_20_code 61 = .ok (.iinc 2 1, 3) := by decide +kernel
theorem d_B_never_64 : decode prog_1_method_20_code 64 = .ok (.goto (-34), 3) := by decide +kernel
theorem d_B_never_67 : decode prog_1_method_20_code 67 = .ok (.iload_n 1, 1) := by decide +kernel
theorem d_B_never_68 : decode prog_1_method_20_code 68 = .ok (.ireturn, 1) := by decide +kernel
set_option maxHeartbeats 4000000 in
set_option maxRecDepth 20000 in
theorem c_B_never (s0 : MS) (Q : Int → MS → Prop) (h : wp_B_never s0 Q) : MT dscC ⟨"BellSchool", "never", "()I"⟩ prog_1_method_20_code 3 (some .int) 5 (fun ad => [.ref (ad 0)]) s0 (po_I dscC Q) := by
  refine met_of (by decide) (fun _ => Nat.le_of_ble_eq_true rfl) (fun X E hR => ?_)
  replace E : EV dscC X prog_1_method_20_code "BellSchool" 3 5 := E
  show VV dscC X 0 [(0, .ref (adX X 0))] [] s0
  unfold wp_B_never at h
  refine v_aloadn E d_B_never_0 rfl 0 rfl ?_
  refine v_callVIp E md_B_allBits (c_B_allBits s0 _ h) dC_0 rfl ⟨by decide, by decide⟩ mw349 d_B_never_1 (fun _ => rfl) (st := []) rfl (Nat.le_of_ble_eq_true rfl) (fun r1 hr1 h => ?_)
  refine v_iconst E d_B_never_4 ?_
  refine v_aloadn E d_B_never_5 rfl 0 rfl ?_
  refine v_getA E cf8 dC_0 5 (by decide) rfl mw123 d_B_never_6 rfl ?_
  refine v_getI E cf5 dC_36 2 (by decide) rfl mw139 d_B_never_9 rfl ?_
  refine v_ishl E d_B_never_12 ?_
  refine v_iconst E d_B_never_13 ?_
  refine v_ixor E d_B_never_14 ?_
  refine v_iand E d_B_never_15 ?_
  refine v_nameI (fun x1 hx1 => ?_)
  replace h := h x1 hx1
  refine v_istoren E d_B_never_16 rfl (by decide) (L' := [(1, .int (iI x1)), (0, .ref (adX X 0))]) rfl ?_
  refine v_aloadn E d_B_never_17 rfl 1 rfl ?_
  refine v_getA E cf8 dC_0 6 (by decide) rfl mw255 d_B_never_18 rfl ?_
  refine v_aloadn E d_B_never_21 rfl 1 rfl ?_
  refine v_getA E cf8 dC_0 5 (by decide) rfl mw123 d_B_never_22 rfl ?_
  refine v_callVV E md_Standing_copy (c_Standing_copy 38 dC_38 36 dC_36 s0 _ h) dC_38 rfl ⟨by decide, by decide⟩ mw256 d_B_never_25 (fun _ => rfl) (st := []) rfl (Nat.le_of_ble_eq_true rfl) (fun s1 h => ?_)
  refine v_iconst E d_B_never_28 ?_
  refine v_istoren E d_B_never_29 rfl (by decide) (L' := [(2, .int (iI 1)), (1, .int (iI x1)), (0, .ref (adX X 0))]) rfl ?_
  refine v_sub [2, 1, 0] (L' := [(0, .ref (adX X 0)), (1, .int (iI x1)), (2, .int (iI 1))]) rfl ?_
  obtain ⟨I1, μ1, h01, h⟩ := h
  refine v_loop2 (fun (x2 : Int) (x3 : Int) => [(0, .ref (adX X 0)), (1, .int (iI x2)), (2, .int (iI x3))]) I1 μ1 (fun x2 x3 s2 hI1 ih1 => ?_) x1 1 s1 h01
  replace h := h x2 x3 s2 hI1
  refine v_iloadn E d_B_never_30 rfl 2 rfl ?_
  refine v_bipush E d_B_never_31 rfl ?_
  obtain ⟨q1, h⟩ := h
  refine v_icmp_gt E 67 d_B_never_33 (by decide) q1 (by decide) (fun c1 => ?_) (fun c1 => ?_)
  · replace h := h.1 c1
    refine v_iloadn E d_B_never_67 rfl 1 rfl ?_
    obtain ⟨q2, h⟩ := h
    exact v_iret E hR rfl q2 h d_B_never_68
  · replace h := h.2 c1
    refine v_aloadn E d_B_never_36 rfl 0 rfl ?_
    refine v_getA E cf8 dC_0 4 (by decide) rfl mw119 d_B_never_37 rfl ?_
    refine v_aloadn E d_B_never_40 rfl 0 rfl ?_
    refine v_getA E cf8 dC_0 6 (by decide) rfl mw255 d_B_never_41 rfl ?_
    refine v_callVV E md_Noon_goBy (c_Noon_goBy 38 dC_38 s2 _ h) dC_17 rfl ⟨by decide, by decide⟩ mw230 d_B_never_44 (fun _ => rfl) (st := []) rfl (Nat.le_of_ble_eq_true rfl) (fun s3 h => ?_)
    refine v_iloadn E d_B_never_47 rfl 1 rfl ?_
    refine v_iconst E d_B_never_48 ?_
    refine v_aloadn E d_B_never_49 rfl 0 rfl ?_
    refine v_getA E cf8 dC_0 6 (by decide) rfl mw255 d_B_never_50 rfl ?_
    refine v_getI E cf5 dC_38 2 (by decide) rfl mw139 d_B_never_53 rfl ?_
    refine v_ishl E d_B_never_56 ?_
    refine v_iconst E d_B_never_57 ?_
    refine v_ixor E d_B_never_58 ?_
    refine v_iand E d_B_never_59 ?_
    refine v_nameI (fun x4 hx4 => ?_)
    replace h := h x4 hx4
    refine v_istoren E d_B_never_60 rfl (by decide) (L' := [(1, .int (iI x4)), (0, .ref (adX X 0)), (2, .int (iI x3))]) rfl ?_
    refine v_iincN E d_B_never_61 2 rfl (by decide) (fun y => [(2, .int (iI y)), (1, .int (iI x4)), (0, .ref (adX X 0))]) (fun _ => rfl) (fun x5 hx5 => ?_)
    replace h := h x5 hx5
    refine v_goto E 30 d_B_never_64 (by decide) ?_
    obtain ⟨hb, hm⟩ := h
    exact v_sub [2, 1, 0] rfl (ih1 x4 x5 s3 hb hm)
theorem d_B_see_0 : decode prog_1_method_21_code 0 = .ok (.aload_n 0, 1) := by decide +kernel
theorem d_B_see_1 : decode prog_1_method_21_code 1 = .ok (.getfield 10, 3) := by decide +kernel
theorem d_B_see_4 : decode prog_1_method_21_code 4 = .ok (.iload_n 1, 1) := by decide +kernel
theorem d_B_see_5 : decode prog_1_method_21_code 5 = .ok (.invokevirtual 118, 3) := by decide +kernel
theorem d_B_see_8 : decode prog_1_method_21_code 8 = .ok (.ifCond .eq 14, 3) := by decide +kernel
theorem d_B_see_11 : decode prog_1_method_21_code 11 = .ok (.iload_n 2, 1) := by decide +kernel
theorem d_B_see_12 : decode prog_1_method_21_code 12 = .ok (.iconst 1, 1) := by decide +kernel
theorem d_B_see_13 : decode prog_1_method_21_code 13 = .ok (.if_icmp .lt 9, 3) := by decide +kernel
theorem d_B_see_16 : decode prog_1_method_21_code 16 = .ok (.iload_n 2, 1) := by decide +kernel
theorem d_B_see_17 : decode prog_1_method_21_code 17 = .ok (.bipush 28, 2) := by decide +kernel
theorem d_B_see_19 : decode prog_1_method_21_code 19 = .ok (.if_icmp .le 5, 3) := by decide +kernel
theorem d_B_see_22 : decode prog_1_method_21_code 22 = .ok (.iconst (-1), 1) := by decide +kernel
theorem d_B_see_23 : decode prog_1_method_21_code 23 = .ok (.ireturn, 1) := by decide +kernel
theorem d_B_see_24 : decode prog_1_method_21_code 24 = .ok (.aload_n 0, 1) := by decide +kernel
theorem d_B_see_25 : decode prog_1_method_21_code 25 = .ok (.getfield 85, 3) := by decide +kernel
theorem d_B_see_28 : decode prog_1_method_21_code 28 = .ok (.bipush 6, 2) := by decide +kernel
theorem d_B_see_30 : decode prog_1_method_21_code 30 = .ok (.if_icmp .lt 6, 3) := by decide +kernel
theorem d_B_see_33 : decode prog_1_method_21_code 33 = .ok (.bipush (-3), 2) := by decide +kernel
theorem d_B_see_35 : decode prog_1_method_21_code 35 = .ok (.ireturn, 1) := by decide +kernel
theorem d_B_see_36 : decode prog_1_method_21_code 36 = .ok (.aload_n 0, 1) := by decide +kernel
theorem d_B_see_37 : decode prog_1_method_21_code 37 = .ok (.getfield 78, 3) := by decide +kernel
theorem d_B_see_40 : decode prog_1_method_21_code 40 = .ok (.aload_n 0, 1) := by decide +kernel
theorem d_B_see_41 : decode prog_1_method_21_code 41 = .ok (.getfield 85, 3) := by decide +kernel
theorem d_B_see_44 : decode prog_1_method_21_code 44 = .ok (.iload_n 1, 1) := by decide +kernel
theorem d_B_see_45 : decode prog_1_method_21_code 45 = .ok (.iastore, 1) := by decide +kernel
theorem d_B_see_46 : decode prog_1_method_21_code 46 = .ok (.aload_n 0, 1) := by decide +kernel
theorem d_B_see_47 : decode prog_1_method_21_code 47 = .ok (.getfield 82, 3) := by decide +kernel
theorem d_B_see_50 : decode prog_1_method_21_code 50 = .ok (.aload_n 0, 1) := by decide +kernel
theorem d_B_see_51 : decode prog_1_method_21_code 51 = .ok (.getfield 85, 3) := by decide +kernel
theorem d_B_see_54 : decode prog_1_method_21_code 54 = .ok (.iload_n 2, 1) := by decide +kernel
theorem d_B_see_55 : decode prog_1_method_21_code 55 = .ok (.iastore, 1) := by decide +kernel
theorem d_B_see_56 : decode prog_1_method_21_code 56 = .ok (.aload_n 0, 1) := by decide +kernel
theorem d_B_see_57 : decode prog_1_method_21_code 57 = .ok (.dup, 1) := by decide +kernel
theorem d_B_see_58 : decode prog_1_method_21_code 58 = .ok (.getfield 85, 3) := by decide +kernel
theorem d_B_see_61 : decode prog_1_method_21_code 61 = .ok (.iconst 1, 1) := by decide +kernel
theorem d_B_see_62 : decode prog_1_method_21_code 62 = .ok (.iadd, 1) := by decide +kernel
theorem d_B_see_63 : decode prog_1_method_21_code 63 = .ok (.putfield 85, 3) := by decide +kernel
theorem d_B_see_66 : decode prog_1_method_21_code 66 = .ok (.aload_n 0, 1) := by decide +kernel
theorem d_B_see_67 : decode prog_1_method_21_code 67 = .ok (.getfield 85, 3) := by decide +kernel
theorem d_B_see_70 : decode prog_1_method_21_code 70 = .ok (.ireturn, 1) := by decide +kernel
set_option maxHeartbeats 4000000 in
set_option maxRecDepth 20000 in
theorem c_B_see (p1 : Int) (hp1 : Rng p1) (p2 : Int) (hp2 : Rng p2) (s0 : MS) (Q : Int → MS → Prop) (h : wp_B_see p1 p2 s0 Q) : MT dscC ⟨"BellSchool", "see", "(II)I"⟩ prog_1_method_21_code 3 (some .int) 1 (fun ad => [.ref (ad 0), .int (iI p1), .int (iI p2)]) s0 (po_I dscC Q) := by
  refine met_of (by decide) (fun _ => Nat.le_of_ble_eq_true rfl) (fun X E hR => ?_)
  replace E : EV dscC X prog_1_method_21_code "BellSchool" 3 1 := E
  show VV dscC X 0 [(0, .ref (adX X 0)), (1, .int (iI p1)), (2, .int (iI p2))] [] s0
  unfold wp_B_see at h
  refine v_aloadn E d_B_see_0 rfl 0 rfl ?_
  refine v_getR E cf8 dC_0 0 (by decide) rfl mw118 d_B_see_1 rfl (fun hv1 => ?_)
  refine v_iloadn E d_B_see_4 rfl 1 rfl ?_
  refine v_callVIpz E md_Valley_has (c_Valley_has (gR s0 0 0) hv1 p1 hp1 s0 _ h) hv1 rfl ⟨by decide, by decide⟩ mw117 d_B_see_5 (fun _ => rfl) (st := []) rfl (Nat.le_of_ble_eq_true rfl) (fun r1 hr1 hz1 h => ?_)
  refine v_if_eq E 22 d_B_see_8 (by decide) hr1 (fun c1 => ?_) (fun c1 => ?_)
  · replace h := h.1 c1
    refine v_iconst E d_B_see_22 ?_
    exact v_iret E hR rfl (by decide) h d_B_see_23
  · replace h := h.2 c1
    refine v_iloadn E d_B_see_11 rfl 2 rfl ?_
    refine v_iconst E d_B_see_12 ?_
    refine v_icmp_lt E 22 d_B_see_13 (by decide) hp2 (by decide) (fun c2 => ?_) (fun c2 => ?_)
    · replace h := h.1 c2
      refine v_iconst E d_B_see_22 ?_
      exact v_iret E hR rfl (by decide) h d_B_see_23
    · replace h := h.2 c2
      refine v_iloadn E d_B_see_16 rfl 2 rfl ?_
      refine v_bipush E d_B_see_17 rfl ?_
      refine v_icmp_le E 24 d_B_see_19 (by decide) hp2 (by decide) (fun c3 => ?_) (fun c3 => ?_)
      · replace h := h.1 c3
        refine v_aloadn E d_B_see_24 rfl 0 rfl ?_
        refine v_getI E cf8 dC_0 13 (by decide) rfl mw128 d_B_see_25 rfl ?_
        refine v_bipush E d_B_see_28 rfl ?_
        refine v_wt (fun wt1 => ?_)
        refine v_icmp_lt E 36 d_B_see_30 (by decide) (wt1 0 13) (by decide) (fun c4 => ?_) (fun c4 => ?_)
        · replace h := h.1 c4
          refine v_aloadn E d_B_see_36 rfl 0 rfl ?_
          refine v_getA E cf8 dC_0 11 (by decide) rfl mw356 d_B_see_37 rfl ?_
          refine v_aloadn E d_B_see_40 rfl 0 rfl ?_
          refine v_getI E cf8 dC_0 13 (by decide) rfl mw128 d_B_see_41 rfl ?_
          refine v_iloadn E d_B_see_44 rfl 1 rfl ?_
          obtain ⟨q1, h⟩ := h
          refine v_iast E dC_34 (by decide) q1.1 q1.2 hp1 d_B_see_45 ?_
          refine v_nameS (fun s1 hs1 => ?_)
          replace h := h s1 hs1
          refine v_aloadn E d_B_see_46 rfl 0 rfl ?_
          refine v_getA E cf8 dC_0 12 (by decide) rfl mw357 d_B_see_47 rfl ?_
          refine v_aloadn E d_B_see_50 rfl 0 rfl ?_
          refine v_getI E cf8 dC_0 13 (by decide) rfl mw128 d_B_see_51 rfl ?_
          refine v_iloadn E d_B_see_54 rfl 2 rfl ?_
          obtain ⟨q2, h⟩ := h
          refine v_iast E dC_35 (by decide) q2.1 q2.2 hp2 d_B_see_55 ?_
          refine v_nameS (fun s2 hs2 => ?_)
          replace h := h s2 hs2
          refine v_aloadn E d_B_see_56 rfl 0 rfl ?_
          refine v_dup E d_B_see_57 rfl ?_
          refine v_getI E cf8 dC_0 13 (by decide) rfl mw128 d_B_see_58 rfl ?_
          refine v_iconst E d_B_see_61 ?_
          refine v_iadd E d_B_see_62 ?_
          obtain ⟨q3, h⟩ := h
          refine v_putI E cf8 dC_0 13 (by decide) rfl rfl mw128 d_B_see_63 rfl rfl rfl q3 ?_
          refine v_nameS (fun s3 hs3 => ?_)
          replace h := h s3 hs3
          refine v_aloadn E d_B_see_66 rfl 0 rfl ?_
          refine v_getI E cf8 dC_0 13 (by decide) rfl mw128 d_B_see_67 rfl ?_
          refine v_wt (fun wt2 => ?_)
          exact v_iret E hR rfl (wt2 0 13) h d_B_see_70
        · replace h := h.2 c4
          refine v_bipush E d_B_see_33 rfl ?_
          exact v_iret E hR rfl (by decide) h d_B_see_35
      · replace h := h.2 c3
        refine v_iconst E d_B_see_22 ?_
        exact v_iret E hR rfl (by decide) h d_B_see_23
theorem d_B_forget_0 : decode prog_1_method_22_code 0 = .ok (.aload_n 0, 1) := by decide +kernel
theorem d_B_forget_1 : decode prog_1_method_22_code 1 = .ok (.getfield 85, 3) := by decide +kernel
theorem d_B_forget_4 : decode prog_1_method_22_code 4 = .ok (.istore_n 1, 1) := by decide +kernel
theorem d_B_forget_5 : decode prog_1_method_22_code 5 = .ok (.aload_n 0, 1) := by decide +kernel
theorem d_B_forget_6 : decode prog_1_method_22_code 6 = .ok (.iconst 0, 1) := by decide +kernel
theorem d_B_forget_7 : decode prog_1_method_22_code 7 = .ok (.putfield 85, 3) := by decide +kernel
theorem d_B_forget_10 : decode prog_1_method_22_code 10 = .ok (.iload_n 1, 1) := by decide +kernel
theorem d_B_forget_11 : decode prog_1_method_22_code 11 = .ok (.ireturn, 1) := by decide +kernel
set_option maxHeartbeats 4000000 in
set_option maxRecDepth 20000 in
theorem c_B_forget (s0 : MS) (Q : Int → MS → Prop) (h : wp_B_forget s0 Q) : MT dscC ⟨"BellSchool", "forget", "()I"⟩ prog_1_method_22_code 2 (some .int) 0 (fun ad => [.ref (ad 0)]) s0 (po_I dscC Q) := by
  refine met_of (by decide) (fun _ => Nat.le_of_ble_eq_true rfl) (fun X E hR => ?_)
  replace E : EV dscC X prog_1_method_22_code "BellSchool" 2 0 := E
  show VV dscC X 0 [(0, .ref (adX X 0))] [] s0
  unfold wp_B_forget at h
  refine v_aloadn E d_B_forget_0 rfl 0 rfl ?_
  refine v_getI E cf8 dC_0 13 (by decide) rfl mw128 d_B_forget_1 rfl ?_
  refine v_istoren E d_B_forget_4 rfl (by decide) (L' := [(1, .int (iI (gI s0 0 13))), (0, .ref (adX X 0))]) rfl ?_
  refine v_aloadn E d_B_forget_5 rfl 1 rfl ?_
  refine v_iconst E d_B_forget_6 ?_
  refine v_putI E cf8 dC_0 13 (by decide) rfl rfl mw128 d_B_forget_7 rfl rfl rfl (by decide) ?_
  refine v_nameS (fun s1 hs1 => ?_)
  replace h := h s1 hs1
  refine v_iloadn E d_B_forget_10 rfl 0 rfl ?_
  obtain ⟨q1, h⟩ := h
  exact v_iret E hR rfl q1 h d_B_forget_11
theorem d_B_farthestSeen_0 : decode prog_1_method_34_code 0 = .ok (.iconst 0, 1) := by decide +kernel
theorem d_B_farthestSeen_1 : decode prog_1_method_34_code 1 = .ok (.istore_n 1, 1) := by decide +kernel
theorem d_B_farthestSeen_2 : decode prog_1_method_34_code 2 = .ok (.iconst 0, 1) := by decide +kernel
theorem d_B_farthestSeen_3 : decode prog_1_method_34_code 3 = .ok (.istore_n 2, 1) := by decide +kernel
theorem d_B_farthestSeen_4 : decode prog_1_method_34_code 4 = .ok (.iload_n 2, 1) := by decide +kernel
theorem d_B_farthestSeen_5 : decode prog_1_method_34_code 5 = .ok (.aload_n 0, 1) := by decide +kernel
theorem d_B_farthestSeen_6 : decode prog_1_method_34_code 6 = .ok (.getfield 85, 3) := by decide +kernel
theorem d_B_farthestSeen_9 : decode prog_1_method_34_code 9 = .ok (.if_icmp .ge 20, 3) := by decide +kernel
theorem d_B_farthestSeen_12 : decode prog_1_method_34_code 12 = .ok (.iload_n 1, 1) := by decide +kernel
theorem d_B_farthestSeen_13 : decode prog_1_method_34_code 13 = .ok (.aload_n 0, 1) := by decide +kernel
theorem d_B_farthestSeen_14 : decode prog_1_method_34_code 14 = .ok (.getfield 82, 3) := by decide +kernel
theorem d_B_farthestSeen_17 : decode prog_1_method_34_code 17 = .ok (.iload_n 2, 1) := by decide +kernel
theorem d_B_farthestSeen_18 : decode prog_1_method_34_code 18 = .ok (.iaload, 1) := by decide +kernel
theorem d_B_farthestSeen_19 : decode prog_1_method_34_code 19 = .ok (.invokestatic 275, 3) := by decide +kernel
theorem d_B_farthestSeen_22 : decode prog_1_method_34_code 22 = .ok (.istore_n 1, 1) := by decide +kernel
theorem d_B_farthestSeen_23 : decode prog_1_method_34_code 23 = .ok (.iinc 2 1, 3) := by decide +kernel
theorem d_B_farthestSeen_26 : decode prog_1_method_34_code 26 = .ok (.goto (-22), 3) := by decide +kernel
theorem d_B_farthestSeen_29 : decode prog_1_method_34_code 29 = .ok (.iload_n 1, 1) := by decide +kernel
theorem d_B_farthestSeen_30 : decode prog_1_method_34_code 30 = .ok (.ireturn, 1) := by decide +kernel
set_option maxHeartbeats 4000000 in
set_option maxRecDepth 20000 in
theorem c_B_farthestSeen (s0 : MS) (Q : Int → Prop) (h : wp_B_farthestSeen s0 Q) : MT dscC ⟨"BellSchool", "farthestSeen", "()I"⟩ prog_1_method_34_code 3 (some .int) 1 (fun ad => [.ref (ad 0)]) s0 (po_I dscC (fun r z => z = s0 ∧ Q r)) := by
  refine met_of (by decide) (fun _ => Nat.le_of_ble_eq_true rfl) (fun X E hR => ?_)
  replace E : EV dscC X prog_1_method_34_code "BellSchool" 3 1 := E
  show VV dscC X 0 [(0, .ref (adX X 0))] [] s0
  unfold wp_B_farthestSeen at h
  refine v_iconst E d_B_farthestSeen_0 ?_
  refine v_istoren E d_B_farthestSeen_1 rfl (by decide) (L' := [(1, .int (iI 0)), (0, .ref (adX X 0))]) rfl ?_
  refine v_iconst E d_B_farthestSeen_2 ?_
  refine v_istoren E d_B_farthestSeen_3 rfl (by decide) (L' := [(2, .int (iI 0)), (1, .int (iI 0)), (0, .ref (adX X 0))]) rfl ?_
  refine v_sub [2, 1, 0] (L' := [(0, .ref (adX X 0)), (1, .int (iI 0)), (2, .int (iI 0))]) rfl ?_
  obtain ⟨I1, μ1, h01, h⟩ := h
  refine v_ploop2 s0 (fun (x1 : Int) (x2 : Int) => [(0, .ref (adX X 0)), (1, .int (iI x1)), (2, .int (iI x2))]) I1 μ1 (fun x1 x2 hI1 ih1 => ?_) 0 0 h01
  replace h := h x1 x2  hI1
  refine v_iloadn E d_B_farthestSeen_4 rfl 2 rfl ?_
  refine v_aloadn E d_B_farthestSeen_5 rfl 0 rfl ?_
  refine v_getI E cf8 dC_0 13 (by decide) rfl mw128 d_B_farthestSeen_6 rfl ?_
  obtain ⟨q1, h⟩ := h
  refine v_wt (fun wt1 => ?_)
  refine v_icmp_ge E 29 d_B_farthestSeen_9 (by decide) q1 (wt1 0 13) (fun c1 => ?_) (fun c1 => ?_)
  · replace h := h.1 c1
    refine v_iloadn E d_B_farthestSeen_29 rfl 1 rfl ?_
    obtain ⟨q2, h⟩ := h
    exact v_iret E hR rfl q2 ⟨rfl, h⟩ d_B_farthestSeen_30
  · replace h := h.2 c1
    refine v_iloadn E d_B_farthestSeen_12 rfl 1 rfl ?_
    refine v_aloadn E d_B_farthestSeen_13 rfl 0 rfl ?_
    refine v_getA E cf8 dC_0 12 (by decide) rfl mw357 d_B_farthestSeen_14 rfl ?_
    refine v_iloadn E d_B_farthestSeen_17 rfl 2 rfl ?_
    obtain ⟨q3, h⟩ := h
    refine v_iald E dC_35 (by decide) q3.1 q3.2 d_B_farthestSeen_18 ?_
    obtain ⟨q4, h⟩ := h
    refine v_mmax E mw57 mw58 mw55 mw59 q4 (wt1 35 x2) d_B_farthestSeen_19 (Nat.le_of_ble_eq_true rfl) (by decide) ?_
    refine v_nameI (fun x3 hx3 => ?_)
    replace h := h x3 hx3
    refine v_istoren E d_B_farthestSeen_22 rfl (by decide) (L' := [(1, .int (iI x3)), (0, .ref (adX X 0)), (2, .int (iI x2))]) rfl ?_
    refine v_iincN E d_B_farthestSeen_23 2 rfl (by decide) (fun y => [(2, .int (iI y)), (1, .int (iI x3)), (0, .ref (adX X 0))]) (fun _ => rfl) (fun x4 hx4 => ?_)
    replace h := h x4 hx4
    refine v_goto E 4 d_B_farthestSeen_26 (by decide) ?_
    obtain ⟨hb, hm⟩ := h
    exact v_sub [2, 1, 0] rfl (ih1 x3 x4 hb hm)
theorem d_B_isSeenAt_0 : decode prog_1_method_35_code 0 = .ok (.iconst 0, 1) := by decide +kernel
theorem d_B_isSeenAt_1 : decode prog_1_method_35_code 1 = .ok (.istore_n 3, 1) := by decide +kernel
theorem d_B_isSeenAt_2 : decode prog_1_method_35_code 2 = .ok (.iload_n 3, 1) := by decide +kernel
theorem d_B_isSeenAt_3 : decode prog_1_method_35_code 3 = .ok (.aload_n 0, 1) := by decide +kernel
theorem d_B_isSeenAt_4 : decode prog_1_method_35_code 4 = .ok (.getfield 85, 3) := by decide +kernel
theorem d_B_isSeenAt_7 : decode prog_1_method_35_code 7 = .ok (.if_icmp .ge 31, 3) := by decide +kernel
theorem d_B_isSeenAt_10 : decode prog_1_method_35_code 10 = .ok (.aload_n 0, 1) := by decide +kernel
theorem d_B_isSeenAt_11 : decode prog_1_method_35_code 11 = .ok (.getfield 82, 3) := by decide +kernel
theorem d_B_isSeenAt_14 : decode prog_1_method_35_code 14 = .ok (.iload_n 3, 1) := by decide +kernel
theorem d_B_isSeenAt_15 : decode prog_1_method_35_code 15 = .ok (.iaload, 1) := by decide +kernel
theorem d_B_isSeenAt_16 : decode prog_1_method_35_code 16 = .ok (.iload_n 2, 1) := by decide +kernel
theorem d_B_isSeenAt_17 : decode prog_1_method_35_code 17 = .ok (.if_icmp .ne 15, 3) := by decide +kernel
theorem d_B_isSeenAt_20 : decode prog_1_method_35_code 20 = .ok (.aload_n 0, 1) := by decide +kernel
theorem d_B_isSeenAt_21 : decode prog_1_method_35_code 21 = .ok (.getfield 78, 3) := by decide +kernel
theorem d_B_isSeenAt_24 : decode prog_1_method_35_code 24 = .ok (.iload_n 3, 1) := by decide +kernel
theorem d_B_isSeenAt_25 : decode prog_1_method_35_code 25 = .ok (.iaload, 1) := by decide +kernel
theorem d_B_isSeenAt_26 : decode prog_1_method_35_code 26 = .ok (.iload_n 1, 1) := by decide +kernel
theorem d_B_isSeenAt_27 : decode prog_1_method_35_code 27 = .ok (.if_icmp .eq 5, 3) := by decide +kernel
theorem d_B_isSeenAt_30 : decode prog_1_method_35_code 30 = .ok (.iconst 0, 1) := by decide +kernel
theorem d_B_isSeenAt_31 : decode prog_1_method_35_code 31 = .ok (.ireturn, 1) := by decide +kernel
theorem d_B_isSeenAt_32 : decode prog_1_method_35_code 32 = .ok (.iinc 3 1, 3) := by decide +kernel
theorem d_B_isSeenAt_35 : decode prog_1_method_35_code 35 = .ok (.goto (-33), 3) := by decide +kernel
theorem d_B_isSeenAt_38 : decode prog_1_method_35_code 38 = .ok (.iconst 1, 1) := by decide +kernel
theorem d_B_isSeenAt_39 : decode prog_1_method_35_code 39 = .ok (.ireturn, 1) := by decide +kernel
set_option maxHeartbeats 4000000 in
set_option maxRecDepth 20000 in
theorem c_B_isSeenAt (p1 : Int) (hp1 : Rng p1) (p2 : Int) (hp2 : Rng p2) (s0 : MS) (Q : Int → Prop) (h : wp_B_isSeenAt p1 p2 s0 Q) : MT dscC ⟨"BellSchool", "isSeenAt", "(II)Z"⟩ prog_1_method_35_code 4 (some .boolean) 0 (fun ad => [.ref (ad 0), .int (iI p1), .int (iI p2)]) s0 (po_I dscC (fun r z => (r = 0 ∨ r = 1) ∧ z = s0 ∧ Q r)) := by
  refine met_of (by decide) (fun _ => Nat.le_of_ble_eq_true rfl) (fun X E hR => ?_)
  replace E : EV dscC X prog_1_method_35_code "BellSchool" 4 0 := E
  show VV dscC X 0 [(0, .ref (adX X 0)), (1, .int (iI p1)), (2, .int (iI p2))] [] s0
  unfold wp_B_isSeenAt at h
  refine v_iconst E d_B_isSeenAt_0 ?_
  refine v_istoren E d_B_isSeenAt_1 rfl (by decide) (L' := [(3, .int (iI 0)), (0, .ref (adX X 0)), (1, .int (iI p1)), (2, .int (iI p2))]) rfl ?_
  refine v_sub [1, 2, 3, 0] (L' := [(0, .ref (adX X 0)), (1, .int (iI p1)), (2, .int (iI p2)), (3, .int (iI 0))]) rfl ?_
  obtain ⟨I1, μ1, h01, h⟩ := h
  refine v_ploop1 s0 (fun (x1 : Int) => [(0, .ref (adX X 0)), (1, .int (iI p1)), (2, .int (iI p2)), (3, .int (iI x1))]) I1 μ1 (fun x1 hI1 ih1 => ?_) 0 h01
  replace h := h x1  hI1
  refine v_iloadn E d_B_isSeenAt_2 rfl 3 rfl ?_
  refine v_aloadn E d_B_isSeenAt_3 rfl 0 rfl ?_
  refine v_getI E cf8 dC_0 13 (by decide) rfl mw128 d_B_isSeenAt_4 rfl ?_
  obtain ⟨q1, h⟩ := h
  refine v_wt (fun wt1 => ?_)
  refine v_icmp_ge E 38 d_B_isSeenAt_7 (by decide) q1 (wt1 0 13) (fun c1 => ?_) (fun c1 => ?_)
  · replace h := h.1 c1
    refine v_iconst E d_B_isSeenAt_38 ?_
    exact v_iret E hR (nar_Z (by decide)) (Rng_Z (by decide)) ⟨(by decide), rfl, h⟩ d_B_isSeenAt_39
  · replace h := h.2 c1
    refine v_aloadn E d_B_isSeenAt_10 rfl 0 rfl ?_
    refine v_getA E cf8 dC_0 12 (by decide) rfl mw357 d_B_isSeenAt_11 rfl ?_
    refine v_iloadn E d_B_isSeenAt_14 rfl 3 rfl ?_
    obtain ⟨q2, h⟩ := h
    refine v_iald E dC_35 (by decide) q2.1 q2.2 d_B_isSeenAt_15 ?_
    refine v_iloadn E d_B_isSeenAt_16 rfl 2 rfl ?_
    refine v_icmp_ne E 32 d_B_isSeenAt_17 (by decide) (wt1 35 x1) hp2 (fun c2 => ?_) (fun c2 => ?_)
    · replace h := h.1 c2
      refine v_iincN E d_B_isSeenAt_32 3 rfl (by decide) (fun y => [(3, .int (iI y)), (0, .ref (adX X 0)), (1, .int (iI p1)), (2, .int (iI p2))]) (fun _ => rfl) (fun x2 hx2 => ?_)
      replace h := h x2 hx2
      refine v_goto E 2 d_B_isSeenAt_35 (by decide) ?_
      obtain ⟨hb, hm⟩ := h
      exact v_sub [1, 2, 3, 0] rfl (ih1 x2 hb hm)
    · replace h := h.2 c2
      refine v_aloadn E d_B_isSeenAt_20 rfl 0 rfl ?_
      refine v_getA E cf8 dC_0 11 (by decide) rfl mw356 d_B_isSeenAt_21 rfl ?_
      refine v_iloadn E d_B_isSeenAt_24 rfl 3 rfl ?_
      refine v_iald E dC_34 (by decide) q2.1 q2.2 d_B_isSeenAt_25 ?_
      refine v_iloadn E d_B_isSeenAt_26 rfl 1 rfl ?_
      refine v_icmp_eq E 32 d_B_isSeenAt_27 (by decide) (wt1 34 x1) hp1 (fun c3 => ?_) (fun c3 => ?_)
      · replace h := h.1 c3
        refine v_iincN E d_B_isSeenAt_32 3 rfl (by decide) (fun y => [(3, .int (iI y)), (0, .ref (adX X 0)), (1, .int (iI p1)), (2, .int (iI p2))]) (fun _ => rfl) (fun x3 hx3 => ?_)
        replace h := h x3 hx3
        refine v_goto E 2 d_B_isSeenAt_35 (by decide) ?_
        obtain ⟨hb, hm⟩ := h
        exact v_sub [1, 2, 3, 0] rfl (ih1 x3 hb hm)
      · replace h := h.2 c3
        refine v_iconst E d_B_isSeenAt_30 ?_
        exact v_iret E hR (nar_Z (by decide)) (Rng_Z (by decide)) ⟨(by decide), rfl, h⟩ d_B_isSeenAt_31
theorem d_B_fitsSeen_0 : decode prog_1_method_33_code 0 = .ok (.aload_n 0, 1) := by decide +kernel
theorem d_B_fitsSeen_1 : decode prog_1_method_33_code 1 = .ok (.getfield 49, 3) := by decide +kernel
theorem d_B_fitsSeen_4 : decode prog_1_method_33_code 4 = .ok (.aload_n 0, 1) := by decide +kernel
theorem d_B_fitsSeen_5 : decode prog_1_method_33_code 5 = .ok (.getfield 45, 3) := by decide +kernel
theorem d_B_fitsSeen_8 : decode prog_1_method_33_code 8 = .ok (.invokevirtual 193, 3) := by decide +kernel
theorem d_B_fitsSeen_11 : decode prog_1_method_33_code 11 = .ok (.aload_n 0, 1) := by decide +kernel
theorem d_B_fitsSeen_12 : decode prog_1_method_33_code 12 = .ok (.getfield 49, 3) := by decide +kernel
theorem d_B_fitsSeen_15 : decode prog_1_method_33_code 15 = .ok (.iload_n 1, 1) := by decide +kernel
theorem d_B_fitsSeen_16 : decode prog_1_method_33_code 16 = .ok (.putfield 128, 3) := by decide +kernel
theorem d_B_fitsSeen_19 : decode prog_1_method_33_code 19 = .ok (.aload_n 0, 1) := by decide +kernel
theorem d_B_fitsSeen_20 : decode prog_1_method_33_code 20 = .ok (.getfield 49, 3) := by decide +kernel
theorem d_B_fitsSeen_23 : decode prog_1_method_33_code 23 = .ok (.iload_n 2, 1) := by decide +kernel
theorem d_B_fitsSeen_24 : decode prog_1_method_33_code 24 = .ok (.putfield 140, 3) := by decide +kernel
theorem d_B_fitsSeen_27 : decode prog_1_method_33_code 27 = .ok (.aload_n 0, 1) := by decide +kernel
theorem d_B_fitsSeen_28 : decode prog_1_method_33_code 28 = .ok (.invokevirtual 269, 3) := by decide +kernel
theorem d_B_fitsSeen_31 : decode prog_1_method_33_code 31 = .ok (.istore_n 3, 1) := by decide +kernel
theorem d_B_fitsSeen_32 : decode prog_1_method_33_code 32 = .ok (.iconst 1, 1) := by decide +kernel
theorem d_B_fitsSeen_33 : decode prog_1_method_33_code 33 = .ok (.istore 4, 2) := by decide +kernel
theorem d_B_fitsSeen_35 : decode prog_1_method_33_code 35 = .ok (.iload 4, 2) := by decide +kernel
theorem d_B_fitsSeen_37 : decode prog_1_method_33_code 37 = .ok (.iload_n 3, 1) := by decide +kernel
theorem d_B_fitsSeen_38 : decode prog_1_method_33_code 38 = .ok (.if_icmp .gt 38, 3) := by decide +kernel
theorem d_B_fitsSeen_41 : decode prog_1_method_33_code 41 = .ok (.aload_n 0, 1) := by decide +kernel
theorem d_B_fitsSeen_42 : decode prog_1_method_33_code 42 = .ok (.getfield 38, 3) := by decide +kernel
theorem d_B_fitsSeen_45 : decode prog_1_method_33_code 45 = .ok (.aload_n 0, 1) := by decide +kernel
theorem d_B_fitsSeen_46 : decode prog_1_method_33_code 46 = .ok (.getfield 49, 3) := by decide +kernel
theorem d_B_fitsSeen_49 : decode prog_1_method_33_code 49 = .ok (.invokevirtual 196, 3) := by decide +kernel
theorem d_B_fitsSeen_52 : decode prog_1_method_33_code 52 = .ok (.aload_n 0, 1) := by decide +kernel
theorem d_B_fitsSeen_53 : decode prog_1_method_33_code 53 = .ok (.aload_n 0, 1) := by decide +kernel
theorem d_B_fitsSeen_54 : decode prog_1_method_33_code 54 = .ok (.getfield 49, 3) := by decide +kernel
theorem d_B_fitsSeen_57 : decode prog_1_method_33_code 57 = .ok (.getfield 128, 3) := by decide +kernel
theorem d_B_fitsSeen_60 : decode prog_1_method_33_code 60 = .ok (.iload 4, 2) := by decide +kernel
theorem d_B_fitsSeen_62 : decode prog_1_method_33_code 62 = .ok (.invokevirtual 272, 3) := by decide +kernel
theorem d_B_fitsSeen_65 : decode prog_1_method_33_code 65 = .ok (.ifCond .ne 5, 3) := by decide +kernel
theorem d_B_fitsSeen_68 : decode prog_1_method_33_code 68 = .ok (.iconst 0, 1) := by decide +kernel
theorem d_B_fitsSeen_69 : decode prog_1_method_33_code 69 = .ok (.ireturn, 1) := by decide +kernel
theorem d_B_fitsSeen_70 : decode prog_1_method_33_code 70 = .ok (.iinc 4 1, 3) := by decide +kernel
theorem d_B_fitsSeen_73 : decode prog_1_method_33_code 73 = .ok (.goto (-38), 3) := by decide +kernel
theorem d_B_fitsSeen_76 : decode prog_1_method_33_code 76 = .ok (.iconst 1, 1) := by decide +kernel
theorem d_B_fitsSeen_77 : decode prog_1_method_33_code 77 = .ok (.ireturn, 1) := by decide +kernel
set_option maxHeartbeats 4000000 in
set_option maxRecDepth 20000 in
theorem c_B_fitsSeen (p1 : Int) (hp1 : Rng p1) (p2 : Int) (hp2 : Rng p2) (s0 : MS) (Q : Int → MS → Prop) (h : wp_B_fitsSeen p1 p2 s0 Q) : MT dscC ⟨"BellSchool", "fitsSeen", "(II)Z"⟩ prog_1_method_33_code 5 (some .boolean) 5 (fun ad => [.ref (ad 0), .int (iI p1), .int (iI p2)]) s0 (po_I dscC (fun r z => (r = 0 ∨ r = 1) ∧ Q r z)) := by
  refine met_of (by decide) (fun _ => Nat.le_of_ble_eq_true rfl) (fun X E hR => ?_)
  replace E : EV dscC X prog_1_method_33_code "BellSchool" 5 5 := E
  show VV dscC X 0 [(0, .ref (adX X 0)), (1, .int (iI p1)), (2, .int (iI p2))] [] s0
  unfold wp_B_fitsSeen at h
  refine v_aloadn E d_B_fitsSeen_0 rfl 0 rfl ?_
  refine v_getA E cf8 dC_0 6 (by decide) rfl mw255 d_B_fitsSeen_1 rfl ?_
  refine v_aloadn E d_B_fitsSeen_4 rfl 0 rfl ?_
  refine v_getA E cf8 dC_0 5 (by decide) rfl mw123 d_B_fitsSeen_5 rfl ?_
  refine v_callVV E md_Standing_copy (c_Standing_copy 38 dC_38 36 dC_36 s0 _ h) dC_38 rfl ⟨by decide, by decide⟩ mw256 d_B_fitsSeen_8 (fun _ => rfl) (st := []) rfl (Nat.le_of_ble_eq_true rfl) (fun s1 h => ?_)
  refine v_aloadn E d_B_fitsSeen_11 rfl 0 rfl ?_
  refine v_getA E cf8 dC_0 6 (by decide) rfl mw255 d_B_fitsSeen_12 rfl ?_
  refine v_iloadn E d_B_fitsSeen_15 rfl 1 rfl ?_
  refine v_putI E cf5 dC_38 2 (by decide) rfl rfl mw139 d_B_fitsSeen_16 rfl rfl rfl hp1 ?_
  refine v_nameS (fun s2 hs2 => ?_)
  replace h := h s2 hs2
  refine v_aloadn E d_B_fitsSeen_19 rfl 0 rfl ?_
  refine v_getA E cf8 dC_0 6 (by decide) rfl mw255 d_B_fitsSeen_20 rfl ?_
  refine v_iloadn E d_B_fitsSeen_23 rfl 2 rfl ?_
  refine v_putI E cf5 dC_38 3 (by decide) rfl rfl mw143 d_B_fitsSeen_24 rfl rfl rfl hp2 ?_
  refine v_nameS (fun s3 hs3 => ?_)
  replace h := h s3 hs3
  refine v_aloadn E d_B_fitsSeen_27 rfl 0 rfl ?_
  refine v_callVIp E md_B_farthestSeen (c_B_farthestSeen s3 _ h) dC_0 rfl ⟨by decide, by decide⟩ mw370 d_B_fitsSeen_28 (fun _ => rfl) (st := []) rfl (Nat.le_of_ble_eq_true rfl) (fun r2 hr2 h => ?_)
  refine v_istoren E d_B_fitsSeen_31 rfl (by decide) (L' := [(3, .int (iI r2)), (0, .ref (adX X 0)), (1, .int (iI p1)), (2, .int (iI p2))]) rfl ?_
  refine v_iconst E d_B_fitsSeen_32 ?_
  refine v_istore E d_B_fitsSeen_33 (by decide) (L' := [(4, .int (iI 1)), (3, .int (iI r2)), (0, .ref (adX X 0)), (1, .int (iI p1)), (2, .int (iI p2))]) rfl ?_
  refine v_sub [2, 1, 0] (L' := [(0, .ref (adX X 0)), (3, .int (iI r2)), (4, .int (iI 1))]) rfl ?_
  obtain ⟨I1, μ1, h01, h⟩ := h
  refine v_loop1 (fun (x1 : Int) => [(0, .ref (adX X 0)), (3, .int (iI r2)), (4, .int (iI x1))]) I1 μ1 (fun x1 s4 hI1 ih1 => ?_) 1 s3 h01
  replace h := h x1 s4 hI1
  refine v_iload E d_B_fitsSeen_35 2 rfl ?_
  refine v_iloadn E d_B_fitsSeen_37 rfl 1 rfl ?_
  obtain ⟨q1, h⟩ := h
  refine v_icmp_gt E 76 d_B_fitsSeen_38 (by decide) q1 hr2 (fun c1 => ?_) (fun c1 => ?_)
  · replace h := h.1 c1
    refine v_iconst E d_B_fitsSeen_76 ?_
    exact v_iret E hR (nar_Z (by decide)) (Rng_Z (by decide)) ⟨(by decide), h⟩ d_B_fitsSeen_77
  · replace h := h.2 c1
    refine v_aloadn E d_B_fitsSeen_41 rfl 0 rfl ?_
    refine v_getA E cf8 dC_0 4 (by decide) rfl mw119 d_B_fitsSeen_42 rfl ?_
    refine v_aloadn E d_B_fitsSeen_45 rfl 0 rfl ?_
    refine v_getA E cf8 dC_0 6 (by decide) rfl mw255 d_B_fitsSeen_46 rfl ?_
    refine v_callVV E md_Noon_goBy (c_Noon_goBy 38 dC_38 s4 _ h) dC_17 rfl ⟨by decide, by decide⟩ mw230 d_B_fitsSeen_49 (fun _ => rfl) (st := []) rfl (Nat.le_of_ble_eq_true rfl) (fun s5 h => ?_)
    refine v_aloadn E d_B_fitsSeen_52 rfl 0 rfl ?_
    refine v_aloadn E d_B_fitsSeen_53 rfl 0 rfl ?_
    refine v_getA E cf8 dC_0 6 (by decide) rfl mw255 d_B_fitsSeen_54 rfl ?_
    refine v_getI E cf5 dC_38 2 (by decide) rfl mw139 d_B_fitsSeen_57 rfl ?_
    refine v_iload E d_B_fitsSeen_60 2 rfl ?_
    refine v_wt (fun wt1 => ?_)
    refine v_callVIpz E md_B_isSeenAt (c_B_isSeenAt (gI s5 38 2) (wt1 38 2) x1 q1 s5 _ h) dC_0 rfl ⟨by decide, by decide⟩ mw371 d_B_fitsSeen_62 (fun _ => rfl) (st := []) rfl (Nat.le_of_ble_eq_true rfl) (fun r4 hr4 hz4 h => ?_)
    refine v_if_ne E 70 d_B_fitsSeen_65 (by decide) hr4 (fun c2 => ?_) (fun c2 => ?_)
    · replace h := h.1 c2
      refine v_iincN E d_B_fitsSeen_70 2 rfl (by decide) (fun y => [(4, .int (iI y)), (0, .ref (adX X 0)), (3, .int (iI r2))]) (fun _ => rfl) (fun x2 hx2 => ?_)
      replace h := h x2 hx2
      refine v_goto E 35 d_B_fitsSeen_73 (by decide) ?_
      obtain ⟨hb, hm⟩ := h
      exact v_sub [1, 2, 0] rfl (ih1 x2 s5 hb hm)
    · replace h := h.2 c2
      refine v_iconst E d_B_fitsSeen_68 ?_
      exact v_iret E hR (nar_Z (by decide)) (Rng_Z (by decide)) ⟨(by decide), h⟩ d_B_fitsSeen_69
theorem d_B_fog_0 : decode prog_1_method_23_code 0 = .ok (.iconst 0, 1) := by decide +kernel
theorem d_B_fog_1 : decode prog_1_method_23_code 1 = .ok (.istore_n 1, 1) := by decide +kernel
theorem d_B_fog_2 : decode prog_1_method_23_code 2 = .ok (.iconst 0, 1) := by decide +kernel
theorem d_B_fog_3 : decode prog_1_method_23_code 3 = .ok (.istore_n 2, 1) := by decide +kernel
theorem d_B_fog_4 : decode prog_1_method_23_code 4 = .ok (.iload_n 2, 1) := by decide +kernel
theorem d_B_fog_5 : decode prog_1_method_23_code 5 = .ok (.aload_n 0, 1) := by decide +kernel
theorem d_B_fog_6 : decode prog_1_method_23_code 6 = .ok (.getfield 10, 3) := by decide +kernel
theorem d_B_fog_9 : decode prog_1_method_23_code 9 = .ok (.getfield 115, 3) := by decide +kernel
theorem d_B_fog_12 : decode prog_1_method_23_code 12 = .ok (.if_icmp .ge 30, 3) := by decide +kernel
theorem d_B_fog_15 : decode prog_1_method_23_code 15 = .ok (.aload_n 0, 1) := by decide +kernel
theorem d_B_fog_16 : decode prog_1_method_23_code 16 = .ok (.iload_n 2, 1) := by decide +kernel
theorem d_B_fog_17 : decode prog_1_method_23_code 17 = .ok (.aload_n 0, 1) := by decide +kernel
theorem d_B_fog_18 : decode prog_1_method_23_code 18 = .ok (.getfield 45, 3) := by decide +kernel
theorem d_B_fog_21 : decode prog_1_method_23_code 21 = .ok (.getfield 140, 3) := by decide +kernel
theorem d_B_fog_24 : decode prog_1_method_23_code 24 = .ok (.invokevirtual 210, 3) := by decide +kernel
theorem d_B_fog_27 : decode prog_1_method_23_code 27 = .ok (.ifCond .eq 9, 3) := by decide +kernel
theorem d_B_fog_30 : decode prog_1_method_23_code 30 = .ok (.iload_n 1, 1) := by decide +kernel
theorem d_B_fog_31 : decode prog_1_method_23_code 31 = .ok (.iconst 1, 1) := by decide +kernel
theorem d_B_fog_32 : decode prog_1_method_23_code 32 = .ok (.iload_n 2, 1) := by decide +kernel
theorem d_B_fog_33 : decode prog_1_method_23_code 33 = .ok (.ishl, 1) := by decide +kernel
theorem d_B_fog_34 : decode prog_1_method_23_code 34 = .ok (.ior, 1) := by decide +kernel
theorem d_B_fog_35 : decode prog_1_method_23_code 35 = .ok (.istore_n 1, 1) := by decide +kernel
theorem d_B_fog_36 : decode prog_1_method_23_code 36 = .ok (.iinc 2 1, 3) := by decide +kernel
theorem d_B_fog_39 : decode prog_1_method_23_code 39 = .ok (.goto (-35), 3) := by decide +kernel
theorem d_B_fog_42 : decode prog_1_method_23_code 42 = .ok (.iload_n 1, 1) := by decide +kernel
theorem d_B_fog_43 : decode prog_1_method_23_code 43 = .ok (.ireturn, 1) := by decide +kernel
set_option maxHeartbeats 4000000 in
set_option maxRecDepth 20000 in
theorem c_B_fog (s0 : MS) (Q : Int → MS → Prop) (h : wp_B_fog s0 Q) : MT dscC ⟨"BellSchool", "fog", "()I"⟩ prog_1_method_23_code 3 (some .int) 6 (fun ad => [.ref (ad 0)]) s0 (po_I dscC Q) := by
  refine met_of (by decide) (fun _ => Nat.le_of_ble_eq_true rfl) (fun X E hR => ?_)
  replace E : EV dscC X prog_1_method_23_code "BellSchool" 3 6 := E
  show VV dscC X 0 [(0, .ref (adX X 0))] [] s0
  unfold wp_B_fog at h
  refine v_iconst E d_B_fog_0 ?_
  refine v_istoren E d_B_fog_1 rfl (by decide) (L' := [(1, .int (iI 0)), (0, .ref (adX X 0))]) rfl ?_
  refine v_iconst E d_B_fog_2 ?_
  refine v_istoren E d_B_fog_3 rfl (by decide) (L' := [(2, .int (iI 0)), (1, .int (iI 0)), (0, .ref (adX X 0))]) rfl ?_
  refine v_sub [2, 1, 0] (L' := [(0, .ref (adX X 0)), (1, .int (iI 0)), (2, .int (iI 0))]) rfl ?_
  obtain ⟨I1, μ1, h01, h⟩ := h
  refine v_loop2 (fun (x1 : Int) (x2 : Int) => [(0, .ref (adX X 0)), (1, .int (iI x1)), (2, .int (iI x2))]) I1 μ1 (fun x1 x2 s1 hI1 ih1 => ?_) 0 0 s0 h01
  replace h := h x1 x2 s1 hI1
  refine v_iloadn E d_B_fog_4 rfl 2 rfl ?_
  refine v_aloadn E d_B_fog_5 rfl 0 rfl ?_
  refine v_getR E cf8 dC_0 0 (by decide) rfl mw118 d_B_fog_6 rfl (fun hv1 => ?_)
  refine v_getI E cf7 hv1 5 (by decide) rfl mw133 d_B_fog_9 rfl ?_
  obtain ⟨q1, h⟩ := h
  refine v_wt (fun wt1 => ?_)
  refine v_icmp_ge E 42 d_B_fog_12 (by decide) q1 (wt1 (gR s1 0 0) 5) (fun c1 => ?_) (fun c1 => ?_)
  · replace h := h.1 c1
    refine v_iloadn E d_B_fog_42 rfl 1 rfl ?_
    obtain ⟨q2, h⟩ := h
    exact v_iret E hR rfl q2 h d_B_fog_43
  · replace h := h.2 c1
    refine v_aloadn E d_B_fog_15 rfl 0 rfl ?_
    refine v_iloadn E d_B_fog_16 rfl 2 rfl ?_
    refine v_aloadn E d_B_fog_17 rfl 0 rfl ?_
    refine v_getA E cf8 dC_0 5 (by decide) rfl mw123 d_B_fog_18 rfl ?_
    refine v_getI E cf5 dC_36 3 (by decide) rfl mw143 d_B_fog_21 rfl ?_
    refine v_callVI E md_B_fitsSeen (c_B_fitsSeen x2 q1 (gI s1 36 3) (wt1 36 3) s1 _ h) dC_0 rfl ⟨by decide, by decide⟩ mw375 d_B_fog_24 (fun _ => rfl) (st := []) rfl (Nat.le_of_ble_eq_true rfl) (fun r1 s2 hr1 h => ?_)
    obtain ⟨hz1, h⟩ := h
    refine v_if_eq E 36 d_B_fog_27 (by decide) hr1 (fun c2 => ?_) (fun c2 => ?_)
    · replace h := h.1 c2
      refine v_iincN E d_B_fog_36 2 rfl (by decide) (fun y => [(2, .int (iI y)), (0, .ref (adX X 0)), (1, .int (iI x1))]) (fun _ => rfl) (fun x3 hx3 => ?_)
      replace h := h x3 hx3
      refine v_goto E 4 d_B_fog_39 (by decide) ?_
      obtain ⟨hb, hm⟩ := h
      exact v_sub [1, 2, 0] rfl (ih1 x1 x3 s2 hb hm)
    · replace h := h.2 c2
      refine v_iloadn E d_B_fog_30 rfl 1 rfl ?_
      refine v_iconst E d_B_fog_31 ?_
      refine v_iloadn E d_B_fog_32 rfl 2 rfl ?_
      refine v_ishl E d_B_fog_33 ?_
      refine v_ior E d_B_fog_34 ?_
      refine v_nameI (fun x4 hx4 => ?_)
      replace h := h x4 hx4
      refine v_istoren E d_B_fog_35 rfl (by decide) (L' := [(1, .int (iI x4)), (0, .ref (adX X 0)), (2, .int (iI x2))]) rfl ?_
      refine v_iincN E d_B_fog_36 2 rfl (by decide) (fun y => [(2, .int (iI y)), (1, .int (iI x4)), (0, .ref (adX X 0))]) (fun _ => rfl) (fun x5 hx5 => ?_)
      replace h := h x5 hx5
      refine v_goto E 4 d_B_fog_39 (by decide) ?_
      obtain ⟨hb, hm⟩ := h
      exact v_sub [2, 1, 0] rfl (ih1 x4 x5 s2 hb hm)
theorem d_B_tripped_0 : decode prog_1_method_24_code 0 = .ok (.aload_n 0, 1) := by decide +kernel
theorem d_B_tripped_1 : decode prog_1_method_24_code 1 = .ok (.aload_n 0, 1) := by decide +kernel
theorem d_B_tripped_2 : decode prog_1_method_24_code 2 = .ok (.getfield 45, 3) := by decide +kernel
theorem d_B_tripped_5 : decode prog_1_method_24_code 5 = .ok (.getfield 128, 3) := by decide +kernel
theorem d_B_tripped_8 : decode prog_1_method_24_code 8 = .ok (.aload_n 0, 1) := by decide +kernel
theorem d_B_tripped_9 : decode prog_1_method_24_code 9 = .ok (.getfield 45, 3) := by decide +kernel
theorem d_B_tripped_12 : decode prog_1_method_24_code 12 = .ok (.getfield 140, 3) := by decide +kernel
theorem d_B_tripped_15 : decode prog_1_method_24_code 15 = .ok (.invokevirtual 210, 3) := by decide +kernel
theorem d_B_tripped_18 : decode prog_1_method_24_code 18 = .ok (.ifCond .eq 9, 3) := by decide +kernel
theorem d_B_tripped_21 : decode prog_1_method_24_code 21 = .ok (.sipush 128, 3) := by decide +kernel
theorem d_B_tripped_24 : decode prog_1_method_24_code 24 = .ok (.goto 4, 3) := by decide +kernel
theorem d_B_tripped_27 : decode prog_1_method_24_code 27 = .ok (.iconst 0, 1) := by decide +kernel
theorem d_B_tripped_28 : decode prog_1_method_24_code 28 = .ok (.istore_n 1, 1) := by decide +kernel
theorem d_B_tripped_29 : decode prog_1_method_24_code 29 = .ok (.iconst 0, 1) := by decide +kernel
theorem d_B_tripped_30 : decode prog_1_method_24_code 30 = .ok (.istore_n 2, 1) := by decide +kernel
theorem d_B_tripped_31 : decode prog_1_method_24_code 31 = .ok (.iload_n 2, 1) := by decide +kernel
theorem d_B_tripped_32 : decode prog_1_method_24_code 32 = .ok (.aload_n 0, 1) := by decide +kernel
theorem d_B_tripped_33 : decode prog_1_method_24_code 33 = .ok (.getfield 10, 3) := by decide +kernel
theorem d_B_tripped_36 : decode prog_1_method_24_code 36 = .ok (.getfield 115, 3) := by decide +kernel
theorem d_B_tripped_39 : decode prog_1_method_24_code 39 = .ok (.if_icmp .ge 40, 3) := by decide +kernel
theorem d_B_tripped_42 : decode prog_1_method_24_code 42 = .ok (.aload_n 0, 1) := by decide +kernel
theorem d_B_tripped_43 : decode prog_1_method_24_code 43 = .ok (.aload_n 0, 1) := by decide +kernel
theorem d_B_tripped_44 : decode prog_1_method_24_code 44 = .ok (.getfield 45, 3) := by decide +kernel
theorem d_B_tripped_47 : decode prog_1_method_24_code 47 = .ok (.getfield 128, 3) := by decide +kernel
theorem d_B_tripped_50 : decode prog_1_method_24_code 50 = .ok (.aload_n 0, 1) := by decide +kernel
theorem d_B_tripped_51 : decode prog_1_method_24_code 51 = .ok (.getfield 45, 3) := by decide +kernel
theorem d_B_tripped_54 : decode prog_1_method_24_code 54 = .ok (.getfield 140, 3) := by decide +kernel
theorem d_B_tripped_57 : decode prog_1_method_24_code 57 = .ok (.iconst 1, 1) := by decide +kernel
theorem d_B_tripped_58 : decode prog_1_method_24_code 58 = .ok (.iload_n 2, 1) := by decide +kernel
theorem d_B_tripped_59 : decode prog_1_method_24_code 59 = .ok (.ishl, 1) := by decide +kernel
theorem d_B_tripped_60 : decode prog_1_method_24_code 60 = .ok (.ior, 1) := by decide +kernel
theorem d_B_tripped_61 : decode prog_1_method_24_code 61 = .ok (.invokevirtual 210, 3) := by decide +kernel
theorem d_B_tripped_64 : decode prog_1_method_24_code 64 = .ok (.ifCond .eq 9, 3) := by decide +kernel
theorem d_B_tripped_67 : decode prog_1_method_24_code 67 = .ok (.iload_n 1, 1) := by decide +kernel
theorem d_B_tripped_68 : decode prog_1_method_24_code 68 = .ok (.iconst 1, 1) := by decide +kernel
theorem d_B_tripped_69 : decode prog_1_method_24_code 69 = .ok (.iload_n 2, 1) := by decide +kernel
theorem d_B_tripped_70 : decode prog_1_method_24_code 70 = .ok (.ishl, 1) := by decide +kernel
theorem d_B_tripped_71 : decode prog_1_method_24_code 71 = .ok (.ior, 1) := by decide +kernel
theorem d_B_tripped_72 : decode prog_1_method_24_code 72 = .ok (.istore_n 1, 1) := by decide +kernel
theorem d_B_tripped_73 : decode prog_1_method_24_code 73 = .ok (.iinc 2 1, 3) := by decide +kernel
theorem d_B_tripped_76 : decode prog_1_method_24_code 76 = .ok (.goto (-45), 3) := by decide +kernel
theorem d_B_tripped_79 : decode prog_1_method_24_code 79 = .ok (.iload_n 1, 1) := by decide +kernel
theorem d_B_tripped_80 : decode prog_1_method_24_code 80 = .ok (.ireturn, 1) := by decide +kernel
set_option maxHeartbeats 4000000 in
set_option maxRecDepth 20000 in
theorem c_B_tripped (s0 : MS) (Q : Int → MS → Prop) (h : wp_B_tripped s0 Q) : MT dscC ⟨"BellSchool", "tripped", "()I"⟩ prog_1_method_24_code 3 (some .int) 6 (fun ad => [.ref (ad 0)]) s0 (po_I dscC Q) := by
  refine met_of (by decide) (fun _ => Nat.le_of_ble_eq_true rfl) (fun X E hR => ?_)
  replace E : EV dscC X prog_1_method_24_code "BellSchool" 3 6 := E
  show VV dscC X 0 [(0, .ref (adX X 0))] [] s0
  unfold wp_B_tripped at h
  refine v_aloadn E d_B_tripped_0 rfl 0 rfl ?_
  refine v_aloadn E d_B_tripped_1 rfl 0 rfl ?_
  refine v_getA E cf8 dC_0 5 (by decide) rfl mw123 d_B_tripped_2 rfl ?_
  refine v_getI E cf5 dC_36 2 (by decide) rfl mw139 d_B_tripped_5 rfl ?_
  refine v_aloadn E d_B_tripped_8 rfl 0 rfl ?_
  refine v_getA E cf8 dC_0 5 (by decide) rfl mw123 d_B_tripped_9 rfl ?_
  refine v_getI E cf5 dC_36 3 (by decide) rfl mw143 d_B_tripped_12 rfl ?_
  refine v_wt (fun wt1 => ?_)
  refine v_callVI E md_B_fitsSeen (c_B_fitsSeen (gI s0 36 2) (wt1 36 2) (gI s0 36 3) (wt1 36 3) s0 _ h) dC_0 rfl ⟨by decide, by decide⟩ mw375 d_B_tripped_15 (fun _ => rfl) (st := []) rfl (Nat.le_of_ble_eq_true rfl) (fun r1 s1 hr1 h => ?_)
  obtain ⟨hz1, h⟩ := h
  refine v_if_eq E 27 d_B_tripped_18 (by decide) hr1 (fun c1 => ?_) (fun c1 => ?_)
  · replace h := h.1 c1
    refine v_iconst E d_B_tripped_27 ?_
    refine v_istoren E d_B_tripped_28 rfl (by decide) (L' := [(1, .int (iI 0)), (0, .ref (adX X 0))]) rfl ?_
    refine v_iconst E d_B_tripped_29 ?_
    refine v_istoren E d_B_tripped_30 rfl (by decide) (L' := [(2, .int (iI 0)), (1, .int (iI 0)), (0, .ref (adX X 0))]) rfl ?_
    refine v_sub [2, 1, 0] (L' := [(0, .ref (adX X 0)), (1, .int (iI 0)), (2, .int (iI 0))]) rfl ?_
    obtain ⟨I1, μ1, h01, h⟩ := h
    refine v_loop2 (fun (x1 : Int) (x2 : Int) => [(0, .ref (adX X 0)), (1, .int (iI x1)), (2, .int (iI x2))]) I1 μ1 (fun x1 x2 s2 hI1 ih1 => ?_) 0 0 s1 h01
    replace h := h x1 x2 s2 hI1
    refine v_iloadn E d_B_tripped_31 rfl 2 rfl ?_
    refine v_aloadn E d_B_tripped_32 rfl 0 rfl ?_
    refine v_getR E cf8 dC_0 0 (by decide) rfl mw118 d_B_tripped_33 rfl (fun hv1 => ?_)
    refine v_getI E cf7 hv1 5 (by decide) rfl mw133 d_B_tripped_36 rfl ?_
    obtain ⟨q1, h⟩ := h
    refine v_wt (fun wt2 => ?_)
    refine v_icmp_ge E 79 d_B_tripped_39 (by decide) q1 (wt2 (gR s2 0 0) 5) (fun c2 => ?_) (fun c2 => ?_)
    · replace h := h.1 c2
      refine v_iloadn E d_B_tripped_79 rfl 1 rfl ?_
      obtain ⟨q2, h⟩ := h
      exact v_iret E hR rfl q2 h d_B_tripped_80
    · replace h := h.2 c2
      refine v_aloadn E d_B_tripped_42 rfl 0 rfl ?_
      refine v_aloadn E d_B_tripped_43 rfl 0 rfl ?_
      refine v_getA E cf8 dC_0 5 (by decide) rfl mw123 d_B_tripped_44 rfl ?_
      refine v_getI E cf5 dC_36 2 (by decide) rfl mw139 d_B_tripped_47 rfl ?_
      refine v_aloadn E d_B_tripped_50 rfl 0 rfl ?_
      refine v_getA E cf8 dC_0 5 (by decide) rfl mw123 d_B_tripped_51 rfl ?_
      refine v_getI E cf5 dC_36 3 (by decide) rfl mw143 d_B_tripped_54 rfl ?_
      refine v_iconst E d_B_tripped_57 ?_
      refine v_iloadn E d_B_tripped_58 rfl 2 rfl ?_
      refine v_ishl E d_B_tripped_59 ?_
      refine v_ior E d_B_tripped_60 ?_
      refine v_callVI E md_B_fitsSeen (c_B_fitsSeen (gI s2 36 2) (wt2 36 2) (ior (gI s2 36 3) (ishl 1 x2)) (Rng_of _) s2 _ h) dC_0 rfl ⟨by decide, by decide⟩ mw375 d_B_tripped_61 (fun _ => rfl) (st := []) rfl (Nat.le_of_ble_eq_true rfl) (fun r2 s3 hr2 h => ?_)
      obtain ⟨hz2, h⟩ := h
      refine v_if_eq E 73 d_B_tripped_64 (by decide) hr2 (fun c3 => ?_) (fun c3 => ?_)
      · replace h := h.1 c3
        refine v_iincN E d_B_tripped_73 2 rfl (by decide) (fun y => [(2, .int (iI y)), (0, .ref (adX X 0)), (1, .int (iI x1))]) (fun _ => rfl) (fun x3 hx3 => ?_)
        replace h := h x3 hx3
        refine v_goto E 31 d_B_tripped_76 (by decide) ?_
        obtain ⟨hb, hm⟩ := h
        exact v_sub [1, 2, 0] rfl (ih1 x1 x3 s3 hb hm)
      · replace h := h.2 c3
        refine v_iloadn E d_B_tripped_67 rfl 1 rfl ?_
        refine v_iconst E d_B_tripped_68 ?_
        refine v_iloadn E d_B_tripped_69 rfl 2 rfl ?_
        refine v_ishl E d_B_tripped_70 ?_
        refine v_ior E d_B_tripped_71 ?_
        refine v_nameI (fun x4 hx4 => ?_)
        replace h := h x4 hx4
        refine v_istoren E d_B_tripped_72 rfl (by decide) (L' := [(1, .int (iI x4)), (0, .ref (adX X 0)), (2, .int (iI x2))]) rfl ?_
        refine v_iincN E d_B_tripped_73 2 rfl (by decide) (fun y => [(2, .int (iI y)), (1, .int (iI x4)), (0, .ref (adX X 0))]) (fun _ => rfl) (fun x5 hx5 => ?_)
        replace h := h x5 hx5
        refine v_goto E 31 d_B_tripped_76 (by decide) ?_
        obtain ⟨hb, hm⟩ := h
        exact v_sub [2, 1, 0] rfl (ih1 x4 x5 s3 hb hm)
  · replace h := h.2 c1
    refine v_sipush E d_B_tripped_21 rfl ?_
    refine v_goto E 28 d_B_tripped_24 (by decide) ?_
    refine v_istoren E d_B_tripped_28 rfl (by decide) (L' := [(1, .int (iI 128)), (0, .ref (adX X 0))]) rfl ?_
    refine v_iconst E d_B_tripped_29 ?_
    refine v_istoren E d_B_tripped_30 rfl (by decide) (L' := [(2, .int (iI 0)), (1, .int (iI 128)), (0, .ref (adX X 0))]) rfl ?_
    refine v_sub [2, 1, 0] (L' := [(0, .ref (adX X 0)), (1, .int (iI 128)), (2, .int (iI 0))]) rfl ?_
    obtain ⟨I2, μ2, h02, h⟩ := h
    refine v_loop2 (fun (x6 : Int) (x7 : Int) => [(0, .ref (adX X 0)), (1, .int (iI x6)), (2, .int (iI x7))]) I2 μ2 (fun x6 x7 s4 hI2 ih2 => ?_) 128 0 s1 h02
    replace h := h x6 x7 s4 hI2
    refine v_iloadn E d_B_tripped_31 rfl 2 rfl ?_
    refine v_aloadn E d_B_tripped_32 rfl 0 rfl ?_
    refine v_getR E cf8 dC_0 0 (by decide) rfl mw118 d_B_tripped_33 rfl (fun hv2 => ?_)
    refine v_getI E cf7 hv2 5 (by decide) rfl mw133 d_B_tripped_36 rfl ?_
    obtain ⟨q3, h⟩ := h
    refine v_wt (fun wt3 => ?_)
    refine v_icmp_ge E 79 d_B_tripped_39 (by decide) q3 (wt3 (gR s4 0 0) 5) (fun c4 => ?_) (fun c4 => ?_)
    · replace h := h.1 c4
      refine v_iloadn E d_B_tripped_79 rfl 1 rfl ?_
      obtain ⟨q4, h⟩ := h
      exact v_iret E hR rfl q4 h d_B_tripped_80
    · replace h := h.2 c4
      refine v_aloadn E d_B_tripped_42 rfl 0 rfl ?_
      refine v_aloadn E d_B_tripped_43 rfl 0 rfl ?_
      refine v_getA E cf8 dC_0 5 (by decide) rfl mw123 d_B_tripped_44 rfl ?_
      refine v_getI E cf5 dC_36 2 (by decide) rfl mw139 d_B_tripped_47 rfl ?_
      refine v_aloadn E d_B_tripped_50 rfl 0 rfl ?_
      refine v_getA E cf8 dC_0 5 (by decide) rfl mw123 d_B_tripped_51 rfl ?_
      refine v_getI E cf5 dC_36 3 (by decide) rfl mw143 d_B_tripped_54 rfl ?_
      refine v_iconst E d_B_tripped_57 ?_
      refine v_iloadn E d_B_tripped_58 rfl 2 rfl ?_
      refine v_ishl E d_B_tripped_59 ?_
      refine v_ior E d_B_tripped_60 ?_
      refine v_callVI E md_B_fitsSeen (c_B_fitsSeen (gI s4 36 2) (wt3 36 2) (ior (gI s4 36 3) (ishl 1 x7)) (Rng_of _) s4 _ h) dC_0 rfl ⟨by decide, by decide⟩ mw375 d_B_tripped_61 (fun _ => rfl) (st := []) rfl (Nat.le_of_ble_eq_true rfl) (fun r3 s5 hr3 h => ?_)
      obtain ⟨hz3, h⟩ := h
      refine v_if_eq E 73 d_B_tripped_64 (by decide) hr3 (fun c5 => ?_) (fun c5 => ?_)
      · replace h := h.1 c5
        refine v_iincN E d_B_tripped_73 2 rfl (by decide) (fun y => [(2, .int (iI y)), (0, .ref (adX X 0)), (1, .int (iI x6))]) (fun _ => rfl) (fun x8 hx8 => ?_)
        replace h := h x8 hx8
        refine v_goto E 31 d_B_tripped_76 (by decide) ?_
        obtain ⟨hb, hm⟩ := h
        exact v_sub [1, 2, 0] rfl (ih2 x6 x8 s5 hb hm)
      · replace h := h.2 c5
        refine v_iloadn E d_B_tripped_67 rfl 1 rfl ?_
        refine v_iconst E d_B_tripped_68 ?_
        refine v_iloadn E d_B_tripped_69 rfl 2 rfl ?_
        refine v_ishl E d_B_tripped_70 ?_
        refine v_ior E d_B_tripped_71 ?_
        refine v_nameI (fun x9 hx9 => ?_)
        replace h := h x9 hx9
        refine v_istoren E d_B_tripped_72 rfl (by decide) (L' := [(1, .int (iI x9)), (0, .ref (adX X 0)), (2, .int (iI x7))]) rfl ?_
        refine v_iincN E d_B_tripped_73 2 rfl (by decide) (fun y => [(2, .int (iI y)), (1, .int (iI x9)), (0, .ref (adX X 0))]) (fun _ => rfl) (fun x10 hx10 => ?_)
        replace h := h x10 hx10
        refine v_goto E 31 d_B_tripped_76 (by decide) ?_
        obtain ⟨hb, hm⟩ := h
        exact v_sub [2, 1, 0] rfl (ih2 x9 x10 s5 hb hm)
theorem d_Measles_power_0 : decode prog_2_method_5_code 0 = .ok (.lconst 1, 1) := by decide +kernel
theorem d_Measles_power_1 : decode prog_2_method_5_code 1 = .ok (.lstore_n 2, 1) := by decide +kernel
theorem d_Measles_power_2 : decode prog_2_method_5_code 2 = .ok (.iconst 0, 1) := by decide +kernel
theorem d_Measles_power_3 : decode prog_2_method_5_code 3 = .ok (.istore 4, 2) := by decide +kernel
theorem d_Measles_power_5 : decode prog_2_method_5_code 5 = .ok (.iload 4, 2) := by decide +kernel
theorem d_Measles_power_7 : decode prog_2_method_5_code 7 = .ok (.iload_n 1, 1) := by decide +kernel
theorem d_Measles_power_8 : decode prog_2_method_5_code 8 = .ok (.if_icmp .ge 14, 3) := by decide +kernel
theorem d_Measles_power_11 : decode prog_2_method_5_code 11 = .ok (.lload_n 2, 1) := by decide +kernel
theorem d_Measles_power_12 : decode prog_2_method_5_code 12 = .ok (.iload_n 0, 1) := by decide +kernel
theorem d_Measles_power_13 : decode prog_2_method_5_code 13 = .ok (.i2l, 1) := by decide +kernel
theorem d_Measles_power_14 : decode prog_2_method_5_code 14 = .ok (.lmul, 1) := by decide +kernel
theorem d_Measles_power_15 : decode prog_2_method_5_code 15 = .ok (.lstore_n 2, 1) := by decide +kernel
theorem d_Measles_power_16 : decode prog_2_method_5_code 16 = .ok (.iinc 4 1, 3) := by decide +kernel
theorem d_Measles_power_19 : decode prog_2_method_5_code 19 = .ok (.goto (-14), 3) := by decide +kernel
theorem d_Measles_power_22 : decode prog_2_method_5_code 22 = .ok (.lload_n 2, 1) := by decide +kernel
theorem d_Measles_power_23 : decode prog_2_method_5_code 23 = .ok (.lreturn, 1) := by decide +kernel
set_option maxHeartbeats 4000000 in
set_option maxRecDepth 20000 in
theorem c_Measles_power (dsc : List CD) (p1 : Int) (hp1 : Rng p1) (p2 : Int) (hp2 : Rng p2) (s0 : MS) (Q : Int64 → Prop) (h : wp_Measles_power p1 p2 Q) : MT dsc ⟨"BellSchool$Measles", "power", "(II)J"⟩ prog_2_method_5_code 5 (some .long) 0 (fun ad => [.int (iI p1), .int (iI p2)]) s0 (po_L dsc (fun r z => z = s0 ∧ Q r)) := by
  refine met_of (by decide) (fun _ => Nat.le_of_ble_eq_true rfl) (fun X E hR => ?_)
  replace E : EV dsc X prog_2_method_5_code "BellSchool$Measles" 5 0 := E
  show VV dsc X 0 [(0, .int (iI p1)), (1, .int (iI p2))] [] s0
  unfold wp_Measles_power at h
  refine v_lconst E (1 : Int64) rfl d_Measles_power_0 ?_
  refine v_lstoren E d_Measles_power_1 rfl (by decide) (L' := [(2, .long (1 : Int64)), (0, .int (iI p1)), (1, .int (iI p2))]) rfl ?_
  refine v_iconst E d_Measles_power_2 ?_
  refine v_istore E d_Measles_power_3 (by decide) (L' := [(4, .int (iI 0)), (2, .long (1 : Int64)), (0, .int (iI p1)), (1, .int (iI p2))]) rfl ?_
  refine v_sub [2, 3, 1, 0] (L' := [(0, .int (iI p1)), (1, .int (iI p2)), (2, .long (1 : Int64)), (4, .int (iI 0))]) rfl ?_
  obtain ⟨I1, μ1, h01, h⟩ := h
  refine v_ploop2 s0 (fun (y1 : Int64) (x1 : Int) => [(0, .int (iI p1)), (1, .int (iI p2)), (2, .long y1), (4, .int (iI x1))]) I1 μ1 (fun y1 x1 hI1 ih1 => ?_) (1 : Int64) 0 h01
  replace h := h y1 x1  hI1
  refine v_iload E d_Measles_power_5 3 rfl ?_
  refine v_iloadn E d_Measles_power_7 rfl 1 rfl ?_
  obtain ⟨q1, h⟩ := h
  refine v_icmp_ge E 22 d_Measles_power_8 (by decide) q1 hp2 (fun c1 => ?_) (fun c1 => ?_)
  · replace h := h.1 c1
    refine v_lloadn E d_Measles_power_22 rfl 2 rfl ?_
    exact v_lret E hR ⟨rfl, h⟩ d_Measles_power_23
  · replace h := h.2 c1
    refine v_lloadn E d_Measles_power_11 rfl 2 rfl ?_
    refine v_iloadn E d_Measles_power_12 rfl 0 rfl ?_
    refine v_i2l E d_Measles_power_13 ?_
    refine v_lmul E d_Measles_power_14 ?_
    refine v_nameL (fun y2 hy2 => ?_)
    replace h := h y2 hy2
    refine v_lstoren E d_Measles_power_15 rfl (by decide) (L' := [(2, .long y2), (0, .int (iI p1)), (1, .int (iI p2)), (4, .int (iI x1))]) rfl ?_
    refine v_iincN E d_Measles_power_16 3 rfl (by decide) (fun y => [(4, .int (iI y)), (2, .long y2), (0, .int (iI p1)), (1, .int (iI p2))]) (fun _ => rfl) (fun x2 hx2 => ?_)
    replace h := h x2 hx2
    refine v_goto E 5 d_Measles_power_19 (by decide) ?_
    obtain ⟨hb, hm⟩ := h
    exact v_sub [2, 3, 1, 0] rfl (ih1 y2 x2 hb hm)
theorem d_Noon_laterThan_0 : decode prog_3_method_12_code 0 = .ok (.iconst 0, 1) := by decide +kernel
theorem d_Noon_laterThan_1 : decode prog_3_method_12_code 1 = .ok (.istore_n 2, 1) := by decide +kernel
theorem d_Noon_laterThan_2 : decode prog_3_method_12_code 2 = .ok (.iconst 0, 1) := by decide +kernel
theorem d_Noon_laterThan_3 : decode prog_3_method_12_code 3 = .ok (.istore_n 3, 1) := by decide +kernel
theorem d_Noon_laterThan_4 : decode prog_3_method_12_code 4 = .ok (.iload_n 3, 1) := by decide +kernel
theorem d_Noon_laterThan_5 : decode prog_3_method_12_code 5 = .ok (.aload_n 0, 1) := by decide +kernel
theorem d_Noon_laterThan_6 : decode prog_3_method_12_code 6 = .ok (.getfield 29, 3) := by decide +kernel
theorem d_Noon_laterThan_9 : decode prog_3_method_12_code 9 = .ok (.getfield 35, 3) := by decide +kernel
theorem d_Noon_laterThan_12 : decode prog_3_method_12_code 12 = .ok (.if_icmp .ge 47, 3) := by decide +kernel
theorem d_Noon_laterThan_15 : decode prog_3_method_12_code 15 = .ok (.aload_n 0, 1) := by decide +kernel
theorem d_Noon_laterThan_16 : decode prog_3_method_12_code 16 = .ok (.getfield 19, 3) := by decide +kernel
theorem d_Noon_laterThan_19 : decode prog_3_method_12_code 19 = .ok (.iload_n 3, 1) := by decide +kernel
theorem d_Noon_laterThan_20 : decode prog_3_method_12_code 20 = .ok (.iaload, 1) := by decide +kernel
theorem d_Noon_laterThan_21 : decode prog_3_method_12_code 21 = .ok (.aload_n 0, 1) := by decide +kernel
theorem d_Noon_laterThan_22 : decode prog_3_method_12_code 22 = .ok (.getfield 19, 3) := by decide +kernel
theorem d_Noon_laterThan_25 : decode prog_3_method_12_code 25 = .ok (.iload_n 1, 1) := by decide +kernel
theorem d_Noon_laterThan_26 : decode prog_3_method_12_code 26 = .ok (.iaload, 1) := by decide +kernel
theorem d_Noon_laterThan_27 : decode prog_3_method_12_code 27 = .ok (.if_icmp .gt 23, 3) := by decide +kernel
theorem d_Noon_laterThan_30 : decode prog_3_method_12_code 30 = .ok (.aload_n 0, 1) := by decide +kernel
theorem d_Noon_laterThan_31 : decode prog_3_method_12_code 31 = .ok (.getfield 19, 3) := by decide +kernel
theorem d_Noon_laterThan_34 : decode prog_3_method_12_code 34 = .ok (.iload_n 3, 1) := by decide +kernel
theorem d_Noon_laterThan_35 : decode prog_3_method_12_code 35 = .ok (.iaload, 1) := by decide +kernel
theorem d_Noon_laterThan_36 : decode prog_3_method_12_code 36 = .ok (.aload_n 0, 1) := by decide +kernel
theorem d_Noon_laterThan_37 : decode prog_3_method_12_code 37 = .ok (.getfield 19, 3) := by decide +kernel
theorem d_Noon_laterThan_40 : decode prog_3_method_12_code 40 = .ok (.iload_n 1, 1) := by decide +kernel
theorem d_Noon_laterThan_41 : decode prog_3_method_12_code 41 = .ok (.iaload, 1) := by decide +kernel
theorem d_Noon_laterThan_42 : decode prog_3_method_12_code 42 = .ok (.if_icmp .ne 11, 3) := by decide +kernel
theorem d_Noon_laterThan_45 : decode prog_3_method_12_code 45 = .ok (.iload_n 3, 1) := by decide +kernel
theorem d_Noon_laterThan_46 : decode prog_3_method_12_code 46 = .ok (.iload_n 1, 1) := by decide +kernel
theorem d_Noon_laterThan_47 : decode prog_3_method_12_code 47 = .ok (.if_icmp .le 6, 3) := by decide +kernel
theorem d_Noon_laterThan_50 : decode prog_3_method_12_code 50 = .ok (.iinc 2 1, 3) := by decide +kernel
theorem d_Noon_laterThan_53 : decode prog_3_method_12_code 53 = .ok (.iinc 3 1, 3) := by decide +kernel
theorem d_Noon_laterThan_56 : decode prog_3_method_12_code 56 = .ok (.goto (-52), 3) := by decide +kernel
theorem d_Noon_laterThan_59 : decode prog_3_method_12_code 59 = .ok (.iload_n 2, 1) := by decide +kernel
theorem d_Noon_laterThan_60 : decode prog_3_method_12_code 60 = .ok (.ireturn, 1) := by decide +kernel
set_option maxHeartbeats 4000000 in
set_option maxRecDepth 20000 in
theorem c_Noon_laterThan (p1 : Int) (hp1 : Rng p1) (s0 : MS) (Q : Int → Prop) (h : wp_Noon_laterThan p1 s0 Q) : MT dscC ⟨"BellSchool$Noon", "laterThan", "(I)I"⟩ prog_3_method_12_code 4 (some .int) 0 (fun ad => [.ref (ad 17), .int (iI p1)]) s0 (po_I dscC (fun r z => z = s0 ∧ Q r)) := by
  refine met_of (by decide) (fun _ => Nat.le_of_ble_eq_true rfl) (fun X E hR => ?_)
  replace E : EV dscC X prog_3_method_12_code "BellSchool$Noon" 4 0 := E
  show VV dscC X 0 [(0, .ref (adX X 17)), (1, .int (iI p1))] [] s0
  unfold wp_Noon_laterThan at h
  refine v_iconst E d_Noon_laterThan_0 ?_
  refine v_istoren E d_Noon_laterThan_1 rfl (by decide) (L' := [(2, .int (iI 0)), (0, .ref (adX X 17)), (1, .int (iI p1))]) rfl ?_
  refine v_iconst E d_Noon_laterThan_2 ?_
  refine v_istoren E d_Noon_laterThan_3 rfl (by decide) (L' := [(3, .int (iI 0)), (2, .int (iI 0)), (0, .ref (adX X 17)), (1, .int (iI p1))]) rfl ?_
  refine v_sub [2, 3, 1, 0] (L' := [(0, .ref (adX X 17)), (1, .int (iI p1)), (2, .int (iI 0)), (3, .int (iI 0))]) rfl ?_
  obtain ⟨I1, μ1, h01, h⟩ := h
  refine v_ploop2 s0 (fun (x1 : Int) (x2 : Int) => [(0, .ref (adX X 17)), (1, .int (iI p1)), (2, .int (iI x1)), (3, .int (iI x2))]) I1 μ1 (fun x1 x2 hI1 ih1 => ?_) 0 0 h01
  replace h := h x1 x2  hI1
  refine v_iloadn E d_Noon_laterThan_4 rfl 3 rfl ?_
  refine v_aloadn E d_Noon_laterThan_5 rfl 0 rfl ?_
  refine v_getR E cf1 dC_17 2 (by decide) rfl mw98 d_Noon_laterThan_6 rfl (fun hv1 => ?_)
  refine v_getI E cf7 hv1 5 (by decide) rfl mw160 d_Noon_laterThan_9 rfl ?_
  obtain ⟨q1, h⟩ := h
  refine v_wt (fun wt1 => ?_)
  refine v_icmp_ge E 59 d_Noon_laterThan_12 (by decide) q1 (wt1 (gR s0 17 2) 5) (fun c1 => ?_) (fun c1 => ?_)
  · replace h := h.1 c1
    refine v_iloadn E d_Noon_laterThan_59 rfl 2 rfl ?_
    obtain ⟨q2, h⟩ := h
    exact v_iret E hR rfl q2 ⟨rfl, h⟩ d_Noon_laterThan_60
  · replace h := h.2 c1
    refine v_aloadn E d_Noon_laterThan_15 rfl 0 rfl ?_
    refine v_getA E cf1 dC_17 3 (by decide) rfl mw196 d_Noon_laterThan_16 rfl ?_
    refine v_iloadn E d_Noon_laterThan_19 rfl 3 rfl ?_
    obtain ⟨q3, h⟩ := h
    refine v_iald E dC_20 (by decide) q3.1 q3.2 d_Noon_laterThan_20 ?_
    refine v_aloadn E d_Noon_laterThan_21 rfl 0 rfl ?_
    refine v_getA E cf1 dC_17 3 (by decide) rfl mw196 d_Noon_laterThan_22 rfl ?_
    refine v_iloadn E d_Noon_laterThan_25 rfl 1 rfl ?_
    obtain ⟨q4, h⟩ := h
    refine v_iald E dC_20 (by decide) q4.1 q4.2 d_Noon_laterThan_26 ?_
    refine v_icmp_gt E 50 d_Noon_laterThan_27 (by decide) (wt1 20 x2) (wt1 20 p1) (fun c2 => ?_) (fun c2 => ?_)
    · replace h := h.1 c2
      refine v_iincN E d_Noon_laterThan_50 2 rfl (by decide) (fun y => [(2, .int (iI y)), (0, .ref (adX X 17)), (1, .int (iI p1)), (3, .int (iI x2))]) (fun _ => rfl) (fun x3 hx3 => ?_)
      replace h := h x3 hx3
      refine v_iincN E d_Noon_laterThan_53 3 rfl (by decide) (fun y => [(3, .int (iI y)), (2, .int (iI x3)), (0, .ref (adX X 17)), (1, .int (iI p1))]) (fun _ => rfl) (fun x4 hx4 => ?_)
      replace h := h x4 hx4
      refine v_goto E 4 d_Noon_laterThan_56 (by decide) ?_
      obtain ⟨hb, hm⟩ := h
      exact v_sub [2, 3, 1, 0] rfl (ih1 x3 x4 hb hm)
    · replace h := h.2 c2
      refine v_aloadn E d_Noon_laterThan_30 rfl 0 rfl ?_
      refine v_getA E cf1 dC_17 3 (by decide) rfl mw196 d_Noon_laterThan_31 rfl ?_
      refine v_iloadn E d_Noon_laterThan_34 rfl 3 rfl ?_
      refine v_iald E dC_20 (by decide) q3.1 q3.2 d_Noon_laterThan_35 ?_
      refine v_aloadn E d_Noon_laterThan_36 rfl 0 rfl ?_
      refine v_getA E cf1 dC_17 3 (by decide) rfl mw196 d_Noon_laterThan_37 rfl ?_
      refine v_iloadn E d_Noon_laterThan_40 rfl 1 rfl ?_
      refine v_iald E dC_20 (by decide) q4.1 q4.2 d_Noon_laterThan_41 ?_
      refine v_icmp_ne E 53 d_Noon_laterThan_42 (by decide) (wt1 20 x2) (wt1 20 p1) (fun c3 => ?_) (fun c3 => ?_)
      · replace h := h.1 c3
        refine v_iincN E d_Noon_laterThan_53 3 rfl (by decide) (fun y => [(3, .int (iI y)), (0, .ref (adX X 17)), (1, .int (iI p1)), (2, .int (iI x1))]) (fun _ => rfl) (fun x5 hx5 => ?_)
        replace h := h x5 hx5
        refine v_goto E 4 d_Noon_laterThan_56 (by decide) ?_
        obtain ⟨hb, hm⟩ := h
        exact v_sub [1, 2, 3, 0] rfl (ih1 x1 x5 hb hm)
      · replace h := h.2 c3
        refine v_iloadn E d_Noon_laterThan_45 rfl 3 rfl ?_
        refine v_iloadn E d_Noon_laterThan_46 rfl 1 rfl ?_
        refine v_icmp_le E 53 d_Noon_laterThan_47 (by decide) q1 hp1 (fun c4 => ?_) (fun c4 => ?_)
        · replace h := h.1 c4
          refine v_iincN E d_Noon_laterThan_53 3 rfl (by decide) (fun y => [(3, .int (iI y)), (0, .ref (adX X 17)), (1, .int (iI p1)), (2, .int (iI x1))]) (fun _ => rfl) (fun x6 hx6 => ?_)
          replace h := h x6 hx6
          refine v_goto E 4 d_Noon_laterThan_56 (by decide) ?_
          obtain ⟨hb, hm⟩ := h
          exact v_sub [1, 2, 3, 0] rfl (ih1 x1 x6 hb hm)
        · replace h := h.2 c4
          refine v_iincN E d_Noon_laterThan_50 2 rfl (by decide) (fun y => [(2, .int (iI y)), (0, .ref (adX X 17)), (1, .int (iI p1)), (3, .int (iI x2))]) (fun _ => rfl) (fun x7 hx7 => ?_)
          replace h := h x7 hx7
          refine v_iincN E d_Noon_laterThan_53 3 rfl (by decide) (fun y => [(3, .int (iI y)), (2, .int (iI x7)), (0, .ref (adX X 17)), (1, .int (iI p1))]) (fun _ => rfl) (fun x8 hx8 => ?_)
          replace h := h x8 hx8
          refine v_goto E 4 d_Noon_laterThan_56 (by decide) ?_
          obtain ⟨hb, hm⟩ := h
          exact v_sub [2, 3, 1, 0] rfl (ih1 x7 x8 hb hm)
theorem d_Measles_spreadFrom_0 : decode prog_2_method_4_code 0 = .ok (.aload_n 2, 1) := by decide +kernel
theorem d_Measles_spreadFrom_1 : decode prog_2_method_4_code 1 = .ok (.invokevirtual 38, 3) := by decide +kernel
theorem d_Measles_spreadFrom_4 : decode prog_2_method_4_code 4 = .ok (.istore 4, 2) := by decide +kernel
theorem d_Measles_spreadFrom_6 : decode prog_2_method_4_code 6 = .ok (.aload_n 0, 1) := by decide +kernel
theorem d_Measles_spreadFrom_7 : decode prog_2_method_4_code 7 = .ok (.getfield 15, 3) := by decide +kernel
theorem d_Measles_spreadFrom_10 : decode prog_2_method_4_code 10 = .ok (.iload_n 1, 1) := by decide +kernel
theorem d_Measles_spreadFrom_11 : decode prog_2_method_4_code 11 = .ok (.dup2, 1) := by decide +kernel
theorem d_Measles_spreadFrom_12 : decode prog_2_method_4_code 12 = .ok (.laload, 1) := by decide +kernel
theorem d_Measles_spreadFrom_13 : decode prog_2_method_4_code 13 = .ok (.aload_n 0, 1) := by decide +kernel
theorem d_Measles_spreadFrom_14 : decode prog_2_method_4_code 14 = .ok (.getfield 9, 3) := by decide +kernel
theorem d_Measles_spreadFrom_17 : decode prog_2_method_4_code 17 = .ok (.iload_n 1, 1) := by decide +kernel
theorem d_Measles_spreadFrom_18 : decode prog_2_method_4_code 18 = .ok (.laload, 1) := by decide +kernel
theorem d_Measles_spreadFrom_19 : decode prog_2_method_4_code 19 = .ok (.iload_n 3, 1) := by decide +kernel
theorem d_Measles_spreadFrom_20 : decode prog_2_method_4_code 20 = .ok (.aload_n 2, 1) := by decide +kernel
theorem d_Measles_spreadFrom_21 : decode prog_2_method_4_code 21 = .ok (.getfield 56, 3) := by decide +kernel
theorem d_Measles_spreadFrom_24 : decode prog_2_method_4_code 24 = .ok (.invokestatic 52, 3) := by decide +kernel
theorem d_Measles_spreadFrom_27 : decode prog_2_method_4_code 27 = .ok (.lmul, 1) := by decide +kernel
theorem d_Measles_spreadFrom_28 : decode prog_2_method_4_code 28 = .ok (.bipush 10, 2) := by decide +kernel
theorem d_Measles_spreadFrom_30 : decode prog_2_method_4_code 30 = .ok (.iload 4, 2) := by decide +kernel
theorem d_Measles_spreadFrom_32 : decode prog_2_method_4_code 32 = .ok (.aload_n 2, 1) := by decide +kernel
theorem d_Measles_spreadFrom_33 : decode prog_2_method_4_code 33 = .ok (.getfield 56, 3) := by decide +kernel
theorem d_Measles_spreadFrom_36 : decode prog_2_method_4_code 36 = .ok (.isub, 1) := by decide +kernel
theorem d_Measles_spreadFrom_37 : decode prog_2_method_4_code 37 = .ok (.invokestatic 52, 3) := by decide +kernel
theorem d_Measles_spreadFrom_40 : decode prog_2_method_4_code 40 = .ok (.lmul, 1) := by decide +kernel
theorem d_Measles_spreadFrom_41 : decode prog_2_method_4_code 41 = .ok (.ladd, 1) := by decide +kernel
theorem d_Measles_spreadFrom_42 : decode prog_2_method_4_code 42 = .ok (.lastore, 1) := by decide +kernel
theorem d_Measles_spreadFrom_43 : decode prog_2_method_4_code 43 = .ok (.iconst 0, 1) := by decide +kernel
theorem d_Measles_spreadFrom_44 : decode prog_2_method_4_code 44 = .ok (.istore 5, 2) := by decide +kernel
theorem d_Measles_spreadFrom_46 : decode prog_2_method_4_code 46 = .ok (.iload 5, 2) := by decide +kernel
theorem d_Measles_spreadFrom_48 : decode prog_2_method_4_code 48 = .ok (.iload 4, 2) := by decide +kernel
theorem d_Measles_spreadFrom_50 : decode prog_2_method_4_code 50 = .ok (.if_icmp .ge 75, 3) := by decide +kernel
theorem d_Measles_spreadFrom_53 : decode prog_2_method_4_code 53 = .ok (.aload_n 2, 1) := by decide +kernel
theorem d_Measles_spreadFrom_54 : decode prog_2_method_4_code 54 = .ok (.getfield 59, 3) := by decide +kernel
theorem d_Measles_spreadFrom_57 : decode prog_2_method_4_code 57 = .ok (.iload 5, 2) := by decide +kernel
theorem d_Measles_spreadFrom_59 : decode prog_2_method_4_code 59 = .ok (.iaload, 1) := by decide +kernel
theorem d_Measles_spreadFrom_60 : decode prog_2_method_4_code 60 = .ok (.bipush (-4), 2) := by decide +kernel
theorem d_Measles_spreadFrom_62 : decode prog_2_method_4_code 62 = .ok (.if_icmp .eq 57, 3) := by decide +kernel
theorem d_Measles_spreadFrom_65 : decode prog_2_method_4_code 65 = .ok (.aload_n 2, 1) := by decide +kernel
theorem d_Measles_spreadFrom_66 : decode prog_2_method_4_code 66 = .ok (.iload 5, 2) := by decide +kernel
theorem d_Measles_spreadFrom_68 : decode prog_2_method_4_code 68 = .ok (.invokevirtual 63, 3) := by decide +kernel
theorem d_Measles_spreadFrom_71 : decode prog_2_method_4_code 71 = .ok (.istore 6, 2) := by decide +kernel
theorem d_Measles_spreadFrom_73 : decode prog_2_method_4_code 73 = .ok (.bipush 10, 2) := by decide +kernel
theorem d_Measles_spreadFrom_75 : decode prog_2_method_4_code 75 = .ok (.iload_n 3, 1) := by decide +kernel
theorem d_Measles_spreadFrom_76 : decode prog_2_method_4_code 76 = .ok (.isub, 1) := by decide +kernel
theorem d_Measles_spreadFrom_77 : decode prog_2_method_4_code 77 = .ok (.i2l, 1) := by decide +kernel
theorem d_Measles_spreadFrom_78 : decode prog_2_method_4_code 78 = .ok (.iload_n 3, 1) := by decide +kernel
theorem d_Measles_spreadFrom_79 : decode prog_2_method_4_code 79 = .ok (.iload 6, 2) := by decide +kernel
theorem d_Measles_spreadFrom_81 : decode prog_2_method_4_code 81 = .ok (.invokestatic 52, 3) := by decide +kernel
theorem d_Measles_spreadFrom_84 : decode prog_2_method_4_code 84 = .ok (.lmul, 1) := by decide +kernel
theorem d_Measles_spreadFrom_85 : decode prog_2_method_4_code 85 = .ok (.bipush 10, 2) := by decide +kernel
theorem d_Measles_spreadFrom_87 : decode prog_2_method_4_code 87 = .ok (.iload 4, 2) := by decide +kernel
theorem d_Measles_spreadFrom_89 : decode prog_2_method_4_code 89 = .ok (.iconst 1, 1) := by decide +kernel
theorem d_Measles_spreadFrom_90 : decode prog_2_method_4_code 90 = .ok (.isub, 1) := by decide +kernel
theorem d_Measles_spreadFrom_91 : decode prog_2_method_4_code 91 = .ok (.iload 6, 2) := by decide +kernel
theorem d_Measles_spreadFrom_93 : decode prog_2_method_4_code 93 = .ok (.isub, 1) := by decide +kernel
theorem d_Measles_spreadFrom_94 : decode prog_2_method_4_code 94 = .ok (.invokestatic 52, 3) := by decide +kernel
theorem d_Measles_spreadFrom_97 : decode prog_2_method_4_code 97 = .ok (.lmul, 1) := by decide +kernel
theorem d_Measles_spreadFrom_98 : decode prog_2_method_4_code 98 = .ok (.lstore 7, 2) := by decide +kernel
theorem d_Measles_spreadFrom_100 : decode prog_2_method_4_code 100 = .ok (.aload_n 0, 1) := by decide +kernel
theorem d_Measles_spreadFrom_101 : decode prog_2_method_4_code 101 = .ok (.getfield 15, 3) := by decide +kernel
theorem d_Measles_spreadFrom_104 : decode prog_2_method_4_code 104 = .ok (.iload 5, 2) := by decide +kernel
theorem d_Measles_spreadFrom_106 : decode prog_2_method_4_code 106 = .ok (.dup2, 1) := by decide +kernel
theorem d_Measles_spreadFrom_107 : decode prog_2_method_4_code 107 = .ok (.laload, 1) := by decide +kernel
theorem d_Measles_spreadFrom_108 : decode prog_2_method_4_code 108 = .ok (.aload_n 0, 1) := by decide +kernel
theorem d_Measles_spreadFrom_109 : decode prog_2_method_4_code 109 = .ok (.getfield 9, 3) := by decide +kernel
theorem d_Measles_spreadFrom_112 : decode prog_2_method_4_code 112 = .ok (.iload_n 1, 1) := by decide +kernel
theorem d_Measles_spreadFrom_113 : decode prog_2_method_4_code 113 = .ok (.laload, 1) := by decide +kernel
theorem d_Measles_spreadFrom_114 : decode prog_2_method_4_code 114 = .ok (.lload 7, 2) := by decide +kernel
theorem d_Measles_spreadFrom_116 : decode prog_2_method_4_code 116 = .ok (.lmul, 1) := by decide +kernel
theorem d_Measles_spreadFrom_117 : decode prog_2_method_4_code 117 = .ok (.ladd, 1) := by decide +kernel
theorem d_Measles_spreadFrom_118 : decode prog_2_method_4_code 118 = .ok (.lastore, 1) := by decide +kernel
theorem d_Measles_spreadFrom_119 : decode prog_2_method_4_code 119 = .ok (.iinc 5 1, 3) := by decide +kernel
theorem d_Measles_spreadFrom_122 : decode prog_2_method_4_code 122 = .ok (.goto (-76), 3) := by decide +kernel
theorem d_Measles_spreadFrom_125 : decode prog_2_method_4_code 125 = .ok (.return_, 1) := by decide +kernel
set_option maxHeartbeats 4000000 in
set_option maxRecDepth 20000 in
theorem c_Measles_spreadFrom (p1 : Int) (hp1 : Rng p1) (p3 : Int) (hp3 : Rng p3) (s0 : MS) (Q : MS → Prop) (h : wp_Measles_spreadFrom p1 p3 s0 Q) : MT dscC ⟨"BellSchool$Measles", "spreadFrom", "(ILBellSchool$Noon;I)V"⟩ prog_2_method_4_code 9 none 1 (fun ad => [.ref (ad 31), .int (iI p1), .ref (ad 17), .int (iI p3)]) s0 (po_V dscC Q) := by
  refine met_of (by decide) (fun _ => Nat.le_of_ble_eq_true rfl) (fun X E hR => ?_)
  replace E : EV dscC X prog_2_method_4_code "BellSchool$Measles" 9 1 := E
  show VV dscC X 0 [(0, .ref (adX X 31)), (1, .int (iI p1)), (2, .ref (adX X 17)), (3, .int (iI p3))] [] s0
  unfold wp_Measles_spreadFrom at h
  refine v_aloadn E d_Measles_spreadFrom_0 rfl 2 rfl ?_
  refine v_callVIp E md_Noon_homes (c_Noon_homes s0 _ h) dC_17 rfl ⟨by decide, by decide⟩ mw388 d_Measles_spreadFrom_1 (fun _ => rfl) (st := []) rfl (Nat.le_of_ble_eq_true rfl) (fun r1 hr1 h => ?_)
  refine v_istore E d_Measles_spreadFrom_4 (by decide) (L' := [(4, .int (iI r1)), (0, .ref (adX X 31)), (1, .int (iI p1)), (2, .ref (adX X 17)), (3, .int (iI p3))]) rfl ?_
  refine v_aloadn E d_Measles_spreadFrom_6 rfl 1 rfl ?_
  refine v_getA E cf0 dC_31 1 (by decide) rfl mw389 d_Measles_spreadFrom_7 rfl ?_
  refine v_iloadn E d_Measles_spreadFrom_10 rfl 2 rfl ?_
  refine v_dup2 E d_Measles_spreadFrom_11 rfl rfl ?_
  obtain ⟨q1, h⟩ := h
  refine v_lald E dC_33 (by decide) q1.1 q1.2 d_Measles_spreadFrom_12 ?_
  refine v_aloadn E d_Measles_spreadFrom_13 rfl 1 rfl ?_
  refine v_getA E cf0 dC_31 0 (by decide) rfl mw390 d_Measles_spreadFrom_14 rfl ?_
  refine v_iloadn E d_Measles_spreadFrom_17 rfl 2 rfl ?_
  refine v_lald E dC_32 (by decide) q1.1 q1.2 d_Measles_spreadFrom_18 ?_
  refine v_iloadn E d_Measles_spreadFrom_19 rfl 4 rfl ?_
  refine v_aloadn E d_Measles_spreadFrom_20 rfl 3 rfl ?_
  refine v_getI E cf1 dC_17 5 (by decide) rfl mw391 d_Measles_spreadFrom_21 rfl ?_
  refine v_wt (fun wt1 => ?_)
  refine v_callSLp E md_Measles_power (c_Measles_power dscC p3 hp3 (gI s0 17 5) (wt1 17 5) s0 _ h) ⟨by decide, by decide⟩ mw392 d_Measles_spreadFrom_24 (fun _ => rfl) (st := [.long (gL s0 32 p1), .long (gL s0 33 p1), .int (iI p1), .ref (adX X 33)]) rfl (Nat.le_of_ble_eq_true rfl) (fun r2 h => ?_)
  refine v_lmul E d_Measles_spreadFrom_27 ?_
  refine v_bipush E d_Measles_spreadFrom_28 rfl ?_
  refine v_iload E d_Measles_spreadFrom_30 0 rfl ?_
  refine v_aloadn E d_Measles_spreadFrom_32 rfl 3 rfl ?_
  refine v_getI E cf1 dC_17 5 (by decide) rfl mw391 d_Measles_spreadFrom_33 rfl ?_
  refine v_isub E d_Measles_spreadFrom_36 ?_
  obtain ⟨q2, h⟩ := h
  refine v_callSLp E md_Measles_power (c_Measles_power dscC 10 (by decide) (r1 - (gI s0 17 5)) q2 s0 _ h) ⟨by decide, by decide⟩ mw392 d_Measles_spreadFrom_37 (fun _ => rfl) (st := [.long ((gL s0 32 p1) * r2), .long (gL s0 33 p1), .int (iI p1), .ref (adX X 33)]) rfl (Nat.le_of_ble_eq_true rfl) (fun r3 h => ?_)
  refine v_lmul E d_Measles_spreadFrom_40 ?_
  refine v_ladd E d_Measles_spreadFrom_41 ?_
  refine v_last E dC_33 (by decide) q1.1 q1.2 d_Measles_spreadFrom_42 ?_
  refine v_nameS (fun s1 hs1 => ?_)
  replace h := h s1 hs1
  refine v_iconst E d_Measles_spreadFrom_43 ?_
  refine v_istore E d_Measles_spreadFrom_44 (by decide) (L' := [(5, .int (iI 0)), (4, .int (iI r1)), (0, .ref (adX X 31)), (1, .int (iI p1)), (2, .ref (adX X 17)), (3, .int (iI p3))]) rfl ?_
  refine v_sub [2, 3, 4, 5, 1, 0] (L' := [(0, .ref (adX X 31)), (1, .int (iI p1)), (2, .ref (adX X 17)), (3, .int (iI p3)), (4, .int (iI r1)), (5, .int (iI 0))]) rfl ?_
  obtain ⟨I1, μ1, h01, h⟩ := h
  refine v_loop1 (fun (x1 : Int) => [(0, .ref (adX X 31)), (1, .int (iI p1)), (2, .ref (adX X 17)), (3, .int (iI p3)), (4, .int (iI r1)), (5, .int (iI x1))]) I1 μ1 (fun x1 s2 hI1 ih1 => ?_) 0 s1 h01
  replace h := h x1 s2 hI1
  refine v_iload E d_Measles_spreadFrom_46 5 rfl ?_
  refine v_iload E d_Measles_spreadFrom_48 4 rfl ?_
  obtain ⟨q3, h⟩ := h
  refine v_icmp_ge E 125 d_Measles_spreadFrom_50 (by decide) q3 hr1 (fun c1 => ?_) (fun c1 => ?_)
  · replace h := h.1 c1
    exact v_vret E hR h d_Measles_spreadFrom_125
  · replace h := h.2 c1
    refine v_aloadn E d_Measles_spreadFrom_53 rfl 2 rfl ?_
    refine v_getA E cf1 dC_17 3 (by decide) rfl mw393 d_Measles_spreadFrom_54 rfl ?_
    refine v_iload E d_Measles_spreadFrom_57 5 rfl ?_
    obtain ⟨q4, h⟩ := h
    refine v_iald E dC_20 (by decide) q4.1 q4.2 d_Measles_spreadFrom_59 ?_
    refine v_bipush E d_Measles_spreadFrom_60 rfl ?_
    refine v_wt (fun wt2 => ?_)
    refine v_icmp_eq E 119 d_Measles_spreadFrom_62 (by decide) (wt2 20 x1) (by decide) (fun c2 => ?_) (fun c2 => ?_)
    · replace h := h.1 c2
      refine v_iincN E d_Measles_spreadFrom_119 5 rfl (by decide) (fun y => [(5, .int (iI y)), (0, .ref (adX X 31)), (1, .int (iI p1)), (2, .ref (adX X 17)), (3, .int (iI p3)), (4, .int (iI r1))]) (fun _ => rfl) (fun x2 hx2 => ?_)
      replace h := h x2 hx2
      refine v_goto E 46 d_Measles_spreadFrom_122 (by decide) ?_
      obtain ⟨hb, hm⟩ := h
      exact v_sub [1, 2, 3, 4, 5, 0] rfl (ih1 x2 s2 hb hm)
    · replace h := h.2 c2
      refine v_aloadn E d_Measles_spreadFrom_65 rfl 2 rfl ?_
      refine v_iload E d_Measles_spreadFrom_66 5 rfl ?_
      refine v_callVIp E md_Noon_laterThan (c_Noon_laterThan x1 q3 s2 _ h) dC_17 rfl ⟨by decide, by decide⟩ mw394 d_Measles_spreadFrom_68 (fun _ => rfl) (st := []) rfl (Nat.le_of_ble_eq_true rfl) (fun r4 hr4 h => ?_)
      refine v_istore E d_Measles_spreadFrom_71 (by decide) (L' := [(6, .int (iI r4)), (0, .ref (adX X 31)), (1, .int (iI p1)), (2, .ref (adX X 17)), (3, .int (iI p3)), (4, .int (iI r1)), (5, .int (iI x1))]) rfl ?_
      refine v_bipush E d_Measles_spreadFrom_73 rfl ?_
      refine v_iloadn E d_Measles_spreadFrom_75 rfl 4 rfl ?_
      refine v_isub E d_Measles_spreadFrom_76 ?_
      refine v_i2l E d_Measles_spreadFrom_77 ?_
      refine v_iloadn E d_Measles_spreadFrom_78 rfl 4 rfl ?_
      refine v_iload E d_Measles_spreadFrom_79 0 rfl ?_
      refine v_callSLp E md_Measles_power (c_Measles_power dscC p3 hp3 r4 hr4 s2 _ h) ⟨by decide, by decide⟩ mw392 d_Measles_spreadFrom_81 (fun _ => rfl) (st := [.long (i2l (10 - p3))]) rfl (Nat.le_of_ble_eq_true rfl) (fun r5 h => ?_)
      refine v_lmul E d_Measles_spreadFrom_84 ?_
      refine v_bipush E d_Measles_spreadFrom_85 rfl ?_
      refine v_iload E d_Measles_spreadFrom_87 5 rfl ?_
      refine v_iconst E d_Measles_spreadFrom_89 ?_
      refine v_isub E d_Measles_spreadFrom_90 ?_
      refine v_iload E d_Measles_spreadFrom_91 0 rfl ?_
      refine v_isub E d_Measles_spreadFrom_93 ?_
      obtain ⟨q5, h⟩ := h
      refine v_callSLp E md_Measles_power (c_Measles_power dscC 10 (by decide) ((r1 - 1) - r4) q5 s2 _ h) ⟨by decide, by decide⟩ mw392 d_Measles_spreadFrom_94 (fun _ => rfl) (st := [.long ((i2l (10 - p3)) * r5)]) rfl (Nat.le_of_ble_eq_true rfl) (fun r6 h => ?_)
      refine v_lmul E d_Measles_spreadFrom_97 ?_
      refine v_nameL (fun y1 hy1 => ?_)
      replace h := h y1 hy1
      refine v_lstore E d_Measles_spreadFrom_98 (by decide) (L' := [(7, .long y1), (6, .int (iI r4)), (0, .ref (adX X 31)), (1, .int (iI p1)), (2, .ref (adX X 17)), (3, .int (iI p3)), (4, .int (iI r1)), (5, .int (iI x1))]) rfl ?_
      refine v_aloadn E d_Measles_spreadFrom_100 rfl 2 rfl ?_
      refine v_getA E cf0 dC_31 1 (by decide) rfl mw389 d_Measles_spreadFrom_101 rfl ?_
      refine v_iload E d_Measles_spreadFrom_104 7 rfl ?_
      refine v_dup2 E d_Measles_spreadFrom_106 rfl rfl ?_
      refine v_lald E dC_33 (by decide) q4.1 q4.2 d_Measles_spreadFrom_107 ?_
      refine v_aloadn E d_Measles_spreadFrom_108 rfl 2 rfl ?_
      refine v_getA E cf0 dC_31 0 (by decide) rfl mw390 d_Measles_spreadFrom_109 rfl ?_
      refine v_iloadn E d_Measles_spreadFrom_112 rfl 3 rfl ?_
      refine v_lald E dC_32 (by decide) q1.1 q1.2 d_Measles_spreadFrom_113 ?_
      refine v_lload E d_Measles_spreadFrom_114 0 rfl ?_
      refine v_lmul E d_Measles_spreadFrom_116 ?_
      refine v_ladd E d_Measles_spreadFrom_117 ?_
      refine v_last E dC_33 (by decide) q4.1 q4.2 d_Measles_spreadFrom_118 ?_
      refine v_nameS (fun s3 hs3 => ?_)
      replace h := h s3 hs3
      refine v_iincN E d_Measles_spreadFrom_119 7 rfl (by decide) (fun y => [(5, .int (iI y)), (7, .long y1), (6, .int (iI r4)), (0, .ref (adX X 31)), (1, .int (iI p1)), (2, .ref (adX X 17)), (3, .int (iI p3)), (4, .int (iI r1))]) (fun _ => rfl) (fun x3 hx3 => ?_)
      replace h := h x3 hx3
      refine v_goto E 46 d_Measles_spreadFrom_122 (by decide) ?_
      obtain ⟨hb, hm⟩ := h
      exact v_sub [3, 4, 5, 6, 7, 0] rfl (ih1 x3 s3 hb hm)
theorem d_Measles_spread_0 : decode prog_2_method_3_code 0 = .ok (.iconst 0, 1) := by decide +kernel
theorem d_Measles_spread_1 : decode prog_2_method_3_code 1 = .ok (.istore 4, 2) := by decide +kernel
theorem d_Measles_spread_3 : decode prog_2_method_3_code 3 = .ok (.iload 4, 2) := by decide +kernel
theorem d_Measles_spread_5 : decode prog_2_method_3_code 5 = .ok (.bipush 7, 2) := by decide +kernel
theorem d_Measles_spread_7 : decode prog_2_method_3_code 7 = .ok (.if_icmp .ge 17, 3) := by decide +kernel
theorem d_Measles_spread_10 : decode prog_2_method_3_code 10 = .ok (.aload_n 0, 1) := by decide +kernel
theorem d_Measles_spread_11 : decode prog_2_method_3_code 11 = .ok (.getfield 15, 3) := by decide +kernel
theorem d_Measles_spread_14 : decode prog_2_method_3_code 14 = .ok (.iload 4, 2) := by decide +kernel
theorem d_Measles_spread_16 : decode prog_2_method_3_code 16 = .ok (.lconst 0, 1) := by decide +kernel
theorem d_Measles_spread_17 : decode prog_2_method_3_code 17 = .ok (.lastore, 1) := by decide +kernel
theorem d_Measles_spread_18 : decode prog_2_method_3_code 18 = .ok (.iinc 4 1, 3) := by decide +kernel
theorem d_Measles_spread_21 : decode prog_2_method_3_code 21 = .ok (.goto (-18), 3) := by decide +kernel
theorem d_Measles_spread_24 : decode prog_2_method_3_code 24 = .ok (.iconst 0, 1) := by decide +kernel
theorem d_Measles_spread_25 : decode prog_2_method_3_code 25 = .ok (.istore 4, 2) := by decide +kernel
theorem d_Measles_spread_27 : decode prog_2_method_3_code 27 = .ok (.iload 4, 2) := by decide +kernel
theorem d_Measles_spread_29 : decode prog_2_method_3_code 29 = .ok (.aload_n 1, 1) := by decide +kernel
theorem d_Measles_spread_30 : decode prog_2_method_3_code 30 = .ok (.invokevirtual 38, 3) := by decide +kernel
theorem d_Measles_spread_33 : decode prog_2_method_3_code 33 = .ok (.if_icmp .ge 40, 3) := by decide +kernel
theorem d_Measles_spread_36 : decode prog_2_method_3_code 36 = .ok (.aload_n 0, 1) := by decide +kernel
theorem d_Measles_spread_37 : decode prog_2_method_3_code 37 = .ok (.getfield 9, 3) := by decide +kernel
theorem d_Measles_spread_40 : decode prog_2_method_3_code 40 = .ok (.iload 4, 2) := by decide +kernel
theorem d_Measles_spread_42 : decode prog_2_method_3_code 42 = .ok (.laload, 1) := by decide +kernel
theorem d_Measles_spread_43 : decode prog_2_method_3_code 43 = .ok (.lconst 0, 1) := by decide +kernel
theorem d_Measles_spread_44 : decode prog_2_method_3_code 44 = .ok (.lcmp, 1) := by decide +kernel
theorem d_Measles_spread_45 : decode prog_2_method_3_code 45 = .ok (.ifCond .eq 22, 3) := by decide +kernel
theorem d_Measles_spread_48 : decode prog_2_method_3_code 48 = .ok (.aload_n 2, 1) := by decide +kernel
theorem d_Measles_spread_49 : decode prog_2_method_3_code 49 = .ok (.iload 4, 2) := by decide +kernel
theorem d_Measles_spread_51 : decode prog_2_method_3_code 51 = .ok (.putfield 22, 3) := by decide +kernel
theorem d_Measles_spread_54 : decode prog_2_method_3_code 54 = .ok (.aload_n 1, 1) := by decide +kernel
theorem d_Measles_spread_55 : decode prog_2_method_3_code 55 = .ok (.aload_n 2, 1) := by decide +kernel
theorem d_Measles_spread_56 : decode prog_2_method_3_code 56 = .ok (.invokevirtual 44, 3) := by decide +kernel
theorem d_Measles_spread_59 : decode prog_2_method_3_code 59 = .ok (.aload_n 0, 1) := by decide +kernel
theorem d_Measles_spread_60 : decode prog_2_method_3_code 60 = .ok (.iload 4, 2) := by decide +kernel
theorem d_Measles_spread_62 : decode prog_2_method_3_code 62 = .ok (.aload_n 1, 1) := by decide +kernel
theorem d_Measles_spread_63 : decode prog_2_method_3_code 63 = .ok (.iload_n 3, 1) := by decide +kernel
theorem d_Measles_spread_64 : decode prog_2_method_3_code 64 = .ok (.invokevirtual 48, 3) := by decide +kernel
theorem d_Measles_spread_67 : decode prog_2_method_3_code 67 = .ok (.iinc 4 1, 3) := by decide +kernel
theorem d_Measles_spread_70 : decode prog_2_method_3_code 70 = .ok (.goto (-43), 3) := by decide +kernel
theorem d_Measles_spread_73 : decode prog_2_method_3_code 73 = .ok (.iconst 0, 1) := by decide +kernel
theorem d_Measles_spread_74 : decode prog_2_method_3_code 74 = .ok (.istore 4, 2) := by decide +kernel
theorem d_Measles_spread_76 : decode prog_2_method_3_code 76 = .ok (.iload 4, 2) := by decide +kernel
theorem d_Measles_spread_78 : decode prog_2_method_3_code 78 = .ok (.bipush 7, 2) := by decide +kernel
theorem d_Measles_spread_80 : decode prog_2_method_3_code 80 = .ok (.if_icmp .ge 23, 3) := by decide +kernel
theorem d_Measles_spread_83 : decode prog_2_method_3_code 83 = .ok (.aload_n 0, 1) := by decide +kernel
theorem d_Measles_spread_84 : decode prog_2_method_3_code 84 = .ok (.getfield 9, 3) := by decide +kernel
theorem d_Measles_spread_87 : decode prog_2_method_3_code 87 = .ok (.iload 4, 2) := by decide +kernel
theorem d_Measles_spread_89 : decode prog_2_method_3_code 89 = .ok (.aload_n 0, 1) := by decide +kernel
theorem d_Measles_spread_90 : decode prog_2_method_3_code 90 = .ok (.getfield 15, 3) := by decide +kernel
theorem d_Measles_spread_93 : decode prog_2_method_3_code 93 = .ok (.iload 4, 2) := by decide +kernel
theorem d_Measles_spread_95 : decode prog_2_method_3_code 95 = .ok (.laload, 1) := by decide +kernel
theorem d_Measles_spread_96 : decode prog_2_method_3_code 96 = .ok (.lastore, 1) := by decide +kernel
theorem d_Measles_spread_97 : decode prog_2_method_3_code 97 = .ok (.iinc 4 1, 3) := by decide +kernel
theorem d_Measles_spread_100 : decode prog_2_method_3_code 100 = .ok (.goto (-24), 3) := by decide +kernel
theorem d_Measles_spread_103 : decode prog_2_method_3_code 103 = .ok (.aload_n 0, 1) := by decide +kernel
theorem d_Measles_spread_104 : decode prog_2_method_3_code 104 = .ok (.dup, 1) := by decide +kernel
theorem d_Measles_spread_105 : decode prog_2_method_3_code 105 = .ok (.getfield 18, 3) := by decide +kernel
theorem d_Measles_spread_108 : decode prog_2_method_3_code 108 = .ok (.bipush 10, 2) := by decide +kernel
theorem d_Measles_spread_110 : decode prog_2_method_3_code 110 = .ok (.aload_n 1, 1) := by decide +kernel
theorem d_Measles_spread_111 : decode prog_2_method_3_code 111 = .ok (.invokevirtual 38, 3) := by decide +kernel
theorem d_Measles_spread_114 : decode prog_2_method_3_code 114 = .ok (.invokestatic 52, 3) := by decide +kernel
theorem d_Measles_spread_117 : decode prog_2_method_3_code 117 = .ok (.lmul, 1) := by decide +kernel
theorem d_Measles_spread_118 : decode prog_2_method_3_code 118 = .ok (.putfield 18, 3) := by decide +kernel
theorem d_Measles_spread_121 : decode prog_2_method_3_code 121 = .ok (.return_, 1) := by decide +kernel
set_option maxHeartbeats 4000000 in
set_option maxRecDepth 20000 in
theorem c_Measles_spread (p2 : Nat) (hp2 : dscC[p2]? = some dSt) (p3 : Int) (hp3 : Rng p3) (s0 : MS) (Q : MS → Prop) (h : wp_Measles_spread p2 p3 s0 Q) : MT dscC ⟨"BellSchool$Measles", "spread", "(LBellSchool$Noon;LBellSchool$Standing;I)V"⟩ prog_2_method_3_code 5 none 4 (fun ad => [.ref (ad 31), .ref (ad 17), .ref (ad p2), .int (iI p3)]) s0 (po_V dscC Q) := by
  refine met_of (by decide) (fun _ => Nat.le_of_ble_eq_true rfl) (fun X E hR => ?_)
  replace E : EV dscC X prog_2_method_3_code "BellSchool$Measles" 5 4 := E
  show VV dscC X 0 [(0, .ref (adX X 31)), (1, .ref (adX X 17)), (2, .ref (adX X p2)), (3, .int (iI p3))] [] s0
  unfold wp_Measles_spread at h
  refine v_iconst E d_Measles_spread_0 ?_
  refine v_istore E d_Measles_spread_1 (by decide) (L' := [(4, .int (iI 0)), (0, .ref (adX X 31)), (1, .ref (adX X 17)), (2, .ref (adX X p2)), (3, .int (iI p3))]) rfl ?_
  refine v_sub [1, 2, 3, 4, 0] (L' := [(0, .ref (adX X 31)), (1, .ref (adX X 17)), (2, .ref (adX X p2)), (3, .int (iI p3)), (4, .int (iI 0))]) rfl ?_
  obtain ⟨I1, μ1, h01, h⟩ := h
  refine v_loop1 (fun (x1 : Int) => [(0, .ref (adX X 31)), (1, .ref (adX X 17)), (2, .ref (adX X p2)), (3, .int (iI p3)), (4, .int (iI x1))]) I1 μ1 (fun x1 s1 hI1 ih1 => ?_) 0 s0 h01
  replace h := h x1 s1 hI1
  refine v_iload E d_Measles_spread_3 4 rfl ?_
  refine v_bipush E d_Measles_spread_5 rfl ?_
  obtain ⟨q1, h⟩ := h
  refine v_icmp_ge E 24 d_Measles_spread_7 (by decide) q1 (by decide) (fun c1 => ?_) (fun c1 => ?_)
  · replace h := h.1 c1
    refine v_iconst E d_Measles_spread_24 ?_
    refine v_istore E d_Measles_spread_25 (by decide) (L' := [(4, .int (iI 0)), (0, .ref (adX X 31)), (1, .ref (adX X 17)), (2, .ref (adX X p2)), (3, .int (iI p3))]) rfl ?_
    refine v_sub [1, 2, 3, 4, 0] (L' := [(0, .ref (adX X 31)), (1, .ref (adX X 17)), (2, .ref (adX X p2)), (3, .int (iI p3)), (4, .int (iI 0))]) rfl ?_
    obtain ⟨I2, μ2, h02, h⟩ := h
    refine v_loop1 (fun (x2 : Int) => [(0, .ref (adX X 31)), (1, .ref (adX X 17)), (2, .ref (adX X p2)), (3, .int (iI p3)), (4, .int (iI x2))]) I2 μ2 (fun x2 s2 hI2 ih2 => ?_) 0 s1 h02
    replace h := h x2 s2 hI2
    refine v_iload E d_Measles_spread_27 4 rfl ?_
    refine v_aloadn E d_Measles_spread_29 rfl 1 rfl ?_
    refine v_callVIp E md_Noon_homes (c_Noon_homes s2 _ h) dC_17 rfl ⟨by decide, by decide⟩ mw388 d_Measles_spread_30 (fun _ => rfl) (st := [.int (iI x2)]) rfl (Nat.le_of_ble_eq_true rfl) (fun r1 hr1 h => ?_)
    obtain ⟨q2, h⟩ := h
    refine v_icmp_ge E 73 d_Measles_spread_33 (by decide) q2 hr1 (fun c2 => ?_) (fun c2 => ?_)
    · replace h := h.1 c2
      refine v_iconst E d_Measles_spread_73 ?_
      refine v_istore E d_Measles_spread_74 (by decide) (L' := [(4, .int (iI 0)), (0, .ref (adX X 31)), (1, .ref (adX X 17)), (2, .ref (adX X p2)), (3, .int (iI p3))]) rfl ?_
      refine v_sub [1, 2, 0] (L' := [(0, .ref (adX X 31)), (1, .ref (adX X 17)), (4, .int (iI 0))]) rfl ?_
      obtain ⟨I3, μ3, h03, h⟩ := h
      refine v_loop1 (fun (x3 : Int) => [(0, .ref (adX X 31)), (1, .ref (adX X 17)), (4, .int (iI x3))]) I3 μ3 (fun x3 s3 hI3 ih3 => ?_) 0 s2 h03
      replace h := h x3 s3 hI3
      refine v_iload E d_Measles_spread_76 2 rfl ?_
      refine v_bipush E d_Measles_spread_78 rfl ?_
      obtain ⟨q3, h⟩ := h
      refine v_icmp_ge E 103 d_Measles_spread_80 (by decide) q3 (by decide) (fun c3 => ?_) (fun c3 => ?_)
      · replace h := h.1 c3
        refine v_aloadn E d_Measles_spread_103 rfl 0 rfl ?_
        refine v_dup E d_Measles_spread_104 rfl ?_
        refine v_getL E cf0 dC_31 2 (by decide) rfl mw398 d_Measles_spread_105 rfl ?_
        refine v_bipush E d_Measles_spread_108 rfl ?_
        refine v_aloadn E d_Measles_spread_110 rfl 1 rfl ?_
        refine v_callVIp E md_Noon_homes (c_Noon_homes s3 _ h) dC_17 rfl ⟨by decide, by decide⟩ mw388 d_Measles_spread_111 (fun _ => rfl) (st := [.int (iI 10), .long (gL s3 31 2), .ref (adX X 31)]) rfl (Nat.le_of_ble_eq_true rfl) (fun r2 hr2 h => ?_)
        refine v_callSLp E md_Measles_power (c_Measles_power dscC 10 (by decide) r2 hr2 s3 _ h) ⟨by decide, by decide⟩ mw392 d_Measles_spread_114 (fun _ => rfl) (st := [.long (gL s3 31 2), .ref (adX X 31)]) rfl (Nat.le_of_ble_eq_true rfl) (fun r3 h => ?_)
        refine v_lmul E d_Measles_spread_117 ?_
        refine v_putL E cf0 dC_31 2 (by decide) rfl rfl mw398 d_Measles_spread_118 rfl rfl rfl ?_
        refine v_nameS (fun s4 hs4 => ?_)
        replace h := h s4 hs4
        exact v_vret E hR h d_Measles_spread_121
      · replace h := h.2 c3
        refine v_aloadn E d_Measles_spread_83 rfl 0 rfl ?_
        refine v_getA E cf0 dC_31 0 (by decide) rfl mw390 d_Measles_spread_84 rfl ?_
        refine v_iload E d_Measles_spread_87 2 rfl ?_
        refine v_aloadn E d_Measles_spread_89 rfl 0 rfl ?_
        refine v_getA E cf0 dC_31 1 (by decide) rfl mw389 d_Measles_spread_90 rfl ?_
        refine v_iload E d_Measles_spread_93 2 rfl ?_
        obtain ⟨q4, h⟩ := h
        refine v_lald E dC_33 (by decide) q4.1 q4.2 d_Measles_spread_95 ?_
        refine v_last E dC_32 (by decide) q4.1 q4.2 d_Measles_spread_96 ?_
        refine v_nameS (fun s5 hs5 => ?_)
        replace h := h s5 hs5
        refine v_iincN E d_Measles_spread_97 2 rfl (by decide) (fun y => [(4, .int (iI y)), (0, .ref (adX X 31)), (1, .ref (adX X 17))]) (fun _ => rfl) (fun x4 hx4 => ?_)
        replace h := h x4 hx4
        refine v_goto E 76 d_Measles_spread_100 (by decide) ?_
        obtain ⟨hb, hm⟩ := h
        exact v_sub [1, 2, 0] rfl (ih3 x4 s5 hb hm)
    · replace h := h.2 c2
      refine v_aloadn E d_Measles_spread_36 rfl 0 rfl ?_
      refine v_getA E cf0 dC_31 0 (by decide) rfl mw390 d_Measles_spread_37 rfl ?_
      refine v_iload E d_Measles_spread_40 4 rfl ?_
      obtain ⟨q5, h⟩ := h
      refine v_lald E dC_32 (by decide) q5.1 q5.2 d_Measles_spread_42 ?_
      refine v_lconst E (0 : Int64) rfl d_Measles_spread_43 ?_
      refine v_lcmp_eq E 67 d_Measles_spread_44 d_Measles_spread_45 (by decide) (fun c4 => ?_) (fun c4 => ?_)
      · replace h := h.1 c4
        refine v_iincN E d_Measles_spread_67 4 rfl (by decide) (fun y => [(4, .int (iI y)), (0, .ref (adX X 31)), (1, .ref (adX X 17)), (2, .ref (adX X p2)), (3, .int (iI p3))]) (fun _ => rfl) (fun x5 hx5 => ?_)
        replace h := h x5 hx5
        refine v_goto E 27 d_Measles_spread_70 (by decide) ?_
        obtain ⟨hb, hm⟩ := h
        exact v_sub [1, 2, 3, 4, 0] rfl (ih2 x5 s2 hb hm)
      · replace h := h.2 c4
        refine v_aloadn E d_Measles_spread_48 rfl 2 rfl ?_
        refine v_iload E d_Measles_spread_49 4 rfl ?_
        refine v_putI E cf5 hp2 2 (by decide) rfl rfl mw399 d_Measles_spread_51 rfl rfl rfl q2 ?_
        refine v_nameS (fun s6 hs6 => ?_)
        replace h := h s6 hs6
        refine v_aloadn E d_Measles_spread_54 rfl 1 rfl ?_
        refine v_aloadn E d_Measles_spread_55 rfl 2 rfl ?_
        refine v_callVV E md_Noon_gather (c_Noon_gather p2 hp2 s6 _ h) dC_17 rfl ⟨by decide, by decide⟩ mw400 d_Measles_spread_56 (fun _ => rfl) (st := []) rfl (Nat.le_of_ble_eq_true rfl) (fun s7 h => ?_)
        refine v_aloadn E d_Measles_spread_59 rfl 0 rfl ?_
        refine v_iload E d_Measles_spread_60 4 rfl ?_
        refine v_aloadn E d_Measles_spread_62 rfl 1 rfl ?_
        refine v_iloadn E d_Measles_spread_63 rfl 3 rfl ?_
        refine v_callVV E md_Measles_spreadFrom (c_Measles_spreadFrom x2 q2 p3 hp3 s7 _ h) dC_31 rfl ⟨by decide, by decide⟩ mw401 d_Measles_spread_64 (fun _ => rfl) (st := []) rfl (Nat.le_of_ble_eq_true rfl) (fun s8 h => ?_)
        refine v_iincN E d_Measles_spread_67 4 rfl (by decide) (fun y => [(4, .int (iI y)), (0, .ref (adX X 31)), (1, .ref (adX X 17)), (2, .ref (adX X p2)), (3, .int (iI p3))]) (fun _ => rfl) (fun x6 hx6 => ?_)
        replace h := h x6 hx6
        refine v_goto E 27 d_Measles_spread_70 (by decide) ?_
        obtain ⟨hb, hm⟩ := h
        exact v_sub [1, 2, 3, 4, 0] rfl (ih2 x6 s8 hb hm)
  · replace h := h.2 c1
    refine v_aloadn E d_Measles_spread_10 rfl 0 rfl ?_
    refine v_getA E cf0 dC_31 1 (by decide) rfl mw389 d_Measles_spread_11 rfl ?_
    refine v_iload E d_Measles_spread_14 4 rfl ?_
    refine v_lconst E (0 : Int64) rfl d_Measles_spread_16 ?_
    obtain ⟨q6, h⟩ := h
    refine v_last E dC_33 (by decide) q6.1 q6.2 d_Measles_spread_17 ?_
    refine v_nameS (fun s9 hs9 => ?_)
    replace h := h s9 hs9
    refine v_iincN E d_Measles_spread_18 4 rfl (by decide) (fun y => [(4, .int (iI y)), (0, .ref (adX X 31)), (1, .ref (adX X 17)), (2, .ref (adX X p2)), (3, .int (iI p3))]) (fun _ => rfl) (fun x7 hx7 => ?_)
    replace h := h x7 hx7
    refine v_goto E 3 d_Measles_spread_21 (by decide) ?_
    obtain ⟨hb, hm⟩ := h
    exact v_sub [1, 2, 3, 4, 0] rfl (ih1 x7 s9 hb hm)
theorem d_Measles_reckon_0 : decode prog_2_method_2_code 0 = .ok (.iconst 0, 1) := by decide +kernel
theorem d_Measles_reckon_1 : decode prog_2_method_2_code 1 = .ok (.istore 5, 2) := by decide +kernel
theorem d_Measles_reckon_3 : decode prog_2_method_2_code 3 = .ok (.iload 5, 2) := by decide +kernel
theorem d_Measles_reckon_5 : decode prog_2_method_2_code 5 = .ok (.bipush 7, 2) := by decide +kernel
theorem d_Measles_reckon_7 : decode prog_2_method_2_code 7 = .ok (.if_icmp .ge 30, 3) := by decide +kernel
theorem d_Measles_reckon_10 : decode prog_2_method_2_code 10 = .ok (.aload_n 0, 1) := by decide +kernel
theorem d_Measles_reckon_11 : decode prog_2_method_2_code 11 = .ok (.getfield 9, 3) := by decide +kernel
theorem d_Measles_reckon_14 : decode prog_2_method_2_code 14 = .ok (.iload 5, 2) := by decide +kernel
theorem d_Measles_reckon_16 : decode prog_2_method_2_code 16 = .ok (.iload 5, 2) := by decide +kernel
theorem d_Measles_reckon_18 : decode prog_2_method_2_code 18 = .ok (.aload_n 2, 1) := by decide +kernel
theorem d_Measles_reckon_19 : decode prog_2_method_2_code 19 = .ok (.getfield 22, 3) := by decide +kernel
theorem d_Measles_reckon_22 : decode prog_2_method_2_code 22 = .ok (.if_icmp .ne 7, 3) := by decide +kernel
theorem d_Measles_reckon_25 : decode prog_2_method_2_code 25 = .ok (.lconst 1, 1) := by decide +kernel
theorem d_Measles_reckon_26 : decode prog_2_method_2_code 26 = .ok (.goto 4, 3) := by decide +kernel
theorem d_Measles_reckon_29 : decode prog_2_method_2_code 29 = .ok (.lconst 0, 1) := by decide +kernel
theorem d_Measles_reckon_30 : decode prog_2_method_2_code 30 = .ok (.lastore, 1) := by decide +kernel
theorem d_Measles_reckon_31 : decode prog_2_method_2_code 31 = .ok (.iinc 5 1, 3) := by decide +kernel
theorem d_Measles_reckon_34 : decode prog_2_method_2_code 34 = .ok (.goto (-31), 3) := by decide +kernel
theorem d_Measles_reckon_37 : decode prog_2_method_2_code 37 = .ok (.aload_n 0, 1) := by decide +kernel
theorem d_Measles_reckon_38 : decode prog_2_method_2_code 38 = .ok (.lconst 1, 1) := by decide +kernel
theorem d_Measles_reckon_39 : decode prog_2_method_2_code 39 = .ok (.putfield 18, 3) := by decide +kernel
theorem d_Measles_reckon_42 : decode prog_2_method_2_code 42 = .ok (.iconst 0, 1) := by decide +kernel
theorem d_Measles_reckon_43 : decode prog_2_method_2_code 43 = .ok (.istore 5, 2) := by decide +kernel
theorem d_Measles_reckon_45 : decode prog_2_method_2_code 45 = .ok (.iload 5, 2) := by decide +kernel
theorem d_Measles_reckon_47 : decode prog_2_method_2_code 47 = .ok (.iload_n 3, 1) := by decide +kernel
theorem d_Measles_reckon_48 : decode prog_2_method_2_code 48 = .ok (.if_icmp .ge 32, 3) := by decide +kernel
theorem d_Measles_reckon_51 : decode prog_2_method_2_code 51 = .ok (.aload_n 0, 1) := by decide +kernel
theorem d_Measles_reckon_52 : decode prog_2_method_2_code 52 = .ok (.aload_n 1, 1) := by decide +kernel
theorem d_Measles_reckon_53 : decode prog_2_method_2_code 53 = .ok (.aload_n 2, 1) := by decide +kernel
theorem d_Measles_reckon_54 : decode prog_2_method_2_code 54 = .ok (.iload 4, 2) := by decide +kernel
theorem d_Measles_reckon_56 : decode prog_2_method_2_code 56 = .ok (.invokevirtual 28, 3) := by decide +kernel
theorem d_Measles_reckon_59 : decode prog_2_method_2_code 59 = .ok (.aload_n 2, 1) := by decide +kernel
theorem d_Measles_reckon_60 : decode prog_2_method_2_code 60 = .ok (.iconst 0, 1) := by decide +kernel
theorem d_Measles_reckon_61 : decode prog_2_method_2_code 61 = .ok (.putfield 32, 3) := by decide +kernel
theorem d_Measles_reckon_64 : decode prog_2_method_2_code 64 = .ok (.aload_n 2, 1) := by decide +kernel
theorem d_Measles_reckon_65 : decode prog_2_method_2_code 65 = .ok (.dup, 1) := by decide +kernel
theorem d_Measles_reckon_66 : decode prog_2_method_2_code 66 = .ok (.getfield 35, 3) := by decide +kernel
theorem d_Measles_reckon_69 : decode prog_2_method_2_code 69 = .ok (.iconst 1, 1) := by decide +kernel
theorem d_Measles_reckon_70 : decode prog_2_method_2_code 70 = .ok (.iadd, 1) := by decide +kernel
theorem d_Measles_reckon_71 : decode prog_2_method_2_code 71 = .ok (.putfield 35, 3) := by decide +kernel
theorem d_Measles_reckon_74 : decode prog_2_method_2_code 74 = .ok (.iinc 5 1, 3) := by decide +kernel
theorem d_Measles_reckon_77 : decode prog_2_method_2_code 77 = .ok (.goto (-32), 3) := by decide +kernel
theorem d_Measles_reckon_80 : decode prog_2_method_2_code 80 = .ok (.return_, 1) := by decide +kernel
set_option maxHeartbeats 4000000 in
set_option maxRecDepth 20000 in
theorem c_Measles_reckon (p2 : Nat) (hp2 : dscC[p2]? = some dSt) (p3 : Int) (hp3 : Rng p3) (p4 : Int) (hp4 : Rng p4) (s0 : MS) (Q : MS → Prop) (h : wp_Measles_reckon p2 p3 p4 s0 Q) : MT dscC ⟨"BellSchool$Measles", "reckon", "(LBellSchool$Noon;LBellSchool$Standing;II)V"⟩ prog_2_method_2_code 6 none 5 (fun ad => [.ref (ad 31), .ref (ad 17), .ref (ad p2), .int (iI p3), .int (iI p4)]) s0 (po_V dscC Q) := by
  refine met_of (by decide) (fun _ => Nat.le_of_ble_eq_true rfl) (fun X E hR => ?_)
  replace E : EV dscC X prog_2_method_2_code "BellSchool$Measles" 6 5 := E
  show VV dscC X 0 [(0, .ref (adX X 31)), (1, .ref (adX X 17)), (2, .ref (adX X p2)), (3, .int (iI p3)), (4, .int (iI p4))] [] s0
  unfold wp_Measles_reckon at h
  refine v_iconst E d_Measles_reckon_0 ?_
  refine v_istore E d_Measles_reckon_1 (by decide) (L' := [(5, .int (iI 0)), (0, .ref (adX X 31)), (1, .ref (adX X 17)), (2, .ref (adX X p2)), (3, .int (iI p3)), (4, .int (iI p4))]) rfl ?_
  refine v_sub [1, 2, 3, 4, 5, 0] (L' := [(0, .ref (adX X 31)), (1, .ref (adX X 17)), (2, .ref (adX X p2)), (3, .int (iI p3)), (4, .int (iI p4)), (5, .int (iI 0))]) rfl ?_
  obtain ⟨I1, μ1, h01, h⟩ := h
  refine v_loop1 (fun (x1 : Int) => [(0, .ref (adX X 31)), (1, .ref (adX X 17)), (2, .ref (adX X p2)), (3, .int (iI p3)), (4, .int (iI p4)), (5, .int (iI x1))]) I1 μ1 (fun x1 s1 hI1 ih1 => ?_) 0 s0 h01
  replace h := h x1 s1 hI1
  refine v_iload E d_Measles_reckon_3 5 rfl ?_
  refine v_bipush E d_Measles_reckon_5 rfl ?_
  obtain ⟨q1, h⟩ := h
  refine v_icmp_ge E 37 d_Measles_reckon_7 (by decide) q1 (by decide) (fun c1 => ?_) (fun c1 => ?_)
  · replace h := h.1 c1
    refine v_aloadn E d_Measles_reckon_37 rfl 0 rfl ?_
    refine v_lconst E (1 : Int64) rfl d_Measles_reckon_38 ?_
    refine v_putL E cf0 dC_31 2 (by decide) rfl rfl mw398 d_Measles_reckon_39 rfl rfl rfl ?_
    refine v_nameS (fun s2 hs2 => ?_)
    replace h := h s2 hs2
    refine v_iconst E d_Measles_reckon_42 ?_
    refine v_istore E d_Measles_reckon_43 (by decide) (L' := [(5, .int (iI 0)), (0, .ref (adX X 31)), (1, .ref (adX X 17)), (2, .ref (adX X p2)), (3, .int (iI p3)), (4, .int (iI p4))]) rfl ?_
    refine v_sub [1, 2, 3, 4, 5, 0] (L' := [(0, .ref (adX X 31)), (1, .ref (adX X 17)), (2, .ref (adX X p2)), (3, .int (iI p3)), (4, .int (iI p4)), (5, .int (iI 0))]) rfl ?_
    obtain ⟨I2, μ2, h02, h⟩ := h
    refine v_loop1 (fun (x2 : Int) => [(0, .ref (adX X 31)), (1, .ref (adX X 17)), (2, .ref (adX X p2)), (3, .int (iI p3)), (4, .int (iI p4)), (5, .int (iI x2))]) I2 μ2 (fun x2 s3 hI2 ih2 => ?_) 0 s2 h02
    replace h := h x2 s3 hI2
    refine v_iload E d_Measles_reckon_45 5 rfl ?_
    refine v_iloadn E d_Measles_reckon_47 rfl 3 rfl ?_
    obtain ⟨q2, h⟩ := h
    refine v_icmp_ge E 80 d_Measles_reckon_48 (by decide) q2 hp3 (fun c2 => ?_) (fun c2 => ?_)
    · replace h := h.1 c2
      exact v_vret E hR h d_Measles_reckon_80
    · replace h := h.2 c2
      refine v_aloadn E d_Measles_reckon_51 rfl 0 rfl ?_
      refine v_aloadn E d_Measles_reckon_52 rfl 1 rfl ?_
      refine v_aloadn E d_Measles_reckon_53 rfl 2 rfl ?_
      refine v_iload E d_Measles_reckon_54 4 rfl ?_
      refine v_callVV E md_Measles_spread (c_Measles_spread p2 hp2 p4 hp4 s3 _ h) dC_31 rfl ⟨by decide, by decide⟩ mw405 d_Measles_reckon_56 (fun _ => rfl) (st := []) rfl (Nat.le_of_ble_eq_true rfl) (fun s4 h => ?_)
      refine v_aloadn E d_Measles_reckon_59 rfl 2 rfl ?_
      refine v_iconst E d_Measles_reckon_60 ?_
      refine v_putI E cf5 hp2 3 (by decide) rfl rfl mw406 d_Measles_reckon_61 rfl rfl rfl (by decide) ?_
      refine v_nameS (fun s5 hs5 => ?_)
      replace h := h s5 hs5
      refine v_aloadn E d_Measles_reckon_64 rfl 2 rfl ?_
      refine v_dup E d_Measles_reckon_65 rfl ?_
      refine v_getI E cf5 hp2 1 (by decide) rfl mw407 d_Measles_reckon_66 rfl ?_
      refine v_iconst E d_Measles_reckon_69 ?_
      refine v_iadd E d_Measles_reckon_70 ?_
      obtain ⟨q3, h⟩ := h
      refine v_putI E cf5 hp2 1 (by decide) rfl rfl mw407 d_Measles_reckon_71 rfl rfl rfl q3 ?_
      refine v_nameS (fun s6 hs6 => ?_)
      replace h := h s6 hs6
      refine v_iincN E d_Measles_reckon_74 5 rfl (by decide) (fun y => [(5, .int (iI y)), (0, .ref (adX X 31)), (1, .ref (adX X 17)), (2, .ref (adX X p2)), (3, .int (iI p3)), (4, .int (iI p4))]) (fun _ => rfl) (fun x3 hx3 => ?_)
      replace h := h x3 hx3
      refine v_goto E 45 d_Measles_reckon_77 (by decide) ?_
      obtain ⟨hb, hm⟩ := h
      exact v_sub [1, 2, 3, 4, 5, 0] rfl (ih2 x3 s6 hb hm)
  · replace h := h.2 c1
    refine v_aloadn E d_Measles_reckon_10 rfl 0 rfl ?_
    refine v_getA E cf0 dC_31 0 (by decide) rfl mw390 d_Measles_reckon_11 rfl ?_
    refine v_iload E d_Measles_reckon_14 5 rfl ?_
    refine v_iload E d_Measles_reckon_16 5 rfl ?_
    refine v_aloadn E d_Measles_reckon_18 rfl 2 rfl ?_
    refine v_getI E cf5 hp2 2 (by decide) rfl mw399 d_Measles_reckon_19 rfl ?_
    refine v_wt (fun wt1 => ?_)
    refine v_icmp_ne E 29 d_Measles_reckon_22 (by decide) q1 (wt1 p2 2) (fun c3 => ?_) (fun c3 => ?_)
    · replace h := h.1 c3
      refine v_lconst E (0 : Int64) rfl d_Measles_reckon_29 ?_
      obtain ⟨q4, h⟩ := h
      refine v_last E dC_32 (by decide) q4.1 q4.2 d_Measles_reckon_30 ?_
      refine v_nameS (fun s7 hs7 => ?_)
      replace h := h s7 hs7
      refine v_iincN E d_Measles_reckon_31 5 rfl (by decide) (fun y => [(5, .int (iI y)), (0, .ref (adX X 31)), (1, .ref (adX X 17)), (2, .ref (adX X p2)), (3, .int (iI p3)), (4, .int (iI p4))]) (fun _ => rfl) (fun x4 hx4 => ?_)
      replace h := h x4 hx4
      refine v_goto E 3 d_Measles_reckon_34 (by decide) ?_
      obtain ⟨hb, hm⟩ := h
      exact v_sub [1, 2, 3, 4, 5, 0] rfl (ih1 x4 s7 hb hm)
    · replace h := h.2 c3
      refine v_lconst E (1 : Int64) rfl d_Measles_reckon_25 ?_
      refine v_goto E 30 d_Measles_reckon_26 (by decide) ?_
      obtain ⟨q5, h⟩ := h
      refine v_last E dC_32 (by decide) q5.1 q5.2 d_Measles_reckon_30 ?_
      refine v_nameS (fun s8 hs8 => ?_)
      replace h := h s8 hs8
      refine v_iincN E d_Measles_reckon_31 5 rfl (by decide) (fun y => [(5, .int (iI y)), (0, .ref (adX X 31)), (1, .ref (adX X 17)), (2, .ref (adX X p2)), (3, .int (iI p3)), (4, .int (iI p4))]) (fun _ => rfl) (fun x5 hx5 => ?_)
      replace h := h x5 hx5
      refine v_goto E 3 d_Measles_reckon_34 (by decide) ?_
      obtain ⟨hb, hm⟩ := h
      exact v_sub [1, 2, 3, 4, 5, 0] rfl (ih1 x5 s8 hb hm)
theorem d_B_commonDivisor_0 : decode prog_1_method_38_code 0 = .ok (.lload_n 0, 1) := by decide +kernel
theorem d_B_commonDivisor_1 : decode prog_1_method_38_code 1 = .ok (.lstore 4, 2) := by decide +kernel
theorem d_B_commonDivisor_3 : decode prog_1_method_38_code 3 = .ok (.lload_n 2, 1) := by decide +kernel
theorem d_B_commonDivisor_4 : decode prog_1_method_38_code 4 = .ok (.lstore 6, 2) := by decide +kernel
theorem d_B_commonDivisor_6 : decode prog_1_method_38_code 6 = .ok (.iconst 0, 1) := by decide +kernel
theorem d_B_commonDivisor_7 : decode prog_1_method_38_code 7 = .ok (.istore 8, 2) := by decide +kernel
theorem d_B_commonDivisor_9 : decode prog_1_method_38_code 9 = .ok (.iload 8, 2) := by decide +kernel
theorem d_B_commonDivisor_11 : decode prog_1_method_38_code 11 = .ok (.sipush 200, 3) := by decide +kernel
theorem d_B_commonDivisor_14 : decode prog_1_method_38_code 14 = .ok (.if_icmp .ge 31, 3) := by decide +kernel
theorem d_B_commonDivisor_17 : decode prog_1_method_38_code 17 = .ok (.lload 6, 2) := by decide +kernel
theorem d_B_commonDivisor_19 : decode prog_1_method_38_code 19 = .ok (.lconst 0, 1) := by decide +kernel
theorem d_B_commonDivisor_20 : decode prog_1_method_38_code 20 = .ok (.lcmp, 1) := by decide +kernel
theorem d_B_commonDivisor_21 : decode prog_1_method_38_code 21 = .ok (.ifCond .eq 24, 3) := by decide +kernel
theorem d_B_commonDivisor_24 : decode prog_1_method_38_code 24 = .ok (.lload 4, 2) := by decide +kernel
theorem d_B_commonDivisor_26 : decode prog_1_method_38_code 26 = .ok (.lload 6, 2) := by decide +kernel
theorem d_B_commonDivisor_28 : decode prog_1_method_38_code 28 = .ok (.lrem, 1) := by decide +kernel
theorem d_B_commonDivisor_29 : decode prog_1_method_38_code 29 = .ok (.lstore 9, 2) := by decide +kernel
theorem d_B_commonDivisor_31 : decode prog_1_method_38_code 31 = .ok (.lload 6, 2) := by decide +kernel
theorem d_B_commonDivisor_33 : decode prog_1_method_38_code 33 = .ok (.lstore 4, 2) := by decide +kernel
theorem d_B_commonDivisor_35 : decode prog_1_method_38_code 35 = .ok (.lload 9, 2) := by decide +kernel
theorem d_B_commonDivisor_37 : decode prog_1_method_38_code 37 = .ok (.lstore 6, 2) := by decide +kernel
theorem d_B_commonDivisor_39 : decode prog_1_method_38_code 39 = .ok (.iinc 8 1, 3) := by decide +kernel
theorem d_B_commonDivisor_42 : decode prog_1_method_38_code 42 = .ok (.goto (-33), 3) := by decide +kernel
theorem d_B_commonDivisor_45 : decode prog_1_method_38_code 45 = .ok (.lload 4, 2) := by decide +kernel
theorem d_B_commonDivisor_47 : decode prog_1_method_38_code 47 = .ok (.lreturn, 1) := by decide +kernel
set_option maxHeartbeats 4000000 in
set_option maxRecDepth 20000 in
theorem c_B_commonDivisor (dsc : List CD) (p1 : Int64) (p2 : Int64) (s0 : MS) (Q : Int64 → Prop) (h : wp_B_commonDivisor p1 p2 Q) : MT dsc ⟨"BellSchool", "commonDivisor", "(JJ)J"⟩ prog_1_method_38_code 11 (some .long) 0 (fun ad => [.long p1, .long p2]) s0 (po_L dsc (fun r z => z = s0 ∧ Q r)) := by
  refine met_of (by decide) (fun _ => Nat.le_of_ble_eq_true rfl) (fun X E hR => ?_)
  replace E : EV dsc X prog_1_method_38_code "BellSchool" 11 0 := E
  show VV dsc X 0 [(0, .long p1), (2, .long p2)] [] s0
  unfold wp_B_commonDivisor at h
  refine v_lloadn E d_B_commonDivisor_0 rfl 0 rfl ?_
  refine v_lstore E d_B_commonDivisor_1 (by decide) (L' := [(4, .long p1), (0, .long p1), (2, .long p2)]) rfl ?_
  refine v_lloadn E d_B_commonDivisor_3 rfl 2 rfl ?_
  refine v_lstore E d_B_commonDivisor_4 (by decide) (L' := [(6, .long p2), (4, .long p1), (0, .long p1), (2, .long p2)]) rfl ?_
  refine v_iconst E d_B_commonDivisor_6 ?_
  refine v_istore E d_B_commonDivisor_7 (by decide) (L' := [(8, .int (iI 0)), (6, .long p2), (4, .long p1), (0, .long p1), (2, .long p2)]) rfl ?_
  refine v_sub [2, 1, 0] (L' := [(4, .long p1), (6, .long p2), (8, .int (iI 0))]) rfl ?_
  obtain ⟨I1, μ1, h01, h⟩ := h
  refine v_ploop3 s0 (fun (y1 : Int64) (y2 : Int64) (x1 : Int) => [(4, .long y1), (6, .long y2), (8, .int (iI x1))]) I1 μ1 (fun y1 y2 x1 hI1 ih1 => ?_) p1 p2 0 h01
  replace h := h y1 y2 x1  hI1
  refine v_iload E d_B_commonDivisor_9 2 rfl ?_
  refine v_sipush E d_B_commonDivisor_11 rfl ?_
  obtain ⟨q1, h⟩ := h
  refine v_icmp_ge E 45 d_B_commonDivisor_14 (by decide) q1 (by decide) (fun c1 => ?_) (fun c1 => ?_)
  · replace h := h.1 c1
    refine v_lload E d_B_commonDivisor_45 0 rfl ?_
    exact v_lret E hR ⟨rfl, h⟩ d_B_commonDivisor_47
  · replace h := h.2 c1
    refine v_lload E d_B_commonDivisor_17 1 rfl ?_
    refine v_lconst E (0 : Int64) rfl d_B_commonDivisor_19 ?_
    refine v_lcmp_eq E 45 d_B_commonDivisor_20 d_B_commonDivisor_21 (by decide) (fun c2 => ?_) (fun c2 => ?_)
    · replace h := h.1 c2
      refine v_lload E d_B_commonDivisor_45 0 rfl ?_
      exact v_lret E hR ⟨rfl, h⟩ d_B_commonDivisor_47
    · replace h := h.2 c2
      refine v_lload E d_B_commonDivisor_24 0 rfl ?_
      refine v_lload E d_B_commonDivisor_26 1 rfl ?_
      refine v_lrem E d_B_commonDivisor_28 c2 ?_
      refine v_nameL (fun y3 hy3 => ?_)
      replace h := h y3 hy3
      refine v_lstore E d_B_commonDivisor_29 (by decide) (L' := [(9, .long y3), (4, .long y1), (6, .long y2), (8, .int (iI x1))]) rfl ?_
      refine v_lload E d_B_commonDivisor_31 2 rfl ?_
      refine v_lstore E d_B_commonDivisor_33 (by decide) (L' := [(4, .long y2), (9, .long y3), (6, .long y2), (8, .int (iI x1))]) rfl ?_
      refine v_lload E d_B_commonDivisor_35 1 rfl ?_
      refine v_lstore E d_B_commonDivisor_37 (by decide) (L' := [(6, .long y3), (4, .long y2), (9, .long y3), (8, .int (iI x1))]) rfl ?_
      refine v_iincN E d_B_commonDivisor_39 3 rfl (by decide) (fun y => [(8, .int (iI y)), (6, .long y3), (4, .long y2), (9, .long y3)]) (fun _ => rfl) (fun x2 hx2 => ?_)
      replace h := h x2 hx2
      refine v_goto E 9 d_B_commonDivisor_42 (by decide) ?_
      obtain ⟨hb, hm⟩ := h
      exact v_sub [2, 1, 0] rfl (ih1 y2 y3 x2 hb hm)
theorem d_B_measles_0 : decode prog_1_method_25_code 0 = .ok (.aload_n 0, 1) := by decide +kernel
theorem d_B_measles_1 : decode prog_1_method_25_code 1 = .ok (.getfield 10, 3) := by decide +kernel
theorem d_B_measles_4 : decode prog_1_method_25_code 4 = .ok (.iload_n 1, 1) := by decide +kernel
theorem d_B_measles_5 : decode prog_1_method_25_code 5 = .ok (.invokevirtual 118, 3) := by decide +kernel
theorem d_B_measles_8 : decode prog_1_method_25_code 8 = .ok (.ifCond .eq 33, 3) := by decide +kernel
theorem d_B_measles_11 : decode prog_1_method_25_code 11 = .ok (.iload_n 2, 1) := by decide +kernel
theorem d_B_measles_12 : decode prog_1_method_25_code 12 = .ok (.ifCond .lt 29, 3) := by decide +kernel
theorem d_B_measles_15 : decode prog_1_method_25_code 15 = .ok (.iload_n 2, 1) := by decide +kernel
theorem d_B_measles_16 : decode prog_1_method_25_code 16 = .ok (.iconst 2, 1) := by decide +kernel
theorem d_B_measles_17 : decode prog_1_method_25_code 17 = .ok (.if_icmp .gt 24, 3) := by decide +kernel
theorem d_B_measles_20 : decode prog_1_method_25_code 20 = .ok (.iload_n 3, 1) := by decide +kernel
theorem d_B_measles_21 : decode prog_1_method_25_code 21 = .ok (.ifCond .lt 20, 3) := by decide +kernel
theorem d_B_measles_24 : decode prog_1_method_25_code 24 = .ok (.iload_n 3, 1) := by decide +kernel
theorem d_B_measles_25 : decode prog_1_method_25_code 25 = .ok (.bipush 10, 2) := by decide +kernel
theorem d_B_measles_27 : decode prog_1_method_25_code 27 = .ok (.if_icmp .gt 14, 3) := by decide +kernel
theorem d_B_measles_30 : decode prog_1_method_25_code 30 = .ok (.iload 4, 2) := by decide +kernel
theorem d_B_measles_32 : decode prog_1_method_25_code 32 = .ok (.ifCond .lt 9, 3) := by decide +kernel
theorem d_B_measles_35 : decode prog_1_method_25_code 35 = .ok (.iload 4, 2) := by decide +kernel
theorem d_B_measles_37 : decode prog_1_method_25_code 37 = .ok (.iconst 1, 1) := by decide +kernel
theorem d_B_measles_38 : decode prog_1_method_25_code 38 = .ok (.if_icmp .le 7, 3) := by decide +kernel
theorem d_B_measles_41 : decode prog_1_method_25_code 41 = .ok (.ldc2_w 213, 3) := by decide +kernel
theorem d_B_measles_44 : decode prog_1_method_25_code 44 = .ok (.lreturn, 1) := by decide +kernel
theorem d_B_measles_45 : decode prog_1_method_25_code 45 = .ok (.aload_n 0, 1) := by decide +kernel
theorem d_B_measles_46 : decode prog_1_method_25_code 46 = .ok (.getfield 49, 3) := by decide +kernel
theorem d_B_measles_49 : decode prog_1_method_25_code 49 = .ok (.aload_n 0, 1) := by decide +kernel
theorem d_B_measles_50 : decode prog_1_method_25_code 50 = .ok (.getfield 45, 3) := by decide +kernel
theorem d_B_measles_53 : decode prog_1_method_25_code 53 = .ok (.invokevirtual 193, 3) := by decide +kernel
theorem d_B_measles_56 : decode prog_1_method_25_code 56 = .ok (.aload_n 0, 1) := by decide +kernel
theorem d_B_measles_57 : decode prog_1_method_25_code 57 = .ok (.getfield 74, 3) := by decide +kernel
theorem d_B_measles_60 : decode prog_1_method_25_code 60 = .ok (.aload_n 0, 1) := by decide +kernel
theorem d_B_measles_61 : decode prog_1_method_25_code 61 = .ok (.getfield 38, 3) := by decide +kernel
theorem d_B_measles_64 : decode prog_1_method_25_code 64 = .ok (.aload_n 0, 1) := by decide +kernel
theorem d_B_measles_65 : decode prog_1_method_25_code 65 = .ok (.getfield 49, 3) := by decide +kernel
theorem d_B_measles_68 : decode prog_1_method_25_code 68 = .ok (.iload_n 2, 1) := by decide +kernel
theorem d_B_measles_69 : decode prog_1_method_25_code 69 = .ok (.iload_n 3, 1) := by decide +kernel
theorem d_B_measles_70 : decode prog_1_method_25_code 70 = .ok (.invokevirtual 215, 3) := by decide +kernel
theorem d_B_measles_73 : decode prog_1_method_25_code 73 = .ok (.aload_n 0, 1) := by decide +kernel
theorem d_B_measles_74 : decode prog_1_method_25_code 74 = .ok (.getfield 74, 3) := by decide +kernel
theorem d_B_measles_77 : decode prog_1_method_25_code 77 = .ok (.getfield 219, 3) := by decide +kernel
theorem d_B_measles_80 : decode prog_1_method_25_code 80 = .ok (.iload_n 1, 1) := by decide +kernel
theorem d_B_measles_81 : decode prog_1_method_25_code 81 = .ok (.laload, 1) := by decide +kernel
theorem d_B_measles_82 : decode prog_1_method_25_code 82 = .ok (.lstore 5, 2) := by decide +kernel
theorem d_B_measles_84 : decode prog_1_method_25_code 84 = .ok (.lconst 1, 1) := by decide +kernel
theorem d_B_measles_85 : decode prog_1_method_25_code 85 = .ok (.lload 5, 2) := by decide +kernel
theorem d_B_measles_87 : decode prog_1_method_25_code 87 = .ok (.aload_n 0, 1) := by decide +kernel
theorem d_B_measles_88 : decode prog_1_method_25_code 88 = .ok (.getfield 74, 3) := by decide +kernel
theorem d_B_measles_91 : decode prog_1_method_25_code 91 = .ok (.getfield 223, 3) := by decide +kernel
theorem d_B_measles_94 : decode prog_1_method_25_code 94 = .ok (.invokestatic 226, 3) := by decide +kernel
theorem d_B_measles_97 : decode prog_1_method_25_code 97 = .ok (.invokestatic 230, 3) := by decide +kernel
theorem d_B_measles_100 : decode prog_1_method_25_code 100 = .ok (.lstore 7, 2) := by decide +kernel
theorem d_B_measles_102 : decode prog_1_method_25_code 102 = .ok (.iload 4, 2) := by decide +kernel
theorem d_B_measles_104 : decode prog_1_method_25_code 104 = .ok (.ifCond .ne 8, 3) := by decide +kernel
theorem d_B_measles_107 : decode prog_1_method_25_code 107 = .ok (.lload 5, 2) := by decide +kernel
theorem d_B_measles_109 : decode prog_1_method_25_code 109 = .ok (.goto 10, 3) := by decide +kernel
theorem d_B_measles_112 : decode prog_1_method_25_code 112 = .ok (.aload_n 0, 1) := by decide +kernel
theorem d_B_measles_113 : decode prog_1_method_25_code 113 = .ok (.getfield 74, 3) := by decide +kernel
theorem d_B_measles_116 : decode prog_1_method_25_code 116 = .ok (.getfield 223, 3) := by decide +kernel
theorem d_B_measles_119 : decode prog_1_method_25_code 119 = .ok (.lload 7, 2) := by decide +kernel
theorem d_B_measles_121 : decode prog_1_method_25_code 121 = .ok (.ldiv, 1) := by decide +kernel
theorem d_B_measles_122 : decode prog_1_method_25_code 122 = .ok (.lreturn, 1) := by decide +kernel
set_option maxHeartbeats 4000000 in
set_option maxRecDepth 20000 in
theorem c_B_measles (p1 : Int) (hp1 : Rng p1) (p2 : Int) (hp2 : Rng p2) (p3 : Int) (hp3 : Rng p3) (p4 : Int) (hp4 : Rng p4) (s0 : MS) (Q : Int64 → MS → Prop) (h : wp_B_measles p1 p2 p3 p4 s0 Q) : MT dscC ⟨"BellSchool", "measles", "(IIII)J"⟩ prog_1_method_25_code 9 (some .long) 6 (fun ad => [.ref (ad 0), .int (iI p1), .int (iI p2), .int (iI p3), .int (iI p4)]) s0 (po_L dscC Q) := by
  refine met_of (by decide) (fun _ => Nat.le_of_ble_eq_true rfl) (fun X E hR => ?_)
  replace E : EV dscC X prog_1_method_25_code "BellSchool" 9 6 := E
  show VV dscC X 0 [(0, .ref (adX X 0)), (1, .int (iI p1)), (2, .int (iI p2)), (3, .int (iI p3)), (4, .int (iI p4))] [] s0
  unfold wp_B_measles at h
  refine v_aloadn E d_B_measles_0 rfl 0 rfl ?_
  refine v_getR E cf8 dC_0 0 (by decide) rfl mw118 d_B_measles_1 rfl (fun hv1 => ?_)
  refine v_iloadn E d_B_measles_4 rfl 1 rfl ?_
  refine v_callVIpz E md_Valley_has (c_Valley_has (gR s0 0 0) hv1 p1 hp1 s0 _ h) hv1 rfl ⟨by decide, by decide⟩ mw117 d_B_measles_5 (fun _ => rfl) (st := []) rfl (Nat.le_of_ble_eq_true rfl) (fun r1 hr1 hz1 h => ?_)
  refine v_if_eq E 41 d_B_measles_8 (by decide) hr1 (fun c1 => ?_) (fun c1 => ?_)
  · replace h := h.1 c1
    refine v_ldc2 E mw413 d_B_measles_41 ?_
    exact v_lret E hR h d_B_measles_44
  · replace h := h.2 c1
    refine v_iloadn E d_B_measles_11 rfl 2 rfl ?_
    refine v_if_lt E 41 d_B_measles_12 (by decide) hp2 (fun c2 => ?_) (fun c2 => ?_)
    · replace h := h.1 c2
      refine v_ldc2 E mw413 d_B_measles_41 ?_
      exact v_lret E hR h d_B_measles_44
    · replace h := h.2 c2
      refine v_iloadn E d_B_measles_15 rfl 2 rfl ?_
      refine v_iconst E d_B_measles_16 ?_
      refine v_icmp_gt E 41 d_B_measles_17 (by decide) hp2 (by decide) (fun c3 => ?_) (fun c3 => ?_)
      · replace h := h.1 c3
        refine v_ldc2 E mw413 d_B_measles_41 ?_
        exact v_lret E hR h d_B_measles_44
      · replace h := h.2 c3
        refine v_iloadn E d_B_measles_20 rfl 3 rfl ?_
        refine v_if_lt E 41 d_B_measles_21 (by decide) hp3 (fun c4 => ?_) (fun c4 => ?_)
        · replace h := h.1 c4
          refine v_ldc2 E mw413 d_B_measles_41 ?_
          exact v_lret E hR h d_B_measles_44
        · replace h := h.2 c4
          refine v_iloadn E d_B_measles_24 rfl 3 rfl ?_
          refine v_bipush E d_B_measles_25 rfl ?_
          refine v_icmp_gt E 41 d_B_measles_27 (by decide) hp3 (by decide) (fun c5 => ?_) (fun c5 => ?_)
          · replace h := h.1 c5
            refine v_ldc2 E mw413 d_B_measles_41 ?_
            exact v_lret E hR h d_B_measles_44
          · replace h := h.2 c5
            refine v_iload E d_B_measles_30 4 rfl ?_
            refine v_if_lt E 41 d_B_measles_32 (by decide) hp4 (fun c6 => ?_) (fun c6 => ?_)
            · replace h := h.1 c6
              refine v_ldc2 E mw413 d_B_measles_41 ?_
              exact v_lret E hR h d_B_measles_44
            · replace h := h.2 c6
              refine v_iload E d_B_measles_35 4 rfl ?_
              refine v_iconst E d_B_measles_37 ?_
              refine v_icmp_le E 45 d_B_measles_38 (by decide) hp4 (by decide) (fun c7 => ?_) (fun c7 => ?_)
              · replace h := h.1 c7
                refine v_aloadn E d_B_measles_45 rfl 0 rfl ?_
                refine v_getA E cf8 dC_0 6 (by decide) rfl mw255 d_B_measles_46 rfl ?_
                refine v_aloadn E d_B_measles_49 rfl 0 rfl ?_
                refine v_getA E cf8 dC_0 5 (by decide) rfl mw123 d_B_measles_50 rfl ?_
                refine v_callVV E md_Standing_copy (c_Standing_copy 38 dC_38 36 dC_36 s0 _ h) dC_38 rfl ⟨by decide, by decide⟩ mw256 d_B_measles_53 (fun _ => rfl) (st := []) rfl (Nat.le_of_ble_eq_true rfl) (fun s1 h => ?_)
                refine v_aloadn E d_B_measles_56 rfl 0 rfl ?_
                refine v_getA E cf8 dC_0 10 (by decide) rfl mw414 d_B_measles_57 rfl ?_
                refine v_aloadn E d_B_measles_60 rfl 0 rfl ?_
                refine v_getA E cf8 dC_0 4 (by decide) rfl mw119 d_B_measles_61 rfl ?_
                refine v_aloadn E d_B_measles_64 rfl 0 rfl ?_
                refine v_getA E cf8 dC_0 6 (by decide) rfl mw255 d_B_measles_65 rfl ?_
                refine v_iloadn E d_B_measles_68 rfl 2 rfl ?_
                refine v_iloadn E d_B_measles_69 rfl 3 rfl ?_
                refine v_callVV E md_Measles_reckon (c_Measles_reckon 38 dC_38 p2 hp2 p3 hp3 s1 _ h) dC_31 rfl ⟨by decide, by decide⟩ mw415 d_B_measles_70 (fun _ => rfl) (st := []) rfl (Nat.le_of_ble_eq_true rfl) (fun s2 h => ?_)
                refine v_aloadn E d_B_measles_73 rfl 0 rfl ?_
                refine v_getA E cf8 dC_0 10 (by decide) rfl mw414 d_B_measles_74 rfl ?_
                refine v_getA E cf0 dC_31 0 (by decide) rfl mw416 d_B_measles_77 rfl ?_
                refine v_iloadn E d_B_measles_80 rfl 1 rfl ?_
                obtain ⟨q1, h⟩ := h
                refine v_lald E dC_32 (by decide) q1.1 q1.2 d_B_measles_81 ?_
                refine v_nameL (fun y1 hy1 => ?_)
                replace h := h y1 hy1
                refine v_lstore E d_B_measles_82 (by decide) (L' := [(5, .long y1), (0, .ref (adX X 0)), (1, .int (iI p1)), (2, .int (iI p2)), (3, .int (iI p3)), (4, .int (iI p4))]) rfl ?_
                refine v_lconst E (1 : Int64) rfl d_B_measles_84 ?_
                refine v_lload E d_B_measles_85 0 rfl ?_
                refine v_aloadn E d_B_measles_87 rfl 1 rfl ?_
                refine v_getA E cf8 dC_0 10 (by decide) rfl mw414 d_B_measles_88 rfl ?_
                refine v_getL E cf0 dC_31 2 (by decide) rfl mw417 d_B_measles_91 rfl ?_
                refine v_callSLp E md_B_commonDivisor (c_B_commonDivisor dscC y1 (gL s2 31 2) s2 _ h) ⟨by decide, by decide⟩ mw418 d_B_measles_94 (fun _ => rfl) (st := [.long (1 : Int64)]) rfl (Nat.le_of_ble_eq_true rfl) (fun r4 h => ?_)
                refine v_mmaxL E mw419 mw420 mw55 mw421 d_B_measles_97 (Nat.le_of_ble_eq_true rfl) (by decide) ?_
                refine v_nameL (fun y2 hy2 => ?_)
                replace h := h y2 hy2
                refine v_lstore E d_B_measles_100 (by decide) (L' := [(7, .long y2), (5, .long y1), (0, .ref (adX X 0)), (1, .int (iI p1)), (2, .int (iI p2)), (3, .int (iI p3)), (4, .int (iI p4))]) rfl ?_
                refine v_iload E d_B_measles_102 6 rfl ?_
                refine v_if_ne E 112 d_B_measles_104 (by decide) hp4 (fun c8 => ?_) (fun c8 => ?_)
                · replace h := h.1 c8
                  refine v_aloadn E d_B_measles_112 rfl 2 rfl ?_
                  refine v_getA E cf8 dC_0 10 (by decide) rfl mw414 d_B_measles_113 rfl ?_
                  refine v_getL E cf0 dC_31 2 (by decide) rfl mw417 d_B_measles_116 rfl ?_
                  refine v_lload E d_B_measles_119 0 rfl ?_
                  obtain ⟨q2, h⟩ := h
                  refine v_ldiv E d_B_measles_121 q2 ?_
                  exact v_lret E hR h d_B_measles_122
                · replace h := h.2 c8
                  refine v_lload E d_B_measles_107 1 rfl ?_
                  refine v_goto E 119 d_B_measles_109 (by decide) ?_
                  refine v_lload E d_B_measles_119 0 rfl ?_
                  obtain ⟨q3, h⟩ := h
                  refine v_ldiv E d_B_measles_121 q3 ?_
                  exact v_lret E hR h d_B_measles_122
              · replace h := h.2 c7
                refine v_ldc2 E mw413 d_B_measles_41 ?_
                exact v_lret E hR h d_B_measles_44
theorem d_B_drawnOn_0 : decode prog_1_method_36_code 0 = .ok (.ldc2_w 277, 3) := by decide +kernel
theorem d_B_drawnOn_3 : decode prog_1_method_36_code 3 = .ok (.iload_n 1, 1) := by decide +kernel
theorem d_B_drawnOn_4 : decode prog_1_method_36_code 4 = .ok (.i2l, 1) := by decide +kernel
theorem d_B_drawnOn_5 : decode prog_1_method_36_code 5 = .ok (.lmul, 1) := by decide +kernel
theorem d_B_drawnOn_6 : decode prog_1_method_36_code 6 = .ok (.ldc2_w 279, 3) := by decide +kernel
theorem d_B_drawnOn_9 : decode prog_1_method_36_code 9 = .ok (.iload_n 2, 1) := by decide +kernel
theorem d_B_drawnOn_10 : decode prog_1_method_36_code 10 = .ok (.i2l, 1) := by decide +kernel
theorem d_B_drawnOn_11 : decode prog_1_method_36_code 11 = .ok (.lmul, 1) := by decide +kernel
theorem d_B_drawnOn_12 : decode prog_1_method_36_code 12 = .ok (.ladd, 1) := by decide +kernel
theorem d_B_drawnOn_13 : decode prog_1_method_36_code 13 = .ok (.lconst 1, 1) := by decide +kernel
theorem d_B_drawnOn_14 : decode prog_1_method_36_code 14 = .ok (.ladd, 1) := by decide +kernel
theorem d_B_drawnOn_15 : decode prog_1_method_36_code 15 = .ok (.lstore_n 3, 1) := by decide +kernel
theorem d_B_drawnOn_16 : decode prog_1_method_36_code 16 = .ok (.lload_n 3, 1) := by decide +kernel
theorem d_B_drawnOn_17 : decode prog_1_method_36_code 17 = .ok (.lload_n 3, 1) := by decide +kernel
theorem d_B_drawnOn_18 : decode prog_1_method_36_code 18 = .ok (.lmul, 1) := by decide +kernel
theorem d_B_drawnOn_19 : decode prog_1_method_36_code 19 = .ok (.ldc2_w 281, 3) := by decide +kernel
theorem d_B_drawnOn_22 : decode prog_1_method_36_code 22 = .ok (.lrem, 1) := by decide +kernel
theorem d_B_drawnOn_23 : decode prog_1_method_36_code 23 = .ok (.ldc2_w 283, 3) := by decide +kernel
theorem d_B_drawnOn_26 : decode prog_1_method_36_code 26 = .ok (.ldiv, 1) := by decide +kernel
theorem d_B_drawnOn_27 : decode prog_1_method_36_code 27 = .ok (.lstore 5, 2) := by decide +kernel
theorem d_B_drawnOn_29 : decode prog_1_method_36_code 29 = .ok (.lload 5, 2) := by decide +kernel
theorem d_B_drawnOn_31 : decode prog_1_method_36_code 31 = .ok (.ldc2_w 285, 3) := by decide +kernel
theorem d_B_drawnOn_34 : decode prog_1_method_36_code 34 = .ok (.ldiv, 1) := by decide +kernel
theorem d_B_drawnOn_35 : decode prog_1_method_36_code 35 = .ok (.ldc2_w 283, 3) := by decide +kernel
theorem d_B_drawnOn_38 : decode prog_1_method_36_code 38 = .ok (.lrem, 1) := by decide +kernel
theorem d_B_drawnOn_39 : decode prog_1_method_36_code 39 = .ok (.lconst 0, 1) := by decide +kernel
theorem d_B_drawnOn_40 : decode prog_1_method_36_code 40 = .ok (.lcmp, 1) := by decide +kernel
theorem d_B_drawnOn_41 : decode prog_1_method_36_code 41 = .ok (.ifCond .ne 14, 3) := by decide +kernel
theorem d_B_drawnOn_44 : decode prog_1_method_36_code 44 = .ok (.aload_n 0, 1) := by decide +kernel
theorem d_B_drawnOn_45 : decode prog_1_method_36_code 45 = .ok (.getfield 10, 3) := by decide +kernel
theorem d_B_drawnOn_48 : decode prog_1_method_36_code 48 = .ok (.getfield 115, 3) := by decide +kernel
theorem d_B_drawnOn_51 : decode prog_1_method_36_code 51 = .ok (.iconst 1, 1) := by decide +kernel
theorem d_B_drawnOn_52 : decode prog_1_method_36_code 52 = .ok (.if_icmp .ge 5, 3) := by decide +kernel
theorem d_B_drawnOn_55 : decode prog_1_method_36_code 55 = .ok (.iconst 0, 1) := by decide +kernel
theorem d_B_drawnOn_56 : decode prog_1_method_36_code 56 = .ok (.ireturn, 1) := by decide +kernel
theorem d_B_drawnOn_57 : decode prog_1_method_36_code 57 = .ok (.iconst 1, 1) := by decide +kernel
theorem d_B_drawnOn_58 : decode prog_1_method_36_code 58 = .ok (.lload 5, 2) := by decide +kernel
theorem d_B_drawnOn_60 : decode prog_1_method_36_code 60 = .ok (.aload_n 0, 1) := by decide +kernel
theorem d_B_drawnOn_61 : decode prog_1_method_36_code 61 = .ok (.getfield 10, 3) := by decide +kernel
theorem d_B_drawnOn_64 : decode prog_1_method_36_code 64 = .ok (.getfield 115, 3) := by decide +kernel
theorem d_B_drawnOn_67 : decode prog_1_method_36_code 67 = .ok (.i2l, 1) := by decide +kernel
theorem d_B_drawnOn_68 : decode prog_1_method_36_code 68 = .ok (.lrem, 1) := by decide +kernel
theorem d_B_drawnOn_69 : decode prog_1_method_36_code 69 = .ok (.l2i, 1) := by decide +kernel
theorem d_B_drawnOn_70 : decode prog_1_method_36_code 70 = .ok (.ishl, 1) := by decide +kernel
theorem d_B_drawnOn_71 : decode prog_1_method_36_code 71 = .ok (.ireturn, 1) := by decide +kernel
set_option maxHeartbeats 4000000 in
set_option maxRecDepth 20000 in
theorem c_B_drawnOn (p1 : Int) (hp1 : Rng p1) (p2 : Int) (hp2 : Rng p2) (s0 : MS) (Q : Int → Prop) (h : wp_B_drawnOn p1 p2 s0 Q) : MT dscC ⟨"BellSchool", "drawnOn", "(II)I"⟩ prog_1_method_36_code 7 (some .int) 0 (fun ad => [.ref (ad 0), .int (iI p1), .int (iI p2)]) s0 (po_I dscC (fun r z => z = s0 ∧ Q r)) := by
  refine met_of (by decide) (fun _ => Nat.le_of_ble_eq_true rfl) (fun X E hR => ?_)
  replace E : EV dscC X prog_1_method_36_code "BellSchool" 7 0 := E
  show VV dscC X 0 [(0, .ref (adX X 0)), (1, .int (iI p1)), (2, .int (iI p2))] [] s0
  unfold wp_B_drawnOn at h
  refine v_ldc2 E mw425 d_B_drawnOn_0 ?_
  refine v_iloadn E d_B_drawnOn_3 rfl 1 rfl ?_
  refine v_i2l E d_B_drawnOn_4 ?_
  refine v_lmul E d_B_drawnOn_5 ?_
  refine v_ldc2 E mw426 d_B_drawnOn_6 ?_
  refine v_iloadn E d_B_drawnOn_9 rfl 2 rfl ?_
  refine v_i2l E d_B_drawnOn_10 ?_
  refine v_lmul E d_B_drawnOn_11 ?_
  refine v_ladd E d_B_drawnOn_12 ?_
  refine v_lconst E (1 : Int64) rfl d_B_drawnOn_13 ?_
  refine v_ladd E d_B_drawnOn_14 ?_
  refine v_nameL (fun y1 hy1 => ?_)
  replace h := h y1 hy1
  refine v_lstoren E d_B_drawnOn_15 rfl (by decide) (L' := [(3, .long y1), (0, .ref (adX X 0)), (1, .int (iI p1)), (2, .int (iI p2))]) rfl ?_
  refine v_lloadn E d_B_drawnOn_16 rfl 0 rfl ?_
  refine v_lloadn E d_B_drawnOn_17 rfl 0 rfl ?_
  refine v_lmul E d_B_drawnOn_18 ?_
  refine v_ldc2 E mw427 d_B_drawnOn_19 ?_
  refine v_lrem E d_B_drawnOn_22 (by decide) ?_
  refine v_ldc2 E mw428 d_B_drawnOn_23 ?_
  refine v_ldiv E d_B_drawnOn_26 (by decide) ?_
  refine v_nameL (fun y2 hy2 => ?_)
  replace h := h y2 hy2
  refine v_lstore E d_B_drawnOn_27 (by decide) (L' := [(5, .long y2), (3, .long y1), (0, .ref (adX X 0)), (1, .int (iI p1)), (2, .int (iI p2))]) rfl ?_
  refine v_lload E d_B_drawnOn_29 0 rfl ?_
  refine v_ldc2 E mw429 d_B_drawnOn_31 ?_
  refine v_ldiv E d_B_drawnOn_34 (by decide) ?_
  refine v_ldc2 E mw428 d_B_drawnOn_35 ?_
  refine v_lrem E d_B_drawnOn_38 (by decide) ?_
  refine v_lconst E (0 : Int64) rfl d_B_drawnOn_39 ?_
  refine v_lcmp_ne E 55 d_B_drawnOn_40 d_B_drawnOn_41 (by decide) (fun c1 => ?_) (fun c1 => ?_)
  · replace h := h.1 c1
    refine v_iconst E d_B_drawnOn_55 ?_
    exact v_iret E hR rfl (by decide) ⟨rfl, h⟩ d_B_drawnOn_56
  · replace h := h.2 c1
    refine v_aloadn E d_B_drawnOn_44 rfl 2 rfl ?_
    refine v_getR E cf8 dC_0 0 (by decide) rfl mw118 d_B_drawnOn_45 rfl (fun hv1 => ?_)
    refine v_getI E cf7 hv1 5 (by decide) rfl mw133 d_B_drawnOn_48 rfl ?_
    refine v_iconst E d_B_drawnOn_51 ?_
    refine v_wt (fun wt1 => ?_)
    refine v_icmp_ge E 57 d_B_drawnOn_52 (by decide) (wt1 (gR s0 0 0) 5) (by decide) (fun c2 => ?_) (fun c2 => ?_)
    · replace h := h.1 c2
      refine v_iconst E d_B_drawnOn_57 ?_
      refine v_lload E d_B_drawnOn_58 0 rfl ?_
      refine v_aloadn E d_B_drawnOn_60 rfl 2 rfl ?_
      refine v_getR E cf8 dC_0 0 (by decide) rfl mw118 d_B_drawnOn_61 rfl (fun hv2 => ?_)
      refine v_getI E cf7 hv2 5 (by decide) rfl mw133 d_B_drawnOn_64 rfl ?_
      refine v_i2l E d_B_drawnOn_67 ?_
      obtain ⟨q1, h⟩ := h
      refine v_lrem E d_B_drawnOn_68 q1 ?_
      refine v_l2i E d_B_drawnOn_69 ?_
      refine v_ishl E d_B_drawnOn_70 ?_
      exact v_iret E hR rfl (Rng_of _) ⟨rfl, h⟩ d_B_drawnOn_71
    · replace h := h.2 c2
      refine v_iconst E d_B_drawnOn_55 ?_
      exact v_iret E hR rfl (by decide) ⟨rfl, h⟩ d_B_drawnOn_56
theorem d_Standing_soupsInAll_0 : decode prog_7_method_5_code 0 = .ok (.iconst 0, 1) := by decide +kernel
theorem d_Standing_soupsInAll_1 : decode prog_7_method_5_code 1 = .ok (.istore_n 1, 1) := by decide +kernel
theorem d_Standing_soupsInAll_2 : decode prog_7_method_5_code 2 = .ok (.iconst 0, 1) := by decide +kernel
theorem d_Standing_soupsInAll_3 : decode prog_7_method_5_code 3 = .ok (.istore_n 2, 1) := by decide +kernel
theorem d_Standing_soupsInAll_4 : decode prog_7_method_5_code 4 = .ok (.iload_n 2, 1) := by decide +kernel
theorem d_Standing_soupsInAll_5 : decode prog_7_method_5_code 5 = .ok (.bipush 7, 2) := by decide +kernel
theorem d_Standing_soupsInAll_7 : decode prog_7_method_5_code 7 = .ok (.if_icmp .ge 18, 3) := by decide +kernel
theorem d_Standing_soupsInAll_10 : decode prog_7_method_5_code 10 = .ok (.iload_n 1, 1) := by decide +kernel
theorem d_Standing_soupsInAll_11 : decode prog_7_method_5_code 11 = .ok (.aload_n 0, 1) := by decide +kernel
theorem d_Standing_soupsInAll_12 : decode prog_7_method_5_code 12 = .ok (.getfield 9, 3) := by decide +kernel
theorem d_Standing_soupsInAll_15 : decode prog_7_method_5_code 15 = .ok (.iload_n 2, 1) := by decide +kernel
theorem d_Standing_soupsInAll_16 : decode prog_7_method_5_code 16 = .ok (.iaload, 1) := by decide +kernel
theorem d_Standing_soupsInAll_17 : decode prog_7_method_5_code 17 = .ok (.iadd, 1) := by decide +kernel
theorem d_Standing_soupsInAll_18 : decode prog_7_method_5_code 18 = .ok (.istore_n 1, 1) := by decide +kernel
theorem d_Standing_soupsInAll_19 : decode prog_7_method_5_code 19 = .ok (.iinc 2 1, 3) := by decide +kernel
theorem d_Standing_soupsInAll_22 : decode prog_7_method_5_code 22 = .ok (.goto (-18), 3) := by decide +kernel
theorem d_Standing_soupsInAll_25 : decode prog_7_method_5_code 25 = .ok (.iload_n 1, 1) := by decide +kernel
theorem d_Standing_soupsInAll_26 : decode prog_7_method_5_code 26 = .ok (.ireturn, 1) := by decide +kernel
set_option maxHeartbeats 4000000 in
set_option maxRecDepth 20000 in
theorem c_Standing_soupsInAll (v0 : Nat) (hv0 : dscC[v0]? = some dSt) (s0 : MS) (Q : Int → Prop) (h : wp_Standing_soupsInAll v0 s0 Q) : MT dscC ⟨"BellSchool$Standing", "soupsInAll", "()I"⟩ prog_7_method_5_code 3 (some .int) 0 (fun ad => [.ref (ad v0)]) s0 (po_I dscC (fun r z => z = s0 ∧ Q r)) := by
  refine met_of (by decide) (fun _ => Nat.le_of_ble_eq_true rfl) (fun X E hR => ?_)
  replace E : EV dscC X prog_7_method_5_code "BellSchool$Standing" 3 0 := E
  show VV dscC X 0 [(0, .ref (adX X v0))] [] s0
  unfold wp_Standing_soupsInAll at h
  refine v_iconst E d_Standing_soupsInAll_0 ?_
  refine v_istoren E d_Standing_soupsInAll_1 rfl (by decide) (L' := [(1, .int (iI 0)), (0, .ref (adX X v0))]) rfl ?_
  refine v_iconst E d_Standing_soupsInAll_2 ?_
  refine v_istoren E d_Standing_soupsInAll_3 rfl (by decide) (L' := [(2, .int (iI 0)), (1, .int (iI 0)), (0, .ref (adX X v0))]) rfl ?_
  refine v_sub [2, 1, 0] (L' := [(0, .ref (adX X v0)), (1, .int (iI 0)), (2, .int (iI 0))]) rfl ?_
  obtain ⟨I1, μ1, h01, h⟩ := h
  refine v_ploop2 s0 (fun (x1 : Int) (x2 : Int) => [(0, .ref (adX X v0)), (1, .int (iI x1)), (2, .int (iI x2))]) I1 μ1 (fun x1 x2 hI1 ih1 => ?_) 0 0 h01
  replace h := h x1 x2  hI1
  refine v_iloadn E d_Standing_soupsInAll_4 rfl 2 rfl ?_
  refine v_bipush E d_Standing_soupsInAll_5 rfl ?_
  obtain ⟨q1, h⟩ := h
  refine v_icmp_ge E 25 d_Standing_soupsInAll_7 (by decide) q1 (by decide) (fun c1 => ?_) (fun c1 => ?_)
  · replace h := h.1 c1
    refine v_iloadn E d_Standing_soupsInAll_25 rfl 1 rfl ?_
    obtain ⟨q2, h⟩ := h
    exact v_iret E hR rfl q2 ⟨rfl, h⟩ d_Standing_soupsInAll_26
  · replace h := h.2 c1
    refine v_iloadn E d_Standing_soupsInAll_10 rfl 1 rfl ?_
    refine v_aloadn E d_Standing_soupsInAll_11 rfl 0 rfl ?_
    refine v_getO E cf5 hv0 0 (by decide) rfl mw111 d_Standing_soupsInAll_12 rfl ?_
    refine v_iloadn E d_Standing_soupsInAll_15 rfl 2 rfl ?_
    obtain ⟨q3, h⟩ := h
    refine v_iald E (dC_o5_1 hv0) (by decide) q3.1 q3.2 d_Standing_soupsInAll_16 ?_
    refine v_iadd E d_Standing_soupsInAll_17 ?_
    refine v_nameI (fun x3 hx3 => ?_)
    replace h := h x3 hx3
    refine v_istoren E d_Standing_soupsInAll_18 rfl (by decide) (L' := [(1, .int (iI x3)), (0, .ref (adX X v0)), (2, .int (iI x2))]) rfl ?_
    refine v_iincN E d_Standing_soupsInAll_19 2 rfl (by decide) (fun y => [(2, .int (iI y)), (1, .int (iI x3)), (0, .ref (adX X v0))]) (fun _ => rfl) (fun x4 hx4 => ?_)
    replace h := h x4 hx4
    refine v_goto E 4 d_Standing_soupsInAll_22 (by decide) ?_
    obtain ⟨hb, hm⟩ := h
    exact v_sub [2, 1, 0] rfl (ih1 x3 x4 hb hm)
theorem d_B_year_0 : decode prog_1_method_26_code 0 = .ok (.iload_n 1, 1) := by decide +kernel
theorem d_B_year_1 : decode prog_1_method_26_code 1 = .ok (.ifCond .lt 30, 3) := by decide +kernel
theorem d_B_year_4 : decode prog_1_method_26_code 4 = .ok (.iload_n 1, 1) := by decide +kernel
theorem d_B_year_5 : decode prog_1_method_26_code 5 = .ok (.sipush 9999, 3) := by decide +kernel
theorem d_B_year_8 : decode prog_1_method_26_code 8 = .ok (.if_icmp .gt 23, 3) := by decide +kernel
theorem d_B_year_11 : decode prog_1_method_26_code 11 = .ok (.iload_n 2, 1) := by decide +kernel
theorem d_B_year_12 : decode prog_1_method_26_code 12 = .ok (.iconst 1, 1) := by decide +kernel
theorem d_B_year_13 : decode prog_1_method_26_code 13 = .ok (.if_icmp .lt 18, 3) := by decide +kernel
theorem d_B_year_16 : decode prog_1_method_26_code 16 = .ok (.iload_n 2, 1) := by decide +kernel
theorem d_B_year_17 : decode prog_1_method_26_code 17 = .ok (.bipush 60, 2) := by decide +kernel
theorem d_B_year_19 : decode prog_1_method_26_code 19 = .ok (.if_icmp .gt 12, 3) := by decide +kernel
theorem d_B_year_22 : decode prog_1_method_26_code 22 = .ok (.iload_n 3, 1) := by decide +kernel
theorem d_B_year_23 : decode prog_1_method_26_code 23 = .ok (.ifCond .lt 8, 3) := by decide +kernel
theorem d_B_year_26 : decode prog_1_method_26_code 26 = .ok (.iload_n 3, 1) := by decide +kernel
theorem d_B_year_27 : decode prog_1_method_26_code 27 = .ok (.iconst 1, 1) := by decide +kernel
theorem d_B_year_28 : decode prog_1_method_26_code 28 = .ok (.if_icmp .le 5, 3) := by decide +kernel
theorem d_B_year_31 : decode prog_1_method_26_code 31 = .ok (.iconst (-1), 1) := by decide +kernel
theorem d_B_year_32 : decode prog_1_method_26_code 32 = .ok (.ireturn, 1) := by decide +kernel
theorem d_B_year_33 : decode prog_1_method_26_code 33 = .ok (.aload_n 0, 1) := by decide +kernel
theorem d_B_year_34 : decode prog_1_method_26_code 34 = .ok (.getfield 49, 3) := by decide +kernel
theorem d_B_year_37 : decode prog_1_method_26_code 37 = .ok (.aload_n 0, 1) := by decide +kernel
theorem d_B_year_38 : decode prog_1_method_26_code 38 = .ok (.getfield 45, 3) := by decide +kernel
theorem d_B_year_41 : decode prog_1_method_26_code 41 = .ok (.invokevirtual 193, 3) := by decide +kernel
theorem d_B_year_44 : decode prog_1_method_26_code 44 = .ok (.iconst 0, 1) := by decide +kernel
theorem d_B_year_45 : decode prog_1_method_26_code 45 = .ok (.istore 4, 2) := by decide +kernel
theorem d_B_year_47 : decode prog_1_method_26_code 47 = .ok (.iload 4, 2) := by decide +kernel
theorem d_B_year_49 : decode prog_1_method_26_code 49 = .ok (.iload_n 2, 1) := by decide +kernel
theorem d_B_year_50 : decode prog_1_method_26_code 50 = .ok (.if_icmp .ge 39, 3) := by decide +kernel
theorem d_B_year_53 : decode prog_1_method_26_code 53 = .ok (.aload_n 0, 1) := by decide +kernel
theorem d_B_year_54 : decode prog_1_method_26_code 54 = .ok (.getfield 49, 3) := by decide +kernel
theorem d_B_year_57 : decode prog_1_method_26_code 57 = .ok (.dup, 1) := by decide +kernel
theorem d_B_year_58 : decode prog_1_method_26_code 58 = .ok (.getfield 140, 3) := by decide +kernel
theorem d_B_year_61 : decode prog_1_method_26_code 61 = .ok (.aload_n 0, 1) := by decide +kernel
theorem d_B_year_62 : decode prog_1_method_26_code 62 = .ok (.iload_n 1, 1) := by decide +kernel
theorem d_B_year_63 : decode prog_1_method_26_code 63 = .ok (.iload 4, 2) := by decide +kernel
theorem d_B_year_65 : decode prog_1_method_26_code 65 = .ok (.invokevirtual 235, 3) := by decide +kernel
theorem d_B_year_68 : decode prog_1_method_26_code 68 = .ok (.ior, 1) := by decide +kernel
theorem d_B_year_69 : decode prog_1_method_26_code 69 = .ok (.putfield 140, 3) := by decide +kernel
theorem d_B_year_72 : decode prog_1_method_26_code 72 = .ok (.aload_n 0, 1) := by decide +kernel
theorem d_B_year_73 : decode prog_1_method_26_code 73 = .ok (.getfield 38, 3) := by decide +kernel
theorem d_B_year_76 : decode prog_1_method_26_code 76 = .ok (.aload_n 0, 1) := by decide +kernel
theorem d_B_year_77 : decode prog_1_method_26_code 77 = .ok (.getfield 49, 3) := by decide +kernel
theorem d_B_year_80 : decode prog_1_method_26_code 80 = .ok (.invokevirtual 196, 3) := by decide +kernel
theorem d_B_year_83 : decode prog_1_method_26_code 83 = .ok (.iinc 4 1, 3) := by decide +kernel
theorem d_B_year_86 : decode prog_1_method_26_code 86 = .ok (.goto (-39), 3) := by decide +kernel
theorem d_B_year_89 : decode prog_1_method_26_code 89 = .ok (.iload_n 3, 1) := by decide +kernel
theorem d_B_year_90 : decode prog_1_method_26_code 90 = .ok (.ifCond .ne 13, 3) := by decide +kernel
theorem d_B_year_93 : decode prog_1_method_26_code 93 = .ok (.aload_n 0, 1) := by decide +kernel
theorem d_B_year_94 : decode prog_1_method_26_code 94 = .ok (.getfield 49, 3) := by decide +kernel
theorem d_B_year_97 : decode prog_1_method_26_code 97 = .ok (.getfield 128, 3) := by decide +kernel
theorem d_B_year_100 : decode prog_1_method_26_code 100 = .ok (.goto 18, 3) := by decide +kernel
theorem d_B_year_103 : decode prog_1_method_26_code 103 = .ok (.aload_n 0, 1) := by decide +kernel
theorem d_B_year_104 : decode prog_1_method_26_code 104 = .ok (.getfield 49, 3) := by decide +kernel
theorem d_B_year_107 : decode prog_1_method_26_code 107 = .ok (.invokevirtual 238, 3) := by decide +kernel
theorem d_B_year_110 : decode prog_1_method_26_code 110 = .ok (.aload_n 0, 1) := by decide +kernel
theorem d_B_year_111 : decode prog_1_method_26_code 111 = .ok (.getfield 45, 3) := by decide +kernel
theorem d_B_year_114 : decode prog_1_method_26_code 114 = .ok (.invokevirtual 238, 3) := by decide +kernel
theorem d_B_year_117 : decode prog_1_method_26_code 117 = .ok (.isub, 1) := by decide +kernel
theorem d_B_year_118 : decode prog_1_method_26_code 118 = .ok (.ireturn, 1) := by decide +kernel
set_option maxHeartbeats 4000000 in
set_option maxRecDepth 20000 in
theorem c_B_year (p1 : Int) (hp1 : Rng p1) (p2 : Int) (hp2 : Rng p2) (p3 : Int) (hp3 : Rng p3) (s0 : MS) (Q : Int → MS → Prop) (h : wp_B_year p1 p2 p3 s0 Q) : MT dscC ⟨"BellSchool", "year", "(III)I"⟩ prog_1_method_26_code 5 (some .int) 5 (fun ad => [.ref (ad 0), .int (iI p1), .int (iI p2), .int (iI p3)]) s0 (po_I dscC Q) := by
  refine met_of (by decide) (fun _ => Nat.le_of_ble_eq_true rfl) (fun X E hR => ?_)
  replace E : EV dscC X prog_1_method_26_code "BellSchool" 5 5 := E
  show VV dscC X 0 [(0, .ref (adX X 0)), (1, .int (iI p1)), (2, .int (iI p2)), (3, .int (iI p3))] [] s0
  unfold wp_B_year at h
  refine v_iloadn E d_B_year_0 rfl 1 rfl ?_
  refine v_if_lt E 31 d_B_year_1 (by decide) hp1 (fun c1 => ?_) (fun c1 => ?_)
  · replace h := h.1 c1
    refine v_iconst E d_B_year_31 ?_
    exact v_iret E hR rfl (by decide) h d_B_year_32
  · replace h := h.2 c1
    refine v_iloadn E d_B_year_4 rfl 1 rfl ?_
    refine v_sipush E d_B_year_5 rfl ?_
    refine v_icmp_gt E 31 d_B_year_8 (by decide) hp1 (by decide) (fun c2 => ?_) (fun c2 => ?_)
    · replace h := h.1 c2
      refine v_iconst E d_B_year_31 ?_
      exact v_iret E hR rfl (by decide) h d_B_year_32
    · replace h := h.2 c2
      refine v_iloadn E d_B_year_11 rfl 2 rfl ?_
      refine v_iconst E d_B_year_12 ?_
      refine v_icmp_lt E 31 d_B_year_13 (by decide) hp2 (by decide) (fun c3 => ?_) (fun c3 => ?_)
      · replace h := h.1 c3
        refine v_iconst E d_B_year_31 ?_
        exact v_iret E hR rfl (by decide) h d_B_year_32
      · replace h := h.2 c3
        refine v_iloadn E d_B_year_16 rfl 2 rfl ?_
        refine v_bipush E d_B_year_17 rfl ?_
        refine v_icmp_gt E 31 d_B_year_19 (by decide) hp2 (by decide) (fun c4 => ?_) (fun c4 => ?_)
        · replace h := h.1 c4
          refine v_iconst E d_B_year_31 ?_
          exact v_iret E hR rfl (by decide) h d_B_year_32
        · replace h := h.2 c4
          refine v_iloadn E d_B_year_22 rfl 3 rfl ?_
          refine v_if_lt E 31 d_B_year_23 (by decide) hp3 (fun c5 => ?_) (fun c5 => ?_)
          · replace h := h.1 c5
            refine v_iconst E d_B_year_31 ?_
            exact v_iret E hR rfl (by decide) h d_B_year_32
          · replace h := h.2 c5
            refine v_iloadn E d_B_year_26 rfl 3 rfl ?_
            refine v_iconst E d_B_year_27 ?_
            refine v_icmp_le E 33 d_B_year_28 (by decide) hp3 (by decide) (fun c6 => ?_) (fun c6 => ?_)
            · replace h := h.1 c6
              refine v_aloadn E d_B_year_33 rfl 0 rfl ?_
              refine v_getA E cf8 dC_0 6 (by decide) rfl mw255 d_B_year_34 rfl ?_
              refine v_aloadn E d_B_year_37 rfl 0 rfl ?_
              refine v_getA E cf8 dC_0 5 (by decide) rfl mw123 d_B_year_38 rfl ?_
              refine v_callVV E md_Standing_copy (c_Standing_copy 38 dC_38 36 dC_36 s0 _ h) dC_38 rfl ⟨by decide, by decide⟩ mw256 d_B_year_41 (fun _ => rfl) (st := []) rfl (Nat.le_of_ble_eq_true rfl) (fun s1 h => ?_)
              refine v_iconst E d_B_year_44 ?_
              refine v_istore E d_B_year_45 (by decide) (L' := [(4, .int (iI 0)), (0, .ref (adX X 0)), (1, .int (iI p1)), (2, .int (iI p2)), (3, .int (iI p3))]) rfl ?_
              refine v_sub [1, 2, 3, 4, 0] (L' := [(0, .ref (adX X 0)), (1, .int (iI p1)), (2, .int (iI p2)), (3, .int (iI p3)), (4, .int (iI 0))]) rfl ?_
              obtain ⟨I1, μ1, h01, h⟩ := h
              refine v_loop1 (fun (x1 : Int) => [(0, .ref (adX X 0)), (1, .int (iI p1)), (2, .int (iI p2)), (3, .int (iI p3)), (4, .int (iI x1))]) I1 μ1 (fun x1 s2 hI1 ih1 => ?_) 0 s1 h01
              replace h := h x1 s2 hI1
              refine v_iload E d_B_year_47 4 rfl ?_
              refine v_iloadn E d_B_year_49 rfl 2 rfl ?_
              obtain ⟨q1, h⟩ := h
              refine v_icmp_ge E 89 d_B_year_50 (by decide) q1 hp2 (fun c7 => ?_) (fun c7 => ?_)
              · replace h := h.1 c7
                refine v_iloadn E d_B_year_89 rfl 3 rfl ?_
                refine v_if_ne E 103 d_B_year_90 (by decide) hp3 (fun c8 => ?_) (fun c8 => ?_)
                · replace h := h.1 c8
                  refine v_aloadn E d_B_year_103 rfl 0 rfl ?_
                  refine v_getA E cf8 dC_0 6 (by decide) rfl mw255 d_B_year_104 rfl ?_
                  refine v_callVIp E md_Standing_soupsInAll (c_Standing_soupsInAll 38 dC_38 s2 _ h) dC_38 rfl ⟨by decide, by decide⟩ mw436 d_B_year_107 (fun _ => rfl) (st := []) rfl (Nat.le_of_ble_eq_true rfl) (fun r2 hr2 h => ?_)
                  refine v_aloadn E d_B_year_110 rfl 0 rfl ?_
                  refine v_getA E cf8 dC_0 5 (by decide) rfl mw123 d_B_year_111 rfl ?_
                  refine v_callVIp E md_Standing_soupsInAll (c_Standing_soupsInAll 36 dC_36 s2 _ h) dC_36 rfl ⟨by decide, by decide⟩ mw436 d_B_year_114 (fun _ => rfl) (st := [.int (iI r2)]) rfl (Nat.le_of_ble_eq_true rfl) (fun r3 hr3 h => ?_)
                  refine v_isub E d_B_year_117 ?_
                  obtain ⟨q2, h⟩ := h
                  exact v_iret E hR rfl q2 h d_B_year_118
                · replace h := h.2 c8
                  refine v_aloadn E d_B_year_93 rfl 0 rfl ?_
                  refine v_getA E cf8 dC_0 6 (by decide) rfl mw255 d_B_year_94 rfl ?_
                  refine v_getI E cf5 dC_38 2 (by decide) rfl mw139 d_B_year_97 rfl ?_
                  refine v_goto E 118 d_B_year_100 (by decide) ?_
                  refine v_wt (fun wt1 => ?_)
                  exact v_iret E hR rfl (wt1 38 2) h d_B_year_118
              · replace h := h.2 c7
                refine v_aloadn E d_B_year_53 rfl 0 rfl ?_
                refine v_getA E cf8 dC_0 6 (by decide) rfl mw255 d_B_year_54 rfl ?_
                refine v_dup E d_B_year_57 rfl ?_
                refine v_getI E cf5 dC_38 3 (by decide) rfl mw143 d_B_year_58 rfl ?_
                refine v_aloadn E d_B_year_61 rfl 0 rfl ?_
                refine v_iloadn E d_B_year_62 rfl 1 rfl ?_
                refine v_iload E d_B_year_63 4 rfl ?_
                refine v_callVIp E md_B_drawnOn (c_B_drawnOn p1 hp1 x1 q1 s2 _ h) dC_0 rfl ⟨by decide, by decide⟩ mw437 d_B_year_65 (fun _ => rfl) (st := [.int (iI (gI s2 38 3)), .ref (adX X 38)]) rfl (Nat.le_of_ble_eq_true rfl) (fun r4 hr4 h => ?_)
                refine v_ior E d_B_year_68 ?_
                refine v_putI E cf5 dC_38 3 (by decide) rfl rfl mw143 d_B_year_69 rfl rfl rfl (Rng_of _) ?_
                refine v_nameS (fun s3 hs3 => ?_)
                replace h := h s3 hs3
                refine v_aloadn E d_B_year_72 rfl 0 rfl ?_
                refine v_getA E cf8 dC_0 4 (by decide) rfl mw119 d_B_year_73 rfl ?_
                refine v_aloadn E d_B_year_76 rfl 0 rfl ?_
                refine v_getA E cf8 dC_0 6 (by decide) rfl mw255 d_B_year_77 rfl ?_
                refine v_callVV E md_Noon_goBy (c_Noon_goBy 38 dC_38 s3 _ h) dC_17 rfl ⟨by decide, by decide⟩ mw230 d_B_year_80 (fun _ => rfl) (st := []) rfl (Nat.le_of_ble_eq_true rfl) (fun s4 h => ?_)
                refine v_iincN E d_B_year_83 4 rfl (by decide) (fun y => [(4, .int (iI y)), (0, .ref (adX X 0)), (1, .int (iI p1)), (2, .int (iI p2)), (3, .int (iI p3))]) (fun _ => rfl) (fun x2 hx2 => ?_)
                replace h := h x2 hx2
                refine v_goto E 47 d_B_year_86 (by decide) ?_
                obtain ⟨hb, hm⟩ := h
                exact v_sub [1, 2, 3, 4, 0] rfl (ih1 x2 s4 hb hm)
            · replace h := h.2 c6
              refine v_iconst E d_B_year_31 ?_
              exact v_iret E hR rfl (by decide) h d_B_year_32
theorem d_B_keep_0 : decode prog_1_method_27_code 0 = .ok (.aload_n 0, 1) := by decide +kernel
theorem d_B_keep_1 : decode prog_1_method_27_code 1 = .ok (.getfield 61, 3) := by decide +kernel
theorem d_B_keep_4 : decode prog_1_method_27_code 4 = .ok (.aload_n 0, 1) := by decide +kernel
theorem d_B_keep_5 : decode prog_1_method_27_code 5 = .ok (.getfield 45, 3) := by decide +kernel
theorem d_B_keep_8 : decode prog_1_method_27_code 8 = .ok (.invokevirtual 241, 3) := by decide +kernel
theorem d_B_keep_11 : decode prog_1_method_27_code 11 = .ok (.ifCond .eq 13, 3) := by decide +kernel
theorem d_B_keep_14 : decode prog_1_method_27_code 14 = .ok (.aload_n 0, 1) := by decide +kernel
theorem d_B_keep_15 : decode prog_1_method_27_code 15 = .ok (.getfield 61, 3) := by decide +kernel
theorem d_B_keep_18 : decode prog_1_method_27_code 18 = .ok (.getfield 190, 3) := by decide +kernel
theorem d_B_keep_21 : decode prog_1_method_27_code 21 = .ok (.goto 5, 3) := by decide +kernel
theorem d_B_keep_24 : decode prog_1_method_27_code 24 = .ok (.bipush (-3), 2) := by decide +kernel
theorem d_B_keep_26 : decode prog_1_method_27_code 26 = .ok (.ireturn, 1) := by decide +kernel
set_option maxHeartbeats 4000000 in
set_option maxRecDepth 20000 in
theorem c_B_keep (s0 : MS) (Q : Int → MS → Prop) (h : wp_B_keep s0 Q) : MT dscC ⟨"BellSchool", "keep", "()I"⟩ prog_1_method_27_code 1 (some .int) 2 (fun ad => [.ref (ad 0)]) s0 (po_I dscC Q) := by
  refine met_of (by decide) (fun _ => Nat.le_of_ble_eq_true rfl) (fun X E hR => ?_)
  replace E : EV dscC X prog_1_method_27_code "BellSchool" 1 2 := E
  show VV dscC X 0 [(0, .ref (adX X 0))] [] s0
  unfold wp_B_keep at h
  refine v_aloadn E d_B_keep_0 rfl 0 rfl ?_
  refine v_getA E cf8 dC_0 8 (by decide) rfl mw127 d_B_keep_1 rfl ?_
  refine v_aloadn E d_B_keep_4 rfl 0 rfl ?_
  refine v_getA E cf8 dC_0 5 (by decide) rfl mw123 d_B_keep_5 rfl ?_
  refine v_callVI E md_Shelf_put (c_Shelf_put23 36 dC_36 s0 _ h) dC_23 rfl ⟨by decide, by decide⟩ mw441 d_B_keep_8 (fun _ => rfl) (st := []) rfl (Nat.le_of_ble_eq_true rfl) (fun r1 s1 hr1 h => ?_)
  obtain ⟨hz1, h⟩ := h
  refine v_if_eq E 24 d_B_keep_11 (by decide) hr1 (fun c1 => ?_) (fun c1 => ?_)
  · replace h := h.1 c1
    refine v_bipush E d_B_keep_24 rfl ?_
    exact v_iret E hR rfl (by decide) h d_B_keep_26
  · replace h := h.2 c1
    refine v_aloadn E d_B_keep_14 rfl 0 rfl ?_
    refine v_getA E cf8 dC_0 8 (by decide) rfl mw127 d_B_keep_15 rfl ?_
    refine v_getI E cf4 dC_23 1 (by decide) rfl mw126 d_B_keep_18 rfl ?_
    refine v_goto E 26 d_B_keep_21 (by decide) ?_
    refine v_wt (fun wt1 => ?_)
    exact v_iret E hR rfl (wt1 23 1) h d_B_keep_26
theorem d_B_back_0 : decode prog_1_method_28_code 0 = .ok (.aload_n 0, 1) := by decide +kernel
theorem d_B_back_1 : decode prog_1_method_28_code 1 = .ok (.getfield 61, 3) := by decide +kernel
theorem d_B_back_4 : decode prog_1_method_28_code 4 = .ok (.aload_n 0, 1) := by decide +kernel
theorem d_B_back_5 : decode prog_1_method_28_code 5 = .ok (.getfield 45, 3) := by decide +kernel
theorem d_B_back_8 : decode prog_1_method_28_code 8 = .ok (.invokevirtual 186, 3) := by decide +kernel
theorem d_B_back_11 : decode prog_1_method_28_code 11 = .ok (.ifCond .ne 6, 3) := by decide +kernel
theorem d_B_back_14 : decode prog_1_method_28_code 14 = .ok (.bipush (-2), 2) := by decide +kernel
theorem d_B_back_16 : decode prog_1_method_28_code 16 = .ok (.ireturn, 1) := by decide +kernel
theorem d_B_back_17 : decode prog_1_method_28_code 17 = .ok (.aload_n 0, 1) := by decide +kernel
theorem d_B_back_18 : decode prog_1_method_28_code 18 = .ok (.getfield 57, 3) := by decide +kernel
theorem d_B_back_21 : decode prog_1_method_28_code 21 = .ok (.iconst 0, 1) := by decide +kernel
theorem d_B_back_22 : decode prog_1_method_28_code 22 = .ok (.putfield 190, 3) := by decide +kernel
theorem d_B_back_25 : decode prog_1_method_28_code 25 = .ok (.aload_n 0, 1) := by decide +kernel
theorem d_B_back_26 : decode prog_1_method_28_code 26 = .ok (.getfield 61, 3) := by decide +kernel
theorem d_B_back_29 : decode prog_1_method_28_code 29 = .ok (.getfield 190, 3) := by decide +kernel
theorem d_B_back_32 : decode prog_1_method_28_code 32 = .ok (.ireturn, 1) := by decide +kernel
set_option maxHeartbeats 4000000 in
set_option maxRecDepth 20000 in
theorem c_B_back (s0 : MS) (Q : Int → MS → Prop) (h : wp_B_back s0 Q) : MT dscC ⟨"BellSchool", "back", "()I"⟩ prog_1_method_28_code 1 (some .int) 2 (fun ad => [.ref (ad 0)]) s0 (po_I dscC Q) := by
  refine met_of (by decide) (fun _ => Nat.le_of_ble_eq_true rfl) (fun X E hR => ?_)
  replace E : EV dscC X prog_1_method_28_code "BellSchool" 1 2 := E
  show VV dscC X 0 [(0, .ref (adX X 0))] [] s0
  unfold wp_B_back at h
  refine v_aloadn E d_B_back_0 rfl 0 rfl ?_
  refine v_getA E cf8 dC_0 8 (by decide) rfl mw127 d_B_back_1 rfl ?_
  refine v_aloadn E d_B_back_4 rfl 0 rfl ?_
  refine v_getA E cf8 dC_0 5 (by decide) rfl mw123 d_B_back_5 rfl ?_
  refine v_callVI E md_Shelf_takeInto (c_Shelf_takeInto23 36 dC_36 s0 _ h) dC_23 rfl ⟨by decide, by decide⟩ mw251 d_B_back_8 (fun _ => rfl) (st := []) rfl (Nat.le_of_ble_eq_true rfl) (fun r1 s1 hr1 h => ?_)
  obtain ⟨hz1, h⟩ := h
  refine v_if_ne E 17 d_B_back_11 (by decide) hr1 (fun c1 => ?_) (fun c1 => ?_)
  · replace h := h.1 c1
    refine v_aloadn E d_B_back_17 rfl 0 rfl ?_
    refine v_getA E cf8 dC_0 7 (by decide) rfl mw125 d_B_back_18 rfl ?_
    refine v_iconst E d_B_back_21 ?_
    refine v_putI E cf4 dC_21 1 (by decide) rfl rfl mw126 d_B_back_22 rfl rfl rfl (by decide) ?_
    refine v_nameS (fun s2 hs2 => ?_)
    replace h := h s2 hs2
    refine v_aloadn E d_B_back_25 rfl 0 rfl ?_
    refine v_getA E cf8 dC_0 8 (by decide) rfl mw127 d_B_back_26 rfl ?_
    refine v_getI E cf4 dC_23 1 (by decide) rfl mw126 d_B_back_29 rfl ?_
    refine v_wt (fun wt1 => ?_)
    exact v_iret E hR rfl (wt1 23 1) h d_B_back_32
  · replace h := h.2 c1
    refine v_bipush E d_B_back_14 rfl ?_
    exact v_iret E hR rfl (by decide) h d_B_back_16
theorem d_Valley_ways_0 : decode prog_9_method_10_code 0 = .ok (.iconst 0, 1) := by decide +kernel
theorem d_Valley_ways_1 : decode prog_9_method_10_code 1 = .ok (.istore_n 1, 1) := by decide +kernel
theorem d_Valley_ways_2 : decode prog_9_method_10_code 2 = .ok (.iconst 0, 1) := by decide +kernel
theorem d_Valley_ways_3 : decode prog_9_method_10_code 3 = .ok (.istore_n 2, 1) := by decide +kernel
theorem d_Valley_ways_4 : decode prog_9_method_10_code 4 = .ok (.iload_n 2, 1) := by decide +kernel
theorem d_Valley_ways_5 : decode prog_9_method_10_code 5 = .ok (.bipush 49, 2) := by decide +kernel
theorem d_Valley_ways_7 : decode prog_9_method_10_code 7 = .ok (.if_icmp .ge 26, 3) := by decide +kernel
theorem d_Valley_ways_10 : decode prog_9_method_10_code 10 = .ok (.iload_n 1, 1) := by decide +kernel
theorem d_Valley_ways_11 : decode prog_9_method_10_code 11 = .ok (.aload_n 0, 1) := by decide +kernel
theorem d_Valley_ways_12 : decode prog_9_method_10_code 12 = .ok (.getfield 18, 3) := by decide +kernel
theorem d_Valley_ways_15 : decode prog_9_method_10_code 15 = .ok (.iload_n 2, 1) := by decide +kernel
theorem d_Valley_ways_16 : decode prog_9_method_10_code 16 = .ok (.iaload, 1) := by decide +kernel
theorem d_Valley_ways_17 : decode prog_9_method_10_code 17 = .ok (.ifCond .le 7, 3) := by decide +kernel
theorem d_Valley_ways_20 : decode prog_9_method_10_code 20 = .ok (.iconst 1, 1) := by decide +kernel
theorem d_Valley_ways_21 : decode prog_9_method_10_code 21 = .ok (.goto 4, 3) := by decide +kernel
theorem d_Valley_ways_24 : decode prog_9_method_10_code 24 = .ok (.iconst 0, 1) := by decide +kernel
theorem d_Valley_ways_25 : decode prog_9_method_10_code 25 = .ok (.iadd, 1) := by decide +kernel
theorem d_Valley_ways_26 : decode prog_9_method_10_code 26 = .ok (.istore_n 1, 1) := by decide +kernel
theorem d_Valley_ways_27 : decode prog_9_method_10_code 27 = .ok (.iinc 2 1, 3) := by decide +kernel
theorem d_Valley_ways_30 : decode prog_9_method_10_code 30 = .ok (.goto (-26), 3) := by decide +kernel
theorem d_Valley_ways_33 : decode prog_9_method_10_code 33 = .ok (.iload_n 1, 1) := by decide +kernel
theorem d_Valley_ways_34 : decode prog_9_method_10_code 34 = .ok (.ireturn, 1) := by decide +kernel
set_option maxHeartbeats 4000000 in
set_option maxRecDepth 20000 in
theorem c_Valley_ways (v0 : Nat) (hv0 : dscC[v0]? = some dVal) (s0 : MS) (Q : Int → Prop) (h : wp_Valley_ways v0 s0 Q) : MT dscC ⟨"BellSchool$Valley", "ways", "()I"⟩ prog_9_method_10_code 3 (some .int) 0 (fun ad => [.ref (ad v0)]) s0 (po_I dscC (fun r z => z = s0 ∧ Q r)) := by
  refine met_of (by decide) (fun _ => Nat.le_of_ble_eq_true rfl) (fun X E hR => ?_)
  replace E : EV dscC X prog_9_method_10_code "BellSchool$Valley" 3 0 := E
  show VV dscC X 0 [(0, .ref (adX X v0))] [] s0
  unfold wp_Valley_ways at h
  refine v_iconst E d_Valley_ways_0 ?_
  refine v_istoren E d_Valley_ways_1 rfl (by decide) (L' := [(1, .int (iI 0)), (0, .ref (adX X v0))]) rfl ?_
  refine v_iconst E d_Valley_ways_2 ?_
  refine v_istoren E d_Valley_ways_3 rfl (by decide) (L' := [(2, .int (iI 0)), (1, .int (iI 0)), (0, .ref (adX X v0))]) rfl ?_
  refine v_sub [2, 1, 0] (L' := [(0, .ref (adX X v0)), (1, .int (iI 0)), (2, .int (iI 0))]) rfl ?_
  obtain ⟨I1, μ1, h01, h⟩ := h
  refine v_ploop2 s0 (fun (x1 : Int) (x2 : Int) => [(0, .ref (adX X v0)), (1, .int (iI x1)), (2, .int (iI x2))]) I1 μ1 (fun x1 x2 hI1 ih1 => ?_) 0 0 h01
  replace h := h x1 x2  hI1
  refine v_iloadn E d_Valley_ways_4 rfl 2 rfl ?_
  refine v_bipush E d_Valley_ways_5 rfl ?_
  obtain ⟨q1, h⟩ := h
  refine v_icmp_ge E 33 d_Valley_ways_7 (by decide) q1 (by decide) (fun c1 => ?_) (fun c1 => ?_)
  · replace h := h.1 c1
    refine v_iloadn E d_Valley_ways_33 rfl 1 rfl ?_
    obtain ⟨q2, h⟩ := h
    exact v_iret E hR rfl q2 ⟨rfl, h⟩ d_Valley_ways_34
  · replace h := h.2 c1
    refine v_iloadn E d_Valley_ways_10 rfl 1 rfl ?_
    refine v_aloadn E d_Valley_ways_11 rfl 0 rfl ?_
    refine v_getO E cf7 hv0 2 (by decide) rfl mw19 d_Valley_ways_12 rfl ?_
    refine v_iloadn E d_Valley_ways_15 rfl 2 rfl ?_
    obtain ⟨q3, h⟩ := h
    refine v_iald E (dC_o7_3 hv0) (by decide) q3.1 q3.2 d_Valley_ways_16 ?_
    refine v_wt (fun wt1 => ?_)
    refine v_if_le E 24 d_Valley_ways_17 (by decide) (wt1 (v0 + 3) x2) (fun c2 => ?_) (fun c2 => ?_)
    · replace h := h.1 c2
      refine v_iconst E d_Valley_ways_24 ?_
      refine v_iadd E d_Valley_ways_25 ?_
      refine v_nameI (fun x3 hx3 => ?_)
      replace h := h x3 hx3
      refine v_istoren E d_Valley_ways_26 rfl (by decide) (L' := [(1, .int (iI x3)), (0, .ref (adX X v0)), (2, .int (iI x2))]) rfl ?_
      refine v_iincN E d_Valley_ways_27 2 rfl (by decide) (fun y => [(2, .int (iI y)), (1, .int (iI x3)), (0, .ref (adX X v0))]) (fun _ => rfl) (fun x4 hx4 => ?_)
      replace h := h x4 hx4
      refine v_goto E 4 d_Valley_ways_30 (by decide) ?_
      obtain ⟨hb, hm⟩ := h
      exact v_sub [2, 1, 0] rfl (ih1 x3 x4 hb hm)
    · replace h := h.2 c2
      refine v_iconst E d_Valley_ways_20 ?_
      refine v_goto E 25 d_Valley_ways_21 (by decide) ?_
      refine v_iadd E d_Valley_ways_25 ?_
      refine v_nameI (fun x5 hx5 => ?_)
      replace h := h x5 hx5
      refine v_istoren E d_Valley_ways_26 rfl (by decide) (L' := [(1, .int (iI x5)), (0, .ref (adX X v0)), (2, .int (iI x2))]) rfl ?_
      refine v_iincN E d_Valley_ways_27 2 rfl (by decide) (fun y => [(2, .int (iI y)), (1, .int (iI x5)), (0, .ref (adX X v0))]) (fun _ => rfl) (fun x6 hx6 => ?_)
      replace h := h x6 hx6
      refine v_goto E 4 d_Valley_ways_30 (by decide) ?_
      obtain ⟨hb, hm⟩ := h
      exact v_sub [2, 1, 0] rfl (ih1 x5 x6 hb hm)
theorem d_Long_bitCount_0 : decode prog_13_method_50_code 0 = .ok (.lload_n 0, 1) := by decide +kernel
theorem d_Long_bitCount_1 : decode prog_13_method_50_code 1 = .ok (.lload_n 0, 1) := by decide +kernel
theorem d_Long_bitCount_2 : decode prog_13_method_50_code 2 = .ok (.iconst 1, 1) := by decide +kernel
theorem d_Long_bitCount_3 : decode prog_13_method_50_code 3 = .ok (.lushr, 1) := by decide +kernel
theorem d_Long_bitCount_4 : decode prog_13_method_50_code 4 = .ok (.ldc2_w 314, 3) := by decide +kernel
theorem d_Long_bitCount_7 : decode prog_13_method_50_code 7 = .ok (.land, 1) := by decide +kernel
theorem d_Long_bitCount_8 : decode prog_13_method_50_code 8 = .ok (.lsub, 1) := by decide +kernel
theorem d_Long_bitCount_9 : decode prog_13_method_50_code 9 = .ok (.lstore_n 0, 1) := by decide +kernel
theorem d_Long_bitCount_10 : decode prog_13_method_50_code 10 = .ok (.lload_n 0, 1) := by decide +kernel
theorem d_Long_bitCount_11 : decode prog_13_method_50_code 11 = .ok (.ldc2_w 316, 3) := by decide +kernel
theorem d_Long_bitCount_14 : decode prog_13_method_50_code 14 = .ok (.land, 1) := by decide +kernel
theorem d_Long_bitCount_15 : decode prog_13_method_50_code 15 = .ok (.lload_n 0, 1) := by decide +kernel
theorem d_Long_bitCount_16 : decode prog_13_method_50_code 16 = .ok (.iconst 2, 1) := by decide +kernel
theorem d_Long_bitCount_17 : decode prog_13_method_50_code 17 = .ok (.lushr, 1) := by decide +kernel
theorem d_Long_bitCount_18 : decode prog_13_method_50_code 18 = .ok (.ldc2_w 316, 3) := by decide +kernel
theorem d_Long_bitCount_21 : decode prog_13_method_50_code 21 = .ok (.land, 1) := by decide +kernel
theorem d_Long_bitCount_22 : decode prog_13_method_50_code 22 = .ok (.ladd, 1) := by decide +kernel
theorem d_Long_bitCount_23 : decode prog_13_method_50_code 23 = .ok (.lstore_n 0, 1) := by decide +kernel
theorem d_Long_bitCount_24 : decode prog_13_method_50_code 24 = .ok (.lload_n 0, 1) := by decide +kernel
theorem d_Long_bitCount_25 : decode prog_13_method_50_code 25 = .ok (.lload_n 0, 1) := by decide +kernel
theorem d_Long_bitCount_26 : decode prog_13_method_50_code 26 = .ok (.iconst 4, 1) := by decide +kernel
theorem d_Long_bitCount_27 : decode prog_13_method_50_code 27 = .ok (.lushr, 1) := by decide +kernel
theorem d_Long_bitCount_28 : decode prog_13_method_50_code 28 = .ok (.ladd, 1) := by decide +kernel
theorem d_Long_bitCount_29 : decode prog_13_method_50_code 29 = .ok (.ldc2_w 318, 3) := by decide +kernel
theorem d_Long_bitCount_32 : decode prog_13_method_50_code 32 = .ok (.land, 1) := by decide +kernel
theorem d_Long_bitCount_33 : decode prog_13_method_50_code 33 = .ok (.lstore_n 0, 1) := by decide +kernel
theorem d_Long_bitCount_34 : decode prog_13_method_50_code 34 = .ok (.lload_n 0, 1) := by decide +kernel
theorem d_Long_bitCount_35 : decode prog_13_method_50_code 35 = .ok (.lload_n 0, 1) := by decide +kernel
theorem d_Long_bitCount_36 : decode prog_13_method_50_code 36 = .ok (.bipush 8, 2) := by decide +kernel
theorem d_Long_bitCount_38 : decode prog_13_method_50_code 38 = .ok (.lushr, 1) := by decide +kernel
theorem d_Long_bitCount_39 : decode prog_13_method_50_code 39 = .ok (.ladd, 1) := by decide +kernel
theorem d_Long_bitCount_40 : decode prog_13_method_50_code 40 = .ok (.lstore_n 0, 1) := by decide +kernel
theorem d_Long_bitCount_41 : decode prog_13_method_50_code 41 = .ok (.lload_n 0, 1) := by decide +kernel
theorem d_Long_bitCount_42 : decode prog_13_method_50_code 42 = .ok (.lload_n 0, 1) := by decide +kernel
theorem d_Long_bitCount_43 : decode prog_13_method_50_code 43 = .ok (.bipush 16, 2) := by decide +kernel
theorem d_Long_bitCount_45 : decode prog_13_method_50_code 45 = .ok (.lushr, 1) := by decide +kernel
theorem d_Long_bitCount_46 : decode prog_13_method_50_code 46 = .ok (.ladd, 1) := by decide +kernel
theorem d_Long_bitCount_47 : decode prog_13_method_50_code 47 = .ok (.lstore_n 0, 1) := by decide +kernel
theorem d_Long_bitCount_48 : decode prog_13_method_50_code 48 = .ok (.lload_n 0, 1) := by decide +kernel
theorem d_Long_bitCount_49 : decode prog_13_method_50_code 49 = .ok (.lload_n 0, 1) := by decide +kernel
theorem d_Long_bitCount_50 : decode prog_13_method_50_code 50 = .ok (.bipush 32, 2) := by decide +kernel
theorem d_Long_bitCount_52 : decode prog_13_method_50_code 52 = .ok (.lushr, 1) := by decide +kernel
theorem d_Long_bitCount_53 : decode prog_13_method_50_code 53 = .ok (.ladd, 1) := by decide +kernel
theorem d_Long_bitCount_54 : decode prog_13_method_50_code 54 = .ok (.lstore_n 0, 1) := by decide +kernel
theorem d_Long_bitCount_55 : decode prog_13_method_50_code 55 = .ok (.lload_n 0, 1) := by decide +kernel
theorem d_Long_bitCount_56 : decode prog_13_method_50_code 56 = .ok (.l2i, 1) := by decide +kernel
theorem d_Long_bitCount_57 : decode prog_13_method_50_code 57 = .ok (.bipush 127, 2) := by decide +kernel
theorem d_Long_bitCount_59 : decode prog_13_method_50_code 59 = .ok (.iand, 1) := by decide +kernel
theorem d_Long_bitCount_60 : decode prog_13_method_50_code 60 = .ok (.ireturn, 1) := by decide +kernel
set_option maxHeartbeats 4000000 in
set_option maxRecDepth 20000 in
theorem c_Long_bitCount (dsc : List CD) (p1 : Int64) (s0 : MS) (Q : Int → Prop) (h : wp_Long_bitCount p1 Q) : MT dsc ⟨"java/lang/Long", "bitCount", "(J)I"⟩ prog_13_method_50_code 2 (some .int) 0 (fun ad => [.long p1]) s0 (po_I dsc (fun r z => z = s0 ∧ Q r)) := by
  refine met_of (by decide) (fun _ => Nat.le_of_ble_eq_true rfl) (fun X E hR => ?_)
  replace E : EV dsc X prog_13_method_50_code "java/lang/Long" 2 0 := E
  show VV dsc X 0 [(0, .long p1)] [] s0
  unfold wp_Long_bitCount at h
  refine v_lloadn E d_Long_bitCount_0 rfl 0 rfl ?_
  refine v_lloadn E d_Long_bitCount_1 rfl 0 rfl ?_
  refine v_iconst E d_Long_bitCount_2 ?_
  refine v_lushr E d_Long_bitCount_3 ?_
  refine v_ldc2 E mw451 d_Long_bitCount_4 ?_
  refine v_land E d_Long_bitCount_7 ?_
  refine v_lsub E d_Long_bitCount_8 ?_
  refine v_nameL (fun y1 hy1 => ?_)
  replace h := h y1 hy1
  refine v_lstoren E d_Long_bitCount_9 rfl (by decide) (L' := [(0, .long y1)]) rfl ?_
  refine v_lloadn E d_Long_bitCount_10 rfl 0 rfl ?_
  refine v_ldc2 E mw452 d_Long_bitCount_11 ?_
  refine v_land E d_Long_bitCount_14 ?_
  refine v_lloadn E d_Long_bitCount_15 rfl 0 rfl ?_
  refine v_iconst E d_Long_bitCount_16 ?_
  refine v_lushr E d_Long_bitCount_17 ?_
  refine v_ldc2 E mw452 d_Long_bitCount_18 ?_
  refine v_land E d_Long_bitCount_21 ?_
  refine v_ladd E d_Long_bitCount_22 ?_
  refine v_nameL (fun y2 hy2 => ?_)
  replace h := h y2 hy2
  refine v_lstoren E d_Long_bitCount_23 rfl (by decide) (L' := [(0, .long y2)]) rfl ?_
  refine v_lloadn E d_Long_bitCount_24 rfl 0 rfl ?_
  refine v_lloadn E d_Long_bitCount_25 rfl 0 rfl ?_
  refine v_iconst E d_Long_bitCount_26 ?_
  refine v_lushr E d_Long_bitCount_27 ?_
  refine v_ladd E d_Long_bitCount_28 ?_
  refine v_ldc2 E mw453 d_Long_bitCount_29 ?_
  refine v_land E d_Long_bitCount_32 ?_
  refine v_nameL (fun y3 hy3 => ?_)
  replace h := h y3 hy3
  refine v_lstoren E d_Long_bitCount_33 rfl (by decide) (L' := [(0, .long y3)]) rfl ?_
  refine v_lloadn E d_Long_bitCount_34 rfl 0 rfl ?_
  refine v_lloadn E d_Long_bitCount_35 rfl 0 rfl ?_
  refine v_bipush E d_Long_bitCount_36 rfl ?_
  refine v_lushr E d_Long_bitCount_38 ?_
  refine v_ladd E d_Long_bitCount_39 ?_
  refine v_nameL (fun y4 hy4 => ?_)
  replace h := h y4 hy4
  refine v_lstoren E d_Long_bitCount_40 rfl (by decide) (L' := [(0, .long y4)]) rfl ?_
  refine v_lloadn E d_Long_bitCount_41 rfl 0 rfl ?_
  refine v_lloadn E d_Long_bitCount_42 rfl 0 rfl ?_
  refine v_bipush E d_Long_bitCount_43 rfl ?_
  refine v_lushr E d_Long_bitCount_45 ?_
  refine v_ladd E d_Long_bitCount_46 ?_
  refine v_nameL (fun y5 hy5 => ?_)
  replace h := h y5 hy5
  refine v_lstoren E d_Long_bitCount_47 rfl (by decide) (L' := [(0, .long y5)]) rfl ?_
  refine v_lloadn E d_Long_bitCount_48 rfl 0 rfl ?_
  refine v_lloadn E d_Long_bitCount_49 rfl 0 rfl ?_
  refine v_bipush E d_Long_bitCount_50 rfl ?_
  refine v_lushr E d_Long_bitCount_52 ?_
  refine v_ladd E d_Long_bitCount_53 ?_
  refine v_nameL (fun y6 hy6 => ?_)
  replace h := h y6 hy6
  refine v_lstoren E d_Long_bitCount_54 rfl (by decide) (L' := [(0, .long y6)]) rfl ?_
  refine v_lloadn E d_Long_bitCount_55 rfl 0 rfl ?_
  refine v_l2i E d_Long_bitCount_56 ?_
  refine v_bipush E d_Long_bitCount_57 rfl ?_
  refine v_iand E d_Long_bitCount_59 ?_
  exact v_iret E hR rfl (Rng_of _) ⟨rfl, h⟩ d_Long_bitCount_60
theorem d_Integer_bitCount_0 : decode prog_12_method_49_code 0 = .ok (.iload_n 0, 1) := by decide +kernel
theorem d_Integer_bitCount_1 : decode prog_12_method_49_code 1 = .ok (.iload_n 0, 1) := by decide +kernel
theorem d_Integer_bitCount_2 : decode prog_12_method_49_code 2 = .ok (.iconst 1, 1) := by decide +kernel
theorem d_Integer_bitCount_3 : decode prog_12_method_49_code 3 = .ok (.iushr, 1) := by decide +kernel
theorem d_Integer_bitCount_4 : decode prog_12_method_49_code 4 = .ok (.ldc_w 265, 3) := by decide +kernel
theorem d_Integer_bitCount_7 : decode prog_12_method_49_code 7 = .ok (.iand, 1) := by decide +kernel
theorem d_Integer_bitCount_8 : decode prog_12_method_49_code 8 = .ok (.isub, 1) := by decide +kernel
theorem d_Integer_bitCount_9 : decode prog_12_method_49_code 9 = .ok (.istore_n 0, 1) := by decide +kernel
theorem d_Integer_bitCount_10 : decode prog_12_method_49_code 10 = .ok (.iload_n 0, 1) := by decide +kernel
theorem d_Integer_bitCount_11 : decode prog_12_method_49_code 11 = .ok (.ldc_w 266, 3) := by decide +kernel
theorem d_Integer_bitCount_14 : decode prog_12_method_49_code 14 = .ok (.iand, 1) := by decide +kernel
theorem d_Integer_bitCount_15 : decode prog_12_method_49_code 15 = .ok (.iload_n 0, 1) := by decide +kernel
theorem d_Integer_bitCount_16 : decode prog_12_method_49_code 16 = .ok (.iconst 2, 1) := by decide +kernel
theorem d_Integer_bitCount_17 : decode prog_12_method_49_code 17 = .ok (.iushr, 1) := by decide +kernel
theorem d_Integer_bitCount_18 : decode prog_12_method_49_code 18 = .ok (.ldc_w 266, 3) := by decide +kernel
theorem d_Integer_bitCount_21 : decode prog_12_method_49_code 21 = .ok (.iand, 1) := by decide +kernel
theorem d_Integer_bitCount_22 : decode prog_12_method_49_code 22 = .ok (.iadd, 1) := by decide +kernel
theorem d_Integer_bitCount_23 : decode prog_12_method_49_code 23 = .ok (.istore_n 0, 1) := by decide +kernel
theorem d_Integer_bitCount_24 : decode prog_12_method_49_code 24 = .ok (.iload_n 0, 1) := by decide +kernel
theorem d_Integer_bitCount_25 : decode prog_12_method_49_code 25 = .ok (.iload_n 0, 1) := by decide +kernel
theorem d_Integer_bitCount_26 : decode prog_12_method_49_code 26 = .ok (.iconst 4, 1) := by decide +kernel
theorem d_Integer_bitCount_27 : decode prog_12_method_49_code 27 = .ok (.iushr, 1) := by decide +kernel
theorem d_Integer_bitCount_28 : decode prog_12_method_49_code 28 = .ok (.iadd, 1) := by decide +kernel
theorem d_Integer_bitCount_29 : decode prog_12_method_49_code 29 = .ok (.ldc_w 267, 3) := by decide +kernel
theorem d_Integer_bitCount_32 : decode prog_12_method_49_code 32 = .ok (.iand, 1) := by decide +kernel
theorem d_Integer_bitCount_33 : decode prog_12_method_49_code 33 = .ok (.istore_n 0, 1) := by decide +kernel
theorem d_Integer_bitCount_34 : decode prog_12_method_49_code 34 = .ok (.iload_n 0, 1) := by decide +kernel
theorem d_Integer_bitCount_35 : decode prog_12_method_49_code 35 = .ok (.iload_n 0, 1) := by decide +kernel
theorem d_Integer_bitCount_36 : decode prog_12_method_49_code 36 = .ok (.bipush 8, 2) := by decide +kernel
theorem d_Integer_bitCount_38 : decode prog_12_method_49_code 38 = .ok (.iushr, 1) := by decide +kernel
theorem d_Integer_bitCount_39 : decode prog_12_method_49_code 39 = .ok (.iadd, 1) := by decide +kernel
theorem d_Integer_bitCount_40 : decode prog_12_method_49_code 40 = .ok (.istore_n 0, 1) := by decide +kernel
theorem d_Integer_bitCount_41 : decode prog_12_method_49_code 41 = .ok (.iload_n 0, 1) := by decide +kernel
theorem d_Integer_bitCount_42 : decode prog_12_method_49_code 42 = .ok (.iload_n 0, 1) := by decide +kernel
theorem d_Integer_bitCount_43 : decode prog_12_method_49_code 43 = .ok (.bipush 16, 2) := by decide +kernel
theorem d_Integer_bitCount_45 : decode prog_12_method_49_code 45 = .ok (.iushr, 1) := by decide +kernel
theorem d_Integer_bitCount_46 : decode prog_12_method_49_code 46 = .ok (.iadd, 1) := by decide +kernel
theorem d_Integer_bitCount_47 : decode prog_12_method_49_code 47 = .ok (.istore_n 0, 1) := by decide +kernel
theorem d_Integer_bitCount_48 : decode prog_12_method_49_code 48 = .ok (.iload_n 0, 1) := by decide +kernel
theorem d_Integer_bitCount_49 : decode prog_12_method_49_code 49 = .ok (.bipush 63, 2) := by decide +kernel
theorem d_Integer_bitCount_51 : decode prog_12_method_49_code 51 = .ok (.iand, 1) := by decide +kernel
theorem d_Integer_bitCount_52 : decode prog_12_method_49_code 52 = .ok (.ireturn, 1) := by decide +kernel
set_option maxHeartbeats 4000000 in
set_option maxRecDepth 20000 in
theorem c_Integer_bitCount (dsc : List CD) (p1 : Int) (hp1 : Rng p1) (s0 : MS) (Q : Int → Prop) (h : wp_Integer_bitCount p1 Q) : MT dsc ⟨"java/lang/Integer", "bitCount", "(I)I"⟩ prog_12_method_49_code 1 (some .int) 0 (fun ad => [.int (iI p1)]) s0 (po_I dsc (fun r z => z = s0 ∧ Q r)) := by
  refine met_of (by decide) (fun _ => Nat.le_of_ble_eq_true rfl) (fun X E hR => ?_)
  replace E : EV dsc X prog_12_method_49_code "java/lang/Integer" 1 0 := E
  show VV dsc X 0 [(0, .int (iI p1))] [] s0
  unfold wp_Integer_bitCount at h
  refine v_iloadn E d_Integer_bitCount_0 rfl 0 rfl ?_
  refine v_iloadn E d_Integer_bitCount_1 rfl 0 rfl ?_
  refine v_iconst E d_Integer_bitCount_2 ?_
  refine v_iushr E d_Integer_bitCount_3 ?_
  refine v_ldcw E (n := 1431655765) mw457 rfl d_Integer_bitCount_4 ?_
  refine v_iand E d_Integer_bitCount_7 ?_
  refine v_isub E d_Integer_bitCount_8 ?_
  refine v_nameI (fun x1 hx1 => ?_)
  replace h := h x1 hx1
  refine v_istoren E d_Integer_bitCount_9 rfl (by decide) (L' := [(0, .int (iI x1))]) rfl ?_
  refine v_iloadn E d_Integer_bitCount_10 rfl 0 rfl ?_
  refine v_ldcw E (n := 858993459) mw458 rfl d_Integer_bitCount_11 ?_
  refine v_iand E d_Integer_bitCount_14 ?_
  refine v_iloadn E d_Integer_bitCount_15 rfl 0 rfl ?_
  refine v_iconst E d_Integer_bitCount_16 ?_
  refine v_iushr E d_Integer_bitCount_17 ?_
  refine v_ldcw E (n := 858993459) mw458 rfl d_Integer_bitCount_18 ?_
  refine v_iand E d_Integer_bitCount_21 ?_
  refine v_iadd E d_Integer_bitCount_22 ?_
  refine v_nameI (fun x2 hx2 => ?_)
  replace h := h x2 hx2
  refine v_istoren E d_Integer_bitCount_23 rfl (by decide) (L' := [(0, .int (iI x2))]) rfl ?_
  refine v_iloadn E d_Integer_bitCount_24 rfl 0 rfl ?_
  refine v_iloadn E d_Integer_bitCount_25 rfl 0 rfl ?_
  refine v_iconst E d_Integer_bitCount_26 ?_
  refine v_iushr E d_Integer_bitCount_27 ?_
  refine v_iadd E d_Integer_bitCount_28 ?_
  refine v_ldcw E (n := 252645135) mw459 rfl d_Integer_bitCount_29 ?_
  refine v_iand E d_Integer_bitCount_32 ?_
  refine v_nameI (fun x3 hx3 => ?_)
  replace h := h x3 hx3
  refine v_istoren E d_Integer_bitCount_33 rfl (by decide) (L' := [(0, .int (iI x3))]) rfl ?_
  refine v_iloadn E d_Integer_bitCount_34 rfl 0 rfl ?_
  refine v_iloadn E d_Integer_bitCount_35 rfl 0 rfl ?_
  refine v_bipush E d_Integer_bitCount_36 rfl ?_
  refine v_iushr E d_Integer_bitCount_38 ?_
  refine v_iadd E d_Integer_bitCount_39 ?_
  refine v_nameI (fun x4 hx4 => ?_)
  replace h := h x4 hx4
  refine v_istoren E d_Integer_bitCount_40 rfl (by decide) (L' := [(0, .int (iI x4))]) rfl ?_
  refine v_iloadn E d_Integer_bitCount_41 rfl 0 rfl ?_
  refine v_iloadn E d_Integer_bitCount_42 rfl 0 rfl ?_
  refine v_bipush E d_Integer_bitCount_43 rfl ?_
  refine v_iushr E d_Integer_bitCount_45 ?_
  refine v_iadd E d_Integer_bitCount_46 ?_
  refine v_nameI (fun x5 hx5 => ?_)
  replace h := h x5 hx5
  refine v_istoren E d_Integer_bitCount_47 rfl (by decide) (L' := [(0, .int (iI x5))]) rfl ?_
  refine v_iloadn E d_Integer_bitCount_48 rfl 0 rfl ?_
  refine v_bipush E d_Integer_bitCount_49 rfl ?_
  refine v_iand E d_Integer_bitCount_51 ?_
  exact v_iret E hR rfl (Rng_of _) ⟨rfl, h⟩ d_Integer_bitCount_52
theorem d_B_count_0 : decode prog_1_method_29_code 0 = .ok (.iload_n 1, 1) := by decide +kernel
theorem d_B_count_1 : decode prog_1_method_29_code 1 = .ok (.tableswitch 150 0 10 #[59, 67, 75, 86, 94, 102, 113, 121, 126, 134, 142], 59) := by decide +kernel
theorem d_B_count_60 : decode prog_1_method_29_code 60 = .ok (.aload_n 0, 1) := by decide +kernel
theorem d_B_count_61 : decode prog_1_method_29_code 61 = .ok (.getfield 10, 3) := by decide +kernel
theorem d_B_count_64 : decode prog_1_method_29_code 64 = .ok (.getfield 115, 3) := by decide +kernel
theorem d_B_count_67 : decode prog_1_method_29_code 67 = .ok (.ireturn, 1) := by decide +kernel
theorem d_B_count_68 : decode prog_1_method_29_code 68 = .ok (.aload_n 0, 1) := by decide +kernel
theorem d_B_count_69 : decode prog_1_method_29_code 69 = .ok (.getfield 10, 3) := by decide +kernel
theorem d_B_count_72 : decode prog_1_method_29_code 72 = .ok (.invokevirtual 244, 3) := by decide +kernel
theorem d_B_count_75 : decode prog_1_method_29_code 75 = .ok (.ireturn, 1) := by decide +kernel
theorem d_B_count_76 : decode prog_1_method_29_code 76 = .ok (.aload_n 0, 1) := by decide +kernel
theorem d_B_count_77 : decode prog_1_method_29_code 77 = .ok (.getfield 45, 3) := by decide +kernel
theorem d_B_count_80 : decode prog_1_method_29_code 80 = .ok (.getfield 157, 3) := by decide +kernel
theorem d_B_count_83 : decode prog_1_method_29_code 83 = .ok (.invokestatic 247, 3) := by decide +kernel
theorem d_B_count_86 : decode prog_1_method_29_code 86 = .ok (.ireturn, 1) := by decide +kernel
theorem d_B_count_87 : decode prog_1_method_29_code 87 = .ok (.aload_n 0, 1) := by decide +kernel
theorem d_B_count_88 : decode prog_1_method_29_code 88 = .ok (.getfield 45, 3) := by decide +kernel
theorem d_B_count_91 : decode prog_1_method_29_code 91 = .ok (.getfield 154, 3) := by decide +kernel
theorem d_B_count_94 : decode prog_1_method_29_code 94 = .ok (.ireturn, 1) := by decide +kernel
theorem d_B_count_95 : decode prog_1_method_29_code 95 = .ok (.aload_n 0, 1) := by decide +kernel
theorem d_B_count_96 : decode prog_1_method_29_code 96 = .ok (.getfield 45, 3) := by decide +kernel
theorem d_B_count_99 : decode prog_1_method_29_code 99 = .ok (.getfield 128, 3) := by decide +kernel
theorem d_B_count_102 : decode prog_1_method_29_code 102 = .ok (.ireturn, 1) := by decide +kernel
theorem d_B_count_103 : decode prog_1_method_29_code 103 = .ok (.aload_n 0, 1) := by decide +kernel
theorem d_B_count_104 : decode prog_1_method_29_code 104 = .ok (.getfield 45, 3) := by decide +kernel
theorem d_B_count_107 : decode prog_1_method_29_code 107 = .ok (.getfield 137, 3) := by decide +kernel
theorem d_B_count_110 : decode prog_1_method_29_code 110 = .ok (.invokestatic 253, 3) := by decide +kernel
theorem d_B_count_113 : decode prog_1_method_29_code 113 = .ok (.ireturn, 1) := by decide +kernel
theorem d_B_count_114 : decode prog_1_method_29_code 114 = .ok (.aload_n 0, 1) := by decide +kernel
theorem d_B_count_115 : decode prog_1_method_29_code 115 = .ok (.getfield 45, 3) := by decide +kernel
theorem d_B_count_118 : decode prog_1_method_29_code 118 = .ok (.invokevirtual 238, 3) := by decide +kernel
theorem d_B_count_121 : decode prog_1_method_29_code 121 = .ok (.ireturn, 1) := by decide +kernel
theorem d_B_count_122 : decode prog_1_method_29_code 122 = .ok (.aload_n 0, 1) := by decide +kernel
theorem d_B_count_123 : decode prog_1_method_29_code 123 = .ok (.getfield 85, 3) := by decide +kernel
theorem d_B_count_126 : decode prog_1_method_29_code 126 = .ok (.ireturn, 1) := by decide +kernel
theorem d_B_count_127 : decode prog_1_method_29_code 127 = .ok (.aload_n 0, 1) := by decide +kernel
theorem d_B_count_128 : decode prog_1_method_29_code 128 = .ok (.getfield 57, 3) := by decide +kernel
theorem d_B_count_131 : decode prog_1_method_29_code 131 = .ok (.getfield 190, 3) := by decide +kernel
theorem d_B_count_134 : decode prog_1_method_29_code 134 = .ok (.ireturn, 1) := by decide +kernel
theorem d_B_count_135 : decode prog_1_method_29_code 135 = .ok (.aload_n 0, 1) := by decide +kernel
theorem d_B_count_136 : decode prog_1_method_29_code 136 = .ok (.getfield 61, 3) := by decide +kernel
theorem d_B_count_139 : decode prog_1_method_29_code 139 = .ok (.getfield 190, 3) := by decide +kernel
theorem d_B_count_142 : decode prog_1_method_29_code 142 = .ok (.ireturn, 1) := by decide +kernel
theorem d_B_count_143 : decode prog_1_method_29_code 143 = .ok (.aload_n 0, 1) := by decide +kernel
theorem d_B_count_144 : decode prog_1_method_29_code 144 = .ok (.getfield 22, 3) := by decide +kernel
theorem d_B_count_147 : decode prog_1_method_29_code 147 = .ok (.getfield 109, 3) := by decide +kernel
theorem d_B_count_150 : decode prog_1_method_29_code 150 = .ok (.ireturn, 1) := by decide +kernel
theorem d_B_count_151 : decode prog_1_method_29_code 151 = .ok (.iconst (-1), 1) := by decide +kernel
theorem d_B_count_152 : decode prog_1_method_29_code 152 = .ok (.ireturn, 1) := by decide +kernel
set_option maxHeartbeats 4000000 in
set_option maxRecDepth 20000 in
theorem c_B_count (p1 : Int) (hp1 : Rng p1) (s0 : MS) (Q : Int → Prop) (h : wp_B_count p1 s0 Q) : MT dscC ⟨"BellSchool", "count", "(I)I"⟩ prog_1_method_29_code 2 (some .int) 1 (fun ad => [.ref (ad 0), .int (iI p1)]) s0 (po_I dscC (fun r z => z = s0 ∧ Q r)) := by
  refine met_of (by decide) (fun _ => Nat.le_of_ble_eq_true rfl) (fun X E hR => ?_)
  replace E : EV dscC X prog_1_method_29_code "BellSchool" 2 1 := E
  show VV dscC X 0 [(0, .ref (adX X 0)), (1, .int (iI p1))] [] s0
  unfold wp_B_count at h
  refine v_iloadn E d_B_count_0 rfl 1 rfl ?_
  by_cases c1 : p1 = 0
  · replace h := h.1 c1
    refine v_tableIn E d_B_count_1 hp1 (v := 0) c1 (by decide) (by decide) rfl 60 (by decide) ?_
    refine v_aloadn E d_B_count_60 rfl 0 rfl ?_
    refine v_getR E cf8 dC_0 0 (by decide) rfl mw118 d_B_count_61 rfl (fun hv1 => ?_)
    refine v_getI E cf7 hv1 5 (by decide) rfl mw133 d_B_count_64 rfl ?_
    refine v_wt (fun wt1 => ?_)
    exact v_iret E hR rfl (wt1 (gR s0 0 0) 5) ⟨rfl, h⟩ d_B_count_67
  · skip
    by_cases c2 : p1 = 1
    · replace h := h.2.1 c2
      refine v_tableIn E d_B_count_1 hp1 (v := 1) c2 (by decide) (by decide) rfl 68 (by decide) ?_
      refine v_aloadn E d_B_count_68 rfl 0 rfl ?_
      refine v_getR E cf8 dC_0 0 (by decide) rfl mw118 d_B_count_69 rfl (fun hv2 => ?_)
      refine v_callVIp E md_Valley_ways (c_Valley_ways (gR s0 0 0) hv2 s0 _ h) hv2 rfl ⟨by decide, by decide⟩ mw463 d_B_count_72 (fun _ => rfl) (st := []) rfl (Nat.le_of_ble_eq_true rfl) (fun r1 hr1 h => ?_)
      exact v_iret E hR rfl hr1 ⟨rfl, h⟩ d_B_count_75
    · skip
      by_cases c3 : p1 = 2
      · replace h := h.2.2.1 c3
        refine v_tableIn E d_B_count_1 hp1 (v := 2) c3 (by decide) (by decide) rfl 76 (by decide) ?_
        refine v_aloadn E d_B_count_76 rfl 0 rfl ?_
        refine v_getA E cf8 dC_0 5 (by decide) rfl mw123 d_B_count_77 rfl ?_
        refine v_getL E cf5 dC_36 6 (by decide) rfl mw154 d_B_count_80 rfl ?_
        refine v_callSIp E md_Long_bitCount (c_Long_bitCount dscC (gL s0 36 6) s0 _ h) ⟨by decide, by decide⟩ mw464 d_B_count_83 (fun _ => rfl) (st := []) rfl (Nat.le_of_ble_eq_true rfl) (fun r2 hr2 h => ?_)
        exact v_iret E hR rfl hr2 ⟨rfl, h⟩ d_B_count_86
      · skip
        by_cases c4 : p1 = 3
        · replace h := h.2.2.2.1 c4
          refine v_tableIn E d_B_count_1 hp1 (v := 3) c4 (by decide) (by decide) rfl 87 (by decide) ?_
          refine v_aloadn E d_B_count_87 rfl 0 rfl ?_
          refine v_getA E cf8 dC_0 5 (by decide) rfl mw123 d_B_count_88 rfl ?_
          refine v_getI E cf5 dC_36 1 (by decide) rfl mw153 d_B_count_91 rfl ?_
          refine v_wt (fun wt2 => ?_)
          exact v_iret E hR rfl (wt2 36 1) ⟨rfl, h⟩ d_B_count_94
        · skip
          by_cases c5 : p1 = 4
          · replace h := h.2.2.2.2.1 c5
            refine v_tableIn E d_B_count_1 hp1 (v := 4) c5 (by decide) (by decide) rfl 95 (by decide) ?_
            refine v_aloadn E d_B_count_95 rfl 0 rfl ?_
            refine v_getA E cf8 dC_0 5 (by decide) rfl mw123 d_B_count_96 rfl ?_
            refine v_getI E cf5 dC_36 2 (by decide) rfl mw139 d_B_count_99 rfl ?_
            refine v_wt (fun wt3 => ?_)
            exact v_iret E hR rfl (wt3 36 2) ⟨rfl, h⟩ d_B_count_102
          · skip
            by_cases c6 : p1 = 5
            · replace h := h.2.2.2.2.2.1 c6
              refine v_tableIn E d_B_count_1 hp1 (v := 5) c6 (by decide) (by decide) rfl 103 (by decide) ?_
              refine v_aloadn E d_B_count_103 rfl 0 rfl ?_
              refine v_getA E cf8 dC_0 5 (by decide) rfl mw123 d_B_count_104 rfl ?_
              refine v_getI E cf5 dC_36 4 (by decide) rfl mw142 d_B_count_107 rfl ?_
              refine v_wt (fun wt4 => ?_)
              refine v_callSIp E md_Integer_bitCount (c_Integer_bitCount dscC (gI s0 36 4) (wt4 36 4) s0 _ h) ⟨by decide, by decide⟩ mw465 d_B_count_110 (fun _ => rfl) (st := []) rfl (Nat.le_of_ble_eq_true rfl) (fun r3 hr3 h => ?_)
              exact v_iret E hR rfl hr3 ⟨rfl, h⟩ d_B_count_113
            · skip
              by_cases c7 : p1 = 6
              · replace h := h.2.2.2.2.2.2.1 c7
                refine v_tableIn E d_B_count_1 hp1 (v := 6) c7 (by decide) (by decide) rfl 114 (by decide) ?_
                refine v_aloadn E d_B_count_114 rfl 0 rfl ?_
                refine v_getA E cf8 dC_0 5 (by decide) rfl mw123 d_B_count_115 rfl ?_
                refine v_callVIp E md_Standing_soupsInAll (c_Standing_soupsInAll 36 dC_36 s0 _ h) dC_36 rfl ⟨by decide, by decide⟩ mw436 d_B_count_118 (fun _ => rfl) (st := []) rfl (Nat.le_of_ble_eq_true rfl) (fun r4 hr4 h => ?_)
                exact v_iret E hR rfl hr4 ⟨rfl, h⟩ d_B_count_121
              · skip
                by_cases c8 : p1 = 7
                · replace h := h.2.2.2.2.2.2.2.1 c8
                  refine v_tableIn E d_B_count_1 hp1 (v := 7) c8 (by decide) (by decide) rfl 122 (by decide) ?_
                  refine v_aloadn E d_B_count_122 rfl 0 rfl ?_
                  refine v_getI E cf8 dC_0 13 (by decide) rfl mw128 d_B_count_123 rfl ?_
                  refine v_wt (fun wt5 => ?_)
                  exact v_iret E hR rfl (wt5 0 13) ⟨rfl, h⟩ d_B_count_126
                · skip
                  by_cases c9 : p1 = 8
                  · replace h := h.2.2.2.2.2.2.2.2.1 c9
                    refine v_tableIn E d_B_count_1 hp1 (v := 8) c9 (by decide) (by decide) rfl 127 (by decide) ?_
                    refine v_aloadn E d_B_count_127 rfl 0 rfl ?_
                    refine v_getA E cf8 dC_0 7 (by decide) rfl mw125 d_B_count_128 rfl ?_
                    refine v_getI E cf4 dC_21 1 (by decide) rfl mw126 d_B_count_131 rfl ?_
                    refine v_wt (fun wt6 => ?_)
                    exact v_iret E hR rfl (wt6 21 1) ⟨rfl, h⟩ d_B_count_134
                  · skip
                    by_cases c10 : p1 = 9
                    · replace h := h.2.2.2.2.2.2.2.2.2.1 c10
                      refine v_tableIn E d_B_count_1 hp1 (v := 9) c10 (by decide) (by decide) rfl 135 (by decide) ?_
                      refine v_aloadn E d_B_count_135 rfl 0 rfl ?_
                      refine v_getA E cf8 dC_0 8 (by decide) rfl mw127 d_B_count_136 rfl ?_
                      refine v_getI E cf4 dC_23 1 (by decide) rfl mw126 d_B_count_139 rfl ?_
                      refine v_wt (fun wt7 => ?_)
                      exact v_iret E hR rfl (wt7 23 1) ⟨rfl, h⟩ d_B_count_142
                    · skip
                      by_cases c11 : p1 = 10
                      · replace h := h.2.2.2.2.2.2.2.2.2.2.1 c11
                        refine v_tableIn E d_B_count_1 hp1 (v := 10) c11 (by decide) (by decide) rfl 143 (by decide) ?_
                        refine v_aloadn E d_B_count_143 rfl 0 rfl ?_
                        refine v_getA E cf8 dC_0 2 (by decide) rfl mw6 d_B_count_144 rfl ?_
                        refine v_getI E cf6 dC_13 1 (by decide) rfl mw8 d_B_count_147 rfl ?_
                        refine v_wt (fun wt8 => ?_)
                        exact v_iret E hR rfl (wt8 13 1) ⟨rfl, h⟩ d_B_count_150
                      · skip
                        replace h := h.2.2.2.2.2.2.2.2.2.2.2 c1 c2 c3 c4 c5 c6 c7 c8 c9 c10 c11
                        refine v_tableOut E d_B_count_1 hp1 (by omega) 151 (by decide) ?_
                        refine v_iconst E d_B_count_151 ?_
                        exact v_iret E hR rfl (by decide) ⟨rfl, h⟩ d_B_count_152
