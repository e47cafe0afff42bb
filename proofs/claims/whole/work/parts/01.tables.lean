-- ===== PART A: goes FIRST, ahead of the names: the tables' words, and 'selects' of the private methods out of them =====
/-- a private method of a class that the tables say can be made, by its rows of tables_1 -/
def lw_okq (q : MethodName × Nat) : Prop := (q.1.cls ≠ "java/lang/invoke/MethodHandle" ∧ q.1.cls ≠ "java/lang/invoke/VarHandle") ∧ Cond.instantiable q.1.cls q.2 ∈ tables_1 ∧ Cond.privateMethod q.1 ∈ tables_1 ∧ Cond.instanceMethod q.1 ∈ tables_1
theorem lw_p0 : lw_okq (⟨"BellSchool", "layText", "()Z"⟩, 14) := ⟨⟨by decide +kernel, by decide +kernel⟩, List.mem_of_getElem? (i := 19) (by decide +kernel), List.mem_of_getElem? (i := 315) (by decide +kernel), List.mem_of_getElem? (i := 316) (by decide +kernel)⟩
theorem lw_p1 : lw_okq (⟨"BellSchool$Reader", "readNumbers", "(LBellSchool$Text;I)Z"⟩, 2) := ⟨⟨by decide +kernel, by decide +kernel⟩, List.mem_of_getElem? (i := 86) (by decide +kernel), List.mem_of_getElem? (i := 334) (by decide +kernel), List.mem_of_getElem? (i := 335) (by decide +kernel)⟩
theorem lw_p2 : lw_okq (⟨"BellSchool$Reader", "told", "(LBellSchool$Valley;I)Z"⟩, 2) := ⟨⟨by decide +kernel, by decide +kernel⟩, List.mem_of_getElem? (i := 86) (by decide +kernel), List.mem_of_getElem? (i := 341) (by decide +kernel), List.mem_of_getElem? (i := 342) (by decide +kernel)⟩
theorem lw_p3 : lw_okq (⟨"BellSchool$Noon", "readyFars", "(IJ)I"⟩, 6) := ⟨⟨by decide +kernel, by decide +kernel⟩, List.mem_of_getElem? (i := 99) (by decide +kernel), List.mem_of_getElem? (i := 472) (by decide +kernel), List.mem_of_getElem? (i := 473) (by decide +kernel)⟩
theorem lw_p4 : lw_okq (⟨"BellSchool$Noon", "shortenBy", "(III)V"⟩, 6) := ⟨⟨by decide +kernel, by decide +kernel⟩, List.mem_of_getElem? (i := 99) (by decide +kernel), List.mem_of_getElem? (i := 479) (by decide +kernel), List.mem_of_getElem? (i := 480) (by decide +kernel)⟩
theorem lw_p5 : lw_okq (⟨"BellSchool$Noon", "timeOf", "(LBellSchool$Standing;II)I"⟩, 6) := ⟨⟨by decide +kernel, by decide +kernel⟩, List.mem_of_getElem? (i := 99) (by decide +kernel), List.mem_of_getElem? (i := 492) (by decide +kernel), List.mem_of_getElem? (i := 493) (by decide +kernel)⟩
theorem lw_p6 : lw_okq (⟨"BellSchool", "goBy", "(LBellSchool$Standing;I)V"⟩, 14) := ⟨⟨by decide +kernel, by decide +kernel⟩, List.mem_of_getElem? (i := 19) (by decide +kernel), List.mem_of_getElem? (i := 519) (by decide +kernel), List.mem_of_getElem? (i := 520) (by decide +kernel)⟩
theorem lw_p7 : lw_okq (⟨"BellSchool$Search", "begin", "(LBellSchool$Standing;I)V"⟩, 11) := ⟨⟨by decide +kernel, by decide +kernel⟩, List.mem_of_getElem? (i := 199) (by decide +kernel), List.mem_of_getElem? (i := 573) (by decide +kernel), List.mem_of_getElem? (i := 574) (by decide +kernel)⟩
theorem lw_p8 : lw_okq (⟨"BellSchool$Search", "numberMissing", "()V"⟩, 11) := ⟨⟨by decide +kernel, by decide +kernel⟩, List.mem_of_getElem? (i := 199) (by decide +kernel), List.mem_of_getElem? (i := 578) (by decide +kernel), List.mem_of_getElem? (i := 579) (by decide +kernel)⟩
theorem lw_p9 : lw_okq (⟨"BellSchool$Search", "isWholeBy", "(I)Z"⟩, 11) := ⟨⟨by decide +kernel, by decide +kernel⟩, List.mem_of_getElem? (i := 199) (by decide +kernel), List.mem_of_getElem? (i := 584) (by decide +kernel), List.mem_of_getElem? (i := 585) (by decide +kernel)⟩
theorem lw_p10 : lw_okq (⟨"BellSchool$Search", "spread", "(LBellSchool$Noon;I)V"⟩, 11) := ⟨⟨by decide +kernel, by decide +kernel⟩, List.mem_of_getElem? (i := 199) (by decide +kernel), List.mem_of_getElem? (i := 588) (by decide +kernel), List.mem_of_getElem? (i := 589) (by decide +kernel)⟩
theorem lw_p11 : lw_okq (⟨"BellSchool$Search", "findHopeful", "()V"⟩, 11) := ⟨⟨by decide +kernel, by decide +kernel⟩, List.mem_of_getElem? (i := 199) (by decide +kernel), List.mem_of_getElem? (i := 604) (by decide +kernel), List.mem_of_getElem? (i := 605) (by decide +kernel)⟩
theorem lw_p12 : lw_okq (⟨"BellSchool$Search", "hopesFrom", "(II)J"⟩, 11) := ⟨⟨by decide +kernel, by decide +kernel⟩, List.mem_of_getElem? (i := 199) (by decide +kernel), List.mem_of_getElem? (i := 608) (by decide +kernel), List.mem_of_getElem? (i := 609) (by decide +kernel)⟩
theorem lw_p13 : lw_okq (⟨"BellSchool$Search", "findRow", "()V"⟩, 11) := ⟨⟨by decide +kernel, by decide +kernel⟩, List.mem_of_getElem? (i := 199) (by decide +kernel), List.mem_of_getElem? (i := 615) (by decide +kernel), List.mem_of_getElem? (i := 616) (by decide +kernel)⟩
theorem lw_p14 : lw_okq (⟨"BellSchool$Search", "firstHopeful", "(IIJ)I"⟩, 11) := ⟨⟨by decide +kernel, by decide +kernel⟩, List.mem_of_getElem? (i := 199) (by decide +kernel), List.mem_of_getElem? (i := 619) (by decide +kernel), List.mem_of_getElem? (i := 620) (by decide +kernel)⟩
theorem lw_p15 : lw_okq (⟨"BellSchool", "allBits", "()I"⟩, 14) := ⟨⟨by decide +kernel, by decide +kernel⟩, List.mem_of_getElem? (i := 19) (by decide +kernel), List.mem_of_getElem? (i := 627) (by decide +kernel), List.mem_of_getElem? (i := 628) (by decide +kernel)⟩
def lw_privs_1 : List (MethodName × Nat) := [(⟨"BellSchool", "layText", "()Z"⟩, 14), (⟨"BellSchool$Reader", "readNumbers", "(LBellSchool$Text;I)Z"⟩, 2), (⟨"BellSchool$Reader", "told", "(LBellSchool$Valley;I)Z"⟩, 2), (⟨"BellSchool$Noon", "readyFars", "(IJ)I"⟩, 6), (⟨"BellSchool$Noon", "shortenBy", "(III)V"⟩, 6), (⟨"BellSchool$Noon", "timeOf", "(LBellSchool$Standing;II)I"⟩, 6), (⟨"BellSchool", "goBy", "(LBellSchool$Standing;I)V"⟩, 14), (⟨"BellSchool$Search", "begin", "(LBellSchool$Standing;I)V"⟩, 11), (⟨"BellSchool$Search", "numberMissing", "()V"⟩, 11), (⟨"BellSchool$Search", "isWholeBy", "(I)Z"⟩, 11), (⟨"BellSchool$Search", "spread", "(LBellSchool$Noon;I)V"⟩, 11), (⟨"BellSchool$Search", "findHopeful", "()V"⟩, 11), (⟨"BellSchool$Search", "hopesFrom", "(II)J"⟩, 11), (⟨"BellSchool$Search", "findRow", "()V"⟩, 11), (⟨"BellSchool$Search", "firstHopeful", "(IIJ)I"⟩, 11), (⟨"BellSchool", "allBits", "()I"⟩, 14)]
theorem lw_r1 : ∀ q ∈ lw_privs_1, lw_okq q := List.forall_mem_cons.mpr ⟨lw_p0, List.forall_mem_cons.mpr ⟨lw_p1, List.forall_mem_cons.mpr ⟨lw_p2, List.forall_mem_cons.mpr ⟨lw_p3, List.forall_mem_cons.mpr ⟨lw_p4, List.forall_mem_cons.mpr ⟨lw_p5, List.forall_mem_cons.mpr ⟨lw_p6, List.forall_mem_cons.mpr ⟨lw_p7, List.forall_mem_cons.mpr ⟨lw_p8, List.forall_mem_cons.mpr ⟨lw_p9, List.forall_mem_cons.mpr ⟨lw_p10, List.forall_mem_cons.mpr ⟨lw_p11, List.forall_mem_cons.mpr ⟨lw_p12, List.forall_mem_cons.mpr ⟨lw_p13, List.forall_mem_cons.mpr ⟨lw_p14, List.forall_mem_cons.mpr ⟨lw_p15, fun _ h => absurd h List.not_mem_nil⟩⟩⟩⟩⟩⟩⟩⟩⟩⟩⟩⟩⟩⟩⟩⟩
theorem lw_p16 : lw_okq (⟨"BellSchool", "fitsSeen", "(II)Z"⟩, 14) := ⟨⟨by decide +kernel, by decide +kernel⟩, List.mem_of_getElem? (i := 19) (by decide +kernel), List.mem_of_getElem? (i := 647) (by decide +kernel), List.mem_of_getElem? (i := 648) (by decide +kernel)⟩
theorem lw_p17 : lw_okq (⟨"BellSchool", "farthestSeen", "()I"⟩, 14) := ⟨⟨by decide +kernel, by decide +kernel⟩, List.mem_of_getElem? (i := 19) (by decide +kernel), List.mem_of_getElem? (i := 651) (by decide +kernel), List.mem_of_getElem? (i := 652) (by decide +kernel)⟩
theorem lw_p18 : lw_okq (⟨"BellSchool", "isSeenAt", "(II)Z"⟩, 14) := ⟨⟨by decide +kernel, by decide +kernel⟩, List.mem_of_getElem? (i := 19) (by decide +kernel), List.mem_of_getElem? (i := 655) (by decide +kernel), List.mem_of_getElem? (i := 656) (by decide +kernel)⟩
theorem lw_p19 : lw_okq (⟨"BellSchool$Measles", "spread", "(LBellSchool$Noon;LBellSchool$Standing;I)V"⟩, 3) := ⟨⟨by decide +kernel, by decide +kernel⟩, List.mem_of_getElem? (i := 244) (by decide +kernel), List.mem_of_getElem? (i := 672) (by decide +kernel), List.mem_of_getElem? (i := 673) (by decide +kernel)⟩
theorem lw_p20 : lw_okq (⟨"BellSchool$Measles", "spreadFrom", "(ILBellSchool$Noon;I)V"⟩, 3) := ⟨⟨by decide +kernel, by decide +kernel⟩, List.mem_of_getElem? (i := 244) (by decide +kernel), List.mem_of_getElem? (i := 678) (by decide +kernel), List.mem_of_getElem? (i := 679) (by decide +kernel)⟩
theorem lw_p21 : lw_okq (⟨"BellSchool", "drawnOn", "(II)I"⟩, 14) := ⟨⟨by decide +kernel, by decide +kernel⟩, List.mem_of_getElem? (i := 19) (by decide +kernel), List.mem_of_getElem? (i := 699) (by decide +kernel), List.mem_of_getElem? (i := 700) (by decide +kernel)⟩
theorem lw_p22 : lw_okq (⟨"BellSchoolModel", "anew", "()V"⟩, 33) := ⟨⟨by decide +kernel, by decide +kernel⟩, List.mem_of_getElem? (i := 741) (by decide +kernel), List.mem_of_getElem? (i := 747) (by decide +kernel), List.mem_of_getElem? (i := 748) (by decide +kernel)⟩
theorem lw_p23 : lw_okq (⟨"BellSchoolModel", "comesHome", "(II)V"⟩, 33) := ⟨⟨by decide +kernel, by decide +kernel⟩, List.mem_of_getElem? (i := 741) (by decide +kernel), List.mem_of_getElem? (i := 751) (by decide +kernel), List.mem_of_getElem? (i := 752) (by decide +kernel)⟩
theorem lw_p24 : lw_okq (⟨"BellSchoolModel", "joins", "(III)V"⟩, 33) := ⟨⟨by decide +kernel, by decide +kernel⟩, List.mem_of_getElem? (i := 741) (by decide +kernel), List.mem_of_getElem? (i := 755) (by decide +kernel), List.mem_of_getElem? (i := 756) (by decide +kernel)⟩
theorem lw_p25 : lw_okq (⟨"BellSchoolModel", "snows", "(IIII)V"⟩, 33) := ⟨⟨by decide +kernel, by decide +kernel⟩, List.mem_of_getElem? (i := 741) (by decide +kernel), List.mem_of_getElem? (i := 759) (by decide +kernel), List.mem_of_getElem? (i := 760) (by decide +kernel)⟩
theorem lw_p26 : lw_okq (⟨"BellSchoolModel", "laid", "()V"⟩, 33) := ⟨⟨by decide +kernel, by decide +kernel⟩, List.mem_of_getElem? (i := 741) (by decide +kernel), List.mem_of_getElem? (i := 763) (by decide +kernel), List.mem_of_getElem? (i := 764) (by decide +kernel)⟩
theorem lw_p27 : lw_okq (⟨"BellSchoolModel", "faultOf", "()I"⟩, 33) := ⟨⟨by decide +kernel, by decide +kernel⟩, List.mem_of_getElem? (i := 741) (by decide +kernel), List.mem_of_getElem? (i := 882) (by decide +kernel), List.mem_of_getElem? (i := 883) (by decide +kernel)⟩
theorem lw_p28 : lw_okq (⟨"BellSchoolModel", "readsItem", "()Z"⟩, 33) := ⟨⟨by decide +kernel, by decide +kernel⟩, List.mem_of_getElem? (i := 741) (by decide +kernel), List.mem_of_getElem? (i := 886) (by decide +kernel), List.mem_of_getElem? (i := 887) (by decide +kernel)⟩
theorem lw_p29 : lw_okq (⟨"BellSchoolModel", "here", "()I"⟩, 33) := ⟨⟨by decide +kernel, by decide +kernel⟩, List.mem_of_getElem? (i := 741) (by decide +kernel), List.mem_of_getElem? (i := 890) (by decide +kernel), List.mem_of_getElem? (i := 891) (by decide +kernel)⟩
theorem lw_p30 : lw_okq (⟨"BellSchoolModel", "readsHome", "()Z"⟩, 33) := ⟨⟨by decide +kernel, by decide +kernel⟩, List.mem_of_getElem? (i := 741) (by decide +kernel), List.mem_of_getElem? (i := 894) (by decide +kernel), List.mem_of_getElem? (i := 895) (by decide +kernel)⟩
theorem lw_p31 : lw_okq (⟨"BellSchoolModel", "numbers", "(I)Z"⟩, 33) := ⟨⟨by decide +kernel, by decide +kernel⟩, List.mem_of_getElem? (i := 741) (by decide +kernel), List.mem_of_getElem? (i := 898) (by decide +kernel), List.mem_of_getElem? (i := 899) (by decide +kernel)⟩
def lw_privs_2 : List (MethodName × Nat) := [(⟨"BellSchool", "fitsSeen", "(II)Z"⟩, 14), (⟨"BellSchool", "farthestSeen", "()I"⟩, 14), (⟨"BellSchool", "isSeenAt", "(II)Z"⟩, 14), (⟨"BellSchool$Measles", "spread", "(LBellSchool$Noon;LBellSchool$Standing;I)V"⟩, 3), (⟨"BellSchool$Measles", "spreadFrom", "(ILBellSchool$Noon;I)V"⟩, 3), (⟨"BellSchool", "drawnOn", "(II)I"⟩, 14), (⟨"BellSchoolModel", "anew", "()V"⟩, 33), (⟨"BellSchoolModel", "comesHome", "(II)V"⟩, 33), (⟨"BellSchoolModel", "joins", "(III)V"⟩, 33), (⟨"BellSchoolModel", "snows", "(IIII)V"⟩, 33), (⟨"BellSchoolModel", "laid", "()V"⟩, 33), (⟨"BellSchoolModel", "faultOf", "()I"⟩, 33), (⟨"BellSchoolModel", "readsItem", "()Z"⟩, 33), (⟨"BellSchoolModel", "here", "()I"⟩, 33), (⟨"BellSchoolModel", "readsHome", "()Z"⟩, 33), (⟨"BellSchoolModel", "numbers", "(I)Z"⟩, 33)]
theorem lw_r2 : ∀ q ∈ lw_privs_2, lw_okq q := List.forall_mem_cons.mpr ⟨lw_p16, List.forall_mem_cons.mpr ⟨lw_p17, List.forall_mem_cons.mpr ⟨lw_p18, List.forall_mem_cons.mpr ⟨lw_p19, List.forall_mem_cons.mpr ⟨lw_p20, List.forall_mem_cons.mpr ⟨lw_p21, List.forall_mem_cons.mpr ⟨lw_p22, List.forall_mem_cons.mpr ⟨lw_p23, List.forall_mem_cons.mpr ⟨lw_p24, List.forall_mem_cons.mpr ⟨lw_p25, List.forall_mem_cons.mpr ⟨lw_p26, List.forall_mem_cons.mpr ⟨lw_p27, List.forall_mem_cons.mpr ⟨lw_p28, List.forall_mem_cons.mpr ⟨lw_p29, List.forall_mem_cons.mpr ⟨lw_p30, List.forall_mem_cons.mpr ⟨lw_p31, fun _ h => absurd h List.not_mem_nil⟩⟩⟩⟩⟩⟩⟩⟩⟩⟩⟩⟩⟩⟩⟩⟩
theorem lw_p32 : lw_okq (⟨"BellSchoolModel", "readsWay", "()Z"⟩, 33) := ⟨⟨by decide +kernel, by decide +kernel⟩, List.mem_of_getElem? (i := 741) (by decide +kernel), List.mem_of_getElem? (i := 902) (by decide +kernel), List.mem_of_getElem? (i := 903) (by decide +kernel)⟩
theorem lw_p33 : lw_okq (⟨"BellSchoolModel", "isTwo", "()Z"⟩, 33) := ⟨⟨by decide +kernel, by decide +kernel⟩, List.mem_of_getElem? (i := 741) (by decide +kernel), List.mem_of_getElem? (i := 906) (by decide +kernel), List.mem_of_getElem? (i := 907) (by decide +kernel)⟩
theorem lw_p34 : lw_okq (⟨"BellSchoolModel", "readsSnow", "()Z"⟩, 33) := ⟨⟨by decide +kernel, by decide +kernel⟩, List.mem_of_getElem? (i := 741) (by decide +kernel), List.mem_of_getElem? (i := 910) (by decide +kernel), List.mem_of_getElem? (i := 911) (by decide +kernel)⟩
theorem lw_p35 : lw_okq (⟨"BellSchoolModel", "readsBell", "()Z"⟩, 33) := ⟨⟨by decide +kernel, by decide +kernel⟩, List.mem_of_getElem? (i := 741) (by decide +kernel), List.mem_of_getElem? (i := 914) (by decide +kernel), List.mem_of_getElem? (i := 915) (by decide +kernel)⟩
theorem lw_p36 : lw_okq (⟨"BellSchoolModel", "readsMost", "()Z"⟩, 33) := ⟨⟨by decide +kernel, by decide +kernel⟩, List.mem_of_getElem? (i := 741) (by decide +kernel), List.mem_of_getElem? (i := 918) (by decide +kernel), List.mem_of_getElem? (i := 919) (by decide +kernel)⟩
theorem lw_p37 : lw_okq (⟨"BellSchoolModel", "isHome", "(I)Z"⟩, 33) := ⟨⟨by decide +kernel, by decide +kernel⟩, List.mem_of_getElem? (i := 741) (by decide +kernel), List.mem_of_getElem? (i := 930) (by decide +kernel), List.mem_of_getElem? (i := 931) (by decide +kernel)⟩
theorem lw_p38 : lw_okq (⟨"BellSchoolModel", "isOpen", "([III)Z"⟩, 33) := ⟨⟨by decide +kernel, by decide +kernel⟩, List.mem_of_getElem? (i := 741) (by decide +kernel), List.mem_of_getElem? (i := 938) (by decide +kernel), List.mem_of_getElem? (i := 939) (by decide +kernel)⟩
theorem lw_p39 : lw_okq (⟨"BellSchoolModel", "layMinutes", "([II)V"⟩, 33) := ⟨⟨by decide +kernel, by decide +kernel⟩, List.mem_of_getElem? (i := 741) (by decide +kernel), List.mem_of_getElem? (i := 952) (by decide +kernel), List.mem_of_getElem? (i := 953) (by decide +kernel)⟩
theorem lw_p40 : lw_okq (⟨"BellSchoolModel", "arrives", "([II)I"⟩, 33) := ⟨⟨by decide +kernel, by decide +kernel⟩, List.mem_of_getElem? (i := 741) (by decide +kernel), List.mem_of_getElem? (i := 961) (by decide +kernel), List.mem_of_getElem? (i := 962) (by decide +kernel)⟩
theorem lw_p41 : lw_okq (⟨"BellSchoolModel", "latest", "([II)I"⟩, 33) := ⟨⟨by decide +kernel, by decide +kernel⟩, List.mem_of_getElem? (i := 741) (by decide +kernel), List.mem_of_getElem? (i := 969) (by decide +kernel), List.mem_of_getElem? (i := 970) (by decide +kernel)⟩
theorem lw_p42 : lw_okq (⟨"BellSchoolModel", "remember", "()V"⟩, 33) := ⟨⟨by decide +kernel, by decide +kernel⟩, List.mem_of_getElem? (i := 741) (by decide +kernel), List.mem_of_getElem? (i := 977) (by decide +kernel), List.mem_of_getElem? (i := 978) (by decide +kernel)⟩
theorem lw_p43 : lw_okq (⟨"BellSchoolModel", "goesBy", "([I)V"⟩, 33) := ⟨⟨by decide +kernel, by decide +kernel⟩, List.mem_of_getElem? (i := 741) (by decide +kernel), List.mem_of_getElem? (i := 981) (by decide +kernel), List.mem_of_getElem? (i := 982) (by decide +kernel)⟩
theorem lw_p44 : lw_okq (⟨"BellSchoolModel", "copyNow", "()V"⟩, 33) := ⟨⟨by decide +kernel, by decide +kernel⟩, List.mem_of_getElem? (i := 741) (by decide +kernel), List.mem_of_getElem? (i := 1005) (by decide +kernel), List.mem_of_getElem? (i := 1006) (by decide +kernel)⟩
theorem lw_p45 : lw_okq (⟨"BellSchoolModel", "layYet", "()V"⟩, 33) := ⟨⟨by decide +kernel, by decide +kernel⟩, List.mem_of_getElem? (i := 741) (by decide +kernel), List.mem_of_getElem? (i := 1017) (by decide +kernel), List.mem_of_getElem? (i := 1018) (by decide +kernel)⟩
theorem lw_p46 : lw_okq (⟨"BellSchoolModel", "layNexts", "()V"⟩, 33) := ⟨⟨by decide +kernel, by decide +kernel⟩, List.mem_of_getElem? (i := 741) (by decide +kernel), List.mem_of_getElem? (i := 1021) (by decide +kernel), List.mem_of_getElem? (i := 1022) (by decide +kernel)⟩
theorem lw_p47 : lw_okq (⟨"BellSchoolModel", "byChoice", "(IIII)I"⟩, 33) := ⟨⟨by decide +kernel, by decide +kernel⟩, List.mem_of_getElem? (i := 741) (by decide +kernel), List.mem_of_getElem? (i := 1028) (by decide +kernel), List.mem_of_getElem? (i := 1029) (by decide +kernel)⟩
def lw_privs_3 : List (MethodName × Nat) := [(⟨"BellSchoolModel", "readsWay", "()Z"⟩, 33), (⟨"BellSchoolModel", "isTwo", "()Z"⟩, 33), (⟨"BellSchoolModel", "readsSnow", "()Z"⟩, 33), (⟨"BellSchoolModel", "readsBell", "()Z"⟩, 33), (⟨"BellSchoolModel", "readsMost", "()Z"⟩, 33), (⟨"BellSchoolModel", "isHome", "(I)Z"⟩, 33), (⟨"BellSchoolModel", "isOpen", "([III)Z"⟩, 33), (⟨"BellSchoolModel", "layMinutes", "([II)V"⟩, 33), (⟨"BellSchoolModel", "arrives", "([II)I"⟩, 33), (⟨"BellSchoolModel", "latest", "([II)I"⟩, 33), (⟨"BellSchoolModel", "remember", "()V"⟩, 33), (⟨"BellSchoolModel", "goesBy", "([I)V"⟩, 33), (⟨"BellSchoolModel", "copyNow", "()V"⟩, 33), (⟨"BellSchoolModel", "layYet", "()V"⟩, 33), (⟨"BellSchoolModel", "layNexts", "()V"⟩, 33), (⟨"BellSchoolModel", "byChoice", "(IIII)I"⟩, 33)]
theorem lw_r3 : ∀ q ∈ lw_privs_3, lw_okq q := List.forall_mem_cons.mpr ⟨lw_p32, List.forall_mem_cons.mpr ⟨lw_p33, List.forall_mem_cons.mpr ⟨lw_p34, List.forall_mem_cons.mpr ⟨lw_p35, List.forall_mem_cons.mpr ⟨lw_p36, List.forall_mem_cons.mpr ⟨lw_p37, List.forall_mem_cons.mpr ⟨lw_p38, List.forall_mem_cons.mpr ⟨lw_p39, List.forall_mem_cons.mpr ⟨lw_p40, List.forall_mem_cons.mpr ⟨lw_p41, List.forall_mem_cons.mpr ⟨lw_p42, List.forall_mem_cons.mpr ⟨lw_p43, List.forall_mem_cons.mpr ⟨lw_p44, List.forall_mem_cons.mpr ⟨lw_p45, List.forall_mem_cons.mpr ⟨lw_p46, List.forall_mem_cons.mpr ⟨lw_p47, fun _ h => absurd h List.not_mem_nil⟩⟩⟩⟩⟩⟩⟩⟩⟩⟩⟩⟩⟩⟩⟩⟩
theorem lw_p48 : lw_okq (⟨"BellSchoolModel", "isSo", "()Z"⟩, 33) := ⟨⟨by decide +kernel, by decide +kernel⟩, List.mem_of_getElem? (i := 741) (by decide +kernel), List.mem_of_getElem? (i := 1055) (by decide +kernel), List.mem_of_getElem? (i := 1056) (by decide +kernel)⟩
theorem lw_p49 : lw_okq (⟨"BellSchoolModel", "spreads", "(II)V"⟩, 33) := ⟨⟨by decide +kernel, by decide +kernel⟩, List.mem_of_getElem? (i := 741) (by decide +kernel), List.mem_of_getElem? (i := 1068) (by decide +kernel), List.mem_of_getElem? (i := 1069) (by decide +kernel)⟩
theorem lw_p50 : lw_okq (⟨"BellSchoolModel", "wayMany", "()I"⟩, 33) := ⟨⟨by decide +kernel, by decide +kernel⟩, List.mem_of_getElem? (i := 741) (by decide +kernel), List.mem_of_getElem? (i := 1099) (by decide +kernel), List.mem_of_getElem? (i := 1100) (by decide +kernel)⟩
def lw_privs_4 : List (MethodName × Nat) := [(⟨"BellSchoolModel", "isSo", "()Z"⟩, 33), (⟨"BellSchoolModel", "spreads", "(II)V"⟩, 33), (⟨"BellSchoolModel", "wayMany", "()I"⟩, 33)]
theorem lw_r4 : ∀ q ∈ lw_privs_4, lw_okq q := List.forall_mem_cons.mpr ⟨lw_p48, List.forall_mem_cons.mpr ⟨lw_p49, List.forall_mem_cons.mpr ⟨lw_p50, fun _ h => absurd h List.not_mem_nil⟩⟩⟩
def lw_privs : List (MethodName × Nat) := lw_privs_1 ++ (lw_privs_2 ++ (lw_privs_3 ++ (lw_privs_4)))
def lw_tbl : List Cond := k2_sels lw_privs ++ tables_1
theorem lw_privs_ok : ∀ q ∈ lw_privs, lw_okq q := by
  show ∀ q ∈ lw_privs_1 ++ (lw_privs_2 ++ (lw_privs_3 ++ (lw_privs_4))), lw_okq q
  exact List.forall_mem_append.mpr ⟨lw_r1, List.forall_mem_append.mpr ⟨lw_r2, List.forall_mem_append.mpr ⟨lw_r3, lw_r4⟩⟩⟩
-- ===== the good words of the tables, all of them; one list for every method =====
def TB : List Cond := lw_tbl.filter goodWord
theorem tb_in {w : Cond} (h : w ∈ lw_tbl) (g : goodWord w = true) : w ∈ TB := List.mem_filter.mpr ⟨h, g⟩
theorem tb_good {big : List Cond} (h : ∀ w ∈ TB, w ∈ big) : GoodIn big TB := fun w hw => ⟨h w hw, good_of_word (List.mem_filter.mp hw).2⟩
theorem tb_hts {args : Array Value} {s : State} (h : ∀ w ∈ lw_tbl, w.before args s = true) : ∀ w ∈ TB, w.before args s = true := fun w hw => h w (List.mem_filter.mp hw).1
theorem lw_in {w : Cond} (h : w ∈ tables_1) : w ∈ lw_tbl := List.mem_append_right _ h
theorem lw_i1 {w : Cond} (i : Nat) (h : tables_1_1[i]? = some w) : w ∈ lw_tbl := lw_in (List.mem_append_left _ (List.mem_of_getElem? h))
theorem lw_i2 {w : Cond} (i : Nat) (h : tables_1_2[i]? = some w) : w ∈ lw_tbl := lw_in (List.mem_append_right _ (List.mem_append_left _ (List.mem_of_getElem? h)))
theorem lw_i3 {w : Cond} (i : Nat) (h : tables_1_3[i]? = some w) : w ∈ lw_tbl := lw_in (List.mem_append_right _ (List.mem_append_right _ (List.mem_append_left _ (List.mem_of_getElem? h))))
theorem lw_i4 {w : Cond} (i : Nat) (h : tables_1_4[i]? = some w) : w ∈ lw_tbl := lw_in (List.mem_append_right _ (List.mem_append_right _ (List.mem_append_right _ (List.mem_append_left _ (List.mem_of_getElem? h)))))
theorem lw_i5 {w : Cond} (i : Nat) (h : tables_1_5[i]? = some w) : w ∈ lw_tbl := lw_in (List.mem_append_right _ (List.mem_append_right _ (List.mem_append_right _ (List.mem_append_right _ (List.mem_of_getElem? h)))))
theorem lw_s {w : Cond} (i : Nat) (h : (k2_sels lw_privs)[i]? = some w) : w ∈ lw_tbl := List.mem_append_left _ (List.mem_of_getElem? h)
def RX0 : String := "BellSchool$Measles"
def TX0 : u_T := fun k => match k with
  | 0 => ("BellSchool$Measles", "chance", "[J", true)
  | 1 => ("BellSchool$Measles", "then", "[J", true)
  | _ => ("BellSchool$Measles", "below", "J", false)
def tyX0 : Nat → FieldType := fun k => match k with
  | 0 => .array .long
  | 1 => .array .long
  | _ => .long
abbrev wsX00 : List Cond := u_ws RX0 TX0 3
theorem nmX0 : ∀ a, a < 3 → ∀ b, b < 3 → a ≠ b → (TX0 a).2.1 ≠ (TX0 b).2.1 := by decide +kernel
theorem tyX0_ok : ∀ k, k < 3 → parseFieldDescriptor (TX0 k).2.2.1 = some (tyX0 k) := by decide +kernel
def RX1 : String := "BellSchool$Noon"
def TX1 : u_T := fun k => match k with
  | 0 => ("BellSchool$Noon", "fars", "[I", true)
  | 1 => ("BellSchool$Noon", "shutThen", "[J", true)
  | 2 => ("BellSchool$Noon", "valley", "LBellSchool$Valley;", false)
  | 3 => ("BellSchool$Noon", "times", "[I", true)
  | 4 => ("BellSchool$Noon", "latest", "I", false)
  | _ => ("BellSchool$Noon", "comers", "I", false)
def tyX1 : Nat → FieldType := fun k => match k with
  | 0 => .array .int
  | 1 => .array .long
  | 2 => .object "BellSchool$Valley"
  | 3 => .array .int
  | 4 => .int
  | _ => .int
abbrev wsX10 : List Cond := u_ws RX1 TX1 6
theorem nmX1 : ∀ a, a < 6 → ∀ b, b < 6 → a ≠ b → (TX1 a).2.1 ≠ (TX1 b).2.1 := by decide +kernel
theorem tyX1_ok : ∀ k, k < 6 → parseFieldDescriptor (TX1 k).2.2.1 = some (tyX1 k) := by decide +kernel
def RX2 : String := "BellSchool$Reader"
def TX2 : u_T := fun k => match k with
  | 0 => ("BellSchool$Reader", "number", "[I", true)
  | _ => ("BellSchool$Reader", "place", "I", false)
def tyX2 : Nat → FieldType := fun k => match k with
  | 0 => .array .int
  | _ => .int
abbrev wsX20 : List Cond := u_ws RX2 TX2 2
theorem nmX2 : ∀ a, a < 2 → ∀ b, b < 2 → a ≠ b → (TX2 a).2.1 ≠ (TX2 b).2.1 := by decide +kernel
theorem tyX2_ok : ∀ k, k < 2 → parseFieldDescriptor (TX2 k).2.2.1 = some (tyX2 k) := by decide +kernel
def RX3 : String := "BellSchool$Search"
def TX3 : u_T := fun k => match k with
  | 0 => ("BellSchool$Search", "reached", "[J", true)
  | 1 => ("BellSchool$Search", "hopeful", "[J", true)
  | 2 => ("BellSchool$Search", "next", "[I", true)
  | 3 => ("BellSchool$Search", "numbers", "[I", true)
  | 4 => ("BellSchool$Search", "asked", "LBellSchool$Standing;", true)
  | 5 => ("BellSchool$Search", "dream", "LBellSchool$Standing;", true)
  | 6 => ("BellSchool$Search", "homes", "I", false)
  | 7 => ("BellSchool$Search", "whole", "I", false)
  | 8 => ("BellSchool$Search", "row", "[I", true)
  | 9 => ("BellSchool$Search", "days", "I", false)
  | _ => ("BellSchool$Search", "known", "Z", false)
def tyX3 : Nat → FieldType := fun k => match k with
  | 0 => .array .long
  | 1 => .array .long
  | 2 => .array .int
  | 3 => .array .int
  | 4 => .object "BellSchool$Standing"
  | 5 => .object "BellSchool$Standing"
  | 6 => .int
  | 7 => .int
  | 8 => .array .int
  | 9 => .int
  | _ => .boolean
abbrev wsX30 : List Cond := u_ws RX3 TX3 11
theorem nmX3 : ∀ a, a < 11 → ∀ b, b < 11 → a ≠ b → (TX3 a).2.1 ≠ (TX3 b).2.1 := by decide +kernel
theorem tyX3_ok : ∀ k, k < 11 → parseFieldDescriptor (TX3 k).2.2.1 = some (tyX3 k) := by decide +kernel
def RX4 : String := "BellSchool$Shelf"
def TX4 : u_T := fun k => match k with
  | 0 => ("BellSchool$Shelf", "rows", "[LBellSchool$Standing;", true)
  | _ => ("BellSchool$Shelf", "size", "I", false)
def tyX4 : Nat → FieldType := fun k => match k with
  | 0 => .array (.object "BellSchool$Standing")
  | _ => .int
abbrev wsX40 : List Cond := u_ws RX4 TX4 2
theorem nmX4 : ∀ a, a < 2 → ∀ b, b < 2 → a ≠ b → (TX4 a).2.1 ≠ (TX4 b).2.1 := by decide +kernel
theorem tyX4_ok : ∀ k, k < 2 → parseFieldDescriptor (TX4 k).2.2.1 = some (tyX4 k) := by decide +kernel
def RX5 : String := "BellSchool$Standing"
def TX5 : u_T := fun k => match k with
  | 0 => ("BellSchool$Standing", "soups", "[I", true)
  | 1 => ("BellSchool$Standing", "day", "I", false)
  | 2 => ("BellSchool$Standing", "bell", "I", false)
  | 3 => ("BellSchool$Standing", "held", "I", false)
  | 4 => ("BellSchool$Standing", "sick", "I", false)
  | 5 => ("BellSchool$Standing", "had", "I", false)
  | _ => ("BellSchool$Standing", "shut", "J", false)
def tyX5 : Nat → FieldType := fun k => match k with
  | 0 => .array .int
  | 1 => .int
  | 2 => .int
  | 3 => .int
  | 4 => .int
  | 5 => .int
  | _ => .long
abbrev wsX50 : List Cond := u_ws RX5 TX5 7
theorem nmX5 : ∀ a, a < 7 → ∀ b, b < 7 → a ≠ b → (TX5 a).2.1 ≠ (TX5 b).2.1 := by decide +kernel
theorem tyX5_ok : ∀ k, k < 7 → parseFieldDescriptor (TX5 k).2.2.1 = some (tyX5 k) := by decide +kernel
def RX6 : String := "BellSchool$Text"
def TX6 : u_T := fun k => match k with
  | 0 => ("BellSchool$Text", "letters", "[C", true)
  | _ => ("BellSchool$Text", "length", "I", false)
def tyX6 : Nat → FieldType := fun k => match k with
  | 0 => .array .char
  | _ => .int
abbrev wsX60 : List Cond := u_ws RX6 TX6 2
theorem nmX6 : ∀ a, a < 2 → ∀ b, b < 2 → a ≠ b → (TX6 a).2.1 ≠ (TX6 b).2.1 := by decide +kernel
theorem tyX6_ok : ∀ k, k < 2 → parseFieldDescriptor (TX6 k).2.2.1 = some (tyX6 k) := by decide +kernel
def RX7 : String := "BellSchool$Valley"
def TX7 : u_T := fun k => match k with
  | 0 => ("BellSchool$Valley", "kind", "[I", true)
  | 1 => ("BellSchool$Valley", "late", "[I", true)
  | 2 => ("BellSchool$Valley", "minutes", "[I", true)
  | 3 => ("BellSchool$Valley", "snowFrom", "[I", true)
  | 4 => ("BellSchool$Valley", "snowTo", "[I", true)
  | 5 => ("BellSchool$Valley", "homes", "I", false)
  | 6 => ("BellSchool$Valley", "bell", "I", false)
  | _ => ("BellSchool$Valley", "farthest", "I", false)
def tyX7 : Nat → FieldType := fun k => match k with
  | 0 => .array .int
  | 1 => .array .int
  | 2 => .array .int
  | 3 => .array .int
  | 4 => .array .int
  | 5 => .int
  | 6 => .int
  | _ => .int
abbrev wsX70 : List Cond := u_ws RX7 TX7 8
theorem nmX7 : ∀ a, a < 8 → ∀ b, b < 8 → a ≠ b → (TX7 a).2.1 ≠ (TX7 b).2.1 := by decide +kernel
theorem tyX7_ok : ∀ k, k < 8 → parseFieldDescriptor (TX7 k).2.2.1 = some (tyX7 k) := by decide +kernel
def RX8 : String := "BellSchool"
def TX8 : u_T := fun k => match k with
  | 0 => ("BellSchool", "valley", "LBellSchool$Valley;", false)
  | 1 => ("BellSchool", "draft", "LBellSchool$Valley;", false)
  | 2 => ("BellSchool", "text", "LBellSchool$Text;", true)
  | 3 => ("BellSchool", "reader", "LBellSchool$Reader;", true)
  | 4 => ("BellSchool", "noon", "LBellSchool$Noon;", true)
  | 5 => ("BellSchool", "now", "LBellSchool$Standing;", true)
  | 6 => ("BellSchool", "dream", "LBellSchool$Standing;", true)
  | 7 => ("BellSchool", "undoable", "LBellSchool$Shelf;", true)
  | 8 => ("BellSchool", "kept", "LBellSchool$Shelf;", true)
  | 9 => ("BellSchool", "search", "LBellSchool$Search;", true)
  | 10 => ("BellSchool", "chances", "LBellSchool$Measles;", true)
  | 11 => ("BellSchool", "seenHome", "[I", true)
  | 12 => ("BellSchool", "seenDays", "[I", true)
  | _ => ("BellSchool", "seen", "I", false)
def tyX8 : Nat → FieldType := fun k => match k with
  | 0 => .object "BellSchool$Valley"
  | 1 => .object "BellSchool$Valley"
  | 2 => .object "BellSchool$Text"
  | 3 => .object "BellSchool$Reader"
  | 4 => .object "BellSchool$Noon"
  | 5 => .object "BellSchool$Standing"
  | 6 => .object "BellSchool$Standing"
  | 7 => .object "BellSchool$Shelf"
  | 8 => .object "BellSchool$Shelf"
  | 9 => .object "BellSchool$Search"
  | 10 => .object "BellSchool$Measles"
  | 11 => .array .int
  | 12 => .array .int
  | _ => .int
abbrev wsX80 : List Cond := u_ws RX8 TX8 14
theorem nmX8 : ∀ a, a < 14 → ∀ b, b < 14 → a ≠ b → (TX8 a).2.1 ≠ (TX8 b).2.1 := by decide +kernel
theorem tyX8_ok : ∀ k, k < 14 → parseFieldDescriptor (TX8 k).2.2.1 = some (tyX8 k) := by decide +kernel
def RX9 : String := "BellSchoolModel"
def TX9 : u_T := fun k => match k with
  | 0 => ("BellSchoolModel", "letterMany", "I", false)
  | 1 => ("BellSchoolModel", "text", "[I", true)
  | 2 => ("BellSchoolModel", "readAt", "I", false)
  | 3 => ("BellSchoolModel", "readHomes", "I", false)
  | 4 => ("BellSchoolModel", "readBell", "I", false)
  | 5 => ("BellSchoolModel", "readMost", "I", false)
  | 6 => ("BellSchoolModel", "readKinds", "[I", true)
  | 7 => ("BellSchoolModel", "readLate", "[I", true)
  | 8 => ("BellSchoolModel", "readWays", "[I", true)
  | 9 => ("BellSchoolModel", "readFrom", "[I", true)
  | 10 => ("BellSchoolModel", "readTo", "[I", true)
  | 11 => ("BellSchoolModel", "told", "[I", true)
  | 12 => ("BellSchoolModel", "n", "I", false)
  | 13 => ("BellSchoolModel", "most", "I", false)
  | 14 => ("BellSchoolModel", "kinds", "[I", true)
  | 15 => ("BellSchoolModel", "late", "[I", true)
  | 16 => ("BellSchoolModel", "ways", "[I", true)
  | 17 => ("BellSchoolModel", "from", "[I", true)
  | 18 => ("BellSchoolModel", "to", "[I", true)
  | 19 => ("BellSchoolModel", "now", "[I", true)
  | 20 => ("BellSchoolModel", "tried", "[I", true)
  | 21 => ("BellSchoolModel", "minutes", "[I", true)
  | 22 => ("BellSchoolModel", "undoMany", "I", false)
  | 23 => ("BellSchoolModel", "undoAt", "I", false)
  | 24 => ("BellSchoolModel", "undos", "[I", true)
  | 25 => ("BellSchoolModel", "nexts", "[I", true)
  | 26 => ("BellSchoolModel", "yet", "[I", true)
  | 27 => ("BellSchoolModel", "seenMany", "I", false)
  | 28 => ("BellSchoolModel", "seen", "[I", true)
  | 29 => ("BellSchoolModel", "chances", "[J", true)
  | 30 => ("BellSchoolModel", "then", "[J", true)
  | 31 => ("BellSchoolModel", "keptMany", "I", false)
  | _ => ("BellSchoolModel", "kept", "[I", true)
def tyX9 : Nat → FieldType := fun k => match k with
  | 0 => .int
  | 1 => .array .int
  | 2 => .int
  | 3 => .int
  | 4 => .int
  | 5 => .int
  | 6 => .array .int
  | 7 => .array .int
  | 8 => .array .int
  | 9 => .array .int
  | 10 => .array .int
  | 11 => .array .int
  | 12 => .int
  | 13 => .int
  | 14 => .array .int
  | 15 => .array .int
  | 16 => .array .int
  | 17 => .array .int
  | 18 => .array .int
  | 19 => .array .int
  | 20 => .array .int
  | 21 => .array .int
  | 22 => .int
  | 23 => .int
  | 24 => .array .int
  | 25 => .array .int
  | 26 => .array .int
  | 27 => .int
  | 28 => .array .int
  | 29 => .array .long
  | 30 => .array .long
  | 31 => .int
  | _ => .array .int
abbrev wsX90 : List Cond := u_ws RX9 TX9 33
theorem nmX9 : ∀ a, a < 33 → ∀ b, b < 33 → a ≠ b → (TX9 a).2.1 ≠ (TX9 b).2.1 := by decide +kernel
theorem tyX9_ok : ∀ k, k < 33 → parseFieldDescriptor (TX9 k).2.2.1 = some (tyX9 k) := by decide +kernel
abbrev CLS : List vw_C := [(RX0, TX0, 3), (RX1, TX1, 6), (RX2, TX2, 2), (RX3, TX3, 11), (RX4, TX4, 2), (RX5, TX5, 7), (RX6, TX6, 2), (RX7, TX7, 8), (RX8, TX8, 14), (RX9, TX9, 33)]
theorem inX0 : ∀ w ∈ u_ws RX0 TX0 3, w ∈ TB := by
  intro w hw
  obtain ⟨j, hj, rfl⟩ := List.mem_map.mp hw
  have hj2 : j < 3 := List.mem_range.mp hj
  match j, hj2 with
  | 0, _ => exact tb_in (lw_i2 14 (by decide +kernel)) (by decide +kernel)
  | 1, _ => exact tb_in (lw_i2 16 (by decide +kernel)) (by decide +kernel)
  | 2, _ => exact tb_in (lw_i2 18 (by decide +kernel)) (by decide +kernel)
  | n + 3, h => exact absurd h (by omega)
theorem inX1 : ∀ w ∈ u_ws RX1 TX1 6, w ∈ TB := by
  intro w hw
  obtain ⟨j, hj, rfl⟩ := List.mem_map.mp hw
  have hj2 : j < 6 := List.mem_range.mp hj
  match j, hj2 with
  | 0, _ => exact tb_in (lw_i1 115 (by decide +kernel)) (by decide +kernel)
  | 1, _ => exact tb_in (lw_i1 117 (by decide +kernel)) (by decide +kernel)
  | 2, _ => exact tb_in (lw_i1 119 (by decide +kernel)) (by decide +kernel)
  | 3, _ => exact tb_in (lw_i1 121 (by decide +kernel)) (by decide +kernel)
  | 4, _ => exact tb_in (lw_i1 123 (by decide +kernel)) (by decide +kernel)
  | 5, _ => exact tb_in (lw_i1 125 (by decide +kernel)) (by decide +kernel)
  | n + 6, h => exact absurd h (by omega)
theorem inX2 : ∀ w ∈ u_ws RX2 TX2 2, w ∈ TB := by
  intro w hw
  obtain ⟨j, hj, rfl⟩ := List.mem_map.mp hw
  have hj2 : j < 2 := List.mem_range.mp hj
  match j, hj2 with
  | 0, _ => exact tb_in (lw_i1 93 (by decide +kernel)) (by decide +kernel)
  | 1, _ => exact tb_in (lw_i1 95 (by decide +kernel)) (by decide +kernel)
  | n + 2, h => exact absurd h (by omega)
theorem inX3 : ∀ w ∈ u_ws RX3 TX3 11, w ∈ TB := by
  intro w hw
  obtain ⟨j, hj, rfl⟩ := List.mem_map.mp hw
  have hj2 : j < 11 := List.mem_range.mp hj
  match j, hj2 with
  | 0, _ => exact tb_in (lw_i1 220 (by decide +kernel)) (by decide +kernel)
  | 1, _ => exact tb_in (lw_i1 222 (by decide +kernel)) (by decide +kernel)
  | 2, _ => exact tb_in (lw_i1 224 (by decide +kernel)) (by decide +kernel)
  | 3, _ => exact tb_in (lw_i1 226 (by decide +kernel)) (by decide +kernel)
  | 4, _ => exact tb_in (lw_i1 228 (by decide +kernel)) (by decide +kernel)
  | 5, _ => exact tb_in (lw_i1 230 (by decide +kernel)) (by decide +kernel)
  | 6, _ => exact tb_in (lw_i1 232 (by decide +kernel)) (by decide +kernel)
  | 7, _ => exact tb_in (lw_i1 234 (by decide +kernel)) (by decide +kernel)
  | 8, _ => exact tb_in (lw_i1 236 (by decide +kernel)) (by decide +kernel)
  | 9, _ => exact tb_in (lw_i1 238 (by decide +kernel)) (by decide +kernel)
  | 10, _ => exact tb_in (lw_i2 0 (by decide +kernel)) (by decide +kernel)
  | n + 11, h => exact absurd h (by omega)
theorem inX4 : ∀ w ∈ u_ws RX4 TX4 2, w ∈ TB := by
  intro w hw
  obtain ⟨j, hj, rfl⟩ := List.mem_map.mp hw
  have hj2 : j < 2 := List.mem_range.mp hj
  match j, hj2 with
  | 0, _ => exact tb_in (lw_i1 193 (by decide +kernel)) (by decide +kernel)
  | 1, _ => exact tb_in (lw_i1 195 (by decide +kernel)) (by decide +kernel)
  | n + 2, h => exact absurd h (by omega)
theorem inX5 : ∀ w ∈ u_ws RX5 TX5 7, w ∈ TB := by
  intro w hw
  obtain ⟨j, hj, rfl⟩ := List.mem_map.mp hw
  have hj2 : j < 7 := List.mem_range.mp hj
  match j, hj2 with
  | 0, _ => exact tb_in (lw_i1 163 (by decide +kernel)) (by decide +kernel)
  | 1, _ => exact tb_in (lw_i1 165 (by decide +kernel)) (by decide +kernel)
  | 2, _ => exact tb_in (lw_i1 167 (by decide +kernel)) (by decide +kernel)
  | 3, _ => exact tb_in (lw_i1 169 (by decide +kernel)) (by decide +kernel)
  | 4, _ => exact tb_in (lw_i1 171 (by decide +kernel)) (by decide +kernel)
  | 5, _ => exact tb_in (lw_i1 173 (by decide +kernel)) (by decide +kernel)
  | 6, _ => exact tb_in (lw_i1 175 (by decide +kernel)) (by decide +kernel)
  | n + 7, h => exact absurd h (by omega)
theorem inX6 : ∀ w ∈ u_ws RX6 TX6 2, w ∈ TB := by
  intro w hw
  obtain ⟨j, hj, rfl⟩ := List.mem_map.mp hw
  have hj2 : j < 2 := List.mem_range.mp hj
  match j, hj2 with
  | 0, _ => exact tb_in (lw_i1 79 (by decide +kernel)) (by decide +kernel)
  | 1, _ => exact tb_in (lw_i1 81 (by decide +kernel)) (by decide +kernel)
  | n + 2, h => exact absurd h (by omega)
theorem inX7 : ∀ w ∈ u_ws RX7 TX7 8, w ∈ TB := by
  intro w hw
  obtain ⟨j, hj, rfl⟩ := List.mem_map.mp hw
  have hj2 : j < 8 := List.mem_range.mp hj
  match j, hj2 with
  | 0, _ => exact tb_in (lw_i1 50 (by decide +kernel)) (by decide +kernel)
  | 1, _ => exact tb_in (lw_i1 52 (by decide +kernel)) (by decide +kernel)
  | 2, _ => exact tb_in (lw_i1 54 (by decide +kernel)) (by decide +kernel)
  | 3, _ => exact tb_in (lw_i1 56 (by decide +kernel)) (by decide +kernel)
  | 4, _ => exact tb_in (lw_i1 58 (by decide +kernel)) (by decide +kernel)
  | 5, _ => exact tb_in (lw_i1 60 (by decide +kernel)) (by decide +kernel)
  | 6, _ => exact tb_in (lw_i1 62 (by decide +kernel)) (by decide +kernel)
  | 7, _ => exact tb_in (lw_i1 64 (by decide +kernel)) (by decide +kernel)
  | n + 8, h => exact absurd h (by omega)
theorem inX8 : ∀ w ∈ u_ws RX8 TX8 14, w ∈ TB := by
  intro w hw
  obtain ⟨j, hj, rfl⟩ := List.mem_map.mp hw
  have hj2 : j < 14 := List.mem_range.mp hj
  match j, hj2 with
  | 0, _ => exact tb_in (lw_i2 163 (by decide +kernel)) (by decide +kernel)
  | 1, _ => exact tb_in (lw_i2 165 (by decide +kernel)) (by decide +kernel)
  | 2, _ => exact tb_in (lw_i2 167 (by decide +kernel)) (by decide +kernel)
  | 3, _ => exact tb_in (lw_i2 169 (by decide +kernel)) (by decide +kernel)
  | 4, _ => exact tb_in (lw_i2 171 (by decide +kernel)) (by decide +kernel)
  | 5, _ => exact tb_in (lw_i2 173 (by decide +kernel)) (by decide +kernel)
  | 6, _ => exact tb_in (lw_i2 175 (by decide +kernel)) (by decide +kernel)
  | 7, _ => exact tb_in (lw_i2 177 (by decide +kernel)) (by decide +kernel)
  | 8, _ => exact tb_in (lw_i2 179 (by decide +kernel)) (by decide +kernel)
  | 9, _ => exact tb_in (lw_i2 181 (by decide +kernel)) (by decide +kernel)
  | 10, _ => exact tb_in (lw_i2 183 (by decide +kernel)) (by decide +kernel)
  | 11, _ => exact tb_in (lw_i2 185 (by decide +kernel)) (by decide +kernel)
  | 12, _ => exact tb_in (lw_i2 187 (by decide +kernel)) (by decide +kernel)
  | 13, _ => exact tb_in (lw_i2 189 (by decide +kernel)) (by decide +kernel)
  | n + 14, h => exact absurd h (by omega)
theorem inX9 : ∀ w ∈ u_ws RX9 TX9 33, w ∈ TB := by
  intro w hw
  obtain ⟨j, hj, rfl⟩ := List.mem_map.mp hw
  have hj2 : j < 33 := List.mem_range.mp hj
  match j, hj2 with
  | 0, _ => exact tb_in (lw_i4 79 (by decide +kernel)) (by decide +kernel)
  | 1, _ => exact tb_in (lw_i4 81 (by decide +kernel)) (by decide +kernel)
  | 2, _ => exact tb_in (lw_i4 83 (by decide +kernel)) (by decide +kernel)
  | 3, _ => exact tb_in (lw_i4 85 (by decide +kernel)) (by decide +kernel)
  | 4, _ => exact tb_in (lw_i4 87 (by decide +kernel)) (by decide +kernel)
  | 5, _ => exact tb_in (lw_i4 89 (by decide +kernel)) (by decide +kernel)
  | 6, _ => exact tb_in (lw_i4 91 (by decide +kernel)) (by decide +kernel)
  | 7, _ => exact tb_in (lw_i4 93 (by decide +kernel)) (by decide +kernel)
  | 8, _ => exact tb_in (lw_i4 95 (by decide +kernel)) (by decide +kernel)
  | 9, _ => exact tb_in (lw_i4 97 (by decide +kernel)) (by decide +kernel)
  | 10, _ => exact tb_in (lw_i4 99 (by decide +kernel)) (by decide +kernel)
  | 11, _ => exact tb_in (lw_i4 101 (by decide +kernel)) (by decide +kernel)
  | 12, _ => exact tb_in (lw_i4 103 (by decide +kernel)) (by decide +kernel)
  | 13, _ => exact tb_in (lw_i4 105 (by decide +kernel)) (by decide +kernel)
  | 14, _ => exact tb_in (lw_i4 107 (by decide +kernel)) (by decide +kernel)
  | 15, _ => exact tb_in (lw_i4 109 (by decide +kernel)) (by decide +kernel)
  | 16, _ => exact tb_in (lw_i4 111 (by decide +kernel)) (by decide +kernel)
  | 17, _ => exact tb_in (lw_i4 113 (by decide +kernel)) (by decide +kernel)
  | 18, _ => exact tb_in (lw_i4 115 (by decide +kernel)) (by decide +kernel)
  | 19, _ => exact tb_in (lw_i4 117 (by decide +kernel)) (by decide +kernel)
  | 20, _ => exact tb_in (lw_i4 119 (by decide +kernel)) (by decide +kernel)
  | 21, _ => exact tb_in (lw_i4 121 (by decide +kernel)) (by decide +kernel)
  | 22, _ => exact tb_in (lw_i4 123 (by decide +kernel)) (by decide +kernel)
  | 23, _ => exact tb_in (lw_i4 125 (by decide +kernel)) (by decide +kernel)
  | 24, _ => exact tb_in (lw_i4 127 (by decide +kernel)) (by decide +kernel)
  | 25, _ => exact tb_in (lw_i4 129 (by decide +kernel)) (by decide +kernel)
  | 26, _ => exact tb_in (lw_i4 131 (by decide +kernel)) (by decide +kernel)
  | 27, _ => exact tb_in (lw_i4 133 (by decide +kernel)) (by decide +kernel)
  | 28, _ => exact tb_in (lw_i4 135 (by decide +kernel)) (by decide +kernel)
  | 29, _ => exact tb_in (lw_i4 137 (by decide +kernel)) (by decide +kernel)
  | 30, _ => exact tb_in (lw_i4 139 (by decide +kernel)) (by decide +kernel)
  | 31, _ => exact tb_in (lw_i4 141 (by decide +kernel)) (by decide +kernel)
  | 32, _ => exact tb_in (lw_i4 143 (by decide +kernel)) (by decide +kernel)
  | n + 33, h => exact absurd h (by omega)
