section
-- ===== PART A: goes FIRST, ahead of the names: the tables' words, and 'selects' of the private methods out of them =====
/-- a private method of a class that the tables say can be made, by its rows of tables_1 -/
def lw_okq (q : MethodName × Nat) : Prop := (q.1.cls ≠ "java/lang/invoke/MethodHandle" ∧ q.1.cls ≠ "java/lang/invoke/VarHandle") ∧ Cond.instantiable q.1.cls q.2 ∈ tables_1 ∧ Cond.privateMethod q.1 ∈ tables_1 ∧ Cond.instanceMethod q.1 ∈ tables_1
theorem lw_p0 : lw_okq (⟨"BellSchool", "layText", "()Z"⟩, 14) := ⟨⟨by decide +kernel, by decide +kernel⟩, List.mem_of_getElem? (i := 19) (by decide +kernel), List.mem_of_getElem? (i := 315) (by decide +kernel), List.mem_of_getElem? (i := 316) (by decide +kernel)⟩
theorem lw_p1 : lw_okq (⟨"BellSchool$Reader", "readNumbers", "(LBellSchool$Text;I)Z"⟩, 2) := ⟨⟨by decide +kernel, by decide +kernel⟩, List.mem_of_getElem? (i := 86) (by decide +kernel), List.mem_of_getElem? (i := 334) (by decide +kernel), List.mem_of_getElem? (i := 335) (by decide +kernel)⟩
theorem lw_p2 : lw_okq (⟨"BellSchool$Reader", "told", "(LBellSchool$Valley;I)Z"⟩, 2) := ⟨⟨by decide +kernel, by decide +kernel⟩, List.mem_of_getElem? (i := 86) (by decide +kernel), List.mem_of_getElem? (i := 341) (by decide +kernel), List.mem_of_getElem? (i := 342) (by decide +kernel)⟩
theorem lw_p3 : lw_okq (⟨"BellSchool$Noon", "readyFars", "(IJ)I"⟩, 6) := ⟨⟨by decide +kernel, by decide +kernel⟩, List.mem_of_getElem? (i := 99) (by decide +kernel), List.mem_of_getElem? (i := 472) (by decide +kernel), List.mem_of_getElem? (i := 473) (by decide +kernel)⟩
theorem lw_p4 : lw_okq (⟨"BellSchool$Noon", "shortenBy", "(III)V"⟩, 6) := ⟨⟨by decide +kernel, by decide +kernel⟩, List.mem_of_getElem? (i := 99) (by decide +kernel), List.mem_of_getElem? (i := 479) (by decide +kernel), List.mem_of_getElem? (i := 480) (by decide +kernel)⟩
theorem lw_p5 : lw_okq (⟨"BellSchool$Noon", "timeOf", "(LBellSchool$Standing;II)I"⟩, 6) := ⟨⟨by decide +kernel, by decide +kernel⟩, List.mem_of_getElem? (i := 99) (by decide +kernel), List.mem_of_getElem? (i := 492) (by decide +kernel), List.mem_of_getElem? (i := 493) (by decide +kernel)⟩
theorem lw_p6 : lw_okq (⟨"BellSchool", "goBy", "(LBellSchool$Standing;I)V"⟩, 14) := ⟨⟨by decide +kernel, by decide +kernel⟩, List.mem_of_getElem? (i := 19) (by decide +kernel), List.mem_of_getElem? (i := 519) (by decide +kernel), List.mem_of_getElem? (i := 520) (by decide +kernel)⟩
theorem lw_p7 : lw_okq (⟨"BellSchool$Search", "begin", "(LBellSchool$Standing;I)V"⟩, 11) := ⟨⟨by decide +kernel, by decide +kernel⟩, List.mem_of_getElem? (i := 199) (by decide +kernel), List.mem_of_getElem? (i := 573) (by decide +kernel), List.mem_of_getElem? (i := 574) (by decide +kernel)⟩
theorem lw_p8 : lw_okq (⟨"BellSchool$Search", "numberMissing", "()V"⟩, 11) := ⟨⟨by decide +kernel, by decide +kernel⟩, List.mem_of_getElem? (i := 199) (by decide +kernel), List.mem_of_getElem? (i := 578) (by decide +kernel), List.mem_of_getElem? (i := 579) (by decide +kernel)⟩
theorem lw_p9 : lw_okq (⟨"BellSchool$Search", "isWholeBy", "(I)Z"⟩, 11) := ⟨⟨by decide +kernel, by decide +kernel⟩, List.mem_of_getElem? (i := 199) (by decide +kernel), List.mem_of_getElem? (i := 584) (by decide +kernel), List.mem_of_getElem? (i := 585) (by decide +kernel)⟩
theorem lw_p10 : lw_okq (⟨"BellSchool$Search", "spread", "(LBellSchool$Noon;I)V"⟩, 11) := ⟨⟨by decide +kernel, by decide +kernel⟩, List.mem_of_getElem? (i := 199) (by decide +kernel), List.mem_of_getElem? (i := 588) (by decide +kernel), List.mem_of_getElem? (i := 589) (by decide +kernel)⟩
theorem lw_p11 : lw_okq (⟨"BellSchool$Search", "findHopeful", "()V"⟩, 11) := ⟨⟨by decide +kernel, by decide +kernel⟩, List.mem_of_getElem? (i := 199) (by decide +kernel), List.mem_of_getElem? (i := 604) (by decide +kernel), List.mem_of_getElem? (i := 605) (by decide +kernel)⟩
theorem lw_p12 : lw_okq (⟨"BellSchool$Search", "hopesFrom", "(II)J"⟩, 11) := ⟨⟨by decide +kernel, by decide +kernel⟩, List.mem_of_getElem? (i := 199) (by decide +kernel), List.mem_of_getElem? (i := 608) (by decide +kernel), List.mem_of_getElem? (i := 609) (by decide +kernel)⟩
theorem lw_p13 : lw_okq (⟨"BellSchool$Search", "findRow", "()V"⟩, 11) := ⟨⟨by decide +kernel, by decide +kernel⟩, List.mem_of_getElem? (i := 199) (by decide +kernel), List.mem_of_getElem? (i := 615) (by decide +kernel), List.mem_of_getElem? (i := 616) (by decide +kernel)⟩
theorem lw_p14 : lw_okq (⟨"BellSchool$Search", "firstHopeful", "(IIJ)I"⟩, 11) := ⟨⟨by decide +kernel, by decide +kernel⟩, List.mem_of_getElem? (i := 199) (by decide +kernel), List.mem_of_getElem? (i := 619) (by decide +kernel), List.mem_of_getElem? (i := 620) (by decide +kernel)⟩
theorem lw_p15 : lw_okq (⟨"BellSchool", "allBits", "()I"⟩, 14) := ⟨⟨by decide +kernel, by decide +kernel⟩, List.mem_of_getElem? (i := 19) (by decide +kernel), List.mem_of_getElem? (i := 627) (by decide +kernel), List.mem_of_getElem? (i := 628) (by decide +kernel)⟩
def lw_privs_1 : List (MethodName × Nat) := [(⟨"BellSchool", "layText", "()Z"⟩, 14), (⟨"BellSchool$Reader", "readNumbers", "(LBellSchool$Text;I)Z"⟩, 2), (⟨"BellSchool$Reader", "told", "(LBellSchool$Valley;I)Z"⟩, 2), (⟨"BellSchool$Noon", "readyFars", "(IJ)I"⟩, 6), (⟨"BellSchool$Noon", "shortenBy", "(III)V"⟩, 6), (⟨"BellSchool$Noon", "timeOf", "(LBellSchool$Standing;II)I"⟩, 6), (⟨"BellSchool", "goBy", "(LBellSchool$Standing;I)V"⟩, 14), (⟨"BellSchool$Search", "begin", "(LBellSchool$Standing;I)V"⟩, 11), (⟨"BellSchool$Search", "numberMissing", "()V"⟩, 11), (⟨"BellSchool$Search", "isWholeBy", "(I)Z"⟩, 11), (⟨"BellSchool$Search", "spread", "(LBellSchool$Noon;I)V"⟩, 11), (⟨"BellSchool$Search", "findHopeful", "()V"⟩, 11), (⟨"BellSchool$Search", "hopesFrom", "(II)J"⟩, 11), (⟨"BellSchool$Search", "findRow", "()V"⟩, 11), (⟨"BellSchool$Search", "firstHopeful", "(IIJ)I"⟩, 11), (⟨"BellSchool", "allBits", "()I"⟩, 14)]
theorem lw_r1 : ∀ q ∈ lw_privs_1, lw_okq q := List.forall_mem_cons.mpr ⟨lw_p0, List.forall_mem_cons.mpr ⟨lw_p1, List.forall_mem_cons.mpr ⟨lw_p2, List.forall_mem_cons.mpr ⟨lw_p3, List.forall_mem_cons.mpr ⟨lw_p4, List.forall_mem_cons.mpr ⟨lw_p5, List.forall_mem_cons.mpr ⟨lw_p6, List.forall_mem_cons.mpr ⟨lw_p7, List.forall_mem_cons.mpr ⟨lw_p8, List.forall_mem_cons.mpr ⟨lw_p9, List.forall_mem_cons.mpr ⟨lw_p10, List.forall_mem_cons.mpr ⟨lw_p11, List.forall_mem_cons.mpr ⟨lw_p12, List.forall_mem_cons.mpr ⟨lw_p13, List.forall_mem_cons.mpr ⟨lw_p14, List.forall_mem_cons.mpr ⟨lw_p15, fun _ h => absurd h List.not_mem_nil⟩⟩⟩⟩⟩⟩⟩⟩⟩⟩⟩⟩⟩⟩⟩⟩
theorem lw_p16 : lw_okq (⟨"BellSchool", "fitsSeen", "(II)Z"⟩, 14) := ⟨⟨by decide +kernel, by decide +kernel⟩, List.mem_of_getElem? (i := 19) (by decide +kernel), List.mem_of_getElem? (i := 647) (by decide +kernel), List.mem_of_getElem? (i := 648) (by decide +kernel)⟩
theorem lw_p17 : lw_okq (⟨"BellSchool", "farthestSeen", "()I"⟩, 14) := ⟨⟨by decide +kernel, by decide +kernel⟩, List.mem_of_getElem? (i := 19) (by decide +kernel), List.mem_of_getElem? (i := 651) (by decide +kernel), List.mem_of_getElem? (i := 652) (by decide +kernel)⟩
theorem lw_p18 : lw_okq (⟨"BellSchool", "isSeenAt", "(II)Z"⟩, 14) := ⟨⟨by decide +kernel, by decide +kernel⟩, List.mem_of_getElem? (i := 19) (by decide +kernel), List.mem_of_getElem? (i := 655) (by decide +kernel), List.mem_of_getElem? (i := 656) (by decide +kernel)⟩
theorem lw_p19 : lw_okq (⟨"BellSchool$Measles", "spread", "(LBellSchool$Noon;LBellSchool$Standing;I)V"⟩, 3) := ⟨⟨by decide +kernel, by decide +kernel⟩, List.mem_of_getElem? (i := 244) (by decide +kernel), List.mem_of_getElem? (i := 672) (by decide +kernel), List.mem_of_getElem? (i := 673) (by decide +kernel)⟩
theorem lw_p20 : lw_okq (⟨"BellSchool$Measles", "spreadFrom", "(ILBellSchool$Noon;I)V"⟩, 3) := ⟨⟨by decide +kernel, by decide +kernel⟩, List.mem_of_getElem? (i := 244) (by decide +kernel), List.mem_of_getElem? (i := 678) (by decide +kernel), List.mem_of_getElem? (i := 679) (by decide +kernel)⟩
theorem lw_p21 : lw_okq (⟨"BellSchool", "drawnOn", "(II)I"⟩, 14) := ⟨⟨by decide +kernel, by decide +kernel⟩, List.mem_of_getElem? (i := 19) (by decide +kernel), List.mem_of_getElem? (i := 699) (by decide +kernel), List.mem_of_getElem? (i := 700) (by decide +kernel)⟩
theorem lw_p22 : lw_okq (⟨"BellSchoolModel", "anew", "()V"⟩, 33) := ⟨⟨by decide +kernel, by decide +kernel⟩, List.mem_of_getElem? (i := 741) (by decide +kernel), List.mem_of_getElem? (i := 747) (by decide +kernel), List.mem_of_getElem? (i := 748) (by decide +kernel)⟩
theorem lw_p23 : lw_okq (⟨"BellSchoolModel", "comesHome", "(II)V"⟩, 33) := ⟨⟨by decide +kernel, by decide +kernel⟩, List.mem_of_getElem? (i := 741) (by decide +kernel), List.mem_of_getElem? (i := 751) (by decide +kernel), List.mem_of_getElem? (i := 752) (by decide +kernel)⟩
theorem lw_p24 : lw_okq (⟨"BellSchoolModel", "joins", "(III)V"⟩, 33) := ⟨⟨by decide +kernel, by decide +kernel⟩, List.mem_of_getElem? (i := 741) (by decide +kernel), List.mem_of_getElem? (i := 755) (by decide +kernel), List.mem_of_getElem? (i := 756) (by decide +kernel)⟩
theorem lw_p25 : lw_okq (⟨"BellSchoolModel", "snows", "(IIII)V"⟩, 33) := ⟨⟨by decide +kernel, by decide +kernel⟩, List.mem_of_getElem? (i := 741) (by decide +kernel), List.mem_of_getElem? (i := 759) (by decide +kernel), List.mem_of_getElem? (i := 760) (by decide +kernel)⟩
theorem lw_p26 : lw_okq (⟨"BellSchoolModel", "laid", "()V"⟩, 33) := ⟨⟨by decide +kernel, by decide +kernel⟩, List.mem_of_getElem? (i := 741) (by decide +kernel), List.mem_of_getElem? (i := 763) (by decide +kernel), List.mem_of_getElem? (i := 764) (by decide +kernel)⟩
theorem lw_p27 : lw_okq (⟨"BellSchoolModel", "faultOf", "()I"⟩, 33) := ⟨⟨by decide +kernel, by decide +kernel⟩, List.mem_of_getElem? (i := 741) (by decide +kernel), List.mem_of_getElem? (i := 882) (by decide +kernel), List.mem_of_getElem? (i := 883) (by decide +kernel)⟩
theorem lw_p28 : lw_okq (⟨"BellSchoolModel", "readsItem", "()Z"⟩, 33) := ⟨⟨by decide +kernel, by decide +kernel⟩, List.mem_of_getElem? (i := 741) (by decide +kernel), List.mem_of_getElem? (i := 886) (by decide +kernel), List.mem_of_getElem? (i := 887) (by decide +kernel)⟩
theorem lw_p29 : lw_okq (⟨"BellSchoolModel", "here", "()I"⟩, 33) := ⟨⟨by decide +kernel, by decide +kernel⟩, List.mem_of_getElem? (i := 741) (by decide +kernel), List.mem_of_getElem? (i := 890) (by decide +kernel), List.mem_of_getElem? (i := 891) (by decide +kernel)⟩
theorem lw_p30 : lw_okq (⟨"BellSchoolModel", "readsHome", "()Z"⟩, 33) := ⟨⟨by decide +kernel, by decide +kernel⟩, List.mem_of_getElem? (i := 741) (by decide +kernel), List.mem_of_getElem? (i := 894) (by decide +kernel), List.mem_of_getElem? (i := 895) (by decide +kernel)⟩
theorem lw_p31 : lw_okq (⟨"BellSchoolModel", "numbers", "(I)Z"⟩, 33) := ⟨⟨by decide +kernel, by decide +kernel⟩, List.mem_of_getElem? (i := 741) (by decide +kernel), List.mem_of_getElem? (i := 898) (by decide +kernel), List.mem_of_getElem? (i := 899) (by decide +kernel)⟩
def lw_privs_2 : List (MethodName × Nat) := [(⟨"BellSchool", "fitsSeen", "(II)Z"⟩, 14), (⟨"BellSchool", "farthestSeen", "()I"⟩, 14), (⟨"BellSchool", "isSeenAt", "(II)Z"⟩, 14), (⟨"BellSchool$Measles", "spread", "(LBellSchool$Noon;LBellSchool$Standing;I)V"⟩, 3), (⟨"BellSchool$Measles", "spreadFrom", "(ILBellSchool$Noon;I)V"⟩, 3), (⟨"BellSchool", "drawnOn", "(II)I"⟩, 14), (⟨"BellSchoolModel", "anew", "()V"⟩, 33), (⟨"BellSchoolModel", "comesHome", "(II)V"⟩, 33), (⟨"BellSchoolModel", "joins", "(III)V"⟩, 33), (⟨"BellSchoolModel", "snows", "(IIII)V"⟩, 33), (⟨"BellSchoolModel", "laid", "()V"⟩, 33), (⟨"BellSchoolModel", "faultOf", "()I"⟩, 33), (⟨"BellSchoolModel", "readsItem", "()Z"⟩, 33), (⟨"BellSchoolModel", "here", "()I"⟩, 33), (⟨"BellSchoolModel", "readsHome", "()Z"⟩, 33), (⟨"BellSchoolModel", "numbers", "(I)Z"⟩, 33)]
theorem lw_r2 : ∀ q ∈ lw_privs_2, lw_okq q := List.forall_mem_cons.mpr ⟨lw_p16, List.forall_mem_cons.mpr ⟨lw_p17, List.forall_mem_cons.mpr ⟨lw_p18, List.forall_mem_cons.mpr ⟨lw_p19, List.forall_mem_cons.mpr ⟨lw_p20, List.forall_mem_cons.mpr ⟨lw_p21, List.forall_mem_cons.mpr ⟨lw_p22, List.forall_mem_cons.mpr ⟨lw_p23, List.forall_mem_cons.mpr ⟨lw_p24, List.forall_mem_cons.mpr ⟨lw_p25, List.forall_mem_cons.mpr ⟨lw_p26, List.forall_mem_cons.mpr ⟨lw_p27, List.forall_mem_cons.mpr ⟨lw_p28, List.forall_mem_cons.mpr ⟨lw_p29, List.forall_mem_cons.mpr ⟨lw_p30, List.forall_mem_cons.mpr ⟨lw_p31, fun _ h => absurd h List.not_mem_nil⟩⟩⟩⟩⟩⟩⟩⟩⟩⟩⟩⟩⟩⟩⟩⟩
theorem lw_p32 : lw_okq (⟨"BellSchoolModel", "readsWay", "()Z"⟩, 33) := ⟨⟨by decide +kernel, by decide +kernel⟩, List.mem_of_getElem? (i := 741) (by decide +kernel), List.mem_of_getElem? (i := 902) (by decide +kernel), List.mem_of_getElem? (i := 903) (by decide +kernel)⟩
theorem lw_p33 : lw_okq (⟨"BellSchoolModel", "isTwo", "()Z"⟩, 33) := ⟨⟨by decide +kernel, by decide +kernel⟩, List.mem_of_getElem? (i := 741) (by decide +kernel), List.mem_of_getElem? (i := 906) (by decide +kernel), List.mem_of_getElem? (i := 907) (by decide +kernel)⟩
theorem lw_p34 : lw_okq (⟨"BellSchoolModel", "readsSnow", "()Z"⟩, 33) := ⟨⟨by decide +kernel, by decide +kernel⟩, List.mem_of_getElem? (i := 741) (by decide +kernel), List.mem_of_getElem? (i := 910) (by decide +kernel), List.mem_of_getElem? (i := 911) (by decide +kernel)⟩
theorem lw_p35 : lw_okq (⟨"BellSchoolModel", "readsBell", "()Z"⟩, 33) := ⟨⟨by decide +kernel, by decide +kernel⟩, List.mem_of_getElem? (i := 741) (by decide +kernel), List.mem_of_getElem? (i := 914) (by decide +kernel), List.mem_of_getElem? (i := 915) (by decide +kernel)⟩
theorem lw_p36 : lw_okq (⟨"BellSchoolModel", "readsMost", "()Z"⟩, 33) := ⟨⟨by decide +kernel, by decide +kernel⟩, List.mem_of_getElem? (i := 741) (by decide +kernel), List.mem_of_getElem? (i := 918) (by decide +kernel), List.mem_of_getElem? (i := 919) (by decide +kernel)⟩
theorem lw_p37 : lw_okq (⟨"BellSchoolModel", "isHome", "(I)Z"⟩, 33) := ⟨⟨by decide +kernel, by decide +kernel⟩, List.mem_of_getElem? (i := 741) (by decide +kernel), List.mem_of_getElem? (i := 930) (by decide +kernel), List.mem_of_getElem? (i := 931) (by decide +kernel)⟩
theorem lw_p38 : lw_okq (⟨"BellSchoolModel", "isOpen", "([III)Z"⟩, 33) := ⟨⟨by decide +kernel, by decide +kernel⟩, List.mem_of_getElem? (i := 741) (by decide +kernel), List.mem_of_getElem? (i := 938) (by decide +kernel), List.mem_of_getElem? (i := 939) (by decide +kernel)⟩
theorem lw_p39 : lw_okq (⟨"BellSchoolModel", "layMinutes", "([II)V"⟩, 33) := ⟨⟨by decide +kernel, by decide +kernel⟩, List.mem_of_getElem? (i := 741) (by decide +kernel), List.mem_of_getElem? (i := 952) (by decide +kernel), List.mem_of_getElem? (i := 953) (by decide +kernel)⟩
theorem lw_p40 : lw_okq (⟨"BellSchoolModel", "arrives", "([II)I"⟩, 33) := ⟨⟨by decide +kernel, by decide +kernel⟩, List.mem_of_getElem? (i := 741) (by decide +kernel), List.mem_of_getElem? (i := 961) (by decide +kernel), List.mem_of_getElem? (i := 962) (by decide +kernel)⟩
theorem lw_p41 : lw_okq (⟨"BellSchoolModel", "latest", "([II)I"⟩, 33) := ⟨⟨by decide +kernel, by decide +kernel⟩, List.mem_of_getElem? (i := 741) (by decide +kernel), List.mem_of_getElem? (i := 969) (by decide +kernel), List.mem_of_getElem? (i := 970) (by decide +kernel)⟩
theorem lw_p42 : lw_okq (⟨"BellSchoolModel", "remember", "()V"⟩, 33) := ⟨⟨by decide +kernel, by decide +kernel⟩, List.mem_of_getElem? (i := 741) (by decide +kernel), List.mem_of_getElem? (i := 977) (by decide +kernel), List.mem_of_getElem? (i := 978) (by decide +kernel)⟩
theorem lw_p43 : lw_okq (⟨"BellSchoolModel", "goesBy", "([I)V"⟩, 33) := ⟨⟨by decide +kernel, by decide +kernel⟩, List.mem_of_getElem? (i := 741) (by decide +kernel), List.mem_of_getElem? (i := 981) (by decide +kernel), List.mem_of_getElem? (i := 982) (by decide +kernel)⟩
theorem lw_p44 : lw_okq (⟨"BellSchoolModel", "copyNow", "()V"⟩, 33) := ⟨⟨by decide +kernel, by decide +kernel⟩, List.mem_of_getElem? (i := 741) (by decide +kernel), List.mem_of_getElem? (i := 1005) (by decide +kernel), List.mem_of_getElem? (i := 1006) (by decide +kernel)⟩
theorem lw_p45 : lw_okq (⟨"BellSchoolModel", "layYet", "()V"⟩, 33) := ⟨⟨by decide +kernel, by decide +kernel⟩, List.mem_of_getElem? (i := 741) (by decide +kernel), List.mem_of_getElem? (i := 1017) (by decide +kernel), List.mem_of_getElem? (i := 1018) (by decide +kernel)⟩
theorem lw_p46 : lw_okq (⟨"BellSchoolModel", "layNexts", "()V"⟩, 33) := ⟨⟨by decide +kernel, by decide +kernel⟩, List.mem_of_getElem? (i := 741) (by decide +kernel), List.mem_of_getElem? (i := 1021) (by decide +kernel), List.mem_of_getElem? (i := 1022) (by decide +kernel)⟩
theorem lw_p47 : lw_okq (⟨"BellSchoolModel", "byChoice", "(IIII)I"⟩, 33) := ⟨⟨by decide +kernel, by decide +kernel⟩, List.mem_of_getElem? (i := 741) (by decide +kernel), List.mem_of_getElem? (i := 1028) (by decide +kernel), List.mem_of_getElem? (i := 1029) (by decide +kernel)⟩
def lw_privs_3 : List (MethodName × Nat) := [(⟨"BellSchoolModel", "readsWay", "()Z"⟩, 33), (⟨"BellSchoolModel", "isTwo", "()Z"⟩, 33), (⟨"BellSchoolModel", "readsSnow", "()Z"⟩, 33), (⟨"BellSchoolModel", "readsBell", "()Z"⟩, 33), (⟨"BellSchoolModel", "readsMost", "()Z"⟩, 33), (⟨"BellSchoolModel", "isHome", "(I)Z"⟩, 33), (⟨"BellSchoolModel", "isOpen", "([III)Z"⟩, 33), (⟨"BellSchoolModel", "layMinutes", "([II)V"⟩, 33), (⟨"BellSchoolModel", "arrives", "([II)I"⟩, 33), (⟨"BellSchoolModel", "latest", "([II)I"⟩, 33), (⟨"BellSchoolModel", "remember", "()V"⟩, 33), (⟨"BellSchoolModel", "goesBy", "([I)V"⟩, 33), (⟨"BellSchoolModel", "copyNow", "()V"⟩, 33), (⟨"BellSchoolModel", "layYet", "()V"⟩, 33), (⟨"BellSchoolModel", "layNexts", "()V"⟩, 33), (⟨"BellSchoolModel", "byChoice", "(IIII)I"⟩, 33)]
theorem lw_r3 : ∀ q ∈ lw_privs_3, lw_okq q := List.forall_mem_cons.mpr ⟨lw_p32, List.forall_mem_cons.mpr ⟨lw_p33, List.forall_mem_cons.mpr ⟨lw_p34, List.forall_mem_cons.mpr ⟨lw_p35, List.forall_mem_cons.mpr ⟨lw_p36, List.forall_mem_cons.mpr ⟨lw_p37, List.forall_mem_cons.mpr ⟨lw_p38, List.forall_mem_cons.mpr ⟨lw_p39, List.forall_mem_cons.mpr ⟨lw_p40, List.forall_mem_cons.mpr ⟨lw_p41, List.forall_mem_cons.mpr ⟨lw_p42, List.forall_mem_cons.mpr ⟨lw_p43, List.forall_mem_cons.mpr ⟨lw_p44, List.forall_mem_cons.mpr ⟨lw_p45, List.forall_mem_cons.mpr ⟨lw_p46, List.forall_mem_cons.mpr ⟨lw_p47, fun _ h => absurd h List.not_mem_nil⟩⟩⟩⟩⟩⟩⟩⟩⟩⟩⟩⟩⟩⟩⟩⟩
theorem lw_p48 : lw_okq (⟨"BellSchoolModel", "isSo", "()Z"⟩, 33) := ⟨⟨by decide +kernel, by decide +kernel⟩, List.mem_of_getElem? (i := 741) (by decide +kernel), List.mem_of_getElem? (i := 1055) (by decide +kernel), List.mem_of_getElem? (i := 1056) (by decide +kernel)⟩
theorem lw_p49 : lw_okq (⟨"BellSchoolModel", "spreads", "(II)V"⟩, 33) := ⟨⟨by decide +kernel, by decide +kernel⟩, List.mem_of_getElem? (i := 741) (by decide +kernel), List.mem_of_getElem? (i := 1068) (by decide +kernel), List.mem_of_getElem? (i := 1069) (by decide +kernel)⟩
theorem lw_p50 : lw_okq (⟨"BellSchoolModel", "wayMany", "()I"⟩, 33) := ⟨⟨by decide +kernel, by decide +kernel⟩, List.mem_of_getElem? (i := 741) (by decide +kernel), List.mem_of_getElem? (i := 1099) (by decide +kernel), List.mem_of_getElem? (i := 1100) (by decide +kernel)⟩
def lw_privs_4 : List (MethodName × Nat) := [(⟨"BellSchoolModel", "isSo", "()Z"⟩, 33), (⟨"BellSchoolModel", "spreads", "(II)V"⟩, 33), (⟨"BellSchoolModel", "wayMany", "()I"⟩, 33)]
theorem lw_r4 : ∀ q ∈ lw_privs_4, lw_okq q := List.forall_mem_cons.mpr ⟨lw_p48, List.forall_mem_cons.mpr ⟨lw_p49, List.forall_mem_cons.mpr ⟨lw_p50, fun _ h => absurd h List.not_mem_nil⟩⟩⟩
def lw_privs : List (MethodName × Nat) := lw_privs_1 ++ (lw_privs_2 ++ (lw_privs_3 ++ (lw_privs_4)))
def lw_tbl : List Cond := k2_sels lw_privs ++ tables_1
theorem lw_privs_ok : ∀ q ∈ lw_privs, lw_okq q := by
  show ∀ q ∈ lw_privs_1 ++ (lw_privs_2 ++ (lw_privs_3 ++ (lw_privs_4))), lw_okq q
  exact List.forall_mem_append.mpr ⟨lw_r1, List.forall_mem_append.mpr ⟨lw_r2, List.forall_mem_append.mpr ⟨lw_r3, lw_r4⟩⟩⟩
-- ===== the good words of the tables, all of them; one list for every method =====
def TB : List Cond := lw_tbl.filter goodWord
theorem tb_in {w : Cond} (h : w ∈ lw_tbl) (g : goodWord w = true) : w ∈ TB := List.mem_filter.mpr ⟨h, g⟩
theorem tb_good {big : List Cond} (h : ∀ w ∈ TB, w ∈ big) : GoodIn big TB := fun w hw => ⟨h w hw, good_of_word (List.mem_filter.mp hw).2⟩
theorem tb_hts {args : Array Value} {s : State} (h : ∀ w ∈ lw_tbl, w.before args s = true) : ∀ w ∈ TB, w.before args s = true := fun w hw => h w (List.mem_filter.mp hw).1
theorem lw_in {w : Cond} (h : w ∈ tables_1) : w ∈ lw_tbl := List.mem_append_right _ h
theorem lw_i1 {w : Cond} (i : Nat) (h : tables_1_1[i]? = some w) : w ∈ lw_tbl := lw_in (List.mem_append_left _ (List.mem_of_getElem? h))
theorem lw_i2 {w : Cond} (i : Nat) (h : tables_1_2[i]? = some w) : w ∈ lw_tbl := lw_in (List.mem_append_right _ (List.mem_append_left _ (List.mem_of_getElem? h)))
theorem lw_i3 {w : Cond} (i : Nat) (h : tables_1_3[i]? = some w) : w ∈ lw_tbl := lw_in (List.mem_append_right _ (List.mem_append_right _ (List.mem_append_left _ (List.mem_of_getElem? h))))
theorem lw_i4 {w : Cond} (i : Nat) (h : tables_1_4[i]? = some w) : w ∈ lw_tbl := lw_in (List.mem_append_right _ (List.mem_append_right _ (List.mem_append_right _ (List.mem_append_left _ (List.mem_of_getElem? h)))))
theorem lw_i5 {w : Cond} (i : Nat) (h : tables_1_5[i]? = some w) : w ∈ lw_tbl := lw_in (List.mem_append_right _ (List.mem_append_right _ (List.mem_append_right _ (List.mem_append_right _ (List.mem_of_getElem? h)))))
theorem lw_s {w : Cond} (i : Nat) (h : (k2_sels lw_privs)[i]? = some w) : w ∈ lw_tbl := List.mem_append_left _ (List.mem_of_getElem? h)
def RX0 : String := "BellSchool$Measles"
def TX0 : u_T := fun k => match k with
  | 0 => ("BellSchool$Measles", "chance", "[J", true)
  | 1 => ("BellSchool$Measles", "then", "[J", true)
  | _ => ("BellSchool$Measles", "below", "J", false)
def tyX0 : Nat → FieldType := fun k => match k with
  | 0 => .array .long
  | 1 => .array .long
  | _ => .long
abbrev wsX00 : List Cond := u_ws RX0 TX0 3
theorem nmX0 : ∀ a, a < 3 → ∀ b, b < 3 → a ≠ b → (TX0 a).2.1 ≠ (TX0 b).2.1 := by decide +kernel
theorem tyX0_ok : ∀ k, k < 3 → parseFieldDescriptor (TX0 k).2.2.1 = some (tyX0 k) := by decide +kernel
def RX1 : String := "BellSchool$Noon"
def TX1 : u_T := fun k => match k with
  | 0 => ("BellSchool$Noon", "fars", "[I", true)
  | 1 => ("BellSchool$Noon", "shutThen", "[J", true)
  | 2 => ("BellSchool$Noon", "valley", "LBellSchool$Valley;", false)
  | 3 => ("BellSchool$Noon", "times", "[I", true)
  | 4 => ("BellSchool$Noon", "latest", "I", false)
  | _ => ("BellSchool$Noon", "comers", "I", false)
def tyX1 : Nat → FieldType := fun k => match k with
  | 0 => .array .int
  | 1 => .array .long
  | 2 => .object "BellSchool$Valley"
  | 3 => .array .int
  | 4 => .int
  | _ => .int
abbrev wsX10 : List Cond := u_ws RX1 TX1 6
theorem nmX1 : ∀ a, a < 6 → ∀ b, b < 6 → a ≠ b → (TX1 a).2.1 ≠ (TX1 b).2.1 := by decide +kernel
theorem tyX1_ok : ∀ k, k < 6 → parseFieldDescriptor (TX1 k).2.2.1 = some (tyX1 k) := by decide +kernel
def RX2 : String := "BellSchool$Reader"
def TX2 : u_T := fun k => match k with
  | 0 => ("BellSchool$Reader", "number", "[I", true)
  | _ => ("BellSchool$Reader", "place", "I", false)
def tyX2 : Nat → FieldType := fun k => match k with
  | 0 => .array .int
  | _ => .int
abbrev wsX20 : List Cond := u_ws RX2 TX2 2
theorem nmX2 : ∀ a, a < 2 → ∀ b, b < 2 → a ≠ b → (TX2 a).2.1 ≠ (TX2 b).2.1 := by decide +kernel
theorem tyX2_ok : ∀ k, k < 2 → parseFieldDescriptor (TX2 k).2.2.1 = some (tyX2 k) := by decide +kernel
def RX3 : String := "BellSchool$Search"
def TX3 : u_T := fun k => match k with
  | 0 => ("BellSchool$Search", "reached", "[J", true)
  | 1 => ("BellSchool$Search", "hopeful", "[J", true)
  | 2 => ("BellSchool$Search", "next", "[I", true)
  | 3 => ("BellSchool$Search", "numbers", "[I", true)
  | 4 => ("BellSchool$Search", "asked", "LBellSchool$Standing;", true)
  | 5 => ("BellSchool$Search", "dream", "LBellSchool$Standing;", true)
  | 6 => ("BellSchool$Search", "homes", "I", false)
  | 7 => ("BellSchool$Search", "whole", "I", false)
  | 8 => ("BellSchool$Search", "row", "[I", true)
  | 9 => ("BellSchool$Search", "days", "I", false)
  | _ => ("BellSchool$Search", "known", "Z", false)
def tyX3 : Nat → FieldType := fun k => match k with
  | 0 => .array .long
  | 1 => .array .long
  | 2 => .array .int
  | 3 => .array .int
  | 4 => .object "BellSchool$Standing"
  | 5 => .object "BellSchool$Standing"
  | 6 => .int
  | 7 => .int
  | 8 => .array .int
  | 9 => .int
  | _ => .boolean
abbrev wsX30 : List Cond := u_ws RX3 TX3 11
theorem nmX3 : ∀ a, a < 11 → ∀ b, b < 11 → a ≠ b → (TX3 a).2.1 ≠ (TX3 b).2.1 := by decide +kernel
theorem tyX3_ok : ∀ k, k < 11 → parseFieldDescriptor (TX3 k).2.2.1 = some (tyX3 k) := by decide +kernel
def RX4 : String := "BellSchool$Shelf"
def TX4 : u_T := fun k => match k with
  | 0 => ("BellSchool$Shelf", "rows", "[LBellSchool$Standing;", true)
  | _ => ("BellSchool$Shelf", "size", "I", false)
def tyX4 : Nat → FieldType := fun k => match k with
  | 0 => .array (.object "BellSchool$Standing")
  | _ => .int
abbrev wsX40 : List Cond := u_ws RX4 TX4 2
theorem nmX4 : ∀ a, a < 2 → ∀ b, b < 2 → a ≠ b → (TX4 a).2.1 ≠ (TX4 b).2.1 := by decide +kernel
theorem tyX4_ok : ∀ k, k < 2 → parseFieldDescriptor (TX4 k).2.2.1 = some (tyX4 k) := by decide +kernel
def RX5 : String := "BellSchool$Standing"
def TX5 : u_T := fun k => match k with
  | 0 => ("BellSchool$Standing", "soups", "[I", true)
  | 1 => ("BellSchool$Standing", "day", "I", false)
  | 2 => ("BellSchool$Standing", "bell", "I", false)
  | 3 => ("BellSchool$Standing", "held", "I", false)
  | 4 => ("BellSchool$Standing", "sick", "I", false)
  | 5 => ("BellSchool$Standing", "had", "I", false)
  | _ => ("BellSchool$Standing", "shut", "J", false)
def tyX5 : Nat → FieldType := fun k => match k with
  | 0 => .array .int
  | 1 => .int
  | 2 => .int
  | 3 => .int
  | 4 => .int
  | 5 => .int
  | _ => .long
abbrev wsX50 : List Cond := u_ws RX5 TX5 7
theorem nmX5 : ∀ a, a < 7 → ∀ b, b < 7 → a ≠ b → (TX5 a).2.1 ≠ (TX5 b).2.1 := by decide +kernel
theorem tyX5_ok : ∀ k, k < 7 → parseFieldDescriptor (TX5 k).2.2.1 = some (tyX5 k) := by decide +kernel
def RX6 : String := "BellSchool$Text"
def TX6 : u_T := fun k => match k with
  | 0 => ("BellSchool$Text", "letters", "[C", true)
  | _ => ("BellSchool$Text", "length", "I", false)
def tyX6 : Nat → FieldType := fun k => match k with
  | 0 => .array .char
  | _ => .int
abbrev wsX60 : List Cond := u_ws RX6 TX6 2
theorem nmX6 : ∀ a, a < 2 → ∀ b, b < 2 → a ≠ b → (TX6 a).2.1 ≠ (TX6 b).2.1 := by decide +kernel
theorem tyX6_ok : ∀ k, k < 2 → parseFieldDescriptor (TX6 k).2.2.1 = some (tyX6 k) := by decide +kernel
def RX7 : String := "BellSchool$Valley"
def TX7 : u_T := fun k => match k with
  | 0 => ("BellSchool$Valley", "kind", "[I", true)
  | 1 => ("BellSchool$Valley", "late", "[I", true)
  | 2 => ("BellSchool$Valley", "minutes", "[I", true)
  | 3 => ("BellSchool$Valley", "snowFrom", "[I", true)
  | 4 => ("BellSchool$Valley", "snowTo", "[I", true)
  | 5 => ("BellSchool$Valley", "homes", "I", false)
  | 6 => ("BellSchool$Valley", "bell", "I", false)
  | _ => ("BellSchool$Valley", "farthest", "I", false)
def tyX7 : Nat → FieldType := fun k => match k with
  | 0 => .array .int
  | 1 => .array .int
  | 2 => .array .int
  | 3 => .array .int
  | 4 => .array .int
  | 5 => .int
  | 6 => .int
  | _ => .int
abbrev wsX70 : List Cond := u_ws RX7 TX7 8
theorem nmX7 : ∀ a, a < 8 → ∀ b, b < 8 → a ≠ b → (TX7 a).2.1 ≠ (TX7 b).2.1 := by decide +kernel
theorem tyX7_ok : ∀ k, k < 8 → parseFieldDescriptor (TX7 k).2.2.1 = some (tyX7 k) := by decide +kernel
def RX8 : String := "BellSchool"
def TX8 : u_T := fun k => match k with
  | 0 => ("BellSchool", "valley", "LBellSchool$Valley;", false)
  | 1 => ("BellSchool", "draft", "LBellSchool$Valley;", false)
  | 2 => ("BellSchool", "text", "LBellSchool$Text;", true)
  | 3 => ("BellSchool", "reader", "LBellSchool$Reader;", true)
  | 4 => ("BellSchool", "noon", "LBellSchool$Noon;", true)
  | 5 => ("BellSchool", "now", "LBellSchool$Standing;", true)
  | 6 => ("BellSchool", "dream", "LBellSchool$Standing;", true)
  | 7 => ("BellSchool", "undoable", "LBellSchool$Shelf;", true)
  | 8 => ("BellSchool", "kept", "LBellSchool$Shelf;", true)
  | 9 => ("BellSchool", "search", "LBellSchool$Search;", true)
  | 10 => ("BellSchool", "chances", "LBellSchool$Measles;", true)
  | 11 => ("BellSchool", "seenHome", "[I", true)
  | 12 => ("BellSchool", "seenDays", "[I", true)
  | _ => ("BellSchool", "seen", "I", false)
def tyX8 : Nat → FieldType := fun k => match k with
  | 0 => .object "BellSchool$Valley"
  | 1 => .object "BellSchool$Valley"
  | 2 => .object "BellSchool$Text"
  | 3 => .object "BellSchool$Reader"
  | 4 => .object "BellSchool$Noon"
  | 5 => .object "BellSchool$Standing"
  | 6 => .object "BellSchool$Standing"
  | 7 => .object "BellSchool$Shelf"
  | 8 => .object "BellSchool$Shelf"
  | 9 => .object "BellSchool$Search"
  | 10 => .object "BellSchool$Measles"
  | 11 => .array .int
  | 12 => .array .int
  | _ => .int
abbrev wsX80 : List Cond := u_ws RX8 TX8 14
theorem nmX8 : ∀ a, a < 14 → ∀ b, b < 14 → a ≠ b → (TX8 a).2.1 ≠ (TX8 b).2.1 := by decide +kernel
theorem tyX8_ok : ∀ k, k < 14 → parseFieldDescriptor (TX8 k).2.2.1 = some (tyX8 k) := by decide +kernel
def RX9 : String := "BellSchoolModel"
def TX9 : u_T := fun k => match k with
  | 0 => ("BellSchoolModel", "letterMany", "I", false)
  | 1 => ("BellSchoolModel", "text", "[I", true)
  | 2 => ("BellSchoolModel", "readAt", "I", false)
  | 3 => ("BellSchoolModel", "readHomes", "I", false)
  | 4 => ("BellSchoolModel", "readBell", "I", false)
  | 5 => ("BellSchoolModel", "readMost", "I", false)
  | 6 => ("BellSchoolModel", "readKinds", "[I", true)
  | 7 => ("BellSchoolModel", "readLate", "[I", true)
  | 8 => ("BellSchoolModel", "readWays", "[I", true)
  | 9 => ("BellSchoolModel", "readFrom", "[I", true)
  | 10 => ("BellSchoolModel", "readTo", "[I", true)
  | 11 => ("BellSchoolModel", "told", "[I", true)
  | 12 => ("BellSchoolModel", "n", "I", false)
  | 13 => ("BellSchoolModel", "most", "I", false)
  | 14 => ("BellSchoolModel", "kinds", "[I", true)
  | 15 => ("BellSchoolModel", "late", "[I", true)
  | 16 => ("BellSchoolModel", "ways", "[I", true)
  | 17 => ("BellSchoolModel", "from", "[I", true)
  | 18 => ("BellSchoolModel", "to", "[I", true)
  | 19 => ("BellSchoolModel", "now", "[I", true)
  | 20 => ("BellSchoolModel", "tried", "[I", true)
  | 21 => ("BellSchoolModel", "minutes", "[I", true)
  | 22 => ("BellSchoolModel", "undoMany", "I", false)
  | 23 => ("BellSchoolModel", "undoAt", "I", false)
  | 24 => ("BellSchoolModel", "undos", "[I", true)
  | 25 => ("BellSchoolModel", "nexts", "[I", true)
  | 26 => ("BellSchoolModel", "yet", "[I", true)
  | 27 => ("BellSchoolModel", "seenMany", "I", false)
  | 28 => ("BellSchoolModel", "seen", "[I", true)
  | 29 => ("BellSchoolModel", "chances", "[J", true)
  | 30 => ("BellSchoolModel", "then", "[J", true)
  | 31 => ("BellSchoolModel", "keptMany", "I", false)
  | _ => ("BellSchoolModel", "kept", "[I", true)
def tyX9 : Nat → FieldType := fun k => match k with
  | 0 => .int
  | 1 => .array .int
  | 2 => .int
  | 3 => .int
  | 4 => .int
  | 5 => .int
  | 6 => .array .int
  | 7 => .array .int
  | 8 => .array .int
  | 9 => .array .int
  | 10 => .array .int
  | 11 => .array .int
  | 12 => .int
  | 13 => .int
  | 14 => .array .int
  | 15 => .array .int
  | 16 => .array .int
  | 17 => .array .int
  | 18 => .array .int
  | 19 => .array .int
  | 20 => .array .int
  | 21 => .array .int
  | 22 => .int
  | 23 => .int
  | 24 => .array .int
  | 25 => .array .int
  | 26 => .array .int
  | 27 => .int
  | 28 => .array .int
  | 29 => .array .long
  | 30 => .array .long
  | 31 => .int
  | _ => .array .int
abbrev wsX90 : List Cond := u_ws RX9 TX9 33
theorem nmX9 : ∀ a, a < 33 → ∀ b, b < 33 → a ≠ b → (TX9 a).2.1 ≠ (TX9 b).2.1 := by decide +kernel
theorem tyX9_ok : ∀ k, k < 33 → parseFieldDescriptor (TX9 k).2.2.1 = some (tyX9 k) := by decide +kernel
abbrev CLS : List vw_C := [(RX0, TX0, 3), (RX1, TX1, 6), (RX2, TX2, 2), (RX3, TX3, 11), (RX4, TX4, 2), (RX5, TX5, 7), (RX6, TX6, 2), (RX7, TX7, 8), (RX8, TX8, 14), (RX9, TX9, 33)]
theorem inX0 : ∀ w ∈ u_ws RX0 TX0 3, w ∈ TB := by
  intro w hw
  obtain ⟨j, hj, rfl⟩ := List.mem_map.mp hw
  have hj2 : j < 3 := List.mem_range.mp hj
  match j, hj2 with
  | 0, _ => exact tb_in (lw_i2 14 (by decide +kernel)) (by decide +kernel)
  | 1, _ => exact tb_in (lw_i2 16 (by decide +kernel)) (by decide +kernel)
  | 2, _ => exact tb_in (lw_i2 18 (by decide +kernel)) (by decide +kernel)
  | n + 3, h => exact absurd h (by omega)
theorem inX1 : ∀ w ∈ u_ws RX1 TX1 6, w ∈ TB := by
  intro w hw
  obtain ⟨j, hj, rfl⟩ := List.mem_map.mp hw
  have hj2 : j < 6 := List.mem_range.mp hj
  match j, hj2 with
  | 0, _ => exact tb_in (lw_i1 115 (by decide +kernel)) (by decide +kernel)
  | 1, _ => exact tb_in (lw_i1 117 (by decide +kernel)) (by decide +kernel)
  | 2, _ => exact tb_in (lw_i1 119 (by decide +kernel)) (by decide +kernel)
  | 3, _ => exact tb_in (lw_i1 121 (by decide +kernel)) (by decide +kernel)
  | 4, _ => exact tb_in (lw_i1 123 (by decide +kernel)) (by decide +kernel)
  | 5, _ => exact tb_in (lw_i1 125 (by decide +kernel)) (by decide +kernel)
  | n + 6, h => exact absurd h (by omega)
theorem inX2 : ∀ w ∈ u_ws RX2 TX2 2, w ∈ TB := by
  intro w hw
  obtain ⟨j, hj, rfl⟩ := List.mem_map.mp hw
  have hj2 : j < 2 := List.mem_range.mp hj
  match j, hj2 with
  | 0, _ => exact tb_in (lw_i1 93 (by decide +kernel)) (by decide +kernel)
  | 1, _ => exact tb_in (lw_i1 95 (by decide +kernel)) (by decide +kernel)
  | n + 2, h => exact absurd h (by omega)
theorem inX3 : ∀ w ∈ u_ws RX3 TX3 11, w ∈ TB := by
  intro w hw
  obtain ⟨j, hj, rfl⟩ := List.mem_map.mp hw
  have hj2 : j < 11 := List.mem_range.mp hj
  match j, hj2 with
  | 0, _ => exact tb_in (lw_i1 220 (by decide +kernel)) (by decide +kernel)
  | 1, _ => exact tb_in (lw_i1 222 (by decide +kernel)) (by decide +kernel)
  | 2, _ => exact tb_in (lw_i1 224 (by decide +kernel)) (by decide +kernel)
  | 3, _ => exact tb_in (lw_i1 226 (by decide +kernel)) (by decide +kernel)
  | 4, _ => exact tb_in (lw_i1 228 (by decide +kernel)) (by decide +kernel)
  | 5, _ => exact tb_in (lw_i1 230 (by decide +kernel)) (by decide +kernel)
  | 6, _ => exact tb_in (lw_i1 232 (by decide +kernel)) (by decide +kernel)
  | 7, _ => exact tb_in (lw_i1 234 (by decide +kernel)) (by decide +kernel)
  | 8, _ => exact tb_in (lw_i1 236 (by decide +kernel)) (by decide +kernel)
  | 9, _ => exact tb_in (lw_i1 238 (by decide +kernel)) (by decide +kernel)
  | 10, _ => exact tb_in (lw_i2 0 (by decide +kernel)) (by decide +kernel)
  | n + 11, h => exact absurd h (by omega)
theorem inX4 : ∀ w ∈ u_ws RX4 TX4 2, w ∈ TB := by
  intro w hw
  obtain ⟨j, hj, rfl⟩ := List.mem_map.mp hw
  have hj2 : j < 2 := List.mem_range.mp hj
  match j, hj2 with
  | 0, _ => exact tb_in (lw_i1 193 (by decide +kernel)) (by decide +kernel)
  | 1, _ => exact tb_in (lw_i1 195 (by decide +kernel)) (by decide +kernel)
  | n + 2, h => exact absurd h (by omega)
theorem inX5 : ∀ w ∈ u_ws RX5 TX5 7, w ∈ TB := by
  intro w hw
  obtain ⟨j, hj, rfl⟩ := List.mem_map.mp hw
  have hj2 : j < 7 := List.mem_range.mp hj
  match j, hj2 with
  | 0, _ => exact tb_in (lw_i1 163 (by decide +kernel)) (by decide +kernel)
  | 1, _ => exact tb_in (lw_i1 165 (by decide +kernel)) (by decide +kernel)
  | 2, _ => exact tb_in (lw_i1 167 (by decide +kernel)) (by decide +kernel)
  | 3, _ => exact tb_in (lw_i1 169 (by decide +kernel)) (by decide +kernel)
  | 4, _ => exact tb_in (lw_i1 171 (by decide +kernel)) (by decide +kernel)
  | 5, _ => exact tb_in (lw_i1 173 (by decide +kernel)) (by decide +kernel)
  | 6, _ => exact tb_in (lw_i1 175 (by decide +kernel)) (by decide +kernel)
  | n + 7, h => exact absurd h (by omega)
theorem inX6 : ∀ w ∈ u_ws RX6 TX6 2, w ∈ TB := by
  intro w hw
  obtain ⟨j, hj, rfl⟩ := List.mem_map.mp hw
  have hj2 : j < 2 := List.mem_range.mp hj
  match j, hj2 with
  | 0, _ => exact tb_in (lw_i1 79 (by decide +kernel)) (by decide +kernel)
  | 1, _ => exact tb_in (lw_i1 81 (by decide +kernel)) (by decide +kernel)
  | n + 2, h => exact absurd h (by omega)
theorem inX7 : ∀ w ∈ u_ws RX7 TX7 8, w ∈ TB := by
  intro w hw
  obtain ⟨j, hj, rfl⟩ := List.mem_map.mp hw
  have hj2 : j < 8 := List.mem_range.mp hj
  match j, hj2 with
  | 0, _ => exact tb_in (lw_i1 50 (by decide +kernel)) (by decide +kernel)
  | 1, _ => exact tb_in (lw_i1 52 (by decide +kernel)) (by decide +kernel)
  | 2, _ => exact tb_in (lw_i1 54 (by decide +kernel)) (by decide +kernel)
  | 3, _ => exact tb_in (lw_i1 56 (by decide +kernel)) (by decide +kernel)
  | 4, _ => exact tb_in (lw_i1 58 (by decide +kernel)) (by decide +kernel)
  | 5, _ => exact tb_in (lw_i1 60 (by decide +kernel)) (by decide +kernel)
  | 6, _ => exact tb_in (lw_i1 62 (by decide +kernel)) (by decide +kernel)
  | 7, _ => exact tb_in (lw_i1 64 (by decide +kernel)) (by decide +kernel)
  | n + 8, h => exact absurd h (by omega)
theorem inX8 : ∀ w ∈ u_ws RX8 TX8 14, w ∈ TB := by
  intro w hw
  obtain ⟨j, hj, rfl⟩ := List.mem_map.mp hw
  have hj2 : j < 14 := List.mem_range.mp hj
  match j, hj2 with
  | 0, _ => exact tb_in (lw_i2 163 (by decide +kernel)) (by decide +kernel)
  | 1, _ => exact tb_in (lw_i2 165 (by decide +kernel)) (by decide +kernel)
  | 2, _ => exact tb_in (lw_i2 167 (by decide +kernel)) (by decide +kernel)
  | 3, _ => exact tb_in (lw_i2 169 (by decide +kernel)) (by decide +kernel)
  | 4, _ => exact tb_in (lw_i2 171 (by decide +kernel)) (by decide +kernel)
  | 5, _ => exact tb_in (lw_i2 173 (by decide +kernel)) (by decide +kernel)
  | 6, _ => exact tb_in (lw_i2 175 (by decide +kernel)) (by decide +kernel)
  | 7, _ => exact tb_in (lw_i2 177 (by decide +kernel)) (by decide +kernel)
  | 8, _ => exact tb_in (lw_i2 179 (by decide +kernel)) (by decide +kernel)
  | 9, _ => exact tb_in (lw_i2 181 (by decide +kernel)) (by decide +kernel)
  | 10, _ => exact tb_in (lw_i2 183 (by decide +kernel)) (by decide +kernel)
  | 11, _ => exact tb_in (lw_i2 185 (by decide +kernel)) (by decide +kernel)
  | 12, _ => exact tb_in (lw_i2 187 (by decide +kernel)) (by decide +kernel)
  | 13, _ => exact tb_in (lw_i2 189 (by decide +kernel)) (by decide +kernel)
  | n + 14, h => exact absurd h (by omega)
theorem inX9 : ∀ w ∈ u_ws RX9 TX9 33, w ∈ TB := by
  intro w hw
  obtain ⟨j, hj, rfl⟩ := List.mem_map.mp hw
  have hj2 : j < 33 := List.mem_range.mp hj
  match j, hj2 with
  | 0, _ => exact tb_in (lw_i4 79 (by decide +kernel)) (by decide +kernel)
  | 1, _ => exact tb_in (lw_i4 81 (by decide +kernel)) (by decide +kernel)
  | 2, _ => exact tb_in (lw_i4 83 (by decide +kernel)) (by decide +kernel)
  | 3, _ => exact tb_in (lw_i4 85 (by decide +kernel)) (by decide +kernel)
  | 4, _ => exact tb_in (lw_i4 87 (by decide +kernel)) (by decide +kernel)
  | 5, _ => exact tb_in (lw_i4 89 (by decide +kernel)) (by decide +kernel)
  | 6, _ => exact tb_in (lw_i4 91 (by decide +kernel)) (by decide +kernel)
  | 7, _ => exact tb_in (lw_i4 93 (by decide +kernel)) (by decide +kernel)
  | 8, _ => exact tb_in (lw_i4 95 (by decide +kernel)) (by decide +kernel)
  | 9, _ => exact tb_in (lw_i4 97 (by decide +kernel)) (by decide +kernel)
  | 10, _ => exact tb_in (lw_i4 99 (by decide +kernel)) (by decide +kernel)
  | 11, _ => exact tb_in (lw_i4 101 (by decide +kernel)) (by decide +kernel)
  | 12, _ => exact tb_in (lw_i4 103 (by decide +kernel)) (by decide +kernel)
  | 13, _ => exact tb_in (lw_i4 105 (by decide +kernel)) (by decide +kernel)
  | 14, _ => exact tb_in (lw_i4 107 (by decide +kernel)) (by decide +kernel)
  | 15, _ => exact tb_in (lw_i4 109 (by decide +kernel)) (by decide +kernel)
  | 16, _ => exact tb_in (lw_i4 111 (by decide +kernel)) (by decide +kernel)
  | 17, _ => exact tb_in (lw_i4 113 (by decide +kernel)) (by decide +kernel)
  | 18, _ => exact tb_in (lw_i4 115 (by decide +kernel)) (by decide +kernel)
  | 19, _ => exact tb_in (lw_i4 117 (by decide +kernel)) (by decide +kernel)
  | 20, _ => exact tb_in (lw_i4 119 (by decide +kernel)) (by decide +kernel)
  | 21, _ => exact tb_in (lw_i4 121 (by decide +kernel)) (by decide +kernel)
  | 22, _ => exact tb_in (lw_i4 123 (by decide +kernel)) (by decide +kernel)
  | 23, _ => exact tb_in (lw_i4 125 (by decide +kernel)) (by decide +kernel)
  | 24, _ => exact tb_in (lw_i4 127 (by decide +kernel)) (by decide +kernel)
  | 25, _ => exact tb_in (lw_i4 129 (by decide +kernel)) (by decide +kernel)
  | 26, _ => exact tb_in (lw_i4 131 (by decide +kernel)) (by decide +kernel)
  | 27, _ => exact tb_in (lw_i4 133 (by decide +kernel)) (by decide +kernel)
  | 28, _ => exact tb_in (lw_i4 135 (by decide +kernel)) (by decide +kernel)
  | 29, _ => exact tb_in (lw_i4 137 (by decide +kernel)) (by decide +kernel)
  | 30, _ => exact tb_in (lw_i4 139 (by decide +kernel)) (by decide +kernel)
  | 31, _ => exact tb_in (lw_i4 141 (by decide +kernel)) (by decide +kernel)
  | 32, _ => exact tb_in (lw_i4 143 (by decide +kernel)) (by decide +kernel)
  | n + 33, h => exact absurd h (by omega)
end
section
/-! ===== the abstract state: cells by number; ints as Int, longs as Int64, references as cells' numbers ===== -/
abbrev MS : Type := (Nat → Int → Int) × (Nat → Int → Int64) × (Nat → Int → Nat)
def gI (σ : MS) (k : Nat) (j : Int) : Int := σ.1 k j
def gL (σ : MS) (k : Nat) (j : Int) : Int64 := σ.2.1 k j
def gR (σ : MS) (k : Nat) (j : Int) : Nat := σ.2.2 k j
def sI (σ : MS) (k : Nat) (j : Int) (v : Int) : MS := (fun a b => if a = k ∧ b = j then v else σ.1 a b, σ.2.1, σ.2.2)
def sL (σ : MS) (k : Nat) (j : Int) (v : Int64) : MS := (σ.1, fun a b => if a = k ∧ b = j then v else σ.2.1 a b, σ.2.2)
def sR (σ : MS) (k : Nat) (j : Int) (v : Nat) : MS := (σ.1, σ.2.1, fun a b => if a = k ∧ b = j then v else σ.2.2 a b)
theorem gI_sI (σ : MS) (k : Nat) (j v : Int) (k' : Nat) (j' : Int) : gI (sI σ k j v) k' j' = if k' = k ∧ j' = j then v else gI σ k' j' := rfl
theorem gL_sL (σ : MS) (k : Nat) (j : Int) (v : Int64) (k' : Nat) (j' : Int) : gL (sL σ k j v) k' j' = if k' = k ∧ j' = j then v else gL σ k' j' := rfl
theorem gR_sR (σ : MS) (k : Nat) (j : Int) (v : Nat) (k' : Nat) (j' : Int) : gR (sR σ k j v) k' j' = if k' = k ∧ j' = j then v else gR σ k' j' := rfl
theorem gI_sL (σ : MS) (k : Nat) (j : Int) (v : Int64) (k' : Nat) (j' : Int) : gI (sL σ k j v) k' j' = gI σ k' j' := rfl
theorem gI_sR (σ : MS) (k : Nat) (j : Int) (v : Nat) (k' : Nat) (j' : Int) : gI (sR σ k j v) k' j' = gI σ k' j' := rfl
theorem gL_sI (σ : MS) (k : Nat) (j : Int) (v : Int) (k' : Nat) (j' : Int) : gL (sI σ k j v) k' j' = gL σ k' j' := rfl
theorem gL_sR (σ : MS) (k : Nat) (j : Int) (v : Nat) (k' : Nat) (j' : Int) : gL (sR σ k j v) k' j' = gL σ k' j' := rfl
theorem gR_sI (σ : MS) (k : Nat) (j : Int) (v : Int) (k' : Nat) (j' : Int) : gR (sI σ k j v) k' j' = gR σ k' j' := rfl
theorem gR_sL (σ : MS) (k : Nat) (j : Int) (v : Int64) (k' : Nat) (j' : Int) : gR (sL σ k j v) k' j' = gR σ k' j' := rfl
/-! ===== ints ===== -/
abbrev Rng (x : Int) : Prop := -2147483648 ≤ x ∧ x < 2147483648
def iI (x : Int) : Int32 := Int32.ofInt x
theorem iI_toInt {x : Int} (h : Rng x) : (iI x).toInt = x := Int32.toInt_ofInt_of_le (by have := h.1; omega) (by have := h.2; omega)
theorem iI_of (x : Int32) : iI x.toInt = x := Int32.ofInt_toInt x
theorem Rng_of (x : Int32) : Rng x.toInt := ⟨by have := Int32.le_toInt x; omega, by have := Int32.toInt_lt x; omega⟩
theorem iI_add (a b : Int) : iI a + iI b = iI (a + b) := (Int32.ofInt_add ..).symm
theorem iI_sub (a b : Int) : iI a - iI b = iI (a - b) := (Int32.ofInt_sub ..).symm
theorem iI_mul (a b : Int) : iI a * iI b = iI (a * b) := (Int32.ofInt_mul ..).symm
theorem iI_lt {a b : Int} (ha : Rng a) (hb : Rng b) : iI a < iI b ↔ a < b := by rw [Int32.lt_iff_toInt_lt, iI_toInt ha, iI_toInt hb]
theorem iI_le {a b : Int} (ha : Rng a) (hb : Rng b) : iI a ≤ iI b ↔ a ≤ b := by rw [Int32.le_iff_toInt_le, iI_toInt ha, iI_toInt hb]
theorem iI_eq {a b : Int} (ha : Rng a) (hb : Rng b) : iI a = iI b ↔ a = b := by rw [← Int32.toInt_inj, iI_toInt ha, iI_toInt hb]
theorem iI_0 : iI 0 = 0 := rfl
theorem Rng_0 : Rng 0 := by constructor <;> decide
theorem iI_nat (n : Nat) : iI (n : Int) = Int32.ofNat n := Int32.ofInt_eq_ofNat
theorem iI_clamp {x : Int} (h : 0 ≤ x) (h2 : x < 2147483648) : (iI x).toNatClampNeg = x.toNat := by
  obtain ⟨n, rfl⟩ := Int.eq_ofNat_of_zero_le h
  rw [iI_nat, Int32.toNatClampNeg_ofNat_of_lt (by omega)]
  simp
theorem iI_in {x : Int} {n : Nat} (h : 0 ≤ x) (h2 : x < (n : Int)) (hn : n < 2147483648) : vp_in (iI x) n := by
  have hr : Rng x := ⟨by omega, by omega⟩
  intro q
  rcases q with q | q
  · rw [← iI_0, iI_lt hr Rng_0] at q; omega
  · rw [iI_clamp h (by omega)] at q; omega
def ishl (a b : Int) : Int := (iI a <<< (iI b &&& 31)).toInt
def ishr (a b : Int) : Int := (iI a >>> (iI b &&& 31)).toInt
def iushr (a b : Int) : Int := ((iI a).toUInt32 >>> ((iI b).toUInt32 &&& Int32.toUInt32 31)).toInt32.toInt
def iand (a b : Int) : Int := (iI a &&& iI b).toInt
def ior (a b : Int) : Int := (iI a ||| iI b).toInt
def ixor (a b : Int) : Int := (iI a ^^^ iI b).toInt
def i2l (a : Int) : Int64 := (iI a).toInt64
def l2i (a : Int64) : Int := a.toInt32.toInt
def lshl (a : Int64) (b : Int) : Int64 := a <<< ((iI b).toInt64 &&& 63)
def lshr (a : Int64) (b : Int) : Int64 := a >>> ((iI b).toInt64 &&& 63)
def lushr (a : Int64) (b : Int) : Int64 := (a.toUInt64 >>> ((iI b).toInt64.toUInt64 &&& Int64.toUInt64 63)).toInt64
theorem iI_div {a b : Int} (ha : 0 ≤ a) (ha2 : a < 2147483648) (hb : 0 < b) (hb2 : b < 2147483648) : iI a / iI b = iI (a / b) := by
  obtain ⟨m, rfl⟩ := Int.eq_ofNat_of_zero_le ha
  obtain ⟨n, rfl⟩ := Int.eq_ofNat_of_zero_le (Int.le_of_lt hb)
  rw [← Int.natCast_ediv, iI_nat, iI_nat, iI_nat]
  exact pk_div (by omega) (by omega) (by omega)
theorem iI_rem {a b : Int} (ha : 0 ≤ a) (ha2 : a < 2147483648) (hb : 0 < b) (hb2 : b < 2147483648) : iI a - iI a / iI b * iI b = iI (a % b) := by
  rw [iI_div ha ha2 hb hb2, iI_mul, iI_sub]
  congr 1
  rw [Int.emod_def, Int.mul_comm]
theorem iI_char {a : Int} (ha : Rng a) : ((iI a).toUInt32 % 65536).toInt32 = iI (a % 65536) := by
  rw [pk_char, show nI ((iI a).toBitVec.toNat % 65536) = iI (((iI a).toBitVec.toNat % 65536 : Nat) : Int) from (iI_nat _).symm]
  congr 1
  have h1 : ((iI a).toBitVec.toNat : Int) = a % 4294967296 := by
    have h2 : (iI a).toBitVec = BitVec.ofInt 32 a := rfl
    rw [h2, BitVec.toNat_ofInt]
    have : (0 : Int) ≤ a % 4294967296 := Int.emod_nonneg _ (by decide)
    omega
  omega
theorem iI_nar {a : Int} (h : 0 ≤ a) (h2 : a < 65536) : vp_nar .char (iI a) = iI a := by
  rw [vp_nar_char]
  have := lg_i2c_word (v := iI a) (by rw [iI_toInt ⟨by omega, by omega⟩]; exact h) (by rw [iI_toInt ⟨by omega, by omega⟩]; exact h2)
  rw [lg_i2c_nf] at this
  exact this
/-! ===== the world: a list of descriptors; cell k lies at the address ad k ===== -/
abbrev CD : Type := (Nat × Nat) ⊕ (Nat × List (Nat × Nat))
abbrev WDt : Type := va_G × (Nat → Nat) × ClassId × ClassId × ClassId × ClassId
def fval (ad : Nat → Nat) (σ : MS) (k j : Nat) (f : Nat × Nat) : Value :=
  match f.1 with
  | 0 => .int (iI (gI σ k j))
  | 1 => .long (gL σ k j)
  | 2 => .ref (ad (gR σ k j))
  | 3 => .ref (ad (k + f.2))
  | _ => .ref (ad f.2)
def cellE (w : WDt) (σ : MS) (k : Nat) (cd : CD) : va_E :=
  match cd with
  | .inl (0, n) => .inl (w.2.2.1, n, .inl (fun j => iI (gI σ k j)))
  | .inl (1, n) => .inl (w.2.2.2.1, n, .inr (.inl (fun j => gL σ k j)))
  | .inl (2, n) => .inl (w.2.2.2.2.2, n, .inr (.inr (.inr (.inr (fun j => some (w.2.1 (gR σ k j)))))))
  | .inl (_, n) => .inl (w.2.2.2.2.1, n, .inl (fun j => iI (gI σ k j)))
  | .inr (ci, fs) => .inr (ci, fs.mapIdx (fun j f => fval w.2.1 σ k j f))
def wl (dsc : List CD) (w : WDt) (σ : MS) : va_W := dsc.mapIdx (fun k cd => (w.2.1 k, cellE w σ k cd))
def dTys (w : WDt) : List (ClassId × FieldType) := [(w.2.2.1, .int), (w.2.2.2.1, .long), (w.2.2.2.2.1, .char), (w.2.2.2.2.2, .object "BellSchool$Standing")]
def wA (dsc : List CD) (w : WDt) : Nat → Prop := fun q => ∃ k, k < dsc.length ∧ q = w.2.1 k
abbrev dSt : CD := .inr (5, [(3, 1), (0, 0), (0, 0), (0, 0), (0, 0), (0, 0), (1, 0)])
abbrev dVal : CD := .inr (7, [(3, 1), (3, 2), (3, 3), (3, 4), (3, 5), (0, 0), (0, 0), (0, 0)])
/-- what a reference that changes must be -/
def rreq (dsc : List CD) (k : Nat) (j : Int) : Option CD :=
  match dsc[k]? with
  | some (.inl (2, _)) => some dSt
  | some (.inr (_, fs)) => match fs[j.toNat]? with
    | some (2, _) => some dVal
    | _ => none
  | _ => none
def WT (dsc : List CD) (σ : MS) : Prop := (∀ k j, Rng (gI σ k j)) ∧ ∀ k j d, rreq dsc k j = some d → dsc[gR σ k j]? = some d
def WH (dsc : List CD) (w : WDt) (σ : MS) (H : Heap) : Prop := va_P w.1 CLS (wl dsc w σ) H ∧ WT dsc σ
def HOLD (j : Int) : Int64 := if j = 0 then -6148914691236517206 else if j = 1 then -3689348814741910324 else if j = 2 then -1085102592571150096 else if j = 3 then -71777214294589696 else if j = 4 then -281470681808896 else -4294967296
def HT (t : Nat) (A : Nat → Prop) (U : State) (H : Heap) : Prop := va_T .long t 6 (fun j => .long (HOLD j)) A U H
/-- what nobody writes: links to the one private method that a nest mate calls, the static array -/
def SZ (A : Nat → Prop) (U : State) (H : Heap) : Prop := va_Nw (.methodLinkNest "BellSchool$Valley" 45 ⟨"BellSchool", "pairOf", "(II)I"⟩ "BellSchool") U ∧ va_Nw (.methodLinkNest "BellSchool$Noon" 45 ⟨"BellSchool", "pairOf", "(II)I"⟩ "BellSchool") U ∧ ∃ t : Nat, va_Z "BellSchool$Search" "HOLDING" "[J" (.ref t) A U H ∧ HT t A U H
theorem SZ.kept {A : Nat → Prop} {s U : State} {H0 H : Heap} (h : SZ A s H0) (hW : s.WarmedH U.vm) (hq : ∀ a : Nat, a < H0.size → ¬ A a → H[a]? = H0[a]?) : SZ A U H := by
  obtain ⟨h1, h2, t, h3, h4⟩ := h
  exact ⟨va_Nw.warmM hW h1, va_Nw.warmM hW h2, t, (va_Z.moved hW.alike h3).kept hq, (va_T.moved hW.alike h4).kept hq⟩
theorem SZ.same {A : Nat → Prop} {s U : State} {H : Heap} (h : SZ A s H) (hv : s.vm = U.vm) : SZ A U H := by
  obtain ⟨h1, h2, t, h3, h4⟩ := h
  exact ⟨va_Nw.same rfl hv h1, va_Nw.same rfl hv h2, t, va_Z.moved (by rw [hv]; exact Vm.Alike.refl U.vm) h3, va_T.moved (by rw [hv]; exact Vm.Alike.refl U.vm) h4⟩
def WU (dsc : List CD) (w : WDt) (σ : MS) (U : State) : Prop := WH dsc w σ U.heap ∧ va_K w.1 CLS (dTys w) U ∧ SZ (wA dsc w) U U.heap
def wInj (dsc : List CD) (w : WDt) : Prop := ∀ i j, i < dsc.length → j < dsc.length → w.2.1 i = w.2.1 j → i = j
theorem wl_get {dsc : List CD} {k : Nat} {cd : CD} (w : WDt) (σ : MS) (h : dsc[k]? = some cd) : (wl dsc w σ)[k]? = some (w.2.1 k, cellE w σ k cd) := by
  unfold wl
  rw [List.getElem?_mapIdx, h]
  rfl
theorem wl_D {dsc : List CD} {w : WDt} (hi : wInj dsc w) (σ : MS) : va_D (wA dsc w) (wl dsc w σ) := by
  have key : ∀ (k : Nat) (q : Nat × va_E), (wl dsc w σ)[k]? = some q → k < dsc.length ∧ q.1 = w.2.1 k := by
    intro k q h
    have hl : k < (wl dsc w σ).length := (List.getElem?_eq_some_iff.mp h).1
    unfold wl at hl
    rw [List.length_mapIdx] at hl
    obtain ⟨cd, hc⟩ : ∃ cd, dsc[k]? = some cd := ⟨_, List.getElem?_eq_getElem hl⟩
    rw [wl_get w σ hc] at h
    cases h
    exact ⟨hl, rfl⟩
  refine ⟨fun i j p q hp hq e => ?_, fun k q h => ?_⟩
  · obtain ⟨l1, e1⟩ := key i p hp
    obtain ⟨l2, e2⟩ := key j q hq
    exact hi i j l1 l2 (by rw [← e1, ← e2, e])
  · obtain ⟨l1, e1⟩ := key k q h
    exact ⟨k, l1, e1⟩
theorem wl_set {dsc : List CD} {k : Nat} {cd : CD} {w : WDt} {σ σ' : MS} (h : dsc[k]? = some cd) (hne : ∀ i cd', i ≠ k → cellE w σ' i cd' = cellE w σ i cd') : (wl dsc w σ).set k (w.2.1 k, cellE w σ' k cd) = wl dsc w σ' := by
  have hk : k < dsc.length := (List.getElem?_eq_some_iff.mp h).1
  apply List.ext_getElem?
  intro i
  by_cases hi : i = k
  · subst hi
    rw [List.getElem?_set_self (by unfold wl; rw [List.length_mapIdx]; exact hk), wl_get w σ' h]
  · rw [List.getElem?_set_ne (fun e => hi e.symm)]
    unfold wl
    rw [List.getElem?_mapIdx, List.getElem?_mapIdx]
    cases dsc[i]? with
    | none => rfl
    | some cd' =>
      show some (w.2.1 i, cellE w σ i cd') = some (w.2.1 i, cellE w σ' i cd')
      rw [hne i cd' hi]
theorem fval_sI {ad : Nat → Nat} {σ : MS} {k i j : Nat} {z : Int} {v : Int} {f : Nat × Nat} (h : i ≠ k ∨ (j : Int) ≠ z) : fval ad (sI σ k z v) i j f = fval ad σ i j f := by
  have e : gI (sI σ k z v) i j = gI σ i j := by
    rw [gI_sI, if_neg]
    intro q
    rcases h with h | h
    · exact h q.1
    · exact h q.2
  unfold fval
  rw [e]
  rfl
theorem fval_sL {ad : Nat → Nat} {σ : MS} {k i j : Nat} {z : Int} {v : Int64} {f : Nat × Nat} (h : i ≠ k ∨ (j : Int) ≠ z) : fval ad (sL σ k z v) i j f = fval ad σ i j f := by
  have e : gL (sL σ k z v) i j = gL σ i j := by
    rw [gL_sL, if_neg]
    intro q
    rcases h with h | h
    · exact h q.1
    · exact h q.2
  unfold fval
  rw [e]
  rfl
theorem fval_sR {ad : Nat → Nat} {σ : MS} {k i j : Nat} {z : Int} {v : Nat} {f : Nat × Nat} (h : i ≠ k ∨ (j : Int) ≠ z) : fval ad (sR σ k z v) i j f = fval ad σ i j f := by
  have e : gR (sR σ k z v) i j = gR σ i j := by
    rw [gR_sR, if_neg]
    intro q
    rcases h with h | h
    · exact h q.1
    · exact h q.2
  unfold fval
  rw [e]
  rfl
theorem cellE_of {w : WDt} {σ σ' : MS} {i : Nat} (h1 : ∀ j, gI σ' i j = gI σ i j) (h2 : ∀ j, gL σ' i j = gL σ i j) (h3 : ∀ j, gR σ' i j = gR σ i j) (cd : CD) : cellE w σ' i cd = cellE w σ i cd := by
  have e1 : (fun j : Nat => iI (gI σ' i j)) = fun j : Nat => iI (gI σ i j) := by funext j; rw [h1]
  have e2 : (fun j : Nat => gL σ' i j) = fun j : Nat => gL σ i j := by funext j; rw [h2]
  have e3 : (fun j : Nat => some (w.2.1 (gR σ' i j))) = fun j : Nat => some (w.2.1 (gR σ i j)) := by funext j; rw [h3]
  have e4 : (fun (j : Nat) f => fval w.2.1 σ' i j f) = fun (j : Nat) f => fval w.2.1 σ i j f := by funext j f; unfold fval; rw [h1, h2, h3]
  unfold cellE
  split <;> first | rw [e1] | rw [e2] | rw [e3] | rw [e4]
theorem gI_nk {σ : MS} {k : Nat} {j v : Int} {k' : Nat} {j' : Int} (h : k' ≠ k) : gI (sI σ k j v) k' j' = gI σ k' j' := by
  rw [gI_sI]
  exact if_neg fun q => h q.1
theorem gL_nk {σ : MS} {k : Nat} {j : Int} {v : Int64} {k' : Nat} {j' : Int} (h : k' ≠ k) : gL (sL σ k j v) k' j' = gL σ k' j' := by
  rw [gL_sL]
  exact if_neg fun q => h q.1
theorem gR_nk {σ : MS} {k : Nat} {j : Int} {v : Nat} {k' : Nat} {j' : Int} (h : k' ≠ k) : gR (sR σ k j v) k' j' = gR σ k' j' := by
  rw [gR_sR]
  exact if_neg fun q => h q.1
theorem cellE_sI {w : WDt} {σ : MS} {k i : Nat} {z v : Int} (h : i ≠ k) (cd : CD) : cellE w (sI σ k z v) i cd = cellE w σ i cd :=
  cellE_of (fun _ => gI_nk h) (fun _ => rfl) (fun _ => rfl) cd
theorem cellE_sL {w : WDt} {σ : MS} {k i : Nat} {z : Int} {v : Int64} (h : i ≠ k) (cd : CD) : cellE w (sL σ k z v) i cd = cellE w σ i cd :=
  cellE_of (σ := σ) (σ' := sL σ k z v) (i := i) (fun _ => rfl) (fun _ => gL_nk h) (fun _ => rfl) cd
theorem cellE_sR {w : WDt} {σ : MS} {k i : Nat} {z : Int} {v : Nat} (h : i ≠ k) (cd : CD) : cellE w (sR σ k z v) i cd = cellE w σ i cd :=
  cellE_of (σ := σ) (σ' := sR σ k z v) (i := i) (fun _ => rfl) (fun _ => rfl) (fun _ => gR_nk h) cd
theorem WT_sI {dsc : List CD} {σ : MS} (h : WT dsc σ) (k : Nat) (z : Int) {v : Int} (hv : Rng v) : WT dsc (sI σ k z v) :=
  ⟨fun a b => by rw [gI_sI]; split; exact hv; exact h.1 a b, h.2⟩
theorem WT_sL {dsc : List CD} {σ : MS} (h : WT dsc σ) (k : Nat) (z : Int) (v : Int64) : WT dsc (sL σ k z v) := h
theorem WT_sR {dsc : List CD} {σ : MS} (h : WT dsc σ) (k : Nat) (z : Int) {v : Nat} {d : CD} (hr : rreq dsc k z = some d) (hv : dsc[v]? = some d) : WT dsc (sR σ k z v) :=
  ⟨h.1, fun a b d' q => by
    rw [gR_sR]
    split
    · next e => rw [e.1, e.2, hr] at q; rw [hv]; exact q
    · exact h.2 a b d' q⟩
end
section
/-! ===== the judgement over the abstract state, and a row an instruction ===== -/
abbrev XC : Type := (Program × Launch × Env × Room × State × MethodId) × (Array Value × List Frame × Method × Code) × (WDt × Nat × (State → Prop))
def adX (X : XC) : Nat → Nat := X.2.2.1.2.1
def VV (dsc : List CD) (X : XC) (pc : Nat) (L : List (Nat × Value)) (st : List Value) (σ : MS) : Prop :=
  ∀ (H : Heap) (locs : List Loc) (ls : Array Slot), WH dsc X.2.2.1 σ H → va_S (wA dsc X.2.2.1) X.1.2.2.2.2.1.heap H locs → lv_has ls X.2.2.2.1 L →
    W X.1.1 X.1.2.1 X.1.2.2.1 X.1.2.2.2.1 X.1.2.2.2.2.1 X.1.2.2.2.2.2 X.2.1.1 X.2.1.2.1 X.2.1.2.2.1 X.2.1.2.2.2 H locs 0 0 X.2.2.2.2 (F0 X.1.2.2.2.2.2 pc ls st)
def EV (dsc : List CD) (X : XC) (cc : ByteArray) (own : String) (nL lv : Nat) : Prop :=
  X.1.1.tables.exec = Jvm.exec ∧ X.2.1.2.2.2.code = cc ∧ X.2.1.2.2.2.maxLocals = nL ∧ X.2.2.2.1 = nL ∧ X.1.2.2.2.2.1.vm.findClass own = some X.1.2.2.2.2.2.cls ∧ (∀ w ∈ TB, w.before X.2.1.1 X.1.2.2.2.2.1 = true) ∧
  va_K X.2.2.1.1 CLS (dTys X.2.2.1) X.1.2.2.2.2.1 ∧ wInj dsc X.2.2.1 ∧ SZ (wA dsc X.2.2.1) X.1.2.2.2.2.1 X.1.2.2.2.2.1.heap ∧ lv ≤ X.1.2.2.2.1.frames ∧ 40 * lv ≤ X.1.2.2.2.1.locals ∧ X.2.1.2.2.1.locks = false
section RW
variable {dsc : List CD} {X : XC} {cc : ByteArray} {own : String} {nL lv pc : Nat} {L L' : List (Nat × Value)} {st : List Value} {σ : MS}
theorem v_iloadn (E : EV dsc X cc own nL lv) {k : Fin 4} {i : Nat} {x : Int32} (hd : decode cc pc = .ok (.iload_n k, 1)) (hi : (k : Nat) = i) (q : Nat) (hl : L[q]? = some (i, .int x)) (h : VV dsc X (pc + 1) L (.int x :: st) σ) : VV dsc X pc L st σ :=
  fun H locs ls hP hS hL => lv_iload_n E.1 E.2.1 hd hi (lv_at hL q hl) (h H locs ls hP hS hL)
theorem v_iload (E : EV dsc X cc own nL lv) {i : Nat} {x : Int32} (hd : decode cc pc = .ok (.iload i, 2)) (q : Nat) (hl : L[q]? = some (i, .int x)) (h : VV dsc X (pc + 2) L (.int x :: st) σ) : VV dsc X pc L st σ :=
  fun H locs ls hP hS hL => lv_iload E.1 E.2.1 hd (lv_at hL q hl) (h H locs ls hP hS hL)
theorem v_lloadn (E : EV dsc X cc own nL lv) {k : Fin 4} {i : Nat} {x : Int64} (hd : decode cc pc = .ok (.lload_n k, 1)) (hi : (k : Nat) = i) (q : Nat) (hl : L[q]? = some (i, .long x)) (h : VV dsc X (pc + 1) L (.long x :: st) σ) : VV dsc X pc L st σ :=
  fun H locs ls hP hS hL => lv_lload_n E.1 E.2.1 hd hi (lv_at hL q hl) (h H locs ls hP hS hL)
theorem v_lload (E : EV dsc X cc own nL lv) {i : Nat} {x : Int64} (hd : decode cc pc = .ok (.lload i, 2)) (q : Nat) (hl : L[q]? = some (i, .long x)) (h : VV dsc X (pc + 2) L (.long x :: st) σ) : VV dsc X pc L st σ :=
  fun H locs ls hP hS hL => lv_lload E.1 E.2.1 hd (lv_at hL q hl) (h H locs ls hP hS hL)
theorem v_aloadn (E : EV dsc X cc own nL lv) {k : Fin 4} {i : Nat} {x : Nat} (hd : decode cc pc = .ok (.aload_n k, 1)) (hi : (k : Nat) = i) (q : Nat) (hl : L[q]? = some (i, .ref x)) (h : VV dsc X (pc + 1) L (.ref x :: st) σ) : VV dsc X pc L st σ :=
  fun H locs ls hP hS hL => lv_aload_n E.1 E.2.1 hd hi (lv_at hL q hl) (h H locs ls hP hS hL)
theorem v_aload (E : EV dsc X cc own nL lv) {i : Nat} {x : Nat} (hd : decode cc pc = .ok (.aload i, 2)) (q : Nat) (hl : L[q]? = some (i, .ref x)) (h : VV dsc X (pc + 2) L (.ref x :: st) σ) : VV dsc X pc L st σ :=
  fun H locs ls hP hS hL => lv_aload E.1 E.2.1 hd (lv_at hL q hl) (h H locs ls hP hS hL)
theorem v_istoren (E : EV dsc X cc own nL lv) {k : Fin 4} {i : Nat} {x : Int32} (hd : decode cc pc = .ok (.istore_n k, 1)) (hi : (k : Nat) = i) (hn : i < nL) (hl : (i, Value.int x) :: L.filter (fun q => !(q.1 == i) && !(q.1 + 1 == i && q.2.category == 2)) = L') (h : VV dsc X (pc + 1) L' st σ) : VV dsc X pc L (.int x :: st) σ :=
  fun H locs ls hP hS hL => lv_istore_n E.1 E.2.1 hd hi hL (by rw [E.2.2.2.1]; exact hn) hl (fun ls' hL' => h H locs ls' hP hS hL')
theorem v_istore (E : EV dsc X cc own nL lv) {i : Nat} {x : Int32} (hd : decode cc pc = .ok (.istore i, 2)) (hn : i < nL) (hl : (i, Value.int x) :: L.filter (fun q => !(q.1 == i) && !(q.1 + 1 == i && q.2.category == 2)) = L') (h : VV dsc X (pc + 2) L' st σ) : VV dsc X pc L (.int x :: st) σ :=
  fun H locs ls hP hS hL => lv_istore E.1 E.2.1 hd hL (by rw [E.2.2.2.1]; exact hn) hl (fun ls' hL' => h H locs ls' hP hS hL')
theorem v_lstoren (E : EV dsc X cc own nL lv) {k : Fin 4} {i : Nat} {x : Int64} (hd : decode cc pc = .ok (.lstore_n k, 1)) (hi : (k : Nat) = i) (hn : i + 1 < nL) (hl : (i, Value.long x) :: L.filter (fun q => !(q.1 == i) && (!(q.1 == i + 1) && !(q.1 + 1 == i && q.2.category == 2))) = L') (h : VV dsc X (pc + 1) L' st σ) : VV dsc X pc L (.long x :: st) σ :=
  fun H locs ls hP hS hL => lv_lstore_n E.1 E.2.1 hd hi hL (by rw [E.2.2.2.1]; exact hn) hl (fun ls' hL' => h H locs ls' hP hS hL')
theorem v_lstore (E : EV dsc X cc own nL lv) {i : Nat} {x : Int64} (hd : decode cc pc = .ok (.lstore i, 2)) (hn : i + 1 < nL) (hl : (i, Value.long x) :: L.filter (fun q => !(q.1 == i) && (!(q.1 == i + 1) && !(q.1 + 1 == i && q.2.category == 2))) = L') (h : VV dsc X (pc + 2) L' st σ) : VV dsc X pc L (.long x :: st) σ :=
  fun H locs ls hP hS hL => lv_lstore E.1 E.2.1 hd hL (by rw [E.2.2.2.1]; exact hn) hl (fun ls' hL' => h H locs ls' hP hS hL')
theorem v_astoren (E : EV dsc X cc own nL lv) {k : Fin 4} {i : Nat} {x : Nat} (hd : decode cc pc = .ok (.astore_n k, 1)) (hi : (k : Nat) = i) (hn : i < nL) (hl : (i, Value.ref x) :: L.filter (fun q => !(q.1 == i) && !(q.1 + 1 == i && q.2.category == 2)) = L') (h : VV dsc X (pc + 1) L' st σ) : VV dsc X pc L (.ref x :: st) σ :=
  fun H locs ls hP hS hL => lv_astore_n E.1 E.2.1 hd hi hL (by rw [E.2.2.2.1]; exact hn) hl (fun ls' hL' => h H locs ls' hP hS hL')
theorem v_iinc (E : EV dsc X cc own nL lv) {i : Nat} {n x : Int} (hd : decode cc pc = .ok (.iinc i n, 3)) (q : Nat) (hl : L[q]? = some (i, .int (iI x))) (hn : i < nL) (hf : (i, Value.int (iI (x + n))) :: L.filter (fun q => !(q.1 == i) && !(q.1 + 1 == i && q.2.category == 2)) = L') (h : VV dsc X (pc + 3) L' st σ) : VV dsc X pc L st σ :=
  fun H locs ls hP hS hL => lv_iinc (k := q) E.1 E.2.1 hd hL hl (iI_add x n) (by rw [E.2.2.2.1]; exact hn) hf (fun ls' hL' => h H locs ls' hP hS hL')
theorem v_sub (ks : List Nat) (hl : lv_pick L ks = L') (h : VV dsc X pc L' st σ) : VV dsc X pc L st σ :=
  fun H locs ls hP hS hL => h H locs ls hP hS (lv_sub hL ks hl)
theorem v_iconst (E : EV dsc X cc own nL lv) {n : Int} (hd : decode cc pc = .ok (.iconst n, 1)) (h : VV dsc X (pc + 1) L (.int (iI n) :: st) σ) : VV dsc X pc L st σ :=
  fun H locs ls hP hS hL => lv_iconst E.1 E.2.1 hd rfl (h H locs ls hP hS hL)
theorem v_bipush (E : EV dsc X cc own nL lv) {n : Int} (hd : decode cc pc = .ok (.bipush n, 2)) (hv : (Int8.ofInt n).toInt32 = iI n) (h : VV dsc X (pc + 2) L (.int (iI n) :: st) σ) : VV dsc X pc L st σ :=
  fun H locs ls hP hS hL => lv_bipush E.1 E.2.1 hd hv (h H locs ls hP hS hL)
theorem v_sipush (E : EV dsc X cc own nL lv) {n : Int} (hd : decode cc pc = .ok (.sipush n, 3)) (hv : (Int16.ofInt n).toInt32 = iI n) (h : VV dsc X (pc + 3) L (.int (iI n) :: st) σ) : VV dsc X pc L st σ :=
  fun H locs ls hP hS hL => lv_sipush E.1 E.2.1 hd hv (h H locs ls hP hS hL)
theorem v_ldc (E : EV dsc X cc own nL lv) {n : Int} {v : Int32} {ix : Nat} (hw : Cond.constant own ix v ∈ TB) (hv : v = iI n) (hd : decode cc pc = .ok (.ldc ix, 2)) (h : VV dsc X (pc + 2) L (.int (iI n) :: st) σ) : VV dsc X pc L st σ :=
  fun H locs ls hP hS hL => lv_ldc E.1 E.2.1 E.2.2.2.2.1 (E.2.2.2.2.2.1 _ hw) hd (by rw [hv]; exact h H locs ls hP hS hL)
theorem v_ldcw (E : EV dsc X cc own nL lv) {n : Int} {v : Int32} {ix : Nat} (hw : Cond.constant own ix v ∈ TB) (hv : v = iI n) (hd : decode cc pc = .ok (.ldc_w ix, 3)) (h : VV dsc X (pc + 3) L (.int (iI n) :: st) σ) : VV dsc X pc L st σ :=
  fun H locs ls hP hS hL => lv_ldcw E.1 E.2.1 E.2.2.2.2.1 (E.2.2.2.2.2.1 _ hw) hd (by rw [hv]; exact h H locs ls hP hS hL)
theorem v_ldc2 (E : EV dsc X cc own nL lv) {v : Int64} {ix : Nat} (hw : Cond.constantLong own ix v ∈ TB) (hd : decode cc pc = .ok (.ldc2_w ix, 3)) (h : VV dsc X (pc + 3) L (.long v :: st) σ) : VV dsc X pc L st σ :=
  fun H locs ls hP hS hL => lv_ldc2 E.1 E.2.1 E.2.2.2.2.1 (E.2.2.2.2.2.1 _ hw) hd (h H locs ls hP hS hL)
theorem v_lconst (E : EV dsc X cc own nL lv) {n : Fin 2} (v : Int64) (hv : Int64.ofNat (n : Nat) = v) (hd : decode cc pc = .ok (.lconst n, 1)) (h : VV dsc X (pc + 1) L (.long v :: st) σ) : VV dsc X pc L st σ :=
  fun H locs ls hP hS hL => lv_lconst E.1 E.2.1 hd hv (h H locs ls hP hS hL)
theorem v_dup (E : EV dsc X cc own nL lv) {a : Value} (hd : decode cc pc = .ok (.dup, 1)) (hc : a.category = 1) (h : VV dsc X (pc + 1) L (a :: a :: st) σ) : VV dsc X pc L (a :: st) σ :=
  fun H locs ls hP hS hL => lv_dup E.1 E.2.1 hd hc (h H locs ls hP hS hL)
theorem v_dup2 (E : EV dsc X cc own nL lv) {a b : Value} (hd : decode cc pc = .ok (.dup2, 1)) (ha : a.category = 1) (hb : b.category = 1) (h : VV dsc X (pc + 1) L (a :: b :: a :: b :: st) σ) : VV dsc X pc L (a :: b :: st) σ :=
  fun H locs ls hP hS hL => lv_dup2_11 E.1 E.2.1 hd ha hb (h H locs ls hP hS hL)
theorem v_pop (E : EV dsc X cc own nL lv) {a : Value} (hd : decode cc pc = .ok (.pop, 1)) (hc : a.category = 1) (h : VV dsc X (pc + 1) L st σ) : VV dsc X pc L (a :: st) σ :=
  fun H locs ls hP hS hL => lv_pop E.1 E.2.1 hd hc (h H locs ls hP hS hL)
theorem v_goto (E : EV dsc X cc own nL lv) {off : Int} (tgt : Nat) (hd : decode cc pc = .ok (.goto off, 3)) (ht : (pc : Int) + off = (tgt : Int)) (h : VV dsc X tgt L st σ) : VV dsc X pc L st σ :=
  fun H locs ls hP hS hL => lv_goto E.1 E.2.1 hd ht (h H locs ls hP hS hL)
theorem v_iadd (E : EV dsc X cc own nL lv) {a b : Int} (hd : decode cc pc = .ok (.iadd, 1)) (h : VV dsc X (pc + 1) L (.int (iI (a + b)) :: st) σ) : VV dsc X pc L (.int (iI b) :: .int (iI a) :: st) σ :=
  fun H locs ls hP hS hL => lv_iadd E.1 E.2.1 hd (by rw [iI_add]; exact h H locs ls hP hS hL)
theorem v_isub (E : EV dsc X cc own nL lv) {a b : Int} (hd : decode cc pc = .ok (.isub, 1)) (h : VV dsc X (pc + 1) L (.int (iI (a - b)) :: st) σ) : VV dsc X pc L (.int (iI b) :: .int (iI a) :: st) σ :=
  fun H locs ls hP hS hL => lv_isub E.1 E.2.1 hd (by rw [iI_sub]; exact h H locs ls hP hS hL)
theorem v_imul (E : EV dsc X cc own nL lv) {a b : Int} (hd : decode cc pc = .ok (.imul, 1)) (h : VV dsc X (pc + 1) L (.int (iI (a * b)) :: st) σ) : VV dsc X pc L (.int (iI b) :: .int (iI a) :: st) σ :=
  fun H locs ls hP hS hL => lv_imul E.1 E.2.1 hd (by rw [iI_mul]; exact h H locs ls hP hS hL)
theorem v_idiv (E : EV dsc X cc own nL lv) {a b : Int} (hd : decode cc pc = .ok (.idiv, 1)) (ha : 0 ≤ a ∧ a < 2147483648) (hb : 0 < b ∧ b < 2147483648) (h : VV dsc X (pc + 1) L (.int (iI (a / b)) :: st) σ) : VV dsc X pc L (.int (iI b) :: .int (iI a) :: st) σ :=
  fun H locs ls hP hS hL => lv_idiv E.1 E.2.1 hd (fun q => by rw [← iI_0, iI_eq ⟨by omega, hb.2⟩ Rng_0] at q; omega) (by rw [iI_div ha.1 ha.2 hb.1 hb.2]; exact h H locs ls hP hS hL)
theorem v_irem (E : EV dsc X cc own nL lv) {a b : Int} (hd : decode cc pc = .ok (.irem, 1)) (ha : 0 ≤ a ∧ a < 2147483648) (hb : 0 < b ∧ b < 2147483648) (h : VV dsc X (pc + 1) L (.int (iI (a % b)) :: st) σ) : VV dsc X pc L (.int (iI b) :: .int (iI a) :: st) σ :=
  fun H locs ls hP hS hL => lv_irem E.1 E.2.1 hd (fun q => by rw [← iI_0, iI_eq ⟨by omega, hb.2⟩ Rng_0] at q; omega) (by rw [iI_rem ha.1 ha.2 hb.1 hb.2]; exact h H locs ls hP hS hL)
theorem v_iand (E : EV dsc X cc own nL lv) {a b : Int} (hd : decode cc pc = .ok (.iand, 1)) (h : VV dsc X (pc + 1) L (.int (iI (iand a b)) :: st) σ) : VV dsc X pc L (.int (iI b) :: .int (iI a) :: st) σ :=
  fun H locs ls hP hS hL => lv_iand E.1 E.2.1 hd (by rw [← iI_of (iI a &&& iI b)]; exact h H locs ls hP hS hL)
theorem v_ior (E : EV dsc X cc own nL lv) {a b : Int} (hd : decode cc pc = .ok (.ior, 1)) (h : VV dsc X (pc + 1) L (.int (iI (ior a b)) :: st) σ) : VV dsc X pc L (.int (iI b) :: .int (iI a) :: st) σ :=
  fun H locs ls hP hS hL => lv_ior E.1 E.2.1 hd (by rw [← iI_of (iI a ||| iI b)]; exact h H locs ls hP hS hL)
theorem v_ixor (E : EV dsc X cc own nL lv) {a b : Int} (hd : decode cc pc = .ok (.ixor, 1)) (h : VV dsc X (pc + 1) L (.int (iI (ixor a b)) :: st) σ) : VV dsc X pc L (.int (iI b) :: .int (iI a) :: st) σ :=
  fun H locs ls hP hS hL => lv_ixor E.1 E.2.1 hd (by rw [← iI_of (iI a ^^^ iI b)]; exact h H locs ls hP hS hL)
theorem v_ishl (E : EV dsc X cc own nL lv) {a b : Int} (hd : decode cc pc = .ok (.ishl, 1)) (h : VV dsc X (pc + 1) L (.int (iI (ishl a b)) :: st) σ) : VV dsc X pc L (.int (iI b) :: .int (iI a) :: st) σ :=
  fun H locs ls hP hS hL => lv_ishl E.1 E.2.1 hd (by rw [← iI_of (iI a <<< (iI b &&& 31))]; exact h H locs ls hP hS hL)
theorem v_ishr (E : EV dsc X cc own nL lv) {a b : Int} (hd : decode cc pc = .ok (.ishr, 1)) (h : VV dsc X (pc + 1) L (.int (iI (ishr a b)) :: st) σ) : VV dsc X pc L (.int (iI b) :: .int (iI a) :: st) σ :=
  fun H locs ls hP hS hL => lv_ishr E.1 E.2.1 hd (by rw [← iI_of (iI a >>> (iI b &&& 31))]; exact h H locs ls hP hS hL)
theorem v_iushr (E : EV dsc X cc own nL lv) {a b : Int} (hd : decode cc pc = .ok (.iushr, 1)) (h : VV dsc X (pc + 1) L (.int (iI (iushr a b)) :: st) σ) : VV dsc X pc L (.int (iI b) :: .int (iI a) :: st) σ :=
  fun H locs ls hP hS hL => lv_iushr E.1 E.2.1 hd (iI_of _).symm (h H locs ls hP hS hL)
theorem v_i2l (E : EV dsc X cc own nL lv) {a : Int} (hd : decode cc pc = .ok (.i2l, 1)) (h : VV dsc X (pc + 1) L (.long (i2l a) :: st) σ) : VV dsc X pc L (.int (iI a) :: st) σ :=
  fun H locs ls hP hS hL => lv_i2l E.1 E.2.1 hd rfl (h H locs ls hP hS hL)
theorem v_l2i (E : EV dsc X cc own nL lv) {a : Int64} (hd : decode cc pc = .ok (.l2i, 1)) (h : VV dsc X (pc + 1) L (.int (iI (l2i a)) :: st) σ) : VV dsc X pc L (.long a :: st) σ :=
  fun H locs ls hP hS hL => lv_l2i E.1 E.2.1 hd (iI_of _).symm (h H locs ls hP hS hL)
theorem v_i2c (E : EV dsc X cc own nL lv) {a : Int} (hd : decode cc pc = .ok (.i2c, 1)) (ha : Rng a) (h : VV dsc X (pc + 1) L (.int (iI (a % 65536)) :: st) σ) : VV dsc X pc L (.int (iI a) :: st) σ :=
  fun H locs ls hP hS hL => lv_i2c E.1 E.2.1 hd (iI_char ha) (h H locs ls hP hS hL)
theorem v_ladd (E : EV dsc X cc own nL lv) {a b : Int64} (hd : decode cc pc = .ok (.ladd, 1)) (h : VV dsc X (pc + 1) L (.long (a + b) :: st) σ) : VV dsc X pc L (.long b :: .long a :: st) σ :=
  fun H locs ls hP hS hL => lv_ladd E.1 E.2.1 hd (h H locs ls hP hS hL)
theorem v_lsub (E : EV dsc X cc own nL lv) {a b : Int64} (hd : decode cc pc = .ok (.lsub, 1)) (h : VV dsc X (pc + 1) L (.long (a - b) :: st) σ) : VV dsc X pc L (.long b :: .long a :: st) σ :=
  fun H locs ls hP hS hL => lv_lsub E.1 E.2.1 hd (h H locs ls hP hS hL)
theorem v_lmul (E : EV dsc X cc own nL lv) {a b : Int64} (hd : decode cc pc = .ok (.lmul, 1)) (h : VV dsc X (pc + 1) L (.long (a * b) :: st) σ) : VV dsc X pc L (.long b :: .long a :: st) σ :=
  fun H locs ls hP hS hL => lv_lmul E.1 E.2.1 hd (h H locs ls hP hS hL)
theorem v_ldiv (E : EV dsc X cc own nL lv) {a b : Int64} (hd : decode cc pc = .ok (.ldiv, 1)) (hb : ¬ b = 0) (h : VV dsc X (pc + 1) L (.long (a / b) :: st) σ) : VV dsc X pc L (.long b :: .long a :: st) σ :=
  fun H locs ls hP hS hL => lv_ldiv E.1 E.2.1 hd hb (h H locs ls hP hS hL)
def lrem (a b : Int64) : Int64 := a - a / b * b
theorem v_lrem (E : EV dsc X cc own nL lv) {a b : Int64} (hd : decode cc pc = .ok (.lrem, 1)) (hb : ¬ b = 0) (h : VV dsc X (pc + 1) L (.long (lrem a b) :: st) σ) : VV dsc X pc L (.long b :: .long a :: st) σ :=
  fun H locs ls hP hS hL => lv_lrem E.1 E.2.1 hd hb (h H locs ls hP hS hL)
theorem v_land (E : EV dsc X cc own nL lv) {a b : Int64} (hd : decode cc pc = .ok (.land, 1)) (h : VV dsc X (pc + 1) L (.long (a &&& b) :: st) σ) : VV dsc X pc L (.long b :: .long a :: st) σ :=
  fun H locs ls hP hS hL => lv_land E.1 E.2.1 hd (h H locs ls hP hS hL)
theorem v_lor (E : EV dsc X cc own nL lv) {a b : Int64} (hd : decode cc pc = .ok (.lor, 1)) (h : VV dsc X (pc + 1) L (.long (a ||| b) :: st) σ) : VV dsc X pc L (.long b :: .long a :: st) σ :=
  fun H locs ls hP hS hL => lv_lor E.1 E.2.1 hd (h H locs ls hP hS hL)
theorem v_lxor (E : EV dsc X cc own nL lv) {a b : Int64} (hd : decode cc pc = .ok (.lxor, 1)) (h : VV dsc X (pc + 1) L (.long (a ^^^ b) :: st) σ) : VV dsc X pc L (.long b :: .long a :: st) σ :=
  fun H locs ls hP hS hL => lv_lxor E.1 E.2.1 hd (h H locs ls hP hS hL)
theorem v_lshl (E : EV dsc X cc own nL lv) {a : Int64} {b : Int} (hd : decode cc pc = .ok (.lshl, 1)) (h : VV dsc X (pc + 1) L (.long (lshl a b) :: st) σ) : VV dsc X pc L (.int (iI b) :: .long a :: st) σ :=
  fun H locs ls hP hS hL => lv_lshl E.1 E.2.1 hd rfl (h H locs ls hP hS hL)
theorem v_lshr (E : EV dsc X cc own nL lv) {a : Int64} {b : Int} (hd : decode cc pc = .ok (.lshr, 1)) (h : VV dsc X (pc + 1) L (.long (lshr a b) :: st) σ) : VV dsc X pc L (.int (iI b) :: .long a :: st) σ :=
  fun H locs ls hP hS hL => lv_lshr E.1 E.2.1 hd rfl (h H locs ls hP hS hL)
theorem v_lushr (E : EV dsc X cc own nL lv) {a : Int64} {b : Int} (hd : decode cc pc = .ok (.lushr, 1)) (h : VV dsc X (pc + 1) L (.long (lushr a b) :: st) σ) : VV dsc X pc L (.int (iI b) :: .long a :: st) σ :=
  fun H locs ls hP hS hL => lv_lushr E.1 E.2.1 hd rfl (h H locs ls hP hS hL)
theorem v_icmp_eq (E : EV dsc X cc own nL lv) {a b : Int} {off : Int} (tgt : Nat) (hd : decode cc pc = .ok (.if_icmp .eq off, 3)) (ht : (pc : Int) + off = (tgt : Int)) (ha : Rng a) (hb : Rng b) (kt : a = b → VV dsc X tgt L st σ) (kf : ¬ a = b → VV dsc X (pc + 3) L st σ) : VV dsc X pc L (.int (iI b) :: .int (iI a) :: st) σ :=
  fun H locs ls hP hS hL => lv_icmp_eq E.1 E.2.1 hd ht (fun q => kt ((iI_eq ha hb).mp q) H locs ls hP hS hL) (fun q => kf (fun z => q ((iI_eq ha hb).mpr z)) H locs ls hP hS hL)
theorem v_if_eq (E : EV dsc X cc own nL lv) {a : Int} {off : Int} (tgt : Nat) (hd : decode cc pc = .ok (.ifCond .eq off, 3)) (ht : (pc : Int) + off = (tgt : Int)) (ha : Rng a) (kt : a = 0 → VV dsc X tgt L st σ) (kf : ¬ a = 0 → VV dsc X (pc + 3) L st σ) : VV dsc X pc L (.int (iI a) :: st) σ :=
  fun H locs ls hP hS hL => lv_if_eq E.1 E.2.1 hd ht (fun q => kt ((iI_eq ha Rng_0).mp q) H locs ls hP hS hL) (fun q => kf (fun z => q ((iI_eq ha Rng_0).mpr z)) H locs ls hP hS hL)
theorem v_icmp_ne (E : EV dsc X cc own nL lv) {a b : Int} {off : Int} (tgt : Nat) (hd : decode cc pc = .ok (.if_icmp .ne off, 3)) (ht : (pc : Int) + off = (tgt : Int)) (ha : Rng a) (hb : Rng b) (kt : ¬ a = b → VV dsc X tgt L st σ) (kf : a = b → VV dsc X (pc + 3) L st σ) : VV dsc X pc L (.int (iI b) :: .int (iI a) :: st) σ :=
  fun H locs ls hP hS hL => lv_icmp_ne E.1 E.2.1 hd ht (fun q => kt (fun z => q ((iI_eq ha hb).mpr z)) H locs ls hP hS hL) (fun q => kf ((iI_eq ha hb).mp q) H locs ls hP hS hL)
theorem v_if_ne (E : EV dsc X cc own nL lv) {a : Int} {off : Int} (tgt : Nat) (hd : decode cc pc = .ok (.ifCond .ne off, 3)) (ht : (pc : Int) + off = (tgt : Int)) (ha : Rng a) (kt : ¬ a = 0 → VV dsc X tgt L st σ) (kf : a = 0 → VV dsc X (pc + 3) L st σ) : VV dsc X pc L (.int (iI a) :: st) σ :=
  fun H locs ls hP hS hL => lv_if_ne E.1 E.2.1 hd ht (fun q => kt (fun z => q ((iI_eq ha Rng_0).mpr z)) H locs ls hP hS hL) (fun q => kf ((iI_eq ha Rng_0).mp q) H locs ls hP hS hL)
theorem v_icmp_lt (E : EV dsc X cc own nL lv) {a b : Int} {off : Int} (tgt : Nat) (hd : decode cc pc = .ok (.if_icmp .lt off, 3)) (ht : (pc : Int) + off = (tgt : Int)) (ha : Rng a) (hb : Rng b) (kt : a < b → VV dsc X tgt L st σ) (kf : ¬ a < b → VV dsc X (pc + 3) L st σ) : VV dsc X pc L (.int (iI b) :: .int (iI a) :: st) σ :=
  fun H locs ls hP hS hL => lv_icmp_lt E.1 E.2.1 hd ht (fun q => kt ((iI_lt ha hb).mp q) H locs ls hP hS hL) (fun q => kf (fun z => q ((iI_lt ha hb).mpr z)) H locs ls hP hS hL)
theorem v_if_lt (E : EV dsc X cc own nL lv) {a : Int} {off : Int} (tgt : Nat) (hd : decode cc pc = .ok (.ifCond .lt off, 3)) (ht : (pc : Int) + off = (tgt : Int)) (ha : Rng a) (kt : a < 0 → VV dsc X tgt L st σ) (kf : ¬ a < 0 → VV dsc X (pc + 3) L st σ) : VV dsc X pc L (.int (iI a) :: st) σ :=
  fun H locs ls hP hS hL => lv_if_lt E.1 E.2.1 hd ht (fun q => kt ((iI_lt ha Rng_0).mp q) H locs ls hP hS hL) (fun q => kf (fun z => q ((iI_lt ha Rng_0).mpr z)) H locs ls hP hS hL)
theorem v_icmp_ge (E : EV dsc X cc own nL lv) {a b : Int} {off : Int} (tgt : Nat) (hd : decode cc pc = .ok (.if_icmp .ge off, 3)) (ht : (pc : Int) + off = (tgt : Int)) (ha : Rng a) (hb : Rng b) (kt : b ≤ a → VV dsc X tgt L st σ) (kf : ¬ b ≤ a → VV dsc X (pc + 3) L st σ) : VV dsc X pc L (.int (iI b) :: .int (iI a) :: st) σ :=
  fun H locs ls hP hS hL => lv_icmp_ge E.1 E.2.1 hd ht (fun q => kt ((iI_le hb ha).mp q) H locs ls hP hS hL) (fun q => kf (fun z => q ((iI_le hb ha).mpr z)) H locs ls hP hS hL)
theorem v_if_ge (E : EV dsc X cc own nL lv) {a : Int} {off : Int} (tgt : Nat) (hd : decode cc pc = .ok (.ifCond .ge off, 3)) (ht : (pc : Int) + off = (tgt : Int)) (ha : Rng a) (kt : 0 ≤ a → VV dsc X tgt L st σ) (kf : ¬ 0 ≤ a → VV dsc X (pc + 3) L st σ) : VV dsc X pc L (.int (iI a) :: st) σ :=
  fun H locs ls hP hS hL => lv_if_ge E.1 E.2.1 hd ht (fun q => kt ((iI_le Rng_0 ha).mp q) H locs ls hP hS hL) (fun q => kf (fun z => q ((iI_le Rng_0 ha).mpr z)) H locs ls hP hS hL)
theorem v_icmp_gt (E : EV dsc X cc own nL lv) {a b : Int} {off : Int} (tgt : Nat) (hd : decode cc pc = .ok (.if_icmp .gt off, 3)) (ht : (pc : Int) + off = (tgt : Int)) (ha : Rng a) (hb : Rng b) (kt : b < a → VV dsc X tgt L st σ) (kf : ¬ b < a → VV dsc X (pc + 3) L st σ) : VV dsc X pc L (.int (iI b) :: .int (iI a) :: st) σ :=
  fun H locs ls hP hS hL => lv_icmp_gt E.1 E.2.1 hd ht (fun q => kt ((iI_lt hb ha).mp q) H locs ls hP hS hL) (fun q => kf (fun z => q ((iI_lt hb ha).mpr z)) H locs ls hP hS hL)
theorem v_if_gt (E : EV dsc X cc own nL lv) {a : Int} {off : Int} (tgt : Nat) (hd : decode cc pc = .ok (.ifCond .gt off, 3)) (ht : (pc : Int) + off = (tgt : Int)) (ha : Rng a) (kt : 0 < a → VV dsc X tgt L st σ) (kf : ¬ 0 < a → VV dsc X (pc + 3) L st σ) : VV dsc X pc L (.int (iI a) :: st) σ :=
  fun H locs ls hP hS hL => lv_if_gt E.1 E.2.1 hd ht (fun q => kt ((iI_lt Rng_0 ha).mp q) H locs ls hP hS hL) (fun q => kf (fun z => q ((iI_lt Rng_0 ha).mpr z)) H locs ls hP hS hL)
theorem v_icmp_le (E : EV dsc X cc own nL lv) {a b : Int} {off : Int} (tgt : Nat) (hd : decode cc pc = .ok (.if_icmp .le off, 3)) (ht : (pc : Int) + off = (tgt : Int)) (ha : Rng a) (hb : Rng b) (kt : a ≤ b → VV dsc X tgt L st σ) (kf : ¬ a ≤ b → VV dsc X (pc + 3) L st σ) : VV dsc X pc L (.int (iI b) :: .int (iI a) :: st) σ :=
  fun H locs ls hP hS hL => lv_icmp_le E.1 E.2.1 hd ht (fun q => kt ((iI_le ha hb).mp q) H locs ls hP hS hL) (fun q => kf (fun z => q ((iI_le ha hb).mpr z)) H locs ls hP hS hL)
theorem v_if_le (E : EV dsc X cc own nL lv) {a : Int} {off : Int} (tgt : Nat) (hd : decode cc pc = .ok (.ifCond .le off, 3)) (ht : (pc : Int) + off = (tgt : Int)) (ha : Rng a) (kt : a ≤ 0 → VV dsc X tgt L st σ) (kf : ¬ a ≤ 0 → VV dsc X (pc + 3) L st σ) : VV dsc X pc L (.int (iI a) :: st) σ :=
  fun H locs ls hP hS hL => lv_if_le E.1 E.2.1 hd ht (fun q => kt ((iI_le ha Rng_0).mp q) H locs ls hP hS hL) (fun q => kf (fun z => q ((iI_le ha Rng_0).mpr z)) H locs ls hP hS hL)
end RW
section RL
variable {dsc : List CD} {X : XC} {cc : ByteArray} {own : String} {nL lv pc : Nat} {L L' : List (Nat × Value)} {st : List Value} {σ : MS}
/-- lcmp and the branch behind it -/
theorem v_lcmp_eq (E : EV dsc X cc own nL lv) {a b : Int64} {off : Int} (tgt : Nat) (hd0 : decode cc pc = .ok (.lcmp, 1)) (hd : decode cc (pc + 1) = .ok (.ifCond .eq off, 3)) (ht : ((pc + 1 : Nat) : Int) + off = (tgt : Int)) (kt : a = b → VV dsc X tgt L st σ) (kf : ¬ a = b → VV dsc X (pc + 1 + 3) L st σ) : VV dsc X pc L (.long b :: .long a :: st) σ :=
  fun H locs ls hP hS hL => W.lcmp E.1 E.2.1 hd0 (lv_if_eq E.1 E.2.1 hd ht (fun q => kt (by
    by_cases h : a = b
    · exact h
    · by_cases h2 : b < a
      · simp [lg_cmp, h2] at q
      · simp [lg_cmp, h, h2] at q) H locs ls hP hS hL) (fun q => kf (by
    intro h
    subst h
    simp [lg_cmp] at q) H locs ls hP hS hL))
theorem v_lcmp_ne (E : EV dsc X cc own nL lv) {a b : Int64} {off : Int} (tgt : Nat) (hd0 : decode cc pc = .ok (.lcmp, 1)) (hd : decode cc (pc + 1) = .ok (.ifCond .ne off, 3)) (ht : ((pc + 1 : Nat) : Int) + off = (tgt : Int)) (kt : ¬ a = b → VV dsc X tgt L st σ) (kf : a = b → VV dsc X (pc + 1 + 3) L st σ) : VV dsc X pc L (.long b :: .long a :: st) σ :=
  fun H locs ls hP hS hL => W.lcmp E.1 E.2.1 hd0 (lv_if_ne E.1 E.2.1 hd ht (fun q => kt (by
    intro h
    subst h
    simp [lg_cmp] at q) H locs ls hP hS hL) (fun q => kf (by
    by_cases h : a = b
    · exact h
    · by_cases h2 : b < a
      · simp [lg_cmp, h2] at q
      · simp [lg_cmp, h, h2] at q) H locs ls hP hS hL))
theorem lg_c3 (a b : Int64) : (b < a ∧ lg_cmp a b = 1 ∧ ¬ a < b) ∨ (a = b ∧ lg_cmp a b = 0) ∨ (¬ b < a ∧ ¬ a = b ∧ lg_cmp a b = -1 ∧ a < b) := by
  by_cases h : b < a
  · exact Or.inl ⟨h, by simp [lg_cmp, h], lg_lt_not h⟩
  · by_cases h2 : a = b
    · exact Or.inr (Or.inl ⟨h2, by simp [lg_cmp, h, h2]⟩)
    · refine Or.inr (Or.inr ⟨h, h2, by simp [lg_cmp, h, h2], ?_⟩)
      rw [Int64.lt_iff_toInt_lt] at *
      rw [← Int64.toInt_inj] at h2
      omega
theorem v_lcmp_lt (E : EV dsc X cc own nL lv) {a b : Int64} {off : Int} (tgt : Nat) (hd0 : decode cc pc = .ok (.lcmp, 1)) (hd : decode cc (pc + 1) = .ok (.ifCond .lt off, 3)) (ht : ((pc + 1 : Nat) : Int) + off = (tgt : Int)) (kt : a < b → VV dsc X tgt L st σ) (kf : ¬ a < b → VV dsc X (pc + 1 + 3) L st σ) : VV dsc X pc L (.long b :: .long a :: st) σ :=
  fun H locs ls hP hS hL => W.lcmp E.1 E.2.1 hd0 (lv_if_lt E.1 E.2.1 hd ht (fun q => kt (by
    rcases lg_c3 a b with h | h | h
    · rw [h.2.1] at q; exact absurd q (by decide)
    · rw [h.2] at q; exact absurd q (by decide)
    · exact h.2.2.2) H locs ls hP hS hL) (fun q => kf (by
    rcases lg_c3 a b with h | h | h
    · exact h.2.2
    · rw [h.1]; exact fun z => lg_lt_not z z
    · rw [h.2.2.1] at q; exact absurd (by decide) q) H locs ls hP hS hL))
theorem v_lcmp_le (E : EV dsc X cc own nL lv) {a b : Int64} {off : Int} (tgt : Nat) (hd0 : decode cc pc = .ok (.lcmp, 1)) (hd : decode cc (pc + 1) = .ok (.ifCond .le off, 3)) (ht : ((pc + 1 : Nat) : Int) + off = (tgt : Int)) (kt : ¬ b < a → VV dsc X tgt L st σ) (kf : b < a → VV dsc X (pc + 1 + 3) L st σ) : VV dsc X pc L (.long b :: .long a :: st) σ :=
  fun H locs ls hP hS hL => W.lcmp E.1 E.2.1 hd0 (lv_if_le E.1 E.2.1 hd ht (fun q => kt (by
    rcases lg_c3 a b with h | h | h
    · rw [h.2.1] at q; exact absurd q (by decide)
    · rw [h.1]; exact fun z => lg_lt_not z z
    · exact h.1) H locs ls hP hS hL) (fun q => kf (by
    rcases lg_c3 a b with h | h | h
    · exact h.1
    · rw [h.2] at q; exact absurd (by decide) q
    · rw [h.2.2.1] at q; exact absurd (by decide) q) H locs ls hP hS hL))
end RL
/-! ===== the heap's rows ===== -/
theorem rreq_R {dsc : List CD} {k ci j o : Nat} {fs : List (Nat × Nat)} (hk : dsc[k]? = some (.inr (ci, fs))) (hf : fs[j]? = some (2, o)) : rreq dsc k (j : Int) = some dVal := by
  simp [rreq, hk, hf]
theorem rreq_A {dsc : List CD} {k n : Nat} {j : Int} (hk : dsc[k]? = some (.inl (2, n))) : rreq dsc k j = some dSt := by
  simp [rreq, hk]
/-- what a class's field rows need of its table -/
def CF (ci : Nat) (C : String) (T : u_T) (N : Nat) (ty : Nat → FieldType) : Prop :=
  CLS[ci]? = some (C, T, N) ∧ (∀ w ∈ u_ws C T N, w ∈ TB) ∧ (∀ k, k < N → parseFieldDescriptor (T k).2.2.1 = some (ty k)) ∧ ∀ a, a < N → ∀ b, b < N → a ≠ b → (T a).2.1 ≠ (T b).2.1
section RH
variable {dsc : List CD} {X : XC} {cc : ByteArray} {own : String} {nL lv pc : Nat} {L L' : List (Nat × Value)} {st : List Value} {σ : MS}
variable {ci N : Nat} {C : String} {T : u_T} {ty : Nat → FieldType} {k : Nat} {fs : List (Nat × Nat)}
theorem v_getX (E : EV dsc X cc own nL lv) (cf : CF ci C T N ty) (hk : dsc[k]? = some (.inr (ci, fs))) (j : Nat) (hj : j < N) (hdecl : (T j).1 = C) {ix : Nat} (hl : Cond.fieldLink own ix C (T j).2.1 (T j).2.2.1 ∈ TB) (hd : decode cc pc = .ok (.getfield ix, 3)) {f : Nat × Nat} (hf : fs[j]? = some f) (h : ∀ (H : Heap) (locs : List Loc) (ls : Array Slot), WH dsc X.2.2.1 σ H → va_S (wA dsc X.2.2.1) X.1.2.2.2.2.1.heap H locs → lv_has ls X.2.2.2.1 L →
    W X.1.1 X.1.2.1 X.1.2.2.1 X.1.2.2.2.1 X.1.2.2.2.2.1 X.1.2.2.2.2.2 X.2.1.1 X.2.1.2.1 X.2.1.2.2.1 X.2.1.2.2.2 H locs 0 0 X.2.2.2.2 (F0 X.1.2.2.2.2.2 (pc + 3) ls (fval (adX X) σ k j f :: st))) : VV dsc X pc L (.ref (adX X k) :: st) σ := by
  intro H locs ls hP hS hL
  refine va_get E.1 E.2.1 E.2.2.2.2.2.1 cf.2.1 E.2.2.2.2.1 E.2.2.2.2.2.2.1 hP.1 k (wl_get X.2.2.1 σ hk) cf.1 j hj (E.2.2.2.2.2.1 _ hl) (fun x hx => by rw [hdecl] at hx; exact hx) (v := fval (adX X) σ k j f) ?_ hd (h H locs ls hP hS hL)
  rw [List.getElem?_mapIdx, hf]
  rfl
theorem v_getI (E : EV dsc X cc own nL lv) (cf : CF ci C T N ty) (hk : dsc[k]? = some (.inr (ci, fs))) (j : Nat) (hj : j < N) (hdecl : (T j).1 = C) {ix : Nat} (hl : Cond.fieldLink own ix C (T j).2.1 (T j).2.2.1 ∈ TB) (hd : decode cc pc = .ok (.getfield ix, 3)) {o : Nat} (hf : fs[j]? = some (0, o)) (h : VV dsc X (pc + 3) L (.int (iI (gI σ k j)) :: st) σ) : VV dsc X pc L (.ref (adX X k) :: st) σ :=
  v_getX E cf hk j hj hdecl hl hd hf h
theorem v_getL (E : EV dsc X cc own nL lv) (cf : CF ci C T N ty) (hk : dsc[k]? = some (.inr (ci, fs))) (j : Nat) (hj : j < N) (hdecl : (T j).1 = C) {ix : Nat} (hl : Cond.fieldLink own ix C (T j).2.1 (T j).2.2.1 ∈ TB) (hd : decode cc pc = .ok (.getfield ix, 3)) {o : Nat} (hf : fs[j]? = some (1, o)) (h : VV dsc X (pc + 3) L (.long (gL σ k j) :: st) σ) : VV dsc X pc L (.ref (adX X k) :: st) σ :=
  v_getX E cf hk j hj hdecl hl hd hf h
theorem v_getO (E : EV dsc X cc own nL lv) (cf : CF ci C T N ty) (hk : dsc[k]? = some (.inr (ci, fs))) (j : Nat) (hj : j < N) (hdecl : (T j).1 = C) {ix : Nat} (hl : Cond.fieldLink own ix C (T j).2.1 (T j).2.2.1 ∈ TB) (hd : decode cc pc = .ok (.getfield ix, 3)) {o : Nat} (hf : fs[j]? = some (3, o)) (h : VV dsc X (pc + 3) L (.ref (adX X (k + o)) :: st) σ) : VV dsc X pc L (.ref (adX X k) :: st) σ :=
  v_getX E cf hk j hj hdecl hl hd hf h
theorem v_getA (E : EV dsc X cc own nL lv) (cf : CF ci C T N ty) (hk : dsc[k]? = some (.inr (ci, fs))) (j : Nat) (hj : j < N) (hdecl : (T j).1 = C) {ix : Nat} (hl : Cond.fieldLink own ix C (T j).2.1 (T j).2.2.1 ∈ TB) (hd : decode cc pc = .ok (.getfield ix, 3)) {o : Nat} (hf : fs[j]? = some (4, o)) (h : VV dsc X (pc + 3) L (.ref (adX X o) :: st) σ) : VV dsc X pc L (.ref (adX X k) :: st) σ :=
  v_getX E cf hk j hj hdecl hl hd hf h
theorem v_getR (E : EV dsc X cc own nL lv) (cf : CF ci C T N ty) (hk : dsc[k]? = some (.inr (ci, fs))) (j : Nat) (hj : j < N) (hdecl : (T j).1 = C) {ix : Nat} (hl : Cond.fieldLink own ix C (T j).2.1 (T j).2.2.1 ∈ TB) (hd : decode cc pc = .ok (.getfield ix, 3)) {o : Nat} (hf : fs[j]? = some (2, o)) (h : dsc[gR σ k j]? = some dVal → VV dsc X (pc + 3) L (.ref (adX X (gR σ k j)) :: st) σ) : VV dsc X pc L (.ref (adX X k) :: st) σ := by
  refine v_getX E cf hk j hj hdecl hl hd hf (fun H locs ls hP => ?_)
  exact h (hP.2.2 k j dVal (rreq_R hk hf)) H locs ls hP
theorem mapIdx_set {ad : Nat → Nat} {σ σ' : MS} {k j : Nat} {f : Nat × Nat} (fs : List (Nat × Nat)) (hf : fs[j]? = some f) {v : Value} (hv : fval ad σ' k j f = v) (hne : ∀ i g, i ≠ j → fval ad σ' k i g = fval ad σ k i g) : (fs.mapIdx (fun j f => fval ad σ k j f)).set j v = fs.mapIdx (fun j f => fval ad σ' k j f) := by
  have hj : j < fs.length := (List.getElem?_eq_some_iff.mp hf).1
  apply List.ext_getElem?
  intro i
  by_cases hi : i = j
  · subst hi
    rw [List.getElem?_set_self (by rw [List.length_mapIdx]; exact hj), List.getElem?_mapIdx, hf, ← hv]
    rfl
  · rw [List.getElem?_set_ne (fun e => hi e.symm), List.getElem?_mapIdx, List.getElem?_mapIdx]
    cases fs[i]? with
    | none => rfl
    | some g => exact congrArg some (hne i g hi).symm
theorem v_putX (E : EV dsc X cc own nL lv) (cf : CF ci C T N ty) (hk : dsc[k]? = some (.inr (ci, fs))) (j : Nat) (hj : j < N) (hdecl : (T j).1 = C) (hfin : (T j).2.2.2 = false) {ix : Nat} (hl : Cond.fieldLink own ix C (T j).2.1 (T j).2.2.1 ∈ TB) (hd : decode cc pc = .ok (.putfield ix, 3)) {f : Nat × Nat} (hf : fs[j]? = some f) {v : Value} (hn : narrow (ty j) v = v) (hfit : fits (ty j) v = true) {σ' : MS}
    (h1 : fval (adX X) σ' k j f = v) (h2 : ∀ i g, i ≠ j → fval (adX X) σ' k i g = fval (adX X) σ k i g) (h3 : ∀ i cd, i ≠ k → cellE X.2.2.1 σ' i cd = cellE X.2.2.1 σ i cd) (h4 : WT dsc σ → WT dsc σ') (h : VV dsc X (pc + 3) L st σ') : VV dsc X pc L (v :: .ref (adX X k) :: st) σ := by
  intro H locs ls hP hS hL
  have hw := wl_get X.2.2.1 σ hk
  refine va_put E.1 E.2.1 E.2.2.2.2.2.1 cf.2.1 ty cf.2.2.1 cf.2.2.2 E.2.2.2.2.1 E.2.2.2.2.2.2.1 hP.1 (wl_D E.2.2.2.2.2.2.2.1 σ) hS k hw cf.1 j hj (E.2.2.2.2.2.1 _ hl) (fun x hx => by rw [hdecl] at hx; exact hx) hfin (cf.2.2.1 j hj) hn hfit (by rw [List.length_mapIdx]; exact (List.getElem?_eq_some_iff.mp hf).1) hd (fun H1 locs1 hP1 _ hS1 => ?_)
  refine h H1 locs1 ls ⟨?_, h4 hP.2⟩ hS1 hL
  have e : (fs.mapIdx (fun j f => fval X.2.2.1.2.1 σ k j f)).set j v = fs.mapIdx (fun j f => fval X.2.2.1.2.1 σ' k j f) := mapIdx_set fs hf h1 h2
  rw [e] at hP1
  rw [← wl_set (w := X.2.2.1) (σ := σ) (σ' := σ') hk h3]
  exact hP1
theorem v_putI (E : EV dsc X cc own nL lv) (cf : CF ci C T N ty) (hk : dsc[k]? = some (.inr (ci, fs))) (j : Nat) (hj : j < N) (hdecl : (T j).1 = C) (hfin : (T j).2.2.2 = false) {ix : Nat} (hl : Cond.fieldLink own ix C (T j).2.1 (T j).2.2.1 ∈ TB) (hd : decode cc pc = .ok (.putfield ix, 3)) {o : Nat} (hf : fs[j]? = some (0, o)) {x : Int} (hn : narrow (ty j) (.int (iI x)) = .int (iI x)) (hfit : fits (ty j) (.int (iI x)) = true) (hx : Rng x) (h : VV dsc X (pc + 3) L st (sI σ k j x)) : VV dsc X pc L (.int (iI x) :: .ref (adX X k) :: st) σ :=
  v_putX E cf hk j hj hdecl hfin hl hd hf hn hfit (by show Value.int (iI (gI (sI σ k j x) k j)) = _; rw [gI_sI, if_pos ⟨rfl, rfl⟩]) (fun i g hi => fval_sI (Or.inr (by omega))) (fun i cd hi => cellE_sI hi cd) (fun z => WT_sI z k j hx) h
theorem v_putL (E : EV dsc X cc own nL lv) (cf : CF ci C T N ty) (hk : dsc[k]? = some (.inr (ci, fs))) (j : Nat) (hj : j < N) (hdecl : (T j).1 = C) (hfin : (T j).2.2.2 = false) {ix : Nat} (hl : Cond.fieldLink own ix C (T j).2.1 (T j).2.2.1 ∈ TB) (hd : decode cc pc = .ok (.putfield ix, 3)) {o : Nat} (hf : fs[j]? = some (1, o)) {x : Int64} (hn : narrow (ty j) (.long x) = .long x) (hfit : fits (ty j) (.long x) = true) (h : VV dsc X (pc + 3) L st (sL σ k j x)) : VV dsc X pc L (.long x :: .ref (adX X k) :: st) σ :=
  v_putX E cf hk j hj hdecl hfin hl hd hf hn hfit (by show Value.long (gL (sL σ k j x) k j) = _; rw [gL_sL, if_pos ⟨rfl, rfl⟩]) (fun i g hi => fval_sL (Or.inr (by omega))) (fun i cd hi => cellE_sL hi cd) (fun z => WT_sL z k j x) h
theorem v_putR (E : EV dsc X cc own nL lv) (cf : CF ci C T N ty) (hk : dsc[k]? = some (.inr (ci, fs))) (j : Nat) (hj : j < N) (hdecl : (T j).1 = C) (hfin : (T j).2.2.2 = false) {ix : Nat} (hl : Cond.fieldLink own ix C (T j).2.1 (T j).2.2.1 ∈ TB) (hd : decode cc pc = .ok (.putfield ix, 3)) {o : Nat} (hf : fs[j]? = some (2, o)) {x : Nat} (hn : ∀ z, narrow (ty j) (.ref z) = .ref z) (hfit : ∀ z, fits (ty j) (.ref z) = true) (hx : dsc[x]? = some dVal) (h : VV dsc X (pc + 3) L st (sR σ k j x)) : VV dsc X pc L (.ref (adX X x) :: .ref (adX X k) :: st) σ :=
  v_putX E cf hk j hj hdecl hfin hl hd hf (hn _) (hfit _) (by show Value.ref (adX X (gR (sR σ k j x) k j)) = _; rw [gR_sR, if_pos ⟨rfl, rfl⟩]) (fun i g hi => fval_sR (Or.inr (by omega))) (fun i cd hi => cellE_sR hi cd) (fun z => WT_sR z k j (d := dVal) (rreq_R hk hf) hx) h
/-! arrays -/
theorem v_iald (E : EV dsc X cc own nL lv) {n : Nat} (hk : dsc[k]? = some (.inl (0, n))) (hn : n < 2147483648) {i : Int} (h0 : 0 ≤ i) (h1 : i < (n : Int)) (hd : decode cc pc = .ok (.iaload, 1)) (h : VV dsc X (pc + 1) L (.int (iI (gI σ k i)) :: st) σ) : VV dsc X pc L (.int (iI i) :: .ref (adX X k) :: st) σ := by
  intro H locs ls hP hS hL
  have hh := h H locs ls hP hS hL
  refine va_iald E.1 E.2.1 E.2.2.2.2.2.2.1 hP.1 k 0 (wl_get X.2.2.1 σ hk) rfl (iI_in h0 h1 hn) hd ?_
  show W _ _ _ _ _ _ _ _ _ _ _ _ _ _ _ (F0 _ _ _ (.int (iI (gI σ k ((iI i).toNatClampNeg : Nat))) :: st))
  rw [iI_clamp h0 (by omega), Int.toNat_of_nonneg h0]
  exact hh
theorem v_cald (E : EV dsc X cc own nL lv) {n : Nat} (hk : dsc[k]? = some (.inl (3, n))) (hn : n < 2147483648) {i : Int} (h0 : 0 ≤ i) (h1 : i < (n : Int)) (hd : decode cc pc = .ok (.caload, 1)) (h : VV dsc X (pc + 1) L (.int (iI (gI σ k i)) :: st) σ) : VV dsc X pc L (.int (iI i) :: .ref (adX X k) :: st) σ := by
  intro H locs ls hP hS hL
  have hh := h H locs ls hP hS hL
  refine va_cald E.1 E.2.1 E.2.2.2.2.2.2.1 hP.1 k 2 (wl_get X.2.2.1 σ hk) rfl (iI_in h0 h1 hn) hd ?_
  show W _ _ _ _ _ _ _ _ _ _ _ _ _ _ _ (F0 _ _ _ (.int (iI (gI σ k ((iI i).toNatClampNeg : Nat))) :: st))
  rw [iI_clamp h0 (by omega), Int.toNat_of_nonneg h0]
  exact hh
theorem v_lald (E : EV dsc X cc own nL lv) {n : Nat} (hk : dsc[k]? = some (.inl (1, n))) (hn : n < 2147483648) {i : Int} (h0 : 0 ≤ i) (h1 : i < (n : Int)) (hd : decode cc pc = .ok (.laload, 1)) (h : VV dsc X (pc + 1) L (.long (gL σ k i) :: st) σ) : VV dsc X pc L (.int (iI i) :: .ref (adX X k) :: st) σ := by
  intro H locs ls hP hS hL
  have hh := h H locs ls hP hS hL
  refine va_lald E.1 E.2.1 E.2.2.2.2.2.2.1 hP.1 k 1 (wl_get X.2.2.1 σ hk) rfl (iI_in h0 h1 hn) hd ?_
  show W _ _ _ _ _ _ _ _ _ _ _ _ _ _ _ (F0 _ _ _ (.long (gL σ k ((iI i).toNatClampNeg : Nat)) :: st))
  rw [iI_clamp h0 (by omega), Int.toNat_of_nonneg h0]
  exact hh
theorem v_aald (E : EV dsc X cc own nL lv) {n : Nat} (hk : dsc[k]? = some (.inl (2, n))) (hn : n < 2147483648) {i : Int} (h0 : 0 ≤ i) (h1 : i < (n : Int)) (hd : decode cc pc = .ok (.aaload, 1)) (h : dsc[gR σ k i]? = some dSt → VV dsc X (pc + 1) L (.ref (adX X (gR σ k i)) :: st) σ) : VV dsc X pc L (.int (iI i) :: .ref (adX X k) :: st) σ := by
  intro H locs ls hP hS hL
  have hh := h (hP.2.2 k i dSt (rreq_A hk)) H locs ls hP hS hL
  refine va_aldq E.1 E.2.1 E.2.2.2.2.2.2.1 hP.1 k 3 (wl_get X.2.2.1 σ hk) rfl (iI_in h0 h1 hn) hd ?_
  show W _ _ _ _ _ _ _ _ _ _ _ _ _ _ _ (F0 _ _ _ (.ref (adX X (gR σ k ((iI i).toNatClampNeg : Nat))) :: st))
  rw [iI_clamp h0 (by omega), Int.toNat_of_nonneg h0]
  exact hh
theorem upd_iI {σ : MS} {k : Nat} {i x : Int} (h0 : 0 ≤ i) (h1 : i < 2147483648) : upd (fun j : Nat => iI (gI σ k j)) (iI i).toNatClampNeg (iI x) = fun j : Nat => iI (gI (sI σ k i x) k j) := by
  funext j
  rw [iI_clamp h0 h1, gI_sI]
  unfold upd
  by_cases e : j = i.toNat
  · rw [if_pos e, if_pos ⟨rfl, by omega⟩]
  · rw [if_neg e, if_neg (fun q => e (by omega))]
theorem v_iast (E : EV dsc X cc own nL lv) {n : Nat} (hk : dsc[k]? = some (.inl (0, n))) (hn : n < 2147483648) {i x : Int} (h0 : 0 ≤ i) (h1 : i < (n : Int)) (hx : Rng x) (hd : decode cc pc = .ok (.iastore, 1)) (h : VV dsc X (pc + 1) L st (sI σ k i x)) : VV dsc X pc L (.int (iI x) :: .int (iI i) :: .ref (adX X k) :: st) σ := by
  intro H locs ls hP hS hL
  refine va_iast E.1 E.2.1 E.2.2.2.2.2.2.1 hP.1 (wl_D E.2.2.2.2.2.2.2.1 σ) hS k 0 (wl_get X.2.2.1 σ hk) rfl (iI_in h0 h1 hn) hd (fun H1 locs1 hP1 _ hS1 => ?_)
  refine h H1 locs1 ls ⟨?_, WT_sI hP.2 k i hx⟩ hS1 hL
  rw [upd_iI h0 (by omega)] at hP1
  rw [← wl_set (w := X.2.2.1) (σ := σ) (σ' := sI σ k i x) hk (fun a cd hi => cellE_sI hi cd)]
  exact hP1
theorem v_cast (E : EV dsc X cc own nL lv) {n : Nat} (hk : dsc[k]? = some (.inl (3, n))) (hn : n < 2147483648) {i x : Int} (h0 : 0 ≤ i) (h1 : i < (n : Int)) (hx : 0 ≤ x) (hx2 : x < 65536) (hd : decode cc pc = .ok (.castore, 1)) (h : VV dsc X (pc + 1) L st (sI σ k i x)) : VV dsc X pc L (.int (iI x) :: .int (iI i) :: .ref (adX X k) :: st) σ := by
  intro H locs ls hP hS hL
  refine va_cast E.1 E.2.1 E.2.2.2.2.2.2.1 hP.1 (wl_D E.2.2.2.2.2.2.2.1 σ) hS k 2 (wl_get X.2.2.1 σ hk) rfl (iI_in h0 h1 hn) hd (fun H1 locs1 hP1 _ hS1 => ?_)
  refine h H1 locs1 ls ⟨?_, WT_sI hP.2 k i ⟨by omega, by omega⟩⟩ hS1 hL
  rw [iI_nar hx hx2, upd_iI h0 (by omega)] at hP1
  rw [← wl_set (w := X.2.2.1) (σ := σ) (σ' := sI σ k i x) hk (fun a cd hi => cellE_sI hi cd)]
  exact hP1
theorem updL_gL {σ : MS} {k : Nat} {i : Int} {x : Int64} (h0 : 0 ≤ i) (h1 : i < 2147483648) : vp_updL (fun j : Nat => gL σ k j) (iI i).toNatClampNeg x = fun j : Nat => gL (sL σ k i x) k j := by
  funext j
  rw [iI_clamp h0 h1, gL_sL]
  unfold vp_updL
  by_cases e : j = i.toNat
  · rw [if_pos e, if_pos ⟨rfl, by omega⟩]
  · rw [if_neg e, if_neg (fun q => e (by omega))]
theorem v_last (E : EV dsc X cc own nL lv) {n : Nat} (hk : dsc[k]? = some (.inl (1, n))) (hn : n < 2147483648) {i : Int} {x : Int64} (h0 : 0 ≤ i) (h1 : i < (n : Int)) (hd : decode cc pc = .ok (.lastore, 1)) (h : VV dsc X (pc + 1) L st (sL σ k i x)) : VV dsc X pc L (.long x :: .int (iI i) :: .ref (adX X k) :: st) σ := by
  intro H locs ls hP hS hL
  refine va_last E.1 E.2.1 E.2.2.2.2.2.2.1 hP.1 (wl_D E.2.2.2.2.2.2.2.1 σ) hS k 1 (wl_get X.2.2.1 σ hk) rfl (iI_in h0 h1 hn) hd (fun H1 locs1 hP1 _ hS1 => ?_)
  refine h H1 locs1 ls ⟨?_, WT_sL hP.2 k i x⟩ hS1 hL
  rw [updL_gL h0 (by omega)] at hP1
  rw [← wl_set (w := X.2.2.1) (σ := σ) (σ' := sL σ k i x) hk (fun a cd hi => cellE_sL hi cd)]
  exact hP1
theorem va_up_gR {ad : Nat → Nat} {σ : MS} {k v : Nat} {i : Int} (h0 : 0 ≤ i) (h1 : i < 2147483648) : va_up (fun j : Nat => some (ad (gR σ k j))) (iI i).toNatClampNeg (some (ad v)) = fun j : Nat => some (ad (gR (sR σ k i v) k j)) := by
  funext j
  rw [iI_clamp h0 h1, gR_sR]
  unfold va_up
  by_cases e : j = i.toNat
  · rw [if_pos e, if_pos ⟨rfl, by omega⟩]
  · rw [if_neg e, if_neg (fun q => e (by omega))]
theorem v_aast (E : EV dsc X cc own nL lv) {n v : Nat} (hk : dsc[k]? = some (.inl (2, n))) (hn : n < 2147483648) (hv : dsc[v]? = some dSt) {i : Int} (h0 : 0 ≤ i) (h1 : i < (n : Int)) (hd : decode cc pc = .ok (.aastore, 1)) (h : VV dsc X (pc + 1) L st (sR σ k i v)) : VV dsc X pc L (.ref (adX X v) :: .int (iI i) :: .ref (adX X k) :: st) σ := by
  intro H locs ls hP hS hL
  refine va_astq E.1 E.2.1 E.2.2.2.2.2.2.1 hP.1 (wl_D E.2.2.2.2.2.2.2.1 σ) hS k 3 v 5 (wl_get X.2.2.1 σ hk) rfl (wl_get X.2.2.1 σ hv) rfl (iI_in h0 h1 hn) hd (fun H1 locs1 hP1 _ hS1 => ?_)
  refine h H1 locs1 ls ⟨?_, WT_sR hP.2 k i (rreq_A hk) hv⟩ hS1 hL
  rw [show X.2.2.1.2.1 v = adX X v from rfl] at hP1
  have e := va_up_gR (ad := adX X) (σ := σ) (k := k) (v := v) h0 (by omega)
  have e2 : (wl dsc X.2.2.1 σ).set k (X.2.2.1.2.1 k, cellE X.2.2.1 (sR σ k i v) k (.inl (2, n))) = wl dsc X.2.2.1 (sR σ k i v) := wl_set hk (fun a cd hi => cellE_sR hi cd)
  rw [← e2]
  show va_P _ _ ((wl dsc X.2.2.1 σ).set k (adX X k, .inl (X.2.2.1.2.2.2.2.2, n, .inr (.inr (.inr (.inr (fun j : Nat => some (adX X (gR (sR σ k i v) k j))))))))) H1
  rw [← e]
  exact hP1
theorem v_alen (E : EV dsc X cc own nL lv) {t n : Nat} (ht : t < 4) (hk : dsc[k]? = some (.inl (t, n))) (hd : decode cc pc = .ok (.arraylength, 1)) (h : VV dsc X (pc + 1) L (.int (iI (n : Int)) :: st) σ) : VV dsc X pc L (.ref (adX X k) :: st) σ := by
  intro H locs ls hP hS hL
  have hh := h H locs ls hP hS hL
  match t, ht with
  | 0, _ => exact va_alen E.1 E.2.1 E.2.2.2.2.2.2.1 hP.1 k 0 (wl_get X.2.2.1 σ hk) rfl (iI_nat n).symm hd hh
  | 1, _ => exact va_alen E.1 E.2.1 E.2.2.2.2.2.2.1 hP.1 k 1 (wl_get X.2.2.1 σ hk) rfl (iI_nat n).symm hd hh
  | 2, _ => exact va_alen E.1 E.2.1 E.2.2.2.2.2.2.1 hP.1 k 3 (wl_get X.2.2.1 σ hk) rfl (iI_nat n).symm hd hh
  | 3, _ => exact va_alen E.1 E.2.1 E.2.2.2.2.2.2.1 hP.1 k 2 (wl_get X.2.2.1 σ hk) rfl (iI_nat n).symm hd hh
/-! the static array -/
theorem v_getH (E : EV dsc X cc own nL lv) {ix : Nat} (hl : Cond.fieldLink own ix "BellSchool$Search" "HOLDING" "[J" ∈ TB) (hd : decode cc pc = .ok (.getstatic ix, 3)) (h : ∀ t : Nat, HT t (wA dsc X.2.2.1) X.1.2.2.2.2.1 X.1.2.2.2.2.1.heap → VV dsc X (pc + 3) L (.ref t :: st) σ) : VV dsc X pc L st σ := by
  obtain ⟨-, -, t, hZ, hT⟩ := E.2.2.2.2.2.2.2.2.1
  intro H locs ls hP hS hL
  exact va_gets E.1 E.2.1 hZ hS E.2.2.2.2.1 (E.2.2.2.2.2.1 _ hl) (fun _ x => x) hd (h t hT H locs ls hP hS hL)
theorem v_lenH (E : EV dsc X cc own nL lv) {t : Nat} (hT : HT t (wA dsc X.2.2.1) X.1.2.2.2.2.1 X.1.2.2.2.2.1.heap) (hd : decode cc pc = .ok (.arraylength, 1)) (h : VV dsc X (pc + 1) L (.int (iI 6) :: st) σ) : VV dsc X pc L (.ref t :: st) σ := by
  intro H locs ls hP hS hL
  exact va_tlen E.1 E.2.1 hT hS (iI_nat 6).symm hd (h H locs ls hP hS hL)
theorem v_laldH (E : EV dsc X cc own nL lv) {t : Nat} (hT : HT t (wA dsc X.2.2.1) X.1.2.2.2.2.1 X.1.2.2.2.2.1.heap) {i : Int} (h0 : 0 ≤ i) (h1 : i < 6) (hd : decode cc pc = .ok (.laload, 1)) (h : VV dsc X (pc + 1) L (.long (HOLD i) :: st) σ) : VV dsc X pc L (.int (iI i) :: .ref t :: st) σ := by
  intro H locs ls hP hS hL
  refine va_tl E.1 E.2.1 hT hS (iI_in (n := 6) h0 h1 (by decide)) (v := .long (HOLD i)) ?_ hd (h H locs ls hP hS hL)
  show Value.long (HOLD ((iI i).toNatClampNeg : Nat)) = _
  rw [iI_clamp h0 (by omega), Int.toNat_of_nonneg h0]
end RH
end
section
/-! ===== methods: entry, end, calls, loops ===== -/
def rmL (n : Nat) : Room := { frames := n, cells := 0, slots := 0, locals := 40 * n }
def po_I (dsc : List CD) (Q : Int → MS → Prop) (w : WDt) : Array Value → State → Outcome → State → Prop := va_Qi (S := Int × MS) (fun r u => r = iI u.1 ∧ Rng u.1 ∧ Q u.1 u.2) (fun u t => WH dsc w u.2 t.heap) (wA dsc w)
def po_L (dsc : List CD) (Q : Int64 → MS → Prop) (w : WDt) : Array Value → State → Outcome → State → Prop := va_Ql (S := MS) (fun r u => Q r u) (fun u t => WH dsc w u t.heap) (wA dsc w)
def po_V (dsc : List CD) (Q : MS → Prop) (w : WDt) : Array Value → State → Outcome → State → Prop := va_Qv (S := MS) (fun u => Q u) (fun u t => WH dsc w u t.heap) (wA dsc w)
/-- a method's contract over the abstract state -/
def MT (dsc : List CD) (y : MethodName) (bytes : ByteArray) (maxL : Nat) (ret : Option FieldType) (lv : Nat) (As : (Nat → Nat) → List Value) (σ : MS) (Qc : WDt → Array Value → State → Outcome → State → Prop) : Prop :=
  ∀ (l : Launch) (w : WDt), wInj dsc w → Met l y (.code y bytes maxL ret :: TB) (rmL lv) (va_Pc (As w.2.1) (fun U => WU dsc w σ U)) (Qc w) 0 0 (wA dsc w)
def RT (dsc : List CD) (X : XC) (Qc : WDt → Array Value → State → Outcome → State → Prop) (ret : Option FieldType) : Prop :=
  X.2.2.2.2 = MQ X.2.1.2.1 (Qc X.2.2.1) X.2.1.1 X.1.2.2.2.2.1 0 0 (wA dsc X.2.2.1) ∧ X.2.1.2.2.1.sig.returnType = ret
theorem met_of {dsc : List CD} {y : MethodName} {bytes : ByteArray} {maxL lv : Nat} {ret : Option FieldType} {As : (Nat → Nat) → List Value} {σ : MS} {Qc : WDt → Array Value → State → Outcome → State → Prop} (hy : plainName y.cls = true) (hlen : ∀ ad, (lg_sl (As ad)).length ≤ maxL)
    (body : ∀ X : XC, EV dsc X bytes y.cls maxL lv → RT dsc X Qc ret → VV dsc X 0 (lv_args 0 (As (adX X))) [] σ) : MT dsc y bytes maxL ret lv As σ Qc := by
  intro l w hi
  refine Met.ofW (cc := bytes) (maxL := maxL) (ret := ret) hy rfl ?_
  intro p e s m args below meth c s₁ B hml hv
  obtain ⟨rfl, hP, hK, hZ⟩ := hv
  have hts := atoms_spec (ws := Cond.code y bytes maxL ret :: TB) B.pre
  have hb := body ((p, l, e, rmL lv, s, m), ((As w.2.1).toArray, below, meth, c), (w, maxL, MQ below (Qc w) (As w.2.1).toArray s 0 0 (wA dsc w)))
    ⟨B.exec, B.bytes, hml, rfl, findClass_of_methodNamed B.named, fun w hw => hts w (List.mem_cons_of_mem _ hw), hK, hi, hZ, Nat.le_refl _, Nat.le_refl _, B.notSynchronized⟩ ⟨rfl, B.returns⟩
  rw [lg_entry_eq]
  exact hb s.heap [] _ hP va_S.rf (lv_entry _ (hlen _))
theorem nar_Z {r : Int} (h : r = 0 ∨ r = 1) : narrow .boolean (.int (iI r)) = .int (iI r) := by
  rcases h with rfl | rfl <;> rfl
theorem nar_C {r : Int} (h : 0 ≤ r) (h2 : r < 65536) : narrow .char (.int (iI r)) = .int (iI r) := by
  obtain ⟨n, rfl⟩ := Int.eq_ofNat_of_zero_le h
  rw [iI_nat]
  exact (pk_charN (by omega)).1
theorem Rng_Z {r : Int} (h : r = 0 ∨ r = 1) : Rng r := by
  rcases h with rfl | rfl <;> constructor <;> decide
section RC
variable {dsc : List CD} {X : XC} {cc : ByteArray} {own : String} {nL lv pc : Nat} {L L' : List (Nat × Value)} {st : List Value} {σ : MS}
theorem v_iret (E : EV dsc X cc own nL lv) {Q : Int → MS → Prop} {ty : FieldType} (hR : RT dsc X (po_I dsc Q) (some ty)) {r : Int} (hn : narrow ty (.int (iI r)) = .int (iI r)) (hr : Rng r) (hq : Q r σ) (hd : decode cc pc = .ok (.ireturn, 1)) : VV dsc X pc L [.int (iI r)] σ := by
  intro H locs ls hP hS hL
  rw [hR.1]
  exact W.zret (hlocks := E.2.2.2.2.2.2.2.2.2.2.2) E.1 E.2.1 hR.2 hn (fun t ht hW => ⟨⟨iI r, (r, σ), rfl, ⟨rfl, hr, hq⟩, by show WH dsc X.2.2.1 σ t.heap; rw [ht]; exact hP⟩, hS.F ht⟩) hS.2.2 hd
theorem v_lret (E : EV dsc X cc own nL lv) {Q : Int64 → MS → Prop} (hR : RT dsc X (po_L dsc Q) (some .long)) {r : Int64} (hq : Q r σ) (hd : decode cc pc = .ok (.lreturn, 1)) : VV dsc X pc L [.long r] σ := by
  intro H locs ls hP hS hL
  rw [hR.1]
  exact W.lret (hlocks := E.2.2.2.2.2.2.2.2.2.2.2) E.1 E.2.1 hR.2 (fun t ht hW => ⟨⟨r, σ, rfl, hq, by show WH dsc X.2.2.1 σ t.heap; rw [ht]; exact hP⟩, hS.F ht⟩) hS.2.2 hd
theorem v_vret (E : EV dsc X cc own nL lv) {Q : MS → Prop} (hR : RT dsc X (po_V dsc Q) none) (hq : Q σ) (hd : decode cc pc = .ok (.return_, 1)) : VV dsc X pc L [] σ := by
  intro H locs ls hP hS hL
  rw [hR.1]
  exact W.vret (hlocks := E.2.2.2.2.2.2.2.2.2.2.2) E.1 E.2.1 hR.2 (fun t ht hW => ⟨⟨σ, rfl, hq, by show WH dsc X.2.2.1 σ t.heap; rw [ht]; exact hP⟩, hS.F ht⟩) hS.2.2 hd
def MDv (y : MethodName) (bytes : ByteArray) (maxL : Nat) (ret : Option FieldType) (n : Nat) : Prop :=
  Cond.code y bytes maxL ret ∈ TB ∧ Cond.instanceMethod y ∈ TB ∧ Cond.selects y.cls y y ∈ TB ∧ Cond.initialized y.cls ∈ TB ∧ y.cls ≠ "java/lang/invoke/MethodHandle" ∧ y.cls ≠ "java/lang/invoke/VarHandle" ∧ (parseMethodDescriptor y.desc).map (fun d => d.parameters.length) = some n
def MDs (y : MethodName) (bytes : ByteArray) (maxL : Nat) (ret : Option FieldType) (n : Nat) : Prop :=
  Cond.code y bytes maxL ret ∈ TB ∧ Cond.static y ∈ TB ∧ Cond.initialized y.cls ∈ TB ∧ y.cls ≠ "java/lang/invoke/MethodHandle" ∧ y.cls ≠ "java/lang/invoke/VarHandle" ∧ (parseMethodDescriptor y.desc).map (fun d => d.parameters.length) = some n
theorem TB_good {y : MethodName} {bytes : ByteArray} {maxL : Nat} {ret : Option FieldType} (h : Cond.code y bytes maxL ret ∈ TB) : GoodIn TB (.code y bytes maxL ret :: TB) := by
  intro w hw
  have h1 : w ∈ TB := by
    rcases List.mem_cons.mp hw with e | e
    · rw [e]; exact h
    · exact e
  exact ⟨h1, good_of_word (List.mem_filter.mp h1).2⟩
theorem TB_goodV {y : MethodName} {bytes : ByteArray} {maxL n ix : Nat} {ret : Option FieldType} (md : MDv y bytes maxL ret n) (hl : Cond.methodLink own ix y ∈ TB) : GoodIn TB (wsV own ix y.cls y (.code y bytes maxL ret :: TB)) := by
  intro w hw
  have h1 : w ∈ TB := by
    simp only [wsV, List.mem_append, List.mem_cons, List.not_mem_nil, or_false] at hw
    rcases hw with hw | hw
    · rcases hw with e | e | e | e <;> (rw [e]; first | exact hl | exact md.2.1 | exact md.2.2.1 | exact md.2.2.2.1)
    · rcases hw with e | e
      · rw [e]; exact md.1
      · exact e
  exact ⟨h1, good_of_word (List.mem_filter.mp h1).2⟩
theorem TB_goodS {y : MethodName} {bytes : ByteArray} {maxL n ix : Nat} {ret : Option FieldType} (md : MDs y bytes maxL ret n) (hl : Cond.methodLink own ix y ∈ TB) : GoodIn TB (va_wsS own ix y (.code y bytes maxL ret :: TB)) := by
  intro w hw
  have h1 : w ∈ TB := by
    simp only [va_wsS, List.mem_append, List.mem_cons, List.not_mem_nil, or_false] at hw
    rcases hw with hw | hw
    · rcases hw with e | e | e <;> (rw [e]; first | exact hl | exact md.2.1 | exact md.2.2.1)
    · rcases hw with e | e
      · rw [e]; exact md.1
      · exact e
  exact ⟨h1, good_of_word (List.mem_filter.mp h1).2⟩
theorem WU_blind {w : WDt} {As : List Value} : FrameBlind (va_Pc As (fun U => WU dsc w σ U)) :=
  fun a U g mk q => ⟨q.1, q.2.1, va_K.moved (u := U) (U := U.calling g mk a) (Vm.Alike.refl U.vm) q.2.2.1, SZ.same (s := U) (U := U.calling g mk a) q.2.2.2 rfl⟩
theorem WU_at (E : EV dsc X cc own nL lv) {H : Heap} {locs : List Loc} (hP : WH dsc X.2.2.1 σ H) (hS : va_S (wA dsc X.2.2.1) X.1.2.2.2.2.1.heap H locs) {U : State} (hU : U.heap = H) (hW : X.1.2.2.2.2.1.WarmedH U.vm) : WU dsc X.2.2.1 σ U :=
  ⟨by rw [hU]; exact hP, va_K.moved hW.alike E.2.2.2.2.2.2.1, SZ.kept E.2.2.2.2.2.2.2.2.1 hW (fun a h1 h2 => by rw [hU]; exact hS.2.1 a h1 h2)⟩
variable {y : MethodName} {bytes : ByteArray} {maxL n lvc ix b ci N : Nat} {ret : Option FieldType} {As : (Nat → Nat) → List Value} {fs : List (Nat × Nat)} {T : u_T} {stk : List Value} {Qc : WDt → Array Value → State → Outcome → State → Prop}
theorem v_runV (E : EV dsc X cc own nL lv) (md : MDv y bytes maxL ret n) (hM : MT dsc y bytes maxL ret lvc (fun ad => .ref (ad b) :: As ad) σ Qc) (hb : dsc[b]? = some (.inr (ci, fs))) (hcl : CLS[ci]? = some (y.cls, T, N)) (hlv : lvc + 1 ≤ lv ∧ 8 + (maxL + 11) + 40 * lvc ≤ 40 * lv) (hl : Cond.methodLink own ix y ∈ TB) (hd : decode cc pc = .ok (.invokevirtual ix, 3)) (hn : ∀ ad, (As ad).length = n) (hcat : (st.map fun v => v.category).sum ≤ 8)
    {H : Heap} {locs : List Loc} {ls : Array Slot} (hP : WH dsc X.2.2.1 σ H) (hS : va_S (wA dsc X.2.2.1) X.1.2.2.2.2.1.heap H locs) (hL : lv_has ls X.2.2.2.1 L) :
    va_Run X.1.1 X.1.2.1 X.1.2.2.1 X.1.2.2.2.1 X.1.2.2.2.2.1 X.1.2.2.2.2.2 X.2.1.1 X.2.1.2.1 X.2.1.2.2.1 X.2.1.2.2.2 H locs 0 0 0 0 (F0 X.1.2.2.2.2.2 pc ls ((As (adX X)).reverse ++ .ref (adX X b) :: st)) st (Qc X.2.2.1 (Value.ref (adX X b) :: As (adX X)).toArray) (wA dsc X.2.2.1) :=
  va_runV (As := As (adX X)) (rest := st) ⟨E.1, E.2.1, E.2.2.1, E.2.2.2.2.1, E.2.2.2.2.2.1⟩ (hM X.1.2.1 X.2.2.1 E.2.2.2.2.2.2.2.1) (cwV n E.2.2.2.2.2.1 (TB_goodV md hl) rfl rfl rfl ⟨rfl, md.2.2.2.2⟩ ⟨Nat.le_trans hlv.1 E.2.2.2.2.2.2.2.2.2.1, Nat.le_trans hlv.2 E.2.2.2.2.2.2.2.2.2.2.1⟩)
    ⟨WU_blind, va_recv E.2.2.2.2.2.2.1 hP.1 hcl (wl_get X.2.2.1 σ hb), fun U hU hW => ⟨rfl, WU_at E hP hS hU hW⟩⟩ rfl (hn _) (hL.1.trans E.2.2.2.1) rfl (lv_room hcat) hd ⟨Nat.zero_le _, Nat.zero_le _⟩
theorem v_runS (E : EV dsc X cc own nL lv) (md : MDs y bytes maxL ret n) (hM : MT dsc y bytes maxL ret lvc As σ Qc) (hlv : lvc + 1 ≤ lv ∧ 8 + (maxL + 11) + 40 * lvc ≤ 40 * lv) (hl : Cond.methodLink own ix y ∈ TB) (hd : decode cc pc = .ok (.invokestatic ix, 3)) (hn : ∀ ad, (As ad).length = n) (hcat : (st.map fun v => v.category).sum ≤ 8)
    {H : Heap} {locs : List Loc} {ls : Array Slot} (hP : WH dsc X.2.2.1 σ H) (hS : va_S (wA dsc X.2.2.1) X.1.2.2.2.2.1.heap H locs) (hL : lv_has ls X.2.2.2.1 L) :
    va_Run X.1.1 X.1.2.1 X.1.2.2.1 X.1.2.2.2.1 X.1.2.2.2.2.1 X.1.2.2.2.2.2 X.2.1.1 X.2.1.2.1 X.2.1.2.2.1 X.2.1.2.2.2 H locs 0 0 0 0 (F0 X.1.2.2.2.2.2 pc ls ((As (adX X)).reverse ++ st)) st (Qc X.2.2.1 (As (adX X)).toArray) (wA dsc X.2.2.1) :=
  va_runS (As := As (adX X)) (rest := st) ⟨E.1, E.2.1, E.2.2.1, E.2.2.2.2.1, E.2.2.2.2.2.1⟩ (hM X.1.2.1 X.2.2.1 E.2.2.2.2.2.2.2.1) (va_cwS n E.2.2.2.2.2.1 (TB_goodS md hl) rfl rfl rfl md.2.2.2 ⟨Nat.le_trans hlv.1 E.2.2.2.2.2.2.2.2.2.1, Nat.le_trans hlv.2 E.2.2.2.2.2.2.2.2.2.2.1⟩)
    ⟨WU_blind, fun U hU hW => ⟨rfl, WU_at E hP hS hU hW⟩⟩ rfl (hn _) (hL.1.trans E.2.2.2.1) rfl (lv_room hcat) hd ⟨Nat.zero_le _, Nat.zero_le _⟩
/-- a private static method of the class around -/
theorem v_runN (E : EV dsc X cc own nL lv) (md : MDs y bytes maxL ret n) (hM : MT dsc y bytes maxL ret lvc As σ Qc) (hlv : lvc + 1 ≤ lv ∧ 8 + (maxL + 11) + 40 * lvc ≤ 40 * lv) {host : String} (hl : va_Nw (.methodLinkNest own ix y host) X.1.2.2.2.2.1) (hd : decode cc pc = .ok (.invokestatic ix, 3)) (hn : ∀ ad, (As ad).length = n) (hcat : (st.map fun v => v.category).sum ≤ 8)
    {H : Heap} {locs : List Loc} {ls : Array Slot} (hP : WH dsc X.2.2.1 σ H) (hS : va_S (wA dsc X.2.2.1) X.1.2.2.2.2.1.heap H locs) (hL : lv_has ls X.2.2.2.1 L) :
    va_Run X.1.1 X.1.2.1 X.1.2.2.1 X.1.2.2.2.1 X.1.2.2.2.2.1 X.1.2.2.2.2.2 X.2.1.1 X.2.1.2.1 X.2.1.2.2.1 X.2.1.2.2.2 H locs 0 0 0 0 (F0 X.1.2.2.2.2.2 pc ls ((As (adX X)).reverse ++ st)) st (Qc X.2.2.1 (As (adX X)).toArray) (wA dsc X.2.2.1) :=
  va_runSN (As := As (adX X)) (rest := st) ⟨E.1, E.2.1, E.2.2.1, E.2.2.2.2.1, E.2.2.2.2.2.1⟩ (hM X.1.2.1 X.2.2.1 E.2.2.2.2.2.2.2.1) ⟨va_cnB n E.2.2.2.2.2.1 (TB_good md.1) rfl rfl rfl hl (E.2.2.2.2.2.1 _ md.2.2.1) md.2.2.2 ⟨Nat.le_trans hlv.1 E.2.2.2.2.2.2.2.2.2.1, Nat.le_trans hlv.2 E.2.2.2.2.2.2.2.2.2.2.1⟩, E.2.2.2.2.2.1 _ md.2.1, trivial⟩
    ⟨WU_blind, fun U hU hW => ⟨rfl, WU_at E hP hS hU hW⟩⟩ rfl (hn _) (hL.1.trans E.2.2.2.1) rfl (lv_room hcat) hd ⟨Nat.zero_le _, Nat.zero_le _⟩
theorem v_callVI (E : EV dsc X cc own nL lv) (md : MDv y bytes maxL ret n) {Q : Int → MS → Prop} (hM : MT dsc y bytes maxL ret lvc (fun ad => .ref (ad b) :: As ad) σ (po_I dsc Q)) (hb : dsc[b]? = some (.inr (ci, fs))) (hcl : CLS[ci]? = some (y.cls, T, N)) (hlv : lvc + 1 ≤ lv ∧ 8 + (maxL + 11) + 40 * lvc ≤ 40 * lv) (hl : Cond.methodLink own ix y ∈ TB) (hd : decode cc pc = .ok (.invokevirtual ix, 3)) (hn : ∀ ad, (As ad).length = n) (hst : stk = (As (adX X)).reverse ++ .ref (adX X b) :: st) (hcat : (st.map fun v => v.category).sum ≤ 8) (h : ∀ r σ', Rng r → Q r σ' → VV dsc X (pc + 3) L (.int (iI r) :: st) σ') : VV dsc X pc L stk σ := by
  intro H locs ls hP hS hL
  subst hst
  exact va_calli (v_runV E md hM hb hcl hlv hl hd hn hcat hP hS hL) hS (fun q _ z => z) (fun q z => z) (fun r u t H1 locs1 ht hvm hp hB hz hk hS1 => by
    obtain ⟨x, σ'⟩ := u
    obtain ⟨rfl, hr, hq⟩ := hp
    exact h x σ' hr hq H1 locs1 ls (by rw [← ht]; exact hB) hS1 hL)
theorem v_callVL (E : EV dsc X cc own nL lv) (md : MDv y bytes maxL ret n) {Q : Int64 → MS → Prop} (hM : MT dsc y bytes maxL ret lvc (fun ad => .ref (ad b) :: As ad) σ (po_L dsc Q)) (hb : dsc[b]? = some (.inr (ci, fs))) (hcl : CLS[ci]? = some (y.cls, T, N)) (hlv : lvc + 1 ≤ lv ∧ 8 + (maxL + 11) + 40 * lvc ≤ 40 * lv) (hl : Cond.methodLink own ix y ∈ TB) (hd : decode cc pc = .ok (.invokevirtual ix, 3)) (hn : ∀ ad, (As ad).length = n) (hst : stk = (As (adX X)).reverse ++ .ref (adX X b) :: st) (hcat : (st.map fun v => v.category).sum ≤ 8) (h : ∀ r σ', Q r σ' → VV dsc X (pc + 3) L (.long r :: st) σ') : VV dsc X pc L stk σ := by
  intro H locs ls hP hS hL
  subst hst
  exact va_calll (v_runV E md hM hb hcl hlv hl hd hn hcat hP hS hL) hS (fun q _ z => z) (fun q z => z) (fun r u t H1 locs1 ht hvm hp hB hz hk hS1 => h r u hp H1 locs1 ls (by rw [← ht]; exact hB) hS1 hL)
theorem v_callVV (E : EV dsc X cc own nL lv) (md : MDv y bytes maxL ret n) {Q : MS → Prop} (hM : MT dsc y bytes maxL ret lvc (fun ad => .ref (ad b) :: As ad) σ (po_V dsc Q)) (hb : dsc[b]? = some (.inr (ci, fs))) (hcl : CLS[ci]? = some (y.cls, T, N)) (hlv : lvc + 1 ≤ lv ∧ 8 + (maxL + 11) + 40 * lvc ≤ 40 * lv) (hl : Cond.methodLink own ix y ∈ TB) (hd : decode cc pc = .ok (.invokevirtual ix, 3)) (hn : ∀ ad, (As ad).length = n) (hst : stk = (As (adX X)).reverse ++ .ref (adX X b) :: st) (hcat : (st.map fun v => v.category).sum ≤ 8) (h : ∀ σ', Q σ' → VV dsc X (pc + 3) L st σ') : VV dsc X pc L stk σ := by
  intro H locs ls hP hS hL
  subst hst
  exact va_callv (v_runV E md hM hb hcl hlv hl hd hn hcat hP hS hL) hS (fun q _ z => z) (fun q z => z) (fun u t H1 locs1 ht hvm hp hB hz hk hS1 => h u hp H1 locs1 ls (by rw [← ht]; exact hB) hS1 hL)
theorem v_callSI (E : EV dsc X cc own nL lv) (md : MDs y bytes maxL ret n) {Q : Int → MS → Prop} (hM : MT dsc y bytes maxL ret lvc As σ (po_I dsc Q)) (hlv : lvc + 1 ≤ lv ∧ 8 + (maxL + 11) + 40 * lvc ≤ 40 * lv) (hl : Cond.methodLink own ix y ∈ TB) (hd : decode cc pc = .ok (.invokestatic ix, 3)) (hn : ∀ ad, (As ad).length = n) (hst : stk = (As (adX X)).reverse ++ st) (hcat : (st.map fun v => v.category).sum ≤ 8) (h : ∀ r σ', Rng r → Q r σ' → VV dsc X (pc + 3) L (.int (iI r) :: st) σ') : VV dsc X pc L stk σ := by
  intro H locs ls hP hS hL
  subst hst
  exact va_calli (v_runS E md hM hlv hl hd hn hcat hP hS hL) hS (fun q _ z => z) (fun q z => z) (fun r u t H1 locs1 ht hvm hp hB hz hk hS1 => by
    obtain ⟨x, σ'⟩ := u
    obtain ⟨rfl, hr, hq⟩ := hp
    exact h x σ' hr hq H1 locs1 ls (by rw [← ht]; exact hB) hS1 hL)
theorem v_callSL (E : EV dsc X cc own nL lv) (md : MDs y bytes maxL ret n) {Q : Int64 → MS → Prop} (hM : MT dsc y bytes maxL ret lvc As σ (po_L dsc Q)) (hlv : lvc + 1 ≤ lv ∧ 8 + (maxL + 11) + 40 * lvc ≤ 40 * lv) (hl : Cond.methodLink own ix y ∈ TB) (hd : decode cc pc = .ok (.invokestatic ix, 3)) (hn : ∀ ad, (As ad).length = n) (hst : stk = (As (adX X)).reverse ++ st) (hcat : (st.map fun v => v.category).sum ≤ 8) (h : ∀ r σ', Q r σ' → VV dsc X (pc + 3) L (.long r :: st) σ') : VV dsc X pc L stk σ := by
  intro H locs ls hP hS hL
  subst hst
  exact va_calll (v_runS E md hM hlv hl hd hn hcat hP hS hL) hS (fun q _ z => z) (fun q z => z) (fun r u t H1 locs1 ht hvm hp hB hz hk hS1 => h r u hp H1 locs1 ls (by rw [← ht]; exact hB) hS1 hL)
theorem v_callSV (E : EV dsc X cc own nL lv) (md : MDs y bytes maxL ret n) {Q : MS → Prop} (hM : MT dsc y bytes maxL ret lvc As σ (po_V dsc Q)) (hlv : lvc + 1 ≤ lv ∧ 8 + (maxL + 11) + 40 * lvc ≤ 40 * lv) (hl : Cond.methodLink own ix y ∈ TB) (hd : decode cc pc = .ok (.invokestatic ix, 3)) (hn : ∀ ad, (As ad).length = n) (hst : stk = (As (adX X)).reverse ++ st) (hcat : (st.map fun v => v.category).sum ≤ 8) (h : ∀ σ', Q σ' → VV dsc X (pc + 3) L st σ') : VV dsc X pc L stk σ := by
  intro H locs ls hP hS hL
  subst hst
  exact va_callv (v_runS E md hM hlv hl hd hn hcat hP hS hL) hS (fun q _ z => z) (fun q z => z) (fun u t H1 locs1 ht hvm hp hB hz hk hS1 => h u hp H1 locs1 ls (by rw [← ht]; exact hB) hS1 hL)
theorem v_callNI (E : EV dsc X cc own nL lv) (md : MDs y bytes maxL ret n) {Q : Int → MS → Prop} (hM : MT dsc y bytes maxL ret lvc As σ (po_I dsc Q)) (hlv : lvc + 1 ≤ lv ∧ 8 + (maxL + 11) + 40 * lvc ≤ 40 * lv) {host : String} (hl : va_Nw (.methodLinkNest own ix y host) X.1.2.2.2.2.1) (hd : decode cc pc = .ok (.invokestatic ix, 3)) (hn : ∀ ad, (As ad).length = n) (hst : stk = (As (adX X)).reverse ++ st) (hcat : (st.map fun v => v.category).sum ≤ 8) (h : ∀ r σ', Rng r → Q r σ' → VV dsc X (pc + 3) L (.int (iI r) :: st) σ') : VV dsc X pc L stk σ := by
  intro H locs ls hP hS hL
  subst hst
  exact va_calli (v_runN E md hM hlv hl hd hn hcat hP hS hL) hS (fun q _ z => z) (fun q z => z) (fun r u t H1 locs1 ht hvm hp hB hz hk hS1 => by
    obtain ⟨x, σ'⟩ := u
    obtain ⟨rfl, hr, hq⟩ := hp
    exact h x σ' hr hq H1 locs1 ls (by rw [← ht]; exact hB) hS1 hL)
theorem v_callNL (E : EV dsc X cc own nL lv) (md : MDs y bytes maxL ret n) {Q : Int64 → MS → Prop} (hM : MT dsc y bytes maxL ret lvc As σ (po_L dsc Q)) (hlv : lvc + 1 ≤ lv ∧ 8 + (maxL + 11) + 40 * lvc ≤ 40 * lv) {host : String} (hl : va_Nw (.methodLinkNest own ix y host) X.1.2.2.2.2.1) (hd : decode cc pc = .ok (.invokestatic ix, 3)) (hn : ∀ ad, (As ad).length = n) (hst : stk = (As (adX X)).reverse ++ st) (hcat : (st.map fun v => v.category).sum ≤ 8) (h : ∀ r σ', Q r σ' → VV dsc X (pc + 3) L (.long r :: st) σ') : VV dsc X pc L stk σ := by
  intro H locs ls hP hS hL
  subst hst
  exact va_calll (v_runN E md hM hlv hl hd hn hcat hP hS hL) hS (fun q _ z => z) (fun q z => z) (fun r u t H1 locs1 ht hvm hp hB hz hk hS1 => h r u hp H1 locs1 ls (by rw [← ht]; exact hB) hS1 hL)
theorem v_callNV (E : EV dsc X cc own nL lv) (md : MDs y bytes maxL ret n) {Q : MS → Prop} (hM : MT dsc y bytes maxL ret lvc As σ (po_V dsc Q)) (hlv : lvc + 1 ≤ lv ∧ 8 + (maxL + 11) + 40 * lvc ≤ 40 * lv) {host : String} (hl : va_Nw (.methodLinkNest own ix y host) X.1.2.2.2.2.1) (hd : decode cc pc = .ok (.invokestatic ix, 3)) (hn : ∀ ad, (As ad).length = n) (hst : stk = (As (adX X)).reverse ++ st) (hcat : (st.map fun v => v.category).sum ≤ 8) (h : ∀ σ', Q σ' → VV dsc X (pc + 3) L st σ') : VV dsc X pc L stk σ := by
  intro H locs ls hP hS hL
  subst hst
  exact va_callv (v_runN E md hM hlv hl hd hn hcat hP hS hL) hS (fun q _ z => z) (fun q z => z) (fun u t H1 locs1 ht hvm hp hB hz hk hS1 => h u hp H1 locs1 ls (by rw [← ht]; exact hB) hS1 hL)
theorem v_loop {ι : Type} (LL : ι → List (Nat × Value)) (I : ι → MS → Prop) (μ : ι → MS → Nat) (hs : ∀ i σ, I i σ → (∀ i' σ', I i' σ' → μ i' σ' < μ i σ → VV dsc X pc (LL i') [] σ') → VV dsc X pc (LL i) [] σ) : ∀ i σ, I i σ → VV dsc X pc (LL i) [] σ := by
  have key : ∀ (n : Nat) i σ, μ i σ < n → I i σ → VV dsc X pc (LL i) [] σ := by
    intro n
    induction n with
    | zero => intro i σ h; omega
    | succ n ih => exact fun i σ h hI => hs i σ hI (fun i' σ' hI' h' => ih i' σ' (by omega) hI')
  exact fun i σ hI => key _ i σ (Nat.lt_succ_self _) hI
theorem v_loop0 (LL : List (Nat × Value)) (I : MS → Prop) (μ : MS → Nat) (hs : ∀ (σ : MS), I σ → (∀ (σ' : MS), I σ' → μ σ' < μ σ → VV dsc X pc (LL) [] σ') → VV dsc X pc (LL) [] σ)  (σ : MS) (h : I σ) : VV dsc X pc (LL) [] σ :=
  v_loop (ι := Unit) (fun i => LL) (fun i => I) (fun i => μ) (fun i σ hI ih => hs σ hI (fun σ' hI' hm => ih () σ' hI' hm)) () σ h
theorem v_loop1 {A1 : Type} (LL : A1 → List (Nat × Value)) (I : A1 → MS → Prop) (μ : A1 → MS → Nat) (hs : ∀ (a1 : A1) (σ : MS), I a1 σ → (∀ (b1 : A1) (σ' : MS), I b1 σ' → μ b1 σ' < μ a1 σ → VV dsc X pc (LL b1) [] σ') → VV dsc X pc (LL a1) [] σ) (a1 : A1) (σ : MS) (h : I a1 σ) : VV dsc X pc (LL a1) [] σ :=
  v_loop (ι := A1) (fun i => LL i) (fun i => I i) (fun i => μ i) (fun i σ hI ih => hs i σ hI (fun b1 σ' hI' hm => ih b1 σ' hI' hm)) a1 σ h
theorem v_ploop1 {A1 : Type} (σ : MS) (LL : A1 → List (Nat × Value)) (I : A1 → Prop) (μ : A1 → Nat) (hs : ∀ (a1 : A1), I a1 → (∀ (b1 : A1), I b1 → μ b1 < μ a1 → VV dsc X pc (LL b1) [] σ) → VV dsc X pc (LL a1) [] σ) (a1 : A1) (h : I a1) : VV dsc X pc (LL a1) [] σ :=
  v_loop (ι := A1) (fun i => LL i) (fun i z => z = σ ∧ I i) (fun i _ => μ i) (fun i z hI ih => by
    obtain ⟨e, hI⟩ := hI
    subst e
    exact hs i hI (fun b1 hI' hm => ih b1 _ ⟨rfl, hI'⟩ hm)) a1 σ ⟨rfl, h⟩
theorem v_loop2 {A1 A2 : Type} (LL : A1 → A2 → List (Nat × Value)) (I : A1 → A2 → MS → Prop) (μ : A1 → A2 → MS → Nat) (hs : ∀ (a1 : A1) (a2 : A2) (σ : MS), I a1 a2 σ → (∀ (b1 : A1) (b2 : A2) (σ' : MS), I b1 b2 σ' → μ b1 b2 σ' < μ a1 a2 σ → VV dsc X pc (LL b1 b2) [] σ') → VV dsc X pc (LL a1 a2) [] σ) (a1 : A1) (a2 : A2) (σ : MS) (h : I a1 a2 σ) : VV dsc X pc (LL a1 a2) [] σ :=
  v_loop (ι := A1 × A2) (fun i => LL i.1 i.2) (fun i => I i.1 i.2) (fun i => μ i.1 i.2) (fun i σ hI ih => hs i.1 i.2 σ hI (fun b1 b2 σ' hI' hm => ih (b1, b2) σ' hI' hm)) (a1, a2) σ h
theorem v_ploop2 {A1 A2 : Type} (σ : MS) (LL : A1 → A2 → List (Nat × Value)) (I : A1 → A2 → Prop) (μ : A1 → A2 → Nat) (hs : ∀ (a1 : A1) (a2 : A2), I a1 a2 → (∀ (b1 : A1) (b2 : A2), I b1 b2 → μ b1 b2 < μ a1 a2 → VV dsc X pc (LL b1 b2) [] σ) → VV dsc X pc (LL a1 a2) [] σ) (a1 : A1) (a2 : A2) (h : I a1 a2) : VV dsc X pc (LL a1 a2) [] σ :=
  v_loop (ι := A1 × A2) (fun i => LL i.1 i.2) (fun i z => z = σ ∧ I i.1 i.2) (fun i _ => μ i.1 i.2) (fun i z hI ih => by
    obtain ⟨e, hI⟩ := hI
    subst e
    exact hs i.1 i.2 hI (fun b1 b2 hI' hm => ih (b1, b2) _ ⟨rfl, hI'⟩ hm)) (a1, a2) σ ⟨rfl, h⟩
theorem v_loop3 {A1 A2 A3 : Type} (LL : A1 → A2 → A3 → List (Nat × Value)) (I : A1 → A2 → A3 → MS → Prop) (μ : A1 → A2 → A3 → MS → Nat) (hs : ∀ (a1 : A1) (a2 : A2) (a3 : A3) (σ : MS), I a1 a2 a3 σ → (∀ (b1 : A1) (b2 : A2) (b3 : A3) (σ' : MS), I b1 b2 b3 σ' → μ b1 b2 b3 σ' < μ a1 a2 a3 σ → VV dsc X pc (LL b1 b2 b3) [] σ') → VV dsc X pc (LL a1 a2 a3) [] σ) (a1 : A1) (a2 : A2) (a3 : A3) (σ : MS) (h : I a1 a2 a3 σ) : VV dsc X pc (LL a1 a2 a3) [] σ :=
  v_loop (ι := A1 × A2 × A3) (fun i => LL i.1 i.2.1 i.2.2) (fun i => I i.1 i.2.1 i.2.2) (fun i => μ i.1 i.2.1 i.2.2) (fun i σ hI ih => hs i.1 i.2.1 i.2.2 σ hI (fun b1 b2 b3 σ' hI' hm => ih (b1, b2, b3) σ' hI' hm)) (a1, a2, a3) σ h
theorem v_ploop3 {A1 A2 A3 : Type} (σ : MS) (LL : A1 → A2 → A3 → List (Nat × Value)) (I : A1 → A2 → A3 → Prop) (μ : A1 → A2 → A3 → Nat) (hs : ∀ (a1 : A1) (a2 : A2) (a3 : A3), I a1 a2 a3 → (∀ (b1 : A1) (b2 : A2) (b3 : A3), I b1 b2 b3 → μ b1 b2 b3 < μ a1 a2 a3 → VV dsc X pc (LL b1 b2 b3) [] σ) → VV dsc X pc (LL a1 a2 a3) [] σ) (a1 : A1) (a2 : A2) (a3 : A3) (h : I a1 a2 a3) : VV dsc X pc (LL a1 a2 a3) [] σ :=
  v_loop (ι := A1 × A2 × A3) (fun i => LL i.1 i.2.1 i.2.2) (fun i z => z = σ ∧ I i.1 i.2.1 i.2.2) (fun i _ => μ i.1 i.2.1 i.2.2) (fun i z hI ih => by
    obtain ⟨e, hI⟩ := hI
    subst e
    exact hs i.1 i.2.1 i.2.2 hI (fun b1 b2 b3 hI' hm => ih (b1, b2, b3) _ ⟨rfl, hI'⟩ hm)) (a1, a2, a3) σ ⟨rfl, h⟩
theorem v_loop4 {A1 A2 A3 A4 : Type} (LL : A1 → A2 → A3 → A4 → List (Nat × Value)) (I : A1 → A2 → A3 → A4 → MS → Prop) (μ : A1 → A2 → A3 → A4 → MS → Nat) (hs : ∀ (a1 : A1) (a2 : A2) (a3 : A3) (a4 : A4) (σ : MS), I a1 a2 a3 a4 σ → (∀ (b1 : A1) (b2 : A2) (b3 : A3) (b4 : A4) (σ' : MS), I b1 b2 b3 b4 σ' → μ b1 b2 b3 b4 σ' < μ a1 a2 a3 a4 σ → VV dsc X pc (LL b1 b2 b3 b4) [] σ') → VV dsc X pc (LL a1 a2 a3 a4) [] σ) (a1 : A1) (a2 : A2) (a3 : A3) (a4 : A4) (σ : MS) (h : I a1 a2 a3 a4 σ) : VV dsc X pc (LL a1 a2 a3 a4) [] σ :=
  v_loop (ι := A1 × A2 × A3 × A4) (fun i => LL i.1 i.2.1 i.2.2.1 i.2.2.2) (fun i => I i.1 i.2.1 i.2.2.1 i.2.2.2) (fun i => μ i.1 i.2.1 i.2.2.1 i.2.2.2) (fun i σ hI ih => hs i.1 i.2.1 i.2.2.1 i.2.2.2 σ hI (fun b1 b2 b3 b4 σ' hI' hm => ih (b1, b2, b3, b4) σ' hI' hm)) (a1, a2, a3, a4) σ h
theorem v_ploop4 {A1 A2 A3 A4 : Type} (σ : MS) (LL : A1 → A2 → A3 → A4 → List (Nat × Value)) (I : A1 → A2 → A3 → A4 → Prop) (μ : A1 → A2 → A3 → A4 → Nat) (hs : ∀ (a1 : A1) (a2 : A2) (a3 : A3) (a4 : A4), I a1 a2 a3 a4 → (∀ (b1 : A1) (b2 : A2) (b3 : A3) (b4 : A4), I b1 b2 b3 b4 → μ b1 b2 b3 b4 < μ a1 a2 a3 a4 → VV dsc X pc (LL b1 b2 b3 b4) [] σ) → VV dsc X pc (LL a1 a2 a3 a4) [] σ) (a1 : A1) (a2 : A2) (a3 : A3) (a4 : A4) (h : I a1 a2 a3 a4) : VV dsc X pc (LL a1 a2 a3 a4) [] σ :=
  v_loop (ι := A1 × A2 × A3 × A4) (fun i => LL i.1 i.2.1 i.2.2.1 i.2.2.2) (fun i z => z = σ ∧ I i.1 i.2.1 i.2.2.1 i.2.2.2) (fun i _ => μ i.1 i.2.1 i.2.2.1 i.2.2.2) (fun i z hI ih => by
    obtain ⟨e, hI⟩ := hI
    subst e
    exact hs i.1 i.2.1 i.2.2.1 i.2.2.2 hI (fun b1 b2 b3 b4 hI' hm => ih (b1, b2, b3, b4) _ ⟨rfl, hI'⟩ hm)) (a1, a2, a3, a4) σ ⟨rfl, h⟩
theorem v_loop5 {A1 A2 A3 A4 A5 : Type} (LL : A1 → A2 → A3 → A4 → A5 → List (Nat × Value)) (I : A1 → A2 → A3 → A4 → A5 → MS → Prop) (μ : A1 → A2 → A3 → A4 → A5 → MS → Nat) (hs : ∀ (a1 : A1) (a2 : A2) (a3 : A3) (a4 : A4) (a5 : A5) (σ : MS), I a1 a2 a3 a4 a5 σ → (∀ (b1 : A1) (b2 : A2) (b3 : A3) (b4 : A4) (b5 : A5) (σ' : MS), I b1 b2 b3 b4 b5 σ' → μ b1 b2 b3 b4 b5 σ' < μ a1 a2 a3 a4 a5 σ → VV dsc X pc (LL b1 b2 b3 b4 b5) [] σ') → VV dsc X pc (LL a1 a2 a3 a4 a5) [] σ) (a1 : A1) (a2 : A2) (a3 : A3) (a4 : A4) (a5 : A5) (σ : MS) (h : I a1 a2 a3 a4 a5 σ) : VV dsc X pc (LL a1 a2 a3 a4 a5) [] σ :=
  v_loop (ι := A1 × A2 × A3 × A4 × A5) (fun i => LL i.1 i.2.1 i.2.2.1 i.2.2.2.1 i.2.2.2.2) (fun i => I i.1 i.2.1 i.2.2.1 i.2.2.2.1 i.2.2.2.2) (fun i => μ i.1 i.2.1 i.2.2.1 i.2.2.2.1 i.2.2.2.2) (fun i σ hI ih => hs i.1 i.2.1 i.2.2.1 i.2.2.2.1 i.2.2.2.2 σ hI (fun b1 b2 b3 b4 b5 σ' hI' hm => ih (b1, b2, b3, b4, b5) σ' hI' hm)) (a1, a2, a3, a4, a5) σ h
theorem v_ploop5 {A1 A2 A3 A4 A5 : Type} (σ : MS) (LL : A1 → A2 → A3 → A4 → A5 → List (Nat × Value)) (I : A1 → A2 → A3 → A4 → A5 → Prop) (μ : A1 → A2 → A3 → A4 → A5 → Nat) (hs : ∀ (a1 : A1) (a2 : A2) (a3 : A3) (a4 : A4) (a5 : A5), I a1 a2 a3 a4 a5 → (∀ (b1 : A1) (b2 : A2) (b3 : A3) (b4 : A4) (b5 : A5), I b1 b2 b3 b4 b5 → μ b1 b2 b3 b4 b5 < μ a1 a2 a3 a4 a5 → VV dsc X pc (LL b1 b2 b3 b4 b5) [] σ) → VV dsc X pc (LL a1 a2 a3 a4 a5) [] σ) (a1 : A1) (a2 : A2) (a3 : A3) (a4 : A4) (a5 : A5) (h : I a1 a2 a3 a4 a5) : VV dsc X pc (LL a1 a2 a3 a4 a5) [] σ :=
  v_loop (ι := A1 × A2 × A3 × A4 × A5) (fun i => LL i.1 i.2.1 i.2.2.1 i.2.2.2.1 i.2.2.2.2) (fun i z => z = σ ∧ I i.1 i.2.1 i.2.2.1 i.2.2.2.1 i.2.2.2.2) (fun i _ => μ i.1 i.2.1 i.2.2.1 i.2.2.2.1 i.2.2.2.2) (fun i z hI ih => by
    obtain ⟨e, hI⟩ := hI
    subst e
    exact hs i.1 i.2.1 i.2.2.1 i.2.2.2.1 i.2.2.2.2 hI (fun b1 b2 b3 b4 b5 hI' hm => ih (b1, b2, b3, b4, b5) _ ⟨rfl, hI'⟩ hm)) (a1, a2, a3, a4, a5) σ ⟨rfl, h⟩
theorem v_loop6 {A1 A2 A3 A4 A5 A6 : Type} (LL : A1 → A2 → A3 → A4 → A5 → A6 → List (Nat × Value)) (I : A1 → A2 → A3 → A4 → A5 → A6 → MS → Prop) (μ : A1 → A2 → A3 → A4 → A5 → A6 → MS → Nat) (hs : ∀ (a1 : A1) (a2 : A2) (a3 : A3) (a4 : A4) (a5 : A5) (a6 : A6) (σ : MS), I a1 a2 a3 a4 a5 a6 σ → (∀ (b1 : A1) (b2 : A2) (b3 : A3) (b4 : A4) (b5 : A5) (b6 : A6) (σ' : MS), I b1 b2 b3 b4 b5 b6 σ' → μ b1 b2 b3 b4 b5 b6 σ' < μ a1 a2 a3 a4 a5 a6 σ → VV dsc X pc (LL b1 b2 b3 b4 b5 b6) [] σ') → VV dsc X pc (LL a1 a2 a3 a4 a5 a6) [] σ) (a1 : A1) (a2 : A2) (a3 : A3) (a4 : A4) (a5 : A5) (a6 : A6) (σ : MS) (h : I a1 a2 a3 a4 a5 a6 σ) : VV dsc X pc (LL a1 a2 a3 a4 a5 a6) [] σ :=
  v_loop (ι := A1 × A2 × A3 × A4 × A5 × A6) (fun i => LL i.1 i.2.1 i.2.2.1 i.2.2.2.1 i.2.2.2.2.1 i.2.2.2.2.2) (fun i => I i.1 i.2.1 i.2.2.1 i.2.2.2.1 i.2.2.2.2.1 i.2.2.2.2.2) (fun i => μ i.1 i.2.1 i.2.2.1 i.2.2.2.1 i.2.2.2.2.1 i.2.2.2.2.2) (fun i σ hI ih => hs i.1 i.2.1 i.2.2.1 i.2.2.2.1 i.2.2.2.2.1 i.2.2.2.2.2 σ hI (fun b1 b2 b3 b4 b5 b6 σ' hI' hm => ih (b1, b2, b3, b4, b5, b6) σ' hI' hm)) (a1, a2, a3, a4, a5, a6) σ h
theorem v_ploop6 {A1 A2 A3 A4 A5 A6 : Type} (σ : MS) (LL : A1 → A2 → A3 → A4 → A5 → A6 → List (Nat × Value)) (I : A1 → A2 → A3 → A4 → A5 → A6 → Prop) (μ : A1 → A2 → A3 → A4 → A5 → A6 → Nat) (hs : ∀ (a1 : A1) (a2 : A2) (a3 : A3) (a4 : A4) (a5 : A5) (a6 : A6), I a1 a2 a3 a4 a5 a6 → (∀ (b1 : A1) (b2 : A2) (b3 : A3) (b4 : A4) (b5 : A5) (b6 : A6), I b1 b2 b3 b4 b5 b6 → μ b1 b2 b3 b4 b5 b6 < μ a1 a2 a3 a4 a5 a6 → VV dsc X pc (LL b1 b2 b3 b4 b5 b6) [] σ) → VV dsc X pc (LL a1 a2 a3 a4 a5 a6) [] σ) (a1 : A1) (a2 : A2) (a3 : A3) (a4 : A4) (a5 : A5) (a6 : A6) (h : I a1 a2 a3 a4 a5 a6) : VV dsc X pc (LL a1 a2 a3 a4 a5 a6) [] σ :=
  v_loop (ι := A1 × A2 × A3 × A4 × A5 × A6) (fun i => LL i.1 i.2.1 i.2.2.1 i.2.2.2.1 i.2.2.2.2.1 i.2.2.2.2.2) (fun i z => z = σ ∧ I i.1 i.2.1 i.2.2.1 i.2.2.2.1 i.2.2.2.2.1 i.2.2.2.2.2) (fun i _ => μ i.1 i.2.1 i.2.2.1 i.2.2.2.1 i.2.2.2.2.1 i.2.2.2.2.2) (fun i z hI ih => by
    obtain ⟨e, hI⟩ := hI
    subst e
    exact hs i.1 i.2.1 i.2.2.1 i.2.2.2.1 i.2.2.2.2.1 i.2.2.2.2.2 hI (fun b1 b2 b3 b4 b5 b6 hI' hm => ih (b1, b2, b3, b4, b5, b6) _ ⟨rfl, hI'⟩ hm)) (a1, a2, a3, a4, a5, a6) σ ⟨rfl, h⟩
end RC
end
