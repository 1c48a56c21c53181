section
-- ===== PART A: goes FIRST, ahead of the names: the tables' words, and 'selects' of the private methods out of them =====
/-- a private method of a class that the tables say can be made, by its rows of tables_1 -/
def lw_okq (q : MethodName × Nat) : Prop := (q.1.cls ≠ "java/lang/invoke/MethodHandle" ∧ q.1.cls ≠ "java/lang/invoke/VarHandle") ∧ Cond.instantiable q.1.cls q.2 ∈ tables_1 ∧ Cond.privateMethod q.1 ∈ tables_1 ∧ Cond.instanceMethod q.1 ∈ tables_1
theorem lw_p0 : lw_okq (⟨"PointsThrow$Page", "switchCount", "()I"⟩, 2) := ⟨⟨by decide +kernel, by decide +kernel⟩, List.mem_of_getElem? (i := 27) (by decide +kernel), List.mem_of_getElem? (i := 247) (by decide +kernel), List.mem_of_getElem? (i := 248) (by decide +kernel)⟩
theorem lw_p1 : lw_okq (⟨"PointsThrow$Page", "endFrom", "(I)I"⟩, 2) := ⟨⟨by decide +kernel, by decide +kernel⟩, List.mem_of_getElem? (i := 27) (by decide +kernel), List.mem_of_getElem? (i := 253) (by decide +kernel), List.mem_of_getElem? (i := 254) (by decide +kernel)⟩
theorem lw_p2 : lw_okq (⟨"PointsThrow$Page", "pointIn", "(II)LPointsThrow$Point;"⟩, 2) := ⟨⟨by decide +kernel, by decide +kernel⟩, List.mem_of_getElem? (i := 27) (by decide +kernel), List.mem_of_getElem? (i := 257) (by decide +kernel), List.mem_of_getElem? (i := 258) (by decide +kernel)⟩
theorem lw_p3 : lw_okq (⟨"PointsThrow$Yard", "reachedFrom", "(I)I"⟩, 8) := ⟨⟨by decide +kernel, by decide +kernel⟩, List.mem_of_getElem? (i := 304) (by decide +kernel), List.mem_of_getElem? (i := 313) (by decide +kernel), List.mem_of_getElem? (i := 314) (by decide +kernel)⟩
theorem lw_p4 : lw_okq (⟨"PointsThrow$Yard", "nextOf", "(I)I"⟩, 8) := ⟨⟨by decide +kernel, by decide +kernel⟩, List.mem_of_getElem? (i := 304) (by decide +kernel), List.mem_of_getElem? (i := 317) (by decide +kernel), List.mem_of_getElem? (i := 318) (by decide +kernel)⟩
theorem lw_p5 : lw_okq (⟨"PointsThrow$Yard", "hasLoop", "(I)Z"⟩, 8) := ⟨⟨by decide +kernel, by decide +kernel⟩, List.mem_of_getElem? (i := 304) (by decide +kernel), List.mem_of_getElem? (i := 321) (by decide +kernel), List.mem_of_getElem? (i := 322) (by decide +kernel)⟩
theorem lw_p6 : lw_okq (⟨"PointsThrow$Yard", "ordered", "(I)[I"⟩, 8) := ⟨⟨by decide +kernel, by decide +kernel⟩, List.mem_of_getElem? (i := 304) (by decide +kernel), List.mem_of_getElem? (i := 325) (by decide +kernel), List.mem_of_getElem? (i := 326) (by decide +kernel)⟩
theorem lw_p7 : lw_okq (⟨"PointsThrow$Yard", "tellStands", "(I)V"⟩, 8) := ⟨⟨by decide +kernel, by decide +kernel⟩, List.mem_of_getElem? (i := 304) (by decide +kernel), List.mem_of_getElem? (i := 335) (by decide +kernel), List.mem_of_getElem? (i := 336) (by decide +kernel)⟩
theorem lw_p8 : lw_okq (⟨"PointsThrow$Yard", "tellSidings", "(I)V"⟩, 8) := ⟨⟨by decide +kernel, by decide +kernel⟩, List.mem_of_getElem? (i := 304) (by decide +kernel), List.mem_of_getElem? (i := 397) (by decide +kernel), List.mem_of_getElem? (i := 398) (by decide +kernel)⟩
theorem lw_p9 : lw_okq (⟨"PointsThrow", "isPoint", "(I)Z"⟩, 15) := ⟨⟨by decide +kernel, by decide +kernel⟩, List.mem_of_getElem? (i := 19) (by decide +kernel), List.mem_of_getElem? (i := 448) (by decide +kernel), List.mem_of_getElem? (i := 449) (by decide +kernel)⟩
theorem lw_p10 : lw_okq (⟨"PointsThrow$Roller", "roll", "(LPointsThrow$Yard;[II)I"⟩, 2) := ⟨⟨by decide +kernel, by decide +kernel⟩, List.mem_of_getElem? (i := 61) (by decide +kernel), List.mem_of_getElem? (i := 508) (by decide +kernel), List.mem_of_getElem? (i := 509) (by decide +kernel)⟩
theorem lw_p11 : lw_okq (⟨"PointsThrow", "spareStands", "()[I"⟩, 15) := ⟨⟨by decide +kernel, by decide +kernel⟩, List.mem_of_getElem? (i := 19) (by decide +kernel), List.mem_of_getElem? (i := 541) (by decide +kernel), List.mem_of_getElem? (i := 542) (by decide +kernel)⟩
theorem lw_p12 : lw_okq (⟨"PointsThrow$Roller", "isAsAhead", "([I)Z"⟩, 2) := ⟨⟨by decide +kernel, by decide +kernel⟩, List.mem_of_getElem? (i := 61) (by decide +kernel), List.mem_of_getElem? (i := 554) (by decide +kernel), List.mem_of_getElem? (i := 555) (by decide +kernel)⟩
theorem lw_p13 : lw_okq (⟨"PointsThrow", "isStraightYard", "()Z"⟩, 15) := ⟨⟨by decide +kernel, by decide +kernel⟩, List.mem_of_getElem? (i := 19) (by decide +kernel), List.mem_of_getElem? (i := 566) (by decide +kernel), List.mem_of_getElem? (i := 567) (by decide +kernel)⟩
theorem lw_p14 : lw_okq (⟨"PointsThrow$Yard", "startCount", "(I)V"⟩, 8) := ⟨⟨by decide +kernel, by decide +kernel⟩, List.mem_of_getElem? (i := 304) (by decide +kernel), List.mem_of_getElem? (i := 575) (by decide +kernel), List.mem_of_getElem? (i := 576) (by decide +kernel)⟩
theorem lw_p15 : lw_okq (⟨"PointsThrow$Yard", "share", "(II)V"⟩, 8) := ⟨⟨by decide +kernel, by decide +kernel⟩, List.mem_of_getElem? (i := 304) (by decide +kernel), List.mem_of_getElem? (i := 580) (by decide +kernel), List.mem_of_getElem? (i := 581) (by decide +kernel)⟩
def lw_privs_1 : List (MethodName × Nat) := [(⟨"PointsThrow$Page", "switchCount", "()I"⟩, 2), (⟨"PointsThrow$Page", "endFrom", "(I)I"⟩, 2), (⟨"PointsThrow$Page", "pointIn", "(II)LPointsThrow$Point;"⟩, 2), (⟨"PointsThrow$Yard", "reachedFrom", "(I)I"⟩, 8), (⟨"PointsThrow$Yard", "nextOf", "(I)I"⟩, 8), (⟨"PointsThrow$Yard", "hasLoop", "(I)Z"⟩, 8), (⟨"PointsThrow$Yard", "ordered", "(I)[I"⟩, 8), (⟨"PointsThrow$Yard", "tellStands", "(I)V"⟩, 8), (⟨"PointsThrow$Yard", "tellSidings", "(I)V"⟩, 8), (⟨"PointsThrow", "isPoint", "(I)Z"⟩, 15), (⟨"PointsThrow$Roller", "roll", "(LPointsThrow$Yard;[II)I"⟩, 2), (⟨"PointsThrow", "spareStands", "()[I"⟩, 15), (⟨"PointsThrow$Roller", "isAsAhead", "([I)Z"⟩, 2), (⟨"PointsThrow", "isStraightYard", "()Z"⟩, 15), (⟨"PointsThrow$Yard", "startCount", "(I)V"⟩, 8), (⟨"PointsThrow$Yard", "share", "(II)V"⟩, 8)]
theorem lw_r1 : ∀ q ∈ lw_privs_1, lw_okq q := List.forall_mem_cons.mpr ⟨lw_p0, List.forall_mem_cons.mpr ⟨lw_p1, List.forall_mem_cons.mpr ⟨lw_p2, List.forall_mem_cons.mpr ⟨lw_p3, List.forall_mem_cons.mpr ⟨lw_p4, List.forall_mem_cons.mpr ⟨lw_p5, List.forall_mem_cons.mpr ⟨lw_p6, List.forall_mem_cons.mpr ⟨lw_p7, List.forall_mem_cons.mpr ⟨lw_p8, List.forall_mem_cons.mpr ⟨lw_p9, List.forall_mem_cons.mpr ⟨lw_p10, List.forall_mem_cons.mpr ⟨lw_p11, List.forall_mem_cons.mpr ⟨lw_p12, List.forall_mem_cons.mpr ⟨lw_p13, List.forall_mem_cons.mpr ⟨lw_p14, List.forall_mem_cons.mpr ⟨lw_p15, fun _ h => absurd h List.not_mem_nil⟩⟩⟩⟩⟩⟩⟩⟩⟩⟩⟩⟩⟩⟩⟩⟩
theorem lw_p16 : lw_okq (⟨"PointsThrow", "mayPlan", "()Z"⟩, 15) := ⟨⟨by decide +kernel, by decide +kernel⟩, List.mem_of_getElem? (i := 19) (by decide +kernel), List.mem_of_getElem? (i := 613) (by decide +kernel), List.mem_of_getElem? (i := 614) (by decide +kernel)⟩
theorem lw_p17 : lw_okq (⟨"PointsThrow$Beginning", "follow", "(IIIIII)V"⟩, 8) := ⟨⟨by decide +kernel, by decide +kernel⟩, List.mem_of_getElem? (i := 75) (by decide +kernel), List.mem_of_getElem? (i := 622) (by decide +kernel), List.mem_of_getElem? (i := 623) (by decide +kernel)⟩
theorem lw_p18 : lw_okq (⟨"PointsThrow$Beginning", "keepIfBetter", "(I)V"⟩, 8) := ⟨⟨by decide +kernel, by decide +kernel⟩, List.mem_of_getElem? (i := 75) (by decide +kernel), List.mem_of_getElem? (i := 626) (by decide +kernel), List.mem_of_getElem? (i := 627) (by decide +kernel)⟩
theorem lw_p19 : lw_okq (⟨"PointsThrow$Beginning", "isChosenFirst", "()Z"⟩, 8) := ⟨⟨by decide +kernel, by decide +kernel⟩, List.mem_of_getElem? (i := 75) (by decide +kernel), List.mem_of_getElem? (i := 630) (by decide +kernel), List.mem_of_getElem? (i := 631) (by decide +kernel)⟩
theorem lw_p20 : lw_okq (⟨"PointsThrow$Beginning", "choose", "(IIIIII)V"⟩, 8) := ⟨⟨by decide +kernel, by decide +kernel⟩, List.mem_of_getElem? (i := 75) (by decide +kernel), List.mem_of_getElem? (i := 638) (by decide +kernel), List.mem_of_getElem? (i := 639) (by decide +kernel)⟩
theorem lw_p21 : lw_okq (⟨"PointsThrow$Throwing", "encode", "([I)I"⟩, 5) := ⟨⟨by decide +kernel, by decide +kernel⟩, List.mem_of_getElem? (i := 110) (by decide +kernel), List.mem_of_getElem? (i := 652) (by decide +kernel), List.mem_of_getElem? (i := 653) (by decide +kernel)⟩
theorem lw_p22 : lw_okq (⟨"PointsThrow$Throwing", "makeRoom", "(I)V"⟩, 5) := ⟨⟨by decide +kernel, by decide +kernel⟩, List.mem_of_getElem? (i := 110) (by decide +kernel), List.mem_of_getElem? (i := 657) (by decide +kernel), List.mem_of_getElem? (i := 658) (by decide +kernel)⟩
theorem lw_p23 : lw_okq (⟨"PointsThrow$Throwing", "offer", "(III)V"⟩, 5) := ⟨⟨by decide +kernel, by decide +kernel⟩, List.mem_of_getElem? (i := 110) (by decide +kernel), List.mem_of_getElem? (i := 665) (by decide +kernel), List.mem_of_getElem? (i := 666) (by decide +kernel)⟩
theorem lw_p24 : lw_okq (⟨"PointsThrow$Throwing", "leave", "(II)V"⟩, 5) := ⟨⟨by decide +kernel, by decide +kernel⟩, List.mem_of_getElem? (i := 110) (by decide +kernel), List.mem_of_getElem? (i := 669) (by decide +kernel), List.mem_of_getElem? (i := 670) (by decide +kernel)⟩
theorem lw_p25 : lw_okq (⟨"PointsThrow$Throwing", "goOn", "(IIIII)V"⟩, 5) := ⟨⟨by decide +kernel, by decide +kernel⟩, List.mem_of_getElem? (i := 110) (by decide +kernel), List.mem_of_getElem? (i := 673) (by decide +kernel), List.mem_of_getElem? (i := 674) (by decide +kernel)⟩
theorem lw_p26 : lw_okq (⟨"PointsThrow$Throwing", "startNext", "(I)V"⟩, 5) := ⟨⟨by decide +kernel, by decide +kernel⟩, List.mem_of_getElem? (i := 110) (by decide +kernel), List.mem_of_getElem? (i := 684) (by decide +kernel), List.mem_of_getElem? (i := 685) (by decide +kernel)⟩
theorem lw_p27 : lw_okq (⟨"PointsThrow", "findEmptyAhead", "()V"⟩, 15) := ⟨⟨by decide +kernel, by decide +kernel⟩, List.mem_of_getElem? (i := 19) (by decide +kernel), List.mem_of_getElem? (i := 693) (by decide +kernel), List.mem_of_getElem? (i := 694) (by decide +kernel)⟩
theorem lw_p28 : lw_okq (⟨"PointsThrow", "isExplainedBy", "(I)Z"⟩, 15) := ⟨⟨by decide +kernel, by decide +kernel⟩, List.mem_of_getElem? (i := 19) (by decide +kernel), List.mem_of_getElem? (i := 702) (by decide +kernel), List.mem_of_getElem? (i := 703) (by decide +kernel)⟩
theorem lw_p29 : lw_okq (⟨"PointsThrow$Suspects", "fillStops", "(LPointsThrow$Yard;[II[I)V"⟩, 5) := ⟨⟨by decide +kernel, by decide +kernel⟩, List.mem_of_getElem? (i := 133) (by decide +kernel), List.mem_of_getElem? (i := 722) (by decide +kernel), List.mem_of_getElem? (i := 723) (by decide +kernel)⟩
theorem lw_p30 : lw_okq (⟨"PointsThrow", "digestOfSwitches", "(J)J"⟩, 15) := ⟨⟨by decide +kernel, by decide +kernel⟩, List.mem_of_getElem? (i := 19) (by decide +kernel), List.mem_of_getElem? (i := 772) (by decide +kernel), List.mem_of_getElem? (i := 773) (by decide +kernel)⟩
theorem lw_p31 : lw_okq (⟨"PointsThrow", "digestOfSidings", "(J)J"⟩, 15) := ⟨⟨by decide +kernel, by decide +kernel⟩, List.mem_of_getElem? (i := 19) (by decide +kernel), List.mem_of_getElem? (i := 779) (by decide +kernel), List.mem_of_getElem? (i := 780) (by decide +kernel)⟩
def lw_privs_2 : List (MethodName × Nat) := [(⟨"PointsThrow", "mayPlan", "()Z"⟩, 15), (⟨"PointsThrow$Beginning", "follow", "(IIIIII)V"⟩, 8), (⟨"PointsThrow$Beginning", "keepIfBetter", "(I)V"⟩, 8), (⟨"PointsThrow$Beginning", "isChosenFirst", "()Z"⟩, 8), (⟨"PointsThrow$Beginning", "choose", "(IIIIII)V"⟩, 8), (⟨"PointsThrow$Throwing", "encode", "([I)I"⟩, 5), (⟨"PointsThrow$Throwing", "makeRoom", "(I)V"⟩, 5), (⟨"PointsThrow$Throwing", "offer", "(III)V"⟩, 5), (⟨"PointsThrow$Throwing", "leave", "(II)V"⟩, 5), (⟨"PointsThrow$Throwing", "goOn", "(IIIII)V"⟩, 5), (⟨"PointsThrow$Throwing", "startNext", "(I)V"⟩, 5), (⟨"PointsThrow", "findEmptyAhead", "()V"⟩, 15), (⟨"PointsThrow", "isExplainedBy", "(I)Z"⟩, 15), (⟨"PointsThrow$Suspects", "fillStops", "(LPointsThrow$Yard;[II[I)V"⟩, 5), (⟨"PointsThrow", "digestOfSwitches", "(J)J"⟩, 15), (⟨"PointsThrow", "digestOfSidings", "(J)J"⟩, 15)]
theorem lw_r2 : ∀ q ∈ lw_privs_2, lw_okq q := List.forall_mem_cons.mpr ⟨lw_p16, List.forall_mem_cons.mpr ⟨lw_p17, List.forall_mem_cons.mpr ⟨lw_p18, List.forall_mem_cons.mpr ⟨lw_p19, List.forall_mem_cons.mpr ⟨lw_p20, List.forall_mem_cons.mpr ⟨lw_p21, List.forall_mem_cons.mpr ⟨lw_p22, List.forall_mem_cons.mpr ⟨lw_p23, List.forall_mem_cons.mpr ⟨lw_p24, List.forall_mem_cons.mpr ⟨lw_p25, List.forall_mem_cons.mpr ⟨lw_p26, List.forall_mem_cons.mpr ⟨lw_p27, List.forall_mem_cons.mpr ⟨lw_p28, List.forall_mem_cons.mpr ⟨lw_p29, List.forall_mem_cons.mpr ⟨lw_p30, List.forall_mem_cons.mpr ⟨lw_p31, fun _ h => absurd h List.not_mem_nil⟩⟩⟩⟩⟩⟩⟩⟩⟩⟩⟩⟩⟩⟩⟩⟩
theorem lw_p32 : lw_okq (⟨"PointsThrow", "digestOfTrials", "(J)J"⟩, 15) := ⟨⟨by decide +kernel, by decide +kernel⟩, List.mem_of_getElem? (i := 19) (by decide +kernel), List.mem_of_getElem? (i := 783) (by decide +kernel), List.mem_of_getElem? (i := 784) (by decide +kernel)⟩
theorem lw_p33 : lw_okq (⟨"PointsThrowModel", "faultOf", "()I"⟩, 34) := ⟨⟨by decide +kernel, by decide +kernel⟩, List.mem_of_getElem? (i := 790) (by decide +kernel), List.mem_of_getElem? (i := 913) (by decide +kernel), List.mem_of_getElem? (i := 914) (by decide +kernel)⟩
theorem lw_p34 : lw_okq (⟨"PointsThrowModel", "go", "(I)Z"⟩, 34) := ⟨⟨by decide +kernel, by decide +kernel⟩, List.mem_of_getElem? (i := 790) (by decide +kernel), List.mem_of_getElem? (i := 917) (by decide +kernel), List.mem_of_getElem? (i := 918) (by decide +kernel)⟩
theorem lw_p35 : lw_okq (⟨"PointsThrowModel", "isPoint", "(I)Z"⟩, 34) := ⟨⟨by decide +kernel, by decide +kernel⟩, List.mem_of_getElem? (i := 790) (by decide +kernel), List.mem_of_getElem? (i := 939) (by decide +kernel), List.mem_of_getElem? (i := 940) (by decide +kernel)⟩
theorem lw_p36 : lw_okq (⟨"PointsThrowModel", "aboutOf", "(II)I"⟩, 34) := ⟨⟨by decide +kernel, by decide +kernel⟩, List.mem_of_getElem? (i := 790) (by decide +kernel), List.mem_of_getElem? (i := 943) (by decide +kernel), List.mem_of_getElem? (i := 944) (by decide +kernel)⟩
theorem lw_p37 : lw_okq (⟨"PointsThrowModel", "standMany", "(I)I"⟩, 34) := ⟨⟨by decide +kernel, by decide +kernel⟩, List.mem_of_getElem? (i := 790) (by decide +kernel), List.mem_of_getElem? (i := 947) (by decide +kernel), List.mem_of_getElem? (i := 948) (by decide +kernel)⟩
theorem lw_p38 : lw_okq (⟨"PointsThrowModel", "wayAt", "(II)I"⟩, 34) := ⟨⟨by decide +kernel, by decide +kernel⟩, List.mem_of_getElem? (i := 790) (by decide +kernel), List.mem_of_getElem? (i := 951) (by decide +kernel), List.mem_of_getElem? (i := 952) (by decide +kernel)⟩
theorem lw_p39 : lw_okq (⟨"PointsThrowModel", "leastStand", "(II)I"⟩, 34) := ⟨⟨by decide +kernel, by decide +kernel⟩, List.mem_of_getElem? (i := 790) (by decide +kernel), List.mem_of_getElem? (i := 964) (by decide +kernel), List.mem_of_getElem? (i := 965) (by decide +kernel)⟩
theorem lw_p40 : lw_okq (⟨"PointsThrowModel", "lacks", "()Z"⟩, 34) := ⟨⟨by decide +kernel, by decide +kernel⟩, List.mem_of_getElem? (i := 790) (by decide +kernel), List.mem_of_getElem? (i := 972) (by decide +kernel), List.mem_of_getElem? (i := 973) (by decide +kernel)⟩
theorem lw_p41 : lw_okq (⟨"PointsThrowModel", "layTried", "()V"⟩, 34) := ⟨⟨by decide +kernel, by decide +kernel⟩, List.mem_of_getElem? (i := 790) (by decide +kernel), List.mem_of_getElem? (i := 980) (by decide +kernel), List.mem_of_getElem? (i := 981) (by decide +kernel)⟩
theorem lw_p42 : lw_okq (⟨"PointsThrowModel", "goTruck", "(I)I"⟩, 34) := ⟨⟨by decide +kernel, by decide +kernel⟩, List.mem_of_getElem? (i := 790) (by decide +kernel), List.mem_of_getElem? (i := 984) (by decide +kernel), List.mem_of_getElem? (i := 985) (by decide +kernel)⟩
theorem lw_p43 : lw_okq (⟨"PointsThrowModel", "move", "(I)V"⟩, 34) := ⟨⟨by decide +kernel, by decide +kernel⟩, List.mem_of_getElem? (i := 790) (by decide +kernel), List.mem_of_getElem? (i := 988) (by decide +kernel), List.mem_of_getElem? (i := 989) (by decide +kernel)⟩
theorem lw_p44 : lw_okq (⟨"PointsThrowModel", "turned", "(II)I"⟩, 34) := ⟨⟨by decide +kernel, by decide +kernel⟩, List.mem_of_getElem? (i := 790) (by decide +kernel), List.mem_of_getElem? (i := 992) (by decide +kernel), List.mem_of_getElem? (i := 993) (by decide +kernel)⟩
theorem lw_p45 : lw_okq (⟨"PointsThrowModel", "manyIn", "(I)I"⟩, 34) := ⟨⟨by decide +kernel, by decide +kernel⟩, List.mem_of_getElem? (i := 790) (by decide +kernel), List.mem_of_getElem? (i := 1001) (by decide +kernel), List.mem_of_getElem? (i := 1002) (by decide +kernel)⟩
theorem lw_p46 : lw_okq (⟨"PointsThrowModel", "movesOf", "()I"⟩, 34) := ⟨⟨by decide +kernel, by decide +kernel⟩, List.mem_of_getElem? (i := 790) (by decide +kernel), List.mem_of_getElem? (i := 1014) (by decide +kernel), List.mem_of_getElem? (i := 1015) (by decide +kernel)⟩
theorem lw_p47 : lw_okq (⟨"PointsThrowModel", "isStraight", "()Z"⟩, 34) := ⟨⟨by decide +kernel, by decide +kernel⟩, List.mem_of_getElem? (i := 790) (by decide +kernel), List.mem_of_getElem? (i := 1026) (by decide +kernel), List.mem_of_getElem? (i := 1027) (by decide +kernel)⟩
def lw_privs_3 : List (MethodName × Nat) := [(⟨"PointsThrow", "digestOfTrials", "(J)J"⟩, 15), (⟨"PointsThrowModel", "faultOf", "()I"⟩, 34), (⟨"PointsThrowModel", "go", "(I)Z"⟩, 34), (⟨"PointsThrowModel", "isPoint", "(I)Z"⟩, 34), (⟨"PointsThrowModel", "aboutOf", "(II)I"⟩, 34), (⟨"PointsThrowModel", "standMany", "(I)I"⟩, 34), (⟨"PointsThrowModel", "wayAt", "(II)I"⟩, 34), (⟨"PointsThrowModel", "leastStand", "(II)I"⟩, 34), (⟨"PointsThrowModel", "lacks", "()Z"⟩, 34), (⟨"PointsThrowModel", "layTried", "()V"⟩, 34), (⟨"PointsThrowModel", "goTruck", "(I)I"⟩, 34), (⟨"PointsThrowModel", "move", "(I)V"⟩, 34), (⟨"PointsThrowModel", "turned", "(II)I"⟩, 34), (⟨"PointsThrowModel", "manyIn", "(I)I"⟩, 34), (⟨"PointsThrowModel", "movesOf", "()I"⟩, 34), (⟨"PointsThrowModel", "isStraight", "()Z"⟩, 34)]
theorem lw_r3 : ∀ q ∈ lw_privs_3, lw_okq q := List.forall_mem_cons.mpr ⟨lw_p32, List.forall_mem_cons.mpr ⟨lw_p33, List.forall_mem_cons.mpr ⟨lw_p34, List.forall_mem_cons.mpr ⟨lw_p35, List.forall_mem_cons.mpr ⟨lw_p36, List.forall_mem_cons.mpr ⟨lw_p37, List.forall_mem_cons.mpr ⟨lw_p38, List.forall_mem_cons.mpr ⟨lw_p39, List.forall_mem_cons.mpr ⟨lw_p40, List.forall_mem_cons.mpr ⟨lw_p41, List.forall_mem_cons.mpr ⟨lw_p42, List.forall_mem_cons.mpr ⟨lw_p43, List.forall_mem_cons.mpr ⟨lw_p44, List.forall_mem_cons.mpr ⟨lw_p45, List.forall_mem_cons.mpr ⟨lw_p46, List.forall_mem_cons.mpr ⟨lw_p47, fun _ h => absurd h List.not_mem_nil⟩⟩⟩⟩⟩⟩⟩⟩⟩⟩⟩⟩⟩⟩⟩⟩
theorem lw_p48 : lw_okq (⟨"PointsThrowModel", "reach", "(I)I"⟩, 34) := ⟨⟨by decide +kernel, by decide +kernel⟩, List.mem_of_getElem? (i := 790) (by decide +kernel), List.mem_of_getElem? (i := 1030) (by decide +kernel), List.mem_of_getElem? (i := 1031) (by decide +kernel)⟩
theorem lw_p49 : lw_okq (⟨"PointsThrowModel", "layBehind", "(I)V"⟩, 34) := ⟨⟨by decide +kernel, by decide +kernel⟩, List.mem_of_getElem? (i := 790) (by decide +kernel), List.mem_of_getElem? (i := 1039) (by decide +kernel), List.mem_of_getElem? (i := 1040) (by decide +kernel)⟩
theorem lw_p50 : lw_okq (⟨"PointsThrowModel", "isReady", "(II)Z"⟩, 34) := ⟨⟨by decide +kernel, by decide +kernel⟩, List.mem_of_getElem? (i := 790) (by decide +kernel), List.mem_of_getElem? (i := 1043) (by decide +kernel), List.mem_of_getElem? (i := 1044) (by decide +kernel)⟩
theorem lw_p51 : lw_okq (⟨"PointsThrowModel", "send", "(II)V"⟩, 34) := ⟨⟨by decide +kernel, by decide +kernel⟩, List.mem_of_getElem? (i := 790) (by decide +kernel), List.mem_of_getElem? (i := 1047) (by decide +kernel), List.mem_of_getElem? (i := 1048) (by decide +kernel)⟩
theorem lw_p52 : lw_okq (⟨"PointsThrowModel", "standsInAll", "()I"⟩, 34) := ⟨⟨by decide +kernel, by decide +kernel⟩, List.mem_of_getElem? (i := 790) (by decide +kernel), List.mem_of_getElem? (i := 1073) (by decide +kernel), List.mem_of_getElem? (i := 1074) (by decide +kernel)⟩
theorem lw_p53 : lw_okq (⟨"PointsThrowModel", "layStands", "(I)V"⟩, 34) := ⟨⟨by decide +kernel, by decide +kernel⟩, List.mem_of_getElem? (i := 790) (by decide +kernel), List.mem_of_getElem? (i := 1077) (by decide +kernel), List.mem_of_getElem? (i := 1078) (by decide +kernel)⟩
theorem lw_p54 : lw_okq (⟨"PointsThrowModel", "isTrue", "(I)Z"⟩, 34) := ⟨⟨by decide +kernel, by decide +kernel⟩, List.mem_of_getElem? (i := 790) (by decide +kernel), List.mem_of_getElem? (i := 1081) (by decide +kernel), List.mem_of_getElem? (i := 1082) (by decide +kernel)⟩
theorem lw_p55 : lw_okq (⟨"PointsThrowModel", "codeOf", "()I"⟩, 34) := ⟨⟨by decide +kernel, by decide +kernel⟩, List.mem_of_getElem? (i := 790) (by decide +kernel), List.mem_of_getElem? (i := 1090) (by decide +kernel), List.mem_of_getElem? (i := 1091) (by decide +kernel)⟩
theorem lw_p56 : lw_okq (⟨"PointsThrowModel", "throwAll", "(I)V"⟩, 34) := ⟨⟨by decide +kernel, by decide +kernel⟩, List.mem_of_getElem? (i := 790) (by decide +kernel), List.mem_of_getElem? (i := 1094) (by decide +kernel), List.mem_of_getElem? (i := 1095) (by decide +kernel)⟩
theorem lw_p57 : lw_okq (⟨"PointsThrowModel", "emptyOf", "(I)I"⟩, 34) := ⟨⟨by decide +kernel, by decide +kernel⟩, List.mem_of_getElem? (i := 790) (by decide +kernel), List.mem_of_getElem? (i := 1102) (by decide +kernel), List.mem_of_getElem? (i := 1103) (by decide +kernel)⟩
theorem lw_p58 : lw_okq (⟨"PointsThrowModel", "noticedOf", "(Z)I"⟩, 34) := ⟨⟨by decide +kernel, by decide +kernel⟩, List.mem_of_getElem? (i := 790) (by decide +kernel), List.mem_of_getElem? (i := 1114) (by decide +kernel), List.mem_of_getElem? (i := 1115) (by decide +kernel)⟩
theorem lw_p59 : lw_okq (⟨"PointsThrowModel", "layGoes", "()V"⟩, 34) := ⟨⟨by decide +kernel, by decide +kernel⟩, List.mem_of_getElem? (i := 790) (by decide +kernel), List.mem_of_getElem? (i := 1118) (by decide +kernel), List.mem_of_getElem? (i := 1119) (by decide +kernel)⟩
theorem lw_p60 : lw_okq (⟨"PointsThrowModel", "doesTurn", "(I)Z"⟩, 34) := ⟨⟨by decide +kernel, by decide +kernel⟩, List.mem_of_getElem? (i := 790) (by decide +kernel), List.mem_of_getElem? (i := 1122) (by decide +kernel), List.mem_of_getElem? (i := 1123) (by decide +kernel)⟩
theorem lw_p61 : lw_okq (⟨"PointsThrowModel", "unlike", "(II)I"⟩, 34) := ⟨⟨by decide +kernel, by decide +kernel⟩, List.mem_of_getElem? (i := 790) (by decide +kernel), List.mem_of_getElem? (i := 1126) (by decide +kernel), List.mem_of_getElem? (i := 1127) (by decide +kernel)⟩
theorem lw_p62 : lw_okq (⟨"PointsThrowModel", "countOf", "(I)I"⟩, 34) := ⟨⟨by decide +kernel, by decide +kernel⟩, List.mem_of_getElem? (i := 790) (by decide +kernel), List.mem_of_getElem? (i := 1146) (by decide +kernel), List.mem_of_getElem? (i := 1147) (by decide +kernel)⟩
theorem lw_p63 : lw_okq (⟨"PointsThrowModel", "say", "(J)V"⟩, 34) := ⟨⟨by decide +kernel, by decide +kernel⟩, List.mem_of_getElem? (i := 790) (by decide +kernel), List.mem_of_getElem? (i := 1155) (by decide +kernel), List.mem_of_getElem? (i := 1156) (by decide +kernel)⟩
def lw_privs_4 : List (MethodName × Nat) := [(⟨"PointsThrowModel", "reach", "(I)I"⟩, 34), (⟨"PointsThrowModel", "layBehind", "(I)V"⟩, 34), (⟨"PointsThrowModel", "isReady", "(II)Z"⟩, 34), (⟨"PointsThrowModel", "send", "(II)V"⟩, 34), (⟨"PointsThrowModel", "standsInAll", "()I"⟩, 34), (⟨"PointsThrowModel", "layStands", "(I)V"⟩, 34), (⟨"PointsThrowModel", "isTrue", "(I)Z"⟩, 34), (⟨"PointsThrowModel", "codeOf", "()I"⟩, 34), (⟨"PointsThrowModel", "throwAll", "(I)V"⟩, 34), (⟨"PointsThrowModel", "emptyOf", "(I)I"⟩, 34), (⟨"PointsThrowModel", "noticedOf", "(Z)I"⟩, 34), (⟨"PointsThrowModel", "layGoes", "()V"⟩, 34), (⟨"PointsThrowModel", "doesTurn", "(I)Z"⟩, 34), (⟨"PointsThrowModel", "unlike", "(II)I"⟩, 34), (⟨"PointsThrowModel", "countOf", "(I)I"⟩, 34), (⟨"PointsThrowModel", "say", "(J)V"⟩, 34)]
theorem lw_r4 : ∀ q ∈ lw_privs_4, lw_okq q := List.forall_mem_cons.mpr ⟨lw_p48, List.forall_mem_cons.mpr ⟨lw_p49, List.forall_mem_cons.mpr ⟨lw_p50, List.forall_mem_cons.mpr ⟨lw_p51, List.forall_mem_cons.mpr ⟨lw_p52, List.forall_mem_cons.mpr ⟨lw_p53, List.forall_mem_cons.mpr ⟨lw_p54, List.forall_mem_cons.mpr ⟨lw_p55, List.forall_mem_cons.mpr ⟨lw_p56, List.forall_mem_cons.mpr ⟨lw_p57, List.forall_mem_cons.mpr ⟨lw_p58, List.forall_mem_cons.mpr ⟨lw_p59, List.forall_mem_cons.mpr ⟨lw_p60, List.forall_mem_cons.mpr ⟨lw_p61, List.forall_mem_cons.mpr ⟨lw_p62, List.forall_mem_cons.mpr ⟨lw_p63, fun _ h => absurd h List.not_mem_nil⟩⟩⟩⟩⟩⟩⟩⟩⟩⟩⟩⟩⟩⟩⟩⟩
theorem lw_p64 : lw_okq (⟨"PointsThrowModel", "sayYard", "()V"⟩, 34) := ⟨⟨by decide +kernel, by decide +kernel⟩, List.mem_of_getElem? (i := 790) (by decide +kernel), List.mem_of_getElem? (i := 1160) (by decide +kernel), List.mem_of_getElem? (i := 1161) (by decide +kernel)⟩
def lw_privs_5 : List (MethodName × Nat) := [(⟨"PointsThrowModel", "sayYard", "()V"⟩, 34)]
theorem lw_r5 : ∀ q ∈ lw_privs_5, lw_okq q := List.forall_mem_cons.mpr ⟨lw_p64, fun _ h => absurd h List.not_mem_nil⟩
def lw_privs : List (MethodName × Nat) := lw_privs_1 ++ (lw_privs_2 ++ (lw_privs_3 ++ (lw_privs_4 ++ (lw_privs_5))))
def lw_tbl : List Cond := k2_sels lw_privs ++ tables_1
theorem lw_privs_ok : ∀ q ∈ lw_privs, lw_okq q := by
  show ∀ q ∈ lw_privs_1 ++ (lw_privs_2 ++ (lw_privs_3 ++ (lw_privs_4 ++ (lw_privs_5)))), lw_okq q
  exact List.forall_mem_append.mpr ⟨lw_r1, List.forall_mem_append.mpr ⟨lw_r2, List.forall_mem_append.mpr ⟨lw_r3, List.forall_mem_append.mpr ⟨lw_r4, lw_r5⟩⟩⟩⟩
end
section
def RX0 : String := "PointsThrow$Beginning"
def TX0 : u_T := fun k => match k with
  | 0 => ("PointsThrow$Beginning", "standsAt", "[[I", true)
  | 1 => ("PointsThrow$Beginning", "chosen", "[I", true)
  | 2 => ("PointsThrow$Beginning", "best", "[I", true)
  | 3 => ("PointsThrow$Beginning", "fewest", "I", false)
  | 4 => ("PointsThrow$Beginning", "yard", "LPointsThrow$Yard;", false)
  | 5 => ("PointsThrow$Beginning", "now", "[I", false)
  | 6 => ("PointsThrow$Beginning", "wanted", "[I", false)
  | _ => ("PointsThrow$Beginning", "wantedCount", "I", false)
def tyX0 : Nat → FieldType := fun k => match k with
  | 0 => .array (.array .int)
  | 1 => .array .int
  | 2 => .array .int
  | 3 => .int
  | 4 => .object "PointsThrow$Yard"
  | 5 => .array .int
  | 6 => .array .int
  | _ => .int
abbrev wsX00 : List Cond := u_ws RX0 TX0 8
theorem nmX0 : ∀ a, a < 8 → ∀ b, b < 8 → a ≠ b → (TX0 a).2.1 ≠ (TX0 b).2.1 := by decide +kernel
theorem tyX0_ok : ∀ k, k < 8 → parseFieldDescriptor (TX0 k).2.2.1 = some (tyX0 k) := by decide +kernel
abbrev cX0_init : ByteArray := prog_2_method_1_code
def yX0_init : MethodName := ⟨RX0, "<init>", "()V"⟩
abbrev cX0_search : ByteArray := prog_2_method_2_code
def yX0_search : MethodName := ⟨RX0, "search", "(LPointsThrow$Yard;[I[II)Z"⟩
abbrev cX0_follow : ByteArray := prog_2_method_3_code
def yX0_follow : MethodName := ⟨RX0, "follow", "(IIIIII)V"⟩
abbrev cX0_choose : ByteArray := prog_2_method_4_code
def yX0_choose : MethodName := ⟨RX0, "choose", "(IIIIII)V"⟩
abbrev cX0_keepIfBetter : ByteArray := prog_2_method_5_code
def yX0_keepIfBetter : MethodName := ⟨RX0, "keepIfBetter", "(I)V"⟩
abbrev cX0_isChosenFirst : ByteArray := prog_2_method_6_code
def yX0_isChosenFirst : MethodName := ⟨RX0, "isChosenFirst", "()Z"⟩
def RX1 : String := "PointsThrow$Held"
def TX1 : u_T := fun k => match k with
  | _ => ("PointsThrow$Point", "ways", "[I", true)
def tyX1 : Nat → FieldType := fun k => match k with
  | _ => .array .int
abbrev wsX10 : List Cond := u_ws RX1 TX1 1
theorem nmX1 : ∀ a, a < 1 → ∀ b, b < 1 → a ≠ b → (TX1 a).2.1 ≠ (TX1 b).2.1 := by decide +kernel
theorem tyX1_ok : ∀ k, k < 1 → parseFieldDescriptor (TX1 k).2.2.1 = some (tyX1 k) := by decide +kernel
abbrev cX1_init : ByteArray := prog_3_method_1_code
def yX1_init : MethodName := ⟨RX1, "<init>", "([I)V"⟩
abbrev cX1_kind : ByteArray := prog_3_method_2_code
def yX1_kind : MethodName := ⟨RX1, "kind", "()I"⟩
abbrev cX1_period : ByteArray := prog_3_method_3_code
def yX1_period : MethodName := ⟨RX1, "period", "()I"⟩
def RX2 : String := "PointsThrow$Lazy"
def TX2 : u_T := fun k => match k with
  | _ => ("PointsThrow$Point", "ways", "[I", true)
def tyX2 : Nat → FieldType := fun k => match k with
  | _ => .array .int
abbrev wsX20 : List Cond := u_ws RX2 TX2 1
theorem nmX2 : ∀ a, a < 1 → ∀ b, b < 1 → a ≠ b → (TX2 a).2.1 ≠ (TX2 b).2.1 := by decide +kernel
theorem tyX2_ok : ∀ k, k < 1 → parseFieldDescriptor (TX2 k).2.2.1 = some (tyX2 k) := by decide +kernel
abbrev cX2_init : ByteArray := prog_4_method_1_code
def yX2_init : MethodName := ⟨RX2, "<init>", "([I)V"⟩
abbrev cX2_kind : ByteArray := prog_4_method_2_code
def yX2_kind : MethodName := ⟨RX2, "kind", "()I"⟩
abbrev cX2_standCount : ByteArray := prog_4_method_3_code
def yX2_standCount : MethodName := ⟨RX2, "standCount", "()I"⟩
abbrev cX2_wayAt : ByteArray := prog_4_method_4_code
def yX2_wayAt : MethodName := ⟨RX2, "wayAt", "(I)I"⟩
abbrev cX2_firstStandAt : ByteArray := prog_4_method_5_code
def yX2_firstStandAt : MethodName := ⟨RX2, "firstStandAt", "(I)I"⟩
abbrev cX2_period : ByteArray := prog_4_method_6_code
def yX2_period : MethodName := ⟨RX2, "period", "()I"⟩
def RX3 : String := "PointsThrow$Page"
def TX3 : u_T := fun k => match k with
  | 0 => ("PointsThrow$Page", "row", "[I", true)
  | _ => ("PointsThrow$Page", "size", "I", false)
def tyX3 : Nat → FieldType := fun k => match k with
  | 0 => .array .int
  | _ => .int
abbrev wsX30 : List Cond := u_ws RX3 TX3 2
theorem nmX3 : ∀ a, a < 2 → ∀ b, b < 2 → a ≠ b → (TX3 a).2.1 ≠ (TX3 b).2.1 := by decide +kernel
theorem tyX3_ok : ∀ k, k < 2 → parseFieldDescriptor (TX3 k).2.2.1 = some (tyX3 k) := by decide +kernel
abbrev cX3_init : ByteArray := prog_5_method_1_code
def yX3_init : MethodName := ⟨RX3, "<init>", "()V"⟩
abbrev cX3_append : ByteArray := prog_5_method_2_code
def yX3_append : MethodName := ⟨RX3, "append", "(J)I"⟩
abbrev cX3_wipe : ByteArray := prog_5_method_3_code
def yX3_wipe : MethodName := ⟨RX3, "wipe", "()I"⟩
abbrev cX3_faultPlace : ByteArray := prog_5_method_4_code
def yX3_faultPlace : MethodName := ⟨RX3, "faultPlace", "()I"⟩
abbrev cX3_read : ByteArray := prog_5_method_5_code
def yX3_read : MethodName := ⟨RX3, "read", "()LPointsThrow$Yard;"⟩
abbrev cX3_switchCount : ByteArray := prog_5_method_6_code
def yX3_switchCount : MethodName := ⟨RX3, "switchCount", "()I"⟩
abbrev cX3_endFrom : ByteArray := prog_5_method_7_code
def yX3_endFrom : MethodName := ⟨RX3, "endFrom", "(I)I"⟩
abbrev cX3_pointIn : ByteArray := prog_5_method_8_code
def yX3_pointIn : MethodName := ⟨RX3, "pointIn", "(II)LPointsThrow$Point;"⟩
abbrev cX3_codeIn : ByteArray := prog_5_method_9_code
def yX3_codeIn : MethodName := ⟨RX3, "codeIn", "(JI)I"⟩
abbrev cX3_lettersIn : ByteArray := prog_5_method_10_code
def yX3_lettersIn : MethodName := ⟨RX3, "lettersIn", "(J)I"⟩
abbrev cX3_kindOf : ByteArray := prog_5_method_11_code
def yX3_kindOf : MethodName := ⟨RX3, "kindOf", "(I)I"⟩
abbrev cX3_placeOf : ByteArray := prog_5_method_12_code
def yX3_placeOf : MethodName := ⟨RX3, "placeOf", "(I)I"⟩
def RX4 : String := "PointsThrow$Point"
def TX4 : u_T := fun k => match k with
  | _ => ("PointsThrow$Point", "ways", "[I", true)
def tyX4 : Nat → FieldType := fun k => match k with
  | _ => .array .int
abbrev wsX40 : List Cond := u_ws RX4 TX4 1
theorem nmX4 : ∀ a, a < 1 → ∀ b, b < 1 → a ≠ b → (TX4 a).2.1 ≠ (TX4 b).2.1 := by decide +kernel
theorem tyX4_ok : ∀ k, k < 1 → parseFieldDescriptor (TX4 k).2.2.1 = some (tyX4 k) := by decide +kernel
abbrev cX4_init : ByteArray := prog_6_method_1_code
def yX4_init : MethodName := ⟨RX4, "<init>", "([I)V"⟩
abbrev cX4_kind : ByteArray := prog_6_method_2_code
def yX4_kind : MethodName := ⟨RX4, "kind", "()I"⟩
abbrev cX4_standCount : ByteArray := prog_6_method_3_code
def yX4_standCount : MethodName := ⟨RX4, "standCount", "()I"⟩
abbrev cX4_wayAt : ByteArray := prog_6_method_4_code
def yX4_wayAt : MethodName := ⟨RX4, "wayAt", "(I)I"⟩
abbrev cX4_firstStandAt : ByteArray := prog_6_method_5_code
def yX4_firstStandAt : MethodName := ⟨RX4, "firstStandAt", "(I)I"⟩
abbrev cX4_period : ByteArray := prog_6_method_6_code
def yX4_period : MethodName := ⟨RX4, "period", "()I"⟩
abbrev cX4_turned : ByteArray := prog_6_method_7_code
def yX4_turned : MethodName := ⟨RX4, "turned", "(II)I"⟩
abbrev cX4_placeBy : ByteArray := prog_6_method_8_code
def yX4_placeBy : MethodName := ⟨RX4, "placeBy", "(I)I"⟩
abbrev cX4_canTurn : ByteArray := prog_6_method_9_code
def yX4_canTurn : MethodName := ⟨RX4, "canTurn", "()Z"⟩
def RX5 : String := "PointsThrow$Roller"
def TX5 : u_T := fun k => match k with
  | 0 => ("PointsThrow$Roller", "ahead", "[I", true)
  | _ => ("PointsThrow$Roller", "lastMoves", "I", false)
def tyX5 : Nat → FieldType := fun k => match k with
  | 0 => .array .int
  | _ => .int
abbrev wsX50 : List Cond := u_ws RX5 TX5 2
theorem nmX5 : ∀ a, a < 2 → ∀ b, b < 2 → a ≠ b → (TX5 a).2.1 ≠ (TX5 b).2.1 := by decide +kernel
theorem tyX5_ok : ∀ k, k < 2 → parseFieldDescriptor (TX5 k).2.2.1 = some (tyX5 k) := by decide +kernel
abbrev cX5_init : ByteArray := prog_7_method_1_code
def yX5_init : MethodName := ⟨RX5, "<init>", "()V"⟩
abbrev cX5_send : ByteArray := prog_7_method_2_code
def yX5_send : MethodName := ⟨RX5, "send", "(LPointsThrow$Yard;[II)I"⟩
abbrev cX5_roundOf : ByteArray := prog_7_method_3_code
def yX5_roundOf : MethodName := ⟨RX5, "roundOf", "(LPointsThrow$Yard;[I)I"⟩
abbrev cX5_roll : ByteArray := prog_7_method_4_code
def yX5_roll : MethodName := ⟨RX5, "roll", "(LPointsThrow$Yard;[II)I"⟩
abbrev cX5_isAsAhead : ByteArray := prog_7_method_5_code
def yX5_isAsAhead : MethodName := ⟨RX5, "isAsAhead", "([I)Z"⟩
def RX6 : String := "PointsThrow$Scene"
def TX6 : u_T := fun k => match k with
  | 0 => ("PointsThrow$Scene", "stands", "[I", true)
  | 1 => ("PointsThrow$Scene", "sidingOf", "[I", true)
  | _ => ("PointsThrow$Scene", "trucks", "I", false)
def tyX6 : Nat → FieldType := fun k => match k with
  | 0 => .array .int
  | 1 => .array .int
  | _ => .int
abbrev wsX60 : List Cond := u_ws RX6 TX6 3
theorem nmX6 : ∀ a, a < 3 → ∀ b, b < 3 → a ≠ b → (TX6 a).2.1 ≠ (TX6 b).2.1 := by decide +kernel
theorem tyX6_ok : ∀ k, k < 3 → parseFieldDescriptor (TX6 k).2.2.1 = some (tyX6 k) := by decide +kernel
abbrev cX6_init : ByteArray := prog_8_method_1_code
def yX6_init : MethodName := ⟨RX6, "<init>", "()V"⟩
abbrev cX6_reset : ByteArray := prog_8_method_2_code
def yX6_reset : MethodName := ⟨RX6, "reset", "()V"⟩
abbrev cX6_copyFrom : ByteArray := prog_8_method_3_code
def yX6_copyFrom : MethodName := ⟨RX6, "copyFrom", "(LPointsThrow$Scene;)V"⟩
abbrev cX6_put : ByteArray := prog_8_method_4_code
def yX6_put : MethodName := ⟨RX6, "put", "(I)V"⟩
abbrev cX6_trucksIn : ByteArray := prog_8_method_5_code
def yX6_trucksIn : MethodName := ⟨RX6, "trucksIn", "(I)I"⟩
abbrev cX6_truckIn : ByteArray := prog_8_method_6_code
def yX6_truckIn : MethodName := ⟨RX6, "truckIn", "(II)I"⟩
def RX7 : String := "PointsThrow$Suspects"
def TX7 : u_T := fun k => match k with
  | 0 => ("PointsThrow$Suspects", "roller", "LPointsThrow$Roller;", true)
  | 1 => ("PointsThrow$Suspects", "stops", "[[I", true)
  | 2 => ("PointsThrow$Suspects", "stands", "[I", true)
  | 3 => ("PointsThrow$Suspects", "suspected", "[I", true)
  | _ => ("PointsThrow$Suspects", "count", "I", false)
def tyX7 : Nat → FieldType := fun k => match k with
  | 0 => .object "PointsThrow$Roller"
  | 1 => .array (.array .int)
  | 2 => .array .int
  | 3 => .array .int
  | _ => .int
abbrev wsX70 : List Cond := u_ws RX7 TX7 5
theorem nmX7 : ∀ a, a < 5 → ∀ b, b < 5 → a ≠ b → (TX7 a).2.1 ≠ (TX7 b).2.1 := by decide +kernel
theorem tyX7_ok : ∀ k, k < 5 → parseFieldDescriptor (TX7 k).2.2.1 = some (tyX7 k) := by decide +kernel
abbrev cX7_init : ByteArray := prog_9_method_1_code
def yX7_init : MethodName := ⟨RX7, "<init>", "(LPointsThrow$Roller;)V"⟩
abbrev cX7_watch : ByteArray := prog_9_method_2_code
def yX7_watch : MethodName := ⟨RX7, "watch", "(LPointsThrow$Yard;[I)V"⟩
abbrev cX7_trucksToNotice : ByteArray := prog_9_method_3_code
def yX7_trucksToNotice : MethodName := ⟨RX7, "trucksToNotice", "()I"⟩
abbrev cX7_trucksToTellApart : ByteArray := prog_9_method_4_code
def yX7_trucksToTellApart : MethodName := ⟨RX7, "trucksToTellApart", "()I"⟩
abbrev cX7_orNone : ByteArray := prog_9_method_5_code
def yX7_orNone : MethodName := ⟨RX7, "orNone", "(I)I"⟩
abbrev cX7_fillStops : ByteArray := prog_9_method_6_code
def yX7_fillStops : MethodName := ⟨RX7, "fillStops", "(LPointsThrow$Yard;[II[I)V"⟩
abbrev cX7_firstDifference : ByteArray := prog_9_method_7_code
def yX7_firstDifference : MethodName := ⟨RX7, "firstDifference", "([I[I)I"⟩
def RX8 : String := "PointsThrow$Swinging"
def TX8 : u_T := fun k => match k with
  | _ => ("PointsThrow$Point", "ways", "[I", true)
def tyX8 : Nat → FieldType := fun k => match k with
  | _ => .array .int
abbrev wsX80 : List Cond := u_ws RX8 TX8 1
theorem nmX8 : ∀ a, a < 1 → ∀ b, b < 1 → a ≠ b → (TX8 a).2.1 ≠ (TX8 b).2.1 := by decide +kernel
theorem tyX8_ok : ∀ k, k < 1 → parseFieldDescriptor (TX8 k).2.2.1 = some (tyX8 k) := by decide +kernel
abbrev cX8_init : ByteArray := prog_10_method_1_code
def yX8_init : MethodName := ⟨RX8, "<init>", "([I)V"⟩
abbrev cX8_kind : ByteArray := prog_10_method_2_code
def yX8_kind : MethodName := ⟨RX8, "kind", "()I"⟩
abbrev cX8_standCount : ByteArray := prog_10_method_3_code
def yX8_standCount : MethodName := ⟨RX8, "standCount", "()I"⟩
abbrev cX8_wayAt : ByteArray := prog_10_method_4_code
def yX8_wayAt : MethodName := ⟨RX8, "wayAt", "(I)I"⟩
def RX9 : String := "PointsThrow$Throwing"
def TX9 : u_T := fun k => match k with
  | 0 => ("PointsThrow$Throwing", "costs", "[B", false)
  | 1 => ("PointsThrow$Throwing", "rowOf", "[I", true)
  | 2 => ("PointsThrow$Throwing", "weights", "[I", true)
  | 3 => ("PointsThrow$Throwing", "yard", "LPointsThrow$Yard;", false)
  | _ => ("PointsThrow$Throwing", "codes", "I", false)
def tyX9 : Nat → FieldType := fun k => match k with
  | 0 => .array .byte
  | 1 => .array .int
  | 2 => .array .int
  | 3 => .object "PointsThrow$Yard"
  | _ => .int
abbrev wsX90 : List Cond := u_ws RX9 TX9 5
theorem nmX9 : ∀ a, a < 5 → ∀ b, b < 5 → a ≠ b → (TX9 a).2.1 ≠ (TX9 b).2.1 := by decide +kernel
theorem tyX9_ok : ∀ k, k < 5 → parseFieldDescriptor (TX9 k).2.2.1 = some (tyX9 k) := by decide +kernel
abbrev cX9_init : ByteArray := prog_11_method_1_code
def yX9_init : MethodName := ⟨RX9, "<init>", "()V"⟩
abbrev cX9_fewest : ByteArray := prog_11_method_2_code
def yX9_fewest : MethodName := ⟨RX9, "fewest", "(LPointsThrow$Yard;[I[II)I"⟩
abbrev cX9_encode : ByteArray := prog_11_method_3_code
def yX9_encode : MethodName := ⟨RX9, "encode", "([I)I"⟩
abbrev cX9_makeRoom : ByteArray := prog_11_method_4_code
def yX9_makeRoom : MethodName := ⟨RX9, "makeRoom", "(I)V"⟩
abbrev cX9_leave : ByteArray := prog_11_method_5_code
def yX9_leave : MethodName := ⟨RX9, "leave", "(II)V"⟩
abbrev cX9_goOn : ByteArray := prog_11_method_6_code
def yX9_goOn : MethodName := ⟨RX9, "goOn", "(IIIII)V"⟩
abbrev cX9_offer : ByteArray := prog_11_method_7_code
def yX9_offer : MethodName := ⟨RX9, "offer", "(III)V"⟩
abbrev cX9_startNext : ByteArray := prog_11_method_8_code
def yX9_startNext : MethodName := ⟨RX9, "startNext", "(I)V"⟩
def RX10 : String := "PointsThrow$Yard"
def TX10 : u_T := fun k => match k with
  | 0 => ("PointsThrow$Yard", "points", "[LPointsThrow$Point;", true)
  | 1 => ("PointsThrow$Yard", "size", "I", true)
  | 2 => ("PointsThrow$Yard", "isStraight", "Z", true)
  | 3 => ("PointsThrow$Yard", "order", "[I", true)
  | 4 => ("PointsThrow$Yard", "places", "[I", true)
  | 5 => ("PointsThrow$Yard", "nextStands", "[I", true)
  | 6 => ("PointsThrow$Yard", "leadingTo", "[I", true)
  | _ => ("PointsThrow$Yard", "passing", "[I", true)
def tyX10 : Nat → FieldType := fun k => match k with
  | 0 => .array (.object "PointsThrow$Point")
  | 1 => .int
  | 2 => .boolean
  | 3 => .array .int
  | 4 => .array .int
  | 5 => .array .int
  | 6 => .array .int
  | _ => .array .int
abbrev wsX100 : List Cond := u_ws RX10 TX10 8
theorem nmX10 : ∀ a, a < 8 → ∀ b, b < 8 → a ≠ b → (TX10 a).2.1 ≠ (TX10 b).2.1 := by decide +kernel
theorem tyX10_ok : ∀ k, k < 8 → parseFieldDescriptor (TX10 k).2.2.1 = some (tyX10 k) := by decide +kernel
abbrev cX10_init : ByteArray := prog_12_method_1_code
def yX10_init : MethodName := ⟨RX10, "<init>", "([LPointsThrow$Point;)V"⟩
abbrev cX10_pass : ByteArray := prog_12_method_2_code
def yX10_pass : MethodName := ⟨RX10, "pass", "(I[II)I"⟩
abbrev cX10_placeFrom : ByteArray := prog_12_method_3_code
def yX10_placeFrom : MethodName := ⟨RX10, "placeFrom", "(II)I"⟩
abbrev cX10_standAfter : ByteArray := prog_12_method_4_code
def yX10_standAfter : MethodName := ⟨RX10, "standAfter", "(II)I"⟩
abbrev cX10_canLead : ByteArray := prog_12_method_5_code
def yX10_canLead : MethodName := ⟨RX10, "canLead", "(II)Z"⟩
abbrev cX10_tellStands : ByteArray := prog_12_method_6_code
def yX10_tellStands : MethodName := ⟨RX10, "tellStands", "(I)V"⟩
abbrev cX10_tellSidings : ByteArray := prog_12_method_7_code
def yX10_tellSidings : MethodName := ⟨RX10, "tellSidings", "(I)V"⟩
abbrev cX10_countOn : ByteArray := prog_12_method_8_code
def yX10_countOn : MethodName := ⟨RX10, "countOn", "(I[I)V"⟩
abbrev cX10_countBack : ByteArray := prog_12_method_9_code
def yX10_countBack : MethodName := ⟨RX10, "countBack", "(I[I)V"⟩
abbrev cX10_startCount : ByteArray := prog_12_method_10_code
def yX10_startCount : MethodName := ⟨RX10, "startCount", "(I)V"⟩
abbrev cX10_share : ByteArray := prog_12_method_11_code
def yX10_share : MethodName := ⟨RX10, "share", "(II)V"⟩
abbrev cX10_nextOf : ByteArray := prog_12_method_12_code
def yX10_nextOf : MethodName := ⟨RX10, "nextOf", "(I)I"⟩
abbrev cX10_reachedFrom : ByteArray := prog_12_method_13_code
def yX10_reachedFrom : MethodName := ⟨RX10, "reachedFrom", "(I)I"⟩
abbrev cX10_hasLoop : ByteArray := prog_12_method_14_code
def yX10_hasLoop : MethodName := ⟨RX10, "hasLoop", "(I)Z"⟩
abbrev cX10_ordered : ByteArray := prog_12_method_15_code
def yX10_ordered : MethodName := ⟨RX10, "ordered", "(I)[I"⟩
def RX11 : String := "PointsThrow"
def TX11 : u_T := fun k => match k with
  | 0 => ("PointsThrow", "page", "LPointsThrow$Page;", true)
  | 1 => ("PointsThrow", "scene", "LPointsThrow$Scene;", true)
  | 2 => ("PointsThrow", "kept", "LPointsThrow$Scene;", true)
  | 3 => ("PointsThrow", "roller", "LPointsThrow$Roller;", true)
  | 4 => ("PointsThrow", "beginning", "LPointsThrow$Beginning;", true)
  | 5 => ("PointsThrow", "throwing", "LPointsThrow$Throwing;", true)
  | 6 => ("PointsThrow", "suspects", "LPointsThrow$Suspects;", true)
  | 7 => ("PointsThrow", "wanted", "[I", true)
  | 8 => ("PointsThrow", "spare", "[I", true)
  | 9 => ("PointsThrow", "emptyAhead", "[I", true)
  | 10 => ("PointsThrow", "theYard", "LPointsThrow$Yard;", false)
  | 11 => ("PointsThrow", "isKept", "Z", false)
  | 12 => ("PointsThrow", "wantedCount", "I", false)
  | 13 => ("PointsThrow", "yardsRead", "I", false)
  | _ => ("PointsThrow", "plansDone", "I", false)
def tyX11 : Nat → FieldType := fun k => match k with
  | 0 => .object "PointsThrow$Page"
  | 1 => .object "PointsThrow$Scene"
  | 2 => .object "PointsThrow$Scene"
  | 3 => .object "PointsThrow$Roller"
  | 4 => .object "PointsThrow$Beginning"
  | 5 => .object "PointsThrow$Throwing"
  | 6 => .object "PointsThrow$Suspects"
  | 7 => .array .int
  | 8 => .array .int
  | 9 => .array .int
  | 10 => .object "PointsThrow$Yard"
  | 11 => .boolean
  | 12 => .int
  | 13 => .int
  | _ => .int
abbrev wsX110 : List Cond := u_ws RX11 TX11 15
theorem nmX11 : ∀ a, a < 15 → ∀ b, b < 15 → a ≠ b → (TX11 a).2.1 ≠ (TX11 b).2.1 := by decide +kernel
theorem tyX11_ok : ∀ k, k < 15 → parseFieldDescriptor (TX11 k).2.2.1 = some (tyX11 k) := by decide +kernel
abbrev cX11_init : ByteArray := prog_1_method_1_code
def yX11_init : MethodName := ⟨RX11, "<init>", "()V"⟩
abbrev cX11_letters : ByteArray := prog_1_method_2_code
def yX11_letters : MethodName := ⟨RX11, "letters", "(J)I"⟩
abbrev cX11_blank : ByteArray := prog_1_method_3_code
def yX11_blank : MethodName := ⟨RX11, "blank", "()I"⟩
abbrev cX11_fault : ByteArray := prog_1_method_4_code
def yX11_fault : MethodName := ⟨RX11, "fault", "()I"⟩
abbrev cX11_yard : ByteArray := prog_1_method_5_code
def yX11_yard : MethodName := ⟨RX11, "yard", "()I"⟩
abbrev cX11_about : ByteArray := prog_1_method_6_code
def yX11_about : MethodName := ⟨RX11, "about", "(II)I"⟩
abbrev cX11_as : ByteArray := prog_1_method_7_code
def yX11_as : MethodName := ⟨RX11, "as", "(II)I"⟩
abbrev cX11_lever : ByteArray := prog_1_method_8_code
def yX11_lever : MethodName := ⟨RX11, "lever", "(II)I"⟩
abbrev cX11_anew : ByteArray := prog_1_method_9_code
def yX11_anew : MethodName := ⟨RX11, "anew", "()I"⟩
abbrev cX11_down : ByteArray := prog_1_method_10_code
def yX11_down : MethodName := ⟨RX11, "down", "()I"⟩
abbrev cX11_many : ByteArray := prog_1_method_11_code
def yX11_many : MethodName := ⟨RX11, "many", "(I)I"⟩
abbrev cX11_truck : ByteArray := prog_1_method_12_code
def yX11_truck : MethodName := ⟨RX11, "truck", "(II)I"⟩
abbrev cX11_moves : ByteArray := prog_1_method_13_code
def yX11_moves : MethodName := ⟨RX11, "moves", "()I"⟩
abbrev cX11_round : ByteArray := prog_1_method_14_code
def yX11_round : MethodName := ⟨RX11, "round", "()I"⟩
abbrev cX11_straight : ByteArray := prog_1_method_15_code
def yX11_straight : MethodName := ⟨RX11, "straight", "()I"⟩
abbrev cX11_nth : ByteArray := prog_1_method_16_code
def yX11_nth : MethodName := ⟨RX11, "nth", "(I)I"⟩
abbrev cX11_behind : ByteArray := prog_1_method_17_code
def yX11_behind : MethodName := ⟨RX11, "behind", "(II)I"⟩
abbrev cX11_ago : ByteArray := prog_1_method_18_code
def yX11_ago : MethodName := ⟨RX11, "ago", "(II)I"⟩
abbrev cX11_want : ByteArray := prog_1_method_19_code
def yX11_want : MethodName := ⟨RX11, "want", "(I)I"⟩
abbrev cX11_clear : ByteArray := prog_1_method_20_code
def yX11_clear : MethodName := ⟨RX11, "clear", "()I"⟩
abbrev cX11_begin : ByteArray := prog_1_method_21_code
def yX11_begin : MethodName := ⟨RX11, "begin", "(I)I"⟩
abbrev cX11_hands : ByteArray := prog_1_method_22_code
def yX11_hands : MethodName := ⟨RX11, "hands", "()I"⟩
abbrev cX11_empty : ByteArray := prog_1_method_23_code
def yX11_empty : MethodName := ⟨RX11, "empty", "(I)I"⟩
abbrev cX11_which : ByteArray := prog_1_method_24_code
def yX11_which : MethodName := ⟨RX11, "which", "()I"⟩
abbrev cX11_noticed : ByteArray := prog_1_method_25_code
def yX11_noticed : MethodName := ⟨RX11, "noticed", "()I"⟩
abbrev cX11_apart : ByteArray := prog_1_method_26_code
def yX11_apart : MethodName := ⟨RX11, "apart", "()I"⟩
abbrev cX11_image : ByteArray := prog_1_method_27_code
def yX11_image : MethodName := ⟨RX11, "image", "()I"⟩
abbrev cX11_restore : ByteArray := prog_1_method_28_code
def yX11_restore : MethodName := ⟨RX11, "restore", "()I"⟩
abbrev cX11_count : ByteArray := prog_1_method_29_code
def yX11_count : MethodName := ⟨RX11, "count", "(I)I"⟩
abbrev cX11_digest : ByteArray := prog_1_method_30_code
def yX11_digest : MethodName := ⟨RX11, "digest", "()J"⟩
abbrev cX11_digestOfSwitches : ByteArray := prog_1_method_31_code
def yX11_digestOfSwitches : MethodName := ⟨RX11, "digestOfSwitches", "(J)J"⟩
abbrev cX11_digestOfSidings : ByteArray := prog_1_method_32_code
def yX11_digestOfSidings : MethodName := ⟨RX11, "digestOfSidings", "(J)J"⟩
abbrev cX11_digestOfTrials : ByteArray := prog_1_method_33_code
def yX11_digestOfTrials : MethodName := ⟨RX11, "digestOfTrials", "(J)J"⟩
abbrev cX11_isPoint : ByteArray := prog_1_method_34_code
def yX11_isPoint : MethodName := ⟨RX11, "isPoint", "(I)Z"⟩
abbrev cX11_isStraightYard : ByteArray := prog_1_method_35_code
def yX11_isStraightYard : MethodName := ⟨RX11, "isStraightYard", "()Z"⟩
abbrev cX11_mayPlan : ByteArray := prog_1_method_36_code
def yX11_mayPlan : MethodName := ⟨RX11, "mayPlan", "()Z"⟩
abbrev cX11_spareStands : ByteArray := prog_1_method_37_code
def yX11_spareStands : MethodName := ⟨RX11, "spareStands", "()[I"⟩
abbrev cX11_findEmptyAhead : ByteArray := prog_1_method_38_code
def yX11_findEmptyAhead : MethodName := ⟨RX11, "findEmptyAhead", "()V"⟩
abbrev cX11_isExplainedBy : ByteArray := prog_1_method_39_code
def yX11_isExplainedBy : MethodName := ⟨RX11, "isExplainedBy", "(I)Z"⟩
abbrev cX11_isSiding : ByteArray := prog_1_method_40_code
def yX11_isSiding : MethodName := ⟨RX11, "isSiding", "(I)Z"⟩
abbrev cX11_canBeTakenAs : ByteArray := prog_1_method_41_code
def yX11_canBeTakenAs : MethodName := ⟨RX11, "canBeTakenAs", "(LPointsThrow$Point;I)Z"⟩
def RX12 : String := "PointsThrowModel"
def TX12 : u_T := fun k => match k with
  | 0 => ("PointsThrowModel", "page", "[I", true)
  | 1 => ("PointsThrowModel", "pageMany", "I", false)
  | 2 => ("PointsThrowModel", "readMany", "I", false)
  | 3 => ("PointsThrowModel", "readWays", "I", false)
  | 4 => ("PointsThrowModel", "isSigned", "Z", false)
  | 5 => ("PointsThrowModel", "readMost", "I", false)
  | 6 => ("PointsThrowModel", "readKinds", "[I", true)
  | 7 => ("PointsThrowModel", "readCount", "[I", true)
  | 8 => ("PointsThrowModel", "readRows", "[I", true)
  | 9 => ("PointsThrowModel", "points", "I", false)
  | 10 => ("PointsThrowModel", "yardsRead", "I", false)
  | 11 => ("PointsThrowModel", "kinds", "[I", true)
  | 12 => ("PointsThrowModel", "wayMany", "[I", true)
  | 13 => ("PointsThrowModel", "ways", "[I", true)
  | 14 => ("PointsThrowModel", "stands", "[I", true)
  | 15 => ("PointsThrowModel", "trucks", "I", false)
  | 16 => ("PointsThrowModel", "sidings", "[I", true)
  | 17 => ("PointsThrowModel", "tried", "[I", true)
  | 18 => ("PointsThrowModel", "ahead", "[I", true)
  | 19 => ("PointsThrowModel", "placeNow", "I", false)
  | 20 => ("PointsThrowModel", "movesNow", "I", false)
  | 21 => ("PointsThrowModel", "counts", "[I", true)
  | 22 => ("PointsThrowModel", "wanted", "I", false)
  | 23 => ("PointsThrowModel", "wants", "[I", true)
  | 24 => ("PointsThrowModel", "done", "I", false)
  | 25 => ("PointsThrowModel", "bestStands", "[I", true)
  | 26 => ("PointsThrowModel", "throwsNow", "[I", true)
  | 27 => ("PointsThrowModel", "throwsNext", "[I", true)
  | 28 => ("PointsThrowModel", "goes", "[I", true)
  | 29 => ("PointsThrowModel", "keptTrucks", "I", false)
  | 30 => ("PointsThrowModel", "keptYard", "I", false)
  | 31 => ("PointsThrowModel", "keptStands", "[I", true)
  | 32 => ("PointsThrowModel", "keptSidings", "[I", true)
  | _ => ("PointsThrowModel", "hash", "J", false)
def tyX12 : Nat → FieldType := fun k => match k with
  | 0 => .array .int
  | 1 => .int
  | 2 => .int
  | 3 => .int
  | 4 => .boolean
  | 5 => .int
  | 6 => .array .int
  | 7 => .array .int
  | 8 => .array .int
  | 9 => .int
  | 10 => .int
  | 11 => .array .int
  | 12 => .array .int
  | 13 => .array .int
  | 14 => .array .int
  | 15 => .int
  | 16 => .array .int
  | 17 => .array .int
  | 18 => .array .int
  | 19 => .int
  | 20 => .int
  | 21 => .array .int
  | 22 => .int
  | 23 => .array .int
  | 24 => .int
  | 25 => .array .int
  | 26 => .array .int
  | 27 => .array .int
  | 28 => .array .int
  | 29 => .int
  | 30 => .int
  | 31 => .array .int
  | 32 => .array .int
  | _ => .long
abbrev wsX120 : List Cond := u_ws RX12 TX12 34
theorem nmX12 : ∀ a, a < 34 → ∀ b, b < 34 → a ≠ b → (TX12 a).2.1 ≠ (TX12 b).2.1 := by decide +kernel
theorem tyX12_ok : ∀ k, k < 34 → parseFieldDescriptor (TX12 k).2.2.1 = some (tyX12 k) := by decide +kernel
abbrev cX12_init : ByteArray := prog_14_method_1_code
def yX12_init : MethodName := ⟨RX12, "<init>", "()V"⟩
abbrev cX12_in : ByteArray := prog_14_method_2_code
def yX12_in : MethodName := ⟨RX12, "in", "(JJJ)Z"⟩
abbrev cX12_letters : ByteArray := prog_14_method_3_code
def yX12_letters : MethodName := ⟨RX12, "letters", "(J)I"⟩
abbrev cX12_blank : ByteArray := prog_14_method_4_code
def yX12_blank : MethodName := ⟨RX12, "blank", "()I"⟩
abbrev cX12_signOf : ByteArray := prog_14_method_5_code
def yX12_signOf : MethodName := ⟨RX12, "signOf", "(I)I"⟩
abbrev cX12_go : ByteArray := prog_14_method_6_code
def yX12_go : MethodName := ⟨RX12, "go", "(I)Z"⟩
abbrev cX12_faultOf : ByteArray := prog_14_method_7_code
def yX12_faultOf : MethodName := ⟨RX12, "faultOf", "()I"⟩
abbrev cX12_fault : ByteArray := prog_14_method_8_code
def yX12_fault : MethodName := ⟨RX12, "fault", "()I"⟩
abbrev cX12_yard : ByteArray := prog_14_method_9_code
def yX12_yard : MethodName := ⟨RX12, "yard", "()I"⟩
abbrev cX12_isPoint : ByteArray := prog_14_method_10_code
def yX12_isPoint : MethodName := ⟨RX12, "isPoint", "(I)Z"⟩
abbrev cX12_lacks : ByteArray := prog_14_method_11_code
def yX12_lacks : MethodName := ⟨RX12, "lacks", "()Z"⟩
abbrev cX12_standMany : ByteArray := prog_14_method_12_code
def yX12_standMany : MethodName := ⟨RX12, "standMany", "(I)I"⟩
abbrev cX12_wayAt : ByteArray := prog_14_method_13_code
def yX12_wayAt : MethodName := ⟨RX12, "wayAt", "(II)I"⟩
abbrev cX12_turned : ByteArray := prog_14_method_14_code
def yX12_turned : MethodName := ⟨RX12, "turned", "(II)I"⟩
abbrev cX12_aboutOf : ByteArray := prog_14_method_15_code
def yX12_aboutOf : MethodName := ⟨RX12, "aboutOf", "(II)I"⟩
abbrev cX12_about : ByteArray := prog_14_method_16_code
def yX12_about : MethodName := ⟨RX12, "about", "(II)I"⟩
abbrev cX12_as : ByteArray := prog_14_method_17_code
def yX12_as : MethodName := ⟨RX12, "as", "(II)I"⟩
abbrev cX12_leastStand : ByteArray := prog_14_method_18_code
def yX12_leastStand : MethodName := ⟨RX12, "leastStand", "(II)I"⟩
abbrev cX12_lever : ByteArray := prog_14_method_19_code
def yX12_lever : MethodName := ⟨RX12, "lever", "(II)I"⟩
abbrev cX12_anew : ByteArray := prog_14_method_20_code
def yX12_anew : MethodName := ⟨RX12, "anew", "()I"⟩
abbrev cX12_layTried : ByteArray := prog_14_method_21_code
def yX12_layTried : MethodName := ⟨RX12, "layTried", "()V"⟩
abbrev cX12_move : ByteArray := prog_14_method_22_code
def yX12_move : MethodName := ⟨RX12, "move", "(I)V"⟩
abbrev cX12_goTruck : ByteArray := prog_14_method_23_code
def yX12_goTruck : MethodName := ⟨RX12, "goTruck", "(I)I"⟩
abbrev cX12_down : ByteArray := prog_14_method_24_code
def yX12_down : MethodName := ⟨RX12, "down", "()I"⟩
abbrev cX12_manyIn : ByteArray := prog_14_method_25_code
def yX12_manyIn : MethodName := ⟨RX12, "manyIn", "(I)I"⟩
abbrev cX12_many : ByteArray := prog_14_method_26_code
def yX12_many : MethodName := ⟨RX12, "many", "(I)I"⟩
abbrev cX12_truck : ByteArray := prog_14_method_27_code
def yX12_truck : MethodName := ⟨RX12, "truck", "(II)I"⟩
abbrev cX12_movesOf : ByteArray := prog_14_method_28_code
def yX12_movesOf : MethodName := ⟨RX12, "movesOf", "()I"⟩
abbrev cX12_moves : ByteArray := prog_14_method_29_code
def yX12_moves : MethodName := ⟨RX12, "moves", "()I"⟩
abbrev cX12_round : ByteArray := prog_14_method_30_code
def yX12_round : MethodName := ⟨RX12, "round", "()I"⟩
abbrev cX12_reach : ByteArray := prog_14_method_31_code
def yX12_reach : MethodName := ⟨RX12, "reach", "(I)I"⟩
abbrev cX12_isStraight : ByteArray := prog_14_method_32_code
def yX12_isStraight : MethodName := ⟨RX12, "isStraight", "()Z"⟩
abbrev cX12_straight : ByteArray := prog_14_method_33_code
def yX12_straight : MethodName := ⟨RX12, "straight", "()I"⟩
abbrev cX12_isReady : ByteArray := prog_14_method_34_code
def yX12_isReady : MethodName := ⟨RX12, "isReady", "(II)Z"⟩
abbrev cX12_send : ByteArray := prog_14_method_35_code
def yX12_send : MethodName := ⟨RX12, "send", "(II)V"⟩
abbrev cX12_layBehind : ByteArray := prog_14_method_36_code
def yX12_layBehind : MethodName := ⟨RX12, "layBehind", "(I)V"⟩
abbrev cX12_nth : ByteArray := prog_14_method_37_code
def yX12_nth : MethodName := ⟨RX12, "nth", "(I)I"⟩
abbrev cX12_behind : ByteArray := prog_14_method_38_code
def yX12_behind : MethodName := ⟨RX12, "behind", "(II)I"⟩
abbrev cX12_ago : ByteArray := prog_14_method_39_code
def yX12_ago : MethodName := ⟨RX12, "ago", "(II)I"⟩
abbrev cX12_want : ByteArray := prog_14_method_40_code
def yX12_want : MethodName := ⟨RX12, "want", "(I)I"⟩
abbrev cX12_clear : ByteArray := prog_14_method_41_code
def yX12_clear : MethodName := ⟨RX12, "clear", "()I"⟩
abbrev cX12_isTrue : ByteArray := prog_14_method_42_code
def yX12_isTrue : MethodName := ⟨RX12, "isTrue", "(I)Z"⟩
abbrev cX12_standsInAll : ByteArray := prog_14_method_43_code
def yX12_standsInAll : MethodName := ⟨RX12, "standsInAll", "()I"⟩
abbrev cX12_layStands : ByteArray := prog_14_method_44_code
def yX12_layStands : MethodName := ⟨RX12, "layStands", "(I)V"⟩
abbrev cX12_codeOf : ByteArray := prog_14_method_45_code
def yX12_codeOf : MethodName := ⟨RX12, "codeOf", "()I"⟩
abbrev cX12_begin : ByteArray := prog_14_method_46_code
def yX12_begin : MethodName := ⟨RX12, "begin", "(I)I"⟩
abbrev cX12_throwAll : ByteArray := prog_14_method_47_code
def yX12_throwAll : MethodName := ⟨RX12, "throwAll", "(I)V"⟩
abbrev cX12_hands : ByteArray := prog_14_method_48_code
def yX12_hands : MethodName := ⟨RX12, "hands", "()I"⟩
abbrev cX12_emptyOf : ByteArray := prog_14_method_49_code
def yX12_emptyOf : MethodName := ⟨RX12, "emptyOf", "(I)I"⟩
abbrev cX12_empty : ByteArray := prog_14_method_50_code
def yX12_empty : MethodName := ⟨RX12, "empty", "(I)I"⟩
abbrev cX12_which : ByteArray := prog_14_method_51_code
def yX12_which : MethodName := ⟨RX12, "which", "()I"⟩
abbrev cX12_doesTurn : ByteArray := prog_14_method_52_code
def yX12_doesTurn : MethodName := ⟨RX12, "doesTurn", "(I)Z"⟩
abbrev cX12_layGoes : ByteArray := prog_14_method_53_code
def yX12_layGoes : MethodName := ⟨RX12, "layGoes", "()V"⟩
abbrev cX12_unlike : ByteArray := prog_14_method_54_code
def yX12_unlike : MethodName := ⟨RX12, "unlike", "(II)I"⟩
abbrev cX12_noticedOf : ByteArray := prog_14_method_55_code
def yX12_noticedOf : MethodName := ⟨RX12, "noticedOf", "(Z)I"⟩
abbrev cX12_noticed : ByteArray := prog_14_method_56_code
def yX12_noticed : MethodName := ⟨RX12, "noticed", "()I"⟩
abbrev cX12_apart : ByteArray := prog_14_method_57_code
def yX12_apart : MethodName := ⟨RX12, "apart", "()I"⟩
abbrev cX12_image : ByteArray := prog_14_method_58_code
def yX12_image : MethodName := ⟨RX12, "image", "()I"⟩
abbrev cX12_restore : ByteArray := prog_14_method_59_code
def yX12_restore : MethodName := ⟨RX12, "restore", "()I"⟩
abbrev cX12_countOf : ByteArray := prog_14_method_60_code
def yX12_countOf : MethodName := ⟨RX12, "countOf", "(I)I"⟩
abbrev cX12_count : ByteArray := prog_14_method_61_code
def yX12_count : MethodName := ⟨RX12, "count", "(I)I"⟩
abbrev cX12_say : ByteArray := prog_14_method_62_code
def yX12_say : MethodName := ⟨RX12, "say", "(J)V"⟩
abbrev cX12_sayYard : ByteArray := prog_14_method_63_code
def yX12_sayYard : MethodName := ⟨RX12, "sayYard", "()V"⟩
abbrev cX12_digest : ByteArray := prog_14_method_64_code
def yX12_digest : MethodName := ⟨RX12, "digest", "()J"⟩
def RJ6 : String := "java/lang/Integer"
def TJ6 : u_T := fun k => match k with
  | _ => ("", "", "", false)
def tyJ6 : Nat → FieldType := fun k => match k with
  | _ => .int
abbrev wsJ60 : List Cond := u_ws RJ6 TJ6 0
theorem nmJ6 : ∀ a, a < 0 → ∀ b, b < 0 → a ≠ b → (TJ6 a).2.1 ≠ (TJ6 b).2.1 := by decide +kernel
theorem tyJ6_ok : ∀ k, k < 0 → parseFieldDescriptor (TJ6 k).2.2.1 = some (tyJ6 k) := by decide +kernel
abbrev cJ6_bitCount_0f7a4 : ByteArray := prog_15_method_49_code
def yJ6_bitCount_0f7a4 : MethodName := ⟨RJ6, "bitCount", "(I)I"⟩
def RJ9 : String := "java/lang/Math"
def TJ9 : u_T := fun k => match k with
  | _ => ("", "", "", false)
def tyJ9 : Nat → FieldType := fun k => match k with
  | _ => .int
abbrev wsJ90 : List Cond := u_ws RJ9 TJ9 0
theorem nmJ9 : ∀ a, a < 0 → ∀ b, b < 0 → a ≠ b → (TJ9 a).2.1 ≠ (TJ9 b).2.1 := by decide +kernel
theorem tyJ9_ok : ∀ k, k < 0 → parseFieldDescriptor (TJ9 k).2.2.1 = some (tyJ9 k) := by decide +kernel
abbrev cJ9_floorMod_7cf53 : ByteArray := prog_16_method_50_code
def yJ9_floorMod_7cf53 : MethodName := ⟨RJ9, "floorMod", "(II)I"⟩
abbrev cJ9_max_7cf53 : ByteArray := prog_16_method_65_code
def yJ9_max_7cf53 : MethodName := ⟨RJ9, "max", "(II)I"⟩
abbrev cJ9_min_7cf53 : ByteArray := prog_16_method_69_code
def yJ9_min_7cf53 : MethodName := ⟨RJ9, "min", "(II)I"⟩
def RJ10 : String := "java/lang/System"
def TJ10 : u_T := fun k => match k with
  | _ => ("", "", "", false)
def tyJ10 : Nat → FieldType := fun k => match k with
  | _ => .int
abbrev wsJ100 : List Cond := u_ws RJ10 TJ10 0
theorem nmJ10 : ∀ a, a < 0 → ∀ b, b < 0 → a ≠ b → (TJ10 a).2.1 ≠ (TJ10 b).2.1 := by decide +kernel
theorem tyJ10_ok : ∀ k, k < 0 → parseFieldDescriptor (TJ10 k).2.2.1 = some (tyJ10 k) := by decide +kernel
def RJ7 : String := "java/util/Arrays"
def TJ7 : u_T := fun k => match k with
  | _ => ("", "", "", false)
def tyJ7 : Nat → FieldType := fun k => match k with
  | _ => .int
abbrev wsJ70 : List Cond := u_ws RJ7 TJ7 0
theorem nmJ7 : ∀ a, a < 0 → ∀ b, b < 0 → a ≠ b → (TJ7 a).2.1 ≠ (TJ7 b).2.1 := by decide +kernel
theorem tyJ7_ok : ∀ k, k < 0 → parseFieldDescriptor (TJ7 k).2.2.1 = some (tyJ7 k) := by decide +kernel
abbrev cJ7_fill_53178 : ByteArray := prog_18_method_103_code
def yJ7_fill_53178 : MethodName := ⟨RJ7, "fill", "([II)V"⟩
abbrev cJ7_fill_031fb : ByteArray := prog_18_method_109_code
def yJ7_fill_031fb : MethodName := ⟨RJ7, "fill", "([BB)V"⟩
def RL : String := "PointsThrowLaw"
abbrev cL_law : ByteArray := code
def yL_law : MethodName := ⟨RL, "law", "([I)Z"⟩
abbrev vwCl : List vw_C := [(RX0, TX0, 8), (RX1, TX1, 1), (RX2, TX2, 1), (RX3, TX3, 2), (RX4, TX4, 1), (RX5, TX5, 2), (RX6, TX6, 3), (RX7, TX7, 5), (RX8, TX8, 1), (RX9, TX9, 5), (RX10, TX10, 8), (RX11, TX11, 15), (RX12, TX12, 34)]
end
section
/-! A SMALL MACHINE: methods run over an abstract heap (a row of tags and lengths, and three functions: ints, references, longs). Its steps are sound for the machine of the Statement (part 05). -/
abbrev mjM : Type := List (Nat × Nat)
abbrev mjI : Type := Nat → Nat → Int32
abbrev mjR : Type := Nat → Nat → Option Nat
abbrev mjJ : Type := Nat → Nat → Int64
abbrev mjH : Type := mjM × mjI × mjR × mjJ
abbrev mjC : Type := Nat × List (Option Value) × List Value × mjH
abbrev mjE : Type := Instr × Nat × List Nat
def mj_ui (f : mjI) (a i : Nat) (x : Int32) : mjI := fun b => if b = a then upd (f a) i x else f b
def mj_ur (f : mjR) (a i : Nat) (x : Option Nat) : mjR := fun b => if b = a then va_up (f a) i x else f b
def mj_uj (f : mjJ) (a i : Nat) (x : Int64) : mjJ := fun b => if b = a then vp_updL (f a) i x else f b
def mj_row (f : mjI) (a : Nat) (g : Nat → Int32) : mjI := fun b => if b = a then g else f b
def mj_rowR (f : mjR) (a : Nat) (g : Nat → Option Nat) : mjR := fun b => if b = a then g else f b
def mj_rowJ (f : mjJ) (a : Nat) (g : Nat → Int64) : mjJ := fun b => if b = a then g else f b
def mj_rows (f : mjI) (a n : Nat) : mjI := fun b => if a ≤ b ∧ b < a + n then (fun _ => 0) else f b
/-! locals -/
def mj_get : Nat → List (Option Value) → Option Value
  | _, [] => none
  | 0, x :: _ => x
  | i + 1, _ :: xs => mj_get i xs
def mj_set {α : Type} (v : Option Value) : Nat → List (Option Value) → (List (Option Value) → Option α) → Option α
  | _, [], _ => none
  | 0, _ :: xs, k => k (v :: xs)
  | i + 1, x :: xs, k => mj_set v i xs (fun ys => k (x :: ys))
def mj_lg : Option Value → Bool
  | some (.long _) => false
  | some (.double _) => false
  | _ => true
def mj_pl : Nat → List (Option Value) → Bool
  | _, [] => true
  | 0, _ => true
  | 1, x :: _ => mj_lg x
  | i + 2, _ :: xs => mj_pl (i + 1) xs
def mj_mt : Nat → mjM → Option (Nat × Nat)
  | _, [] => none
  | 0, x :: _ => some x
  | i + 1, _ :: xs => mj_mt i xs
def mj_at : Nat → List (Option mjE) → Option mjE
  | _, [] => none
  | 0, x :: _ => x
  | i + 1, _ :: xs => mj_at i xs
def mj_any (t : Nat) : List Nat → Bool
  | [] => false
  | c :: cs => match Nat.beq c t with
    | true => true
    | false => mj_any t cs
def mj_sel (t : Nat) : List Nat → Option Nat
  | c :: m :: cs => match Nat.beq c t with
    | true => some m
    | false => mj_sel t cs
  | _ => none
def mj_pop {α : Type} : Nat → List Value → List Value → (List Value → List Value → Option α) → Option α
  | 0, st, acc, k => k acc st
  | n + 1, v :: st, acc, k => mj_pop n st (v :: acc) k
  | _ + 1, [], _, _ => none
def mj_sum : List Value → Nat
  | [] => 0
  | v :: st => v.category + mj_sum st
abbrev mjO : Type := Option (Option Prop × mjC)
def mj_st1 (n i : Nat) (v : Value) (ls : List (Option Value)) (st : List Value) (m : mjM) (I : mjI) (R : mjR) (J : mjJ) : mjO := match mj_pl i ls with
  | true => mj_set (some v) i ls (fun ls' => some (none, n, ls', st, m, I, R, J))
  | false => none
def mj_st2 (n i : Nat) (v : Value) (ls : List (Option Value)) (st : List Value) (m : mjM) (I : mjI) (R : mjR) (J : mjJ) : mjO := match mj_pl i ls with
  | true => mj_set (some v) i ls (fun l1 => mj_set none (i + 1) l1 (fun l2 => some (none, n, l2, st, m, I, R, J)))
  | false => none
def mj_ild (n i : Nat) (ls : List (Option Value)) (st : List Value) (m : mjM) (I : mjI) (R : mjR) (J : mjJ) : mjO := match mj_get i ls with
  | some (.int x) => some (none, n, ls, .int x :: st, m, I, R, J)
  | _ => none
def mj_lld (n i : Nat) (ls : List (Option Value)) (st : List Value) (m : mjM) (I : mjI) (R : mjR) (J : mjJ) : mjO := match mj_get i ls with
  | some (.long x) => some (none, n, ls, .long x :: st, m, I, R, J)
  | _ => none
def mj_ald (n i : Nat) (ls : List (Option Value)) (st : List Value) (m : mjM) (I : mjI) (R : mjR) (J : mjJ) : mjO := match mj_get i ls with
  | some (.ref x) => some (none, n, ls, .ref x :: st, m, I, R, J)
  | some .null => some (none, n, ls, .null :: st, m, I, R, J)
  | _ => none
def mj_ist (n i : Nat) (ls : List (Option Value)) (st : List Value) (m : mjM) (I : mjI) (R : mjR) (J : mjJ) : mjO := match st with
  | .int x :: st => mj_st1 n i (.int x) ls st m I R J
  | _ => none
def mj_lst (n i : Nat) (ls : List (Option Value)) (st : List Value) (m : mjM) (I : mjI) (R : mjR) (J : mjJ) : mjO := match st with
  | .long x :: st => mj_st2 n i (.long x) ls st m I R J
  | _ => none
def mj_ast (n i : Nat) (ls : List (Option Value)) (st : List Value) (m : mjM) (I : mjI) (R : mjR) (J : mjJ) : mjO := match st with
  | .ref x :: st => mj_st1 n i (.ref x) ls st m I R J
  | .null :: st => mj_st1 n i .null ls st m I R J
  | _ => none
def mj_cst (n : Nat) (d : List Nat) (v : Int32) (ls : List (Option Value)) (st : List Value) (m : mjM) (I : mjI) (R : mjR) (J : mjJ) : mjO := match d with
  | [k] => some (none, n, ls, .int (nI k) :: st, m, I, R, J)
  | _ => some (none, n, ls, .int v :: st, m, I, R, J)
/-! fields: data = place, type (0 int, 1 boolean, 2 reference, 3 long), tags -/
def mj_gf (n : Nat) (d : List Nat) (ls : List (Option Value)) (st : List Value) (m : mjM) (I : mjI) (R : mjR) (J : mjJ) : mjO := match d, st with
  | k :: ty :: cs, .ref a :: st => match mj_mt a m with
    | some (t, _) => match mj_any t cs with
      | true => match ty with
        | 0 => some (none, n, ls, .int (I a k) :: st, m, I, R, J)
        | 1 => some (none, n, ls, .int (I a k) :: st, m, I, R, J)
        | 2 => match R a k with
          | some b => some (none, n, ls, .ref b :: st, m, I, R, J)
          | none => some (none, n, ls, .null :: st, m, I, R, J)
        | 3 => some (none, n, ls, .long (J a k) :: st, m, I, R, J)
        | _ => none
      | false => none
    | none => none
  | _, _ => none
def mj_pf (n : Nat) (d : List Nat) (ls : List (Option Value)) (st : List Value) (m : mjM) (I : mjI) (R : mjR) (J : mjJ) : mjO := match d, st with
  | k :: ty :: cs, v :: .ref a :: st => match mj_mt a m with
    | some (t, _) => match mj_any t cs with
      | true => match ty, v with
        | 0, .int x => some (none, n, ls, st, m, mj_ui I a k x, R, J)
        | 1, .int x => some (some (x = 0 ∨ x = 1), n, ls, st, m, mj_ui I a k x, R, J)
        | 2, .ref b => some (none, n, ls, st, m, I, mj_ur R a k (some b), J)
        | 2, .null => some (none, n, ls, st, m, I, mj_ur R a k none, J)
        | 3, .long x => some (none, n, ls, st, m, I, R, mj_uj J a k x)
        | _, _ => none
      | false => none
    | none => none
  | _, _ => none
/-! arrays: tag 0 int[], 1 byte[], 2 int[][], 3 of points; objects: 10 and the number of the kind -/
def mj_xld (tag n : Nat) (ls : List (Option Value)) (st : List Value) (m : mjM) (I : mjI) (R : mjR) (J : mjJ) : mjO := match st with
  | .int i :: .ref a :: st => match mj_mt a m with
    | some (t, q) => match Nat.beq t tag with
      | true => some (some (vp_in i q), n, ls, .int (I a i.toNatClampNeg) :: st, m, I, R, J)
      | false => none
    | none => none
  | _ => none
def mj_xst (tag n : Nat) (ls : List (Option Value)) (st : List Value) (m : mjM) (I : mjI) (R : mjR) (J : mjJ) : mjO := match st with
  | .int x :: .int i :: .ref a :: st => match mj_mt a m with
    | some (t, q) => match Nat.beq t tag with
      | true => some (some (vp_in i q ∧ 0 < a), n, ls, st, m, mj_ui I a i.toNatClampNeg x, R, J)
      | false => none
    | none => none
  | _ => none
def mj_aald (n : Nat) (ls : List (Option Value)) (st : List Value) (m : mjM) (I : mjI) (R : mjR) (J : mjJ) : mjO := match st with
  | .int i :: .ref a :: st => match mj_mt a m with
    | some (t, q) => match Nat.beq t 2 || Nat.beq t 3 with
      | true => match R a i.toNatClampNeg with
        | some b => some (some (vp_in i q), n, ls, .ref b :: st, m, I, R, J)
        | none => some (some (vp_in i q), n, ls, .null :: st, m, I, R, J)
      | false => none
    | none => none
  | _ => none
def mj_aast (n : Nat) (d : List Nat) (ls : List (Option Value)) (st : List Value) (m : mjM) (I : mjI) (R : mjR) (J : mjJ) : mjO := match st with
  | .ref v :: .int i :: .ref a :: st => match mj_mt a m, mj_mt v m with
    | some (t, q), some (tv, _) => match Nat.beq t 3 && mj_any tv d with
      | true => some (some (vp_in i q), n, ls, st, m, I, mj_ur R a i.toNatClampNeg (some v), J)
      | false => none
    | _, _ => none
  | _ => none
def mj_aln (n : Nat) (ls : List (Option Value)) (st : List Value) (m : mjM) (I : mjI) (R : mjR) (J : mjJ) : mjO := match st with
  | .ref a :: st => match mj_mt a m with
    | some (t, q) => match Nat.ble t 3 with
      | true => some (none, n, ls, .int (nI q) :: st, m, I, R, J)
      | false => none
    | none => none
  | _ => none
def mj_newa (tag n : Nat) (ls : List (Option Value)) (st : List Value) (m : mjM) (I : mjI) (R : mjR) (J : mjJ) : mjO := match st with
  | .int x :: st => some (some (¬ x < 0 ∧ x.toNatClampNeg ≤ 1000000), n, ls, .ref m.length :: st, m ++ [(tag, x.toNatClampNeg)], mj_row I m.length (fun _ => 0), R, J)
  | _ => none
def mj_newq (n : Nat) (ls : List (Option Value)) (st : List Value) (m : mjM) (I : mjI) (R : mjR) (J : mjJ) : mjO := match st with
  | .int x :: st => some (some (¬ x < 0 ∧ x.toNatClampNeg ≤ 1000000), n, ls, .ref m.length :: st, m ++ [(3, x.toNatClampNeg)], I, mj_rowR R m.length (fun _ => none), J)
  | _ => none
def mj_newm (n : Nat) (ls : List (Option Value)) (st : List Value) (m : mjM) (I : mjI) (R : mjR) (J : mjJ) : mjO := match st with
  | .int k :: .int x :: st => some (some (¬ x < 0 ∧ ¬ k < 0 ∧ x.toNatClampNeg ≤ 1000 ∧ k.toNatClampNeg ≤ 1000), n, ls, .ref m.length :: st, m ++ (2, x.toNatClampNeg) :: List.replicate x.toNatClampNeg (0, k.toNatClampNeg), mj_rows I (m.length + 1) x.toNatClampNeg, mj_rowR R m.length (fun j => if j < x.toNatClampNeg then some (m.length + 1 + j) else none), J)
  | _ => none
def mj_new (n : Nat) (d : List Nat) (ls : List (Option Value)) (st : List Value) (m : mjM) (I : mjI) (R : mjR) (J : mjJ) : mjO := match d with
  | [t, k] => some (none, n, ls, .ref m.length :: st, m ++ [(t, k)], mj_row I m.length (fun _ => 0), mj_rowR R m.length (fun _ => none), mj_rowJ J m.length (fun _ => 0))
  | _ => none
def mj_inst (n : Nat) (d : List Nat) (ls : List (Option Value)) (st : List Value) (m : mjM) (I : mjI) (R : mjR) (J : mjJ) : mjO := match st with
  | .ref a :: st => match mj_mt a m with
    | some (t, _) => match mj_sel t d with
      | some 0 => some (none, n, ls, .int (nI 0) :: st, m, I, R, J)
      | some 1 => some (none, n, ls, .int (nI 1) :: st, m, I, R, J)
      | _ => none
    | none => none
  | _ => none
def mj_copy (n : Nat) (ls : List (Option Value)) (st : List Value) (m : mjM) (I : mjI) (R : mjR) (J : mjJ) : mjO := match st with
  | .int k :: .int dp :: .ref a :: .int sp :: .ref b :: st => match mj_mt a m, mj_mt b m with
    | some (0, q), some (0, q0) => match Nat.ble (mj_sum st) 8 with
      | true => some (some (¬ sp < 0 ∧ ¬ dp < 0 ∧ ¬ k < 0 ∧ sp.toNatClampNeg + k.toNatClampNeg ≤ q0 ∧ dp.toNatClampNeg + k.toNatClampNeg ≤ q ∧ 0 < a ∧ 0 < b), n, ls, st, m, mj_row I a (va_cpy (I b) (I a) sp.toNatClampNeg dp.toNatClampNeg k.toNatClampNeg), R, J)
      | false => none
    | _, _ => none
  | _ => none
def mj_sw (lo : Int) (df : Nat) (ts : List Nat) (x : Int32) : Nat := if x.toInt < lo then df else match ts[(x.toInt - lo).toNat]? with
  | some t => t
  | none => df
def mj_lk (df : Nat) : List Nat → Int32 → Nat
  | k :: t :: ts, x => if x = nI k then t else mj_lk df ts x
  | _, _ => df
def mj_step (e : mjE) (c : mjC) : mjO := match e, c with
  | (ins, n, d), (_, ls, st, m, I, R, J) => match ins with
    | .iconst i => mj_cst n d (Int32.ofInt i) ls st m I R J
    | .bipush i => mj_cst n d (Int8.ofInt i).toInt32 ls st m I R J
    | .sipush i => mj_cst n d (Int16.ofInt i).toInt32 ls st m I R J
    | .lconst i => some (none, n, ls, .long (lN i) :: st, m, I, R, J)
    | .ldc _ => match d with
      | [v] => some (none, n, ls, .int (nI v) :: st, m, I, R, J)
      | _ => none
    | .ldc_w _ => match d with
      | [v] => some (none, n, ls, .int (nI v) :: st, m, I, R, J)
      | _ => none
    | .ldc2_w _ => match d with
      | [v] => some (none, n, ls, .long (lN v) :: st, m, I, R, J)
      | _ => none
    | .aconst_null => some (none, n, ls, .null :: st, m, I, R, J)
    | .iload i => mj_ild n i ls st m I R J
    | .iload_n i => mj_ild n i ls st m I R J
    | .lload i => mj_lld n i ls st m I R J
    | .lload_n i => mj_lld n i ls st m I R J
    | .aload i => mj_ald n i ls st m I R J
    | .aload_n i => mj_ald n i ls st m I R J
    | .istore i => mj_ist n i ls st m I R J
    | .istore_n i => mj_ist n i ls st m I R J
    | .lstore i => mj_lst n i ls st m I R J
    | .lstore_n i => mj_lst n i ls st m I R J
    | .astore i => mj_ast n i ls st m I R J
    | .astore_n i => mj_ast n i ls st m I R J
    | .iinc i k => match mj_get i ls with
      | some (.int x) => match d with
        | [d] => mj_st1 n i (.int (x + nI d)) ls st m I R J
        | _ => mj_st1 n i (.int (x + Int32.ofInt k)) ls st m I R J
      | _ => none
    | .iadd => match st with
      | .int y :: .int x :: st => some (none, n, ls, .int (x + y) :: st, m, I, R, J)
      | _ => none
    | .isub => match st with
      | .int y :: .int x :: st => some (none, n, ls, .int (x - y) :: st, m, I, R, J)
      | _ => none
    | .imul => match st with
      | .int y :: .int x :: st => some (none, n, ls, .int (x * y) :: st, m, I, R, J)
      | _ => none
    | .iand => match st with
      | .int y :: .int x :: st => some (none, n, ls, .int (x &&& y) :: st, m, I, R, J)
      | _ => none
    | .ior => match st with
      | .int y :: .int x :: st => some (none, n, ls, .int (x ||| y) :: st, m, I, R, J)
      | _ => none
    | .ixor => match st with
      | .int y :: .int x :: st => some (none, n, ls, .int (x ^^^ y) :: st, m, I, R, J)
      | _ => none
    | .ishl => match st with
      | .int y :: .int x :: st => some (none, n, ls, .int (x <<< (y &&& 31)) :: st, m, I, R, J)
      | _ => none
    | .ishr => match st with
      | .int y :: .int x :: st => some (none, n, ls, .int (x >>> (y &&& 31)) :: st, m, I, R, J)
      | _ => none
    | .iushr => match st with
      | .int y :: .int x :: st => some (none, n, ls, .int ((x.toUInt32 >>> (y.toUInt32 &&& Int32.toUInt32 31)).toInt32) :: st, m, I, R, J)
      | _ => none
    | .idiv => match st with
      | .int y :: .int x :: st => some (some (¬ y = 0), n, ls, .int (x / y) :: st, m, I, R, J)
      | _ => none
    | .irem => match st with
      | .int y :: .int x :: st => some (some (¬ y = 0), n, ls, .int (x - x / y * y) :: st, m, I, R, J)
      | _ => none
    | .ineg => match st with
      | .int x :: st => some (none, n, ls, .int (-x) :: st, m, I, R, J)
      | _ => none
    | .ladd => match st with
      | .long y :: .long x :: st => some (none, n, ls, .long (x + y) :: st, m, I, R, J)
      | _ => none
    | .lmul => match st with
      | .long y :: .long x :: st => some (none, n, ls, .long (x * y) :: st, m, I, R, J)
      | _ => none
    | .land => match st with
      | .long y :: .long x :: st => some (none, n, ls, .long (x &&& y) :: st, m, I, R, J)
      | _ => none
    | .lor => match st with
      | .long y :: .long x :: st => some (none, n, ls, .long (x ||| y) :: st, m, I, R, J)
      | _ => none
    | .lshl => match st with
      | .int y :: .long x :: st => some (none, n, ls, .long (x <<< (y.toInt64 &&& 63)) :: st, m, I, R, J)
      | _ => none
    | .lushr => match st with
      | .int y :: .long x :: st => some (none, n, ls, .long (x.toUInt64 >>> (y.toInt64.toUInt64 &&& Int64.toUInt64 63)).toInt64 :: st, m, I, R, J)
      | _ => none
    | .lcmp => match st with
      | .long y :: .long x :: st => some (none, n, ls, .int (lg_cmp x y) :: st, m, I, R, J)
      | _ => none
    | .i2l => match st with
      | .int x :: st => some (none, n, ls, .long x.toInt64 :: st, m, I, R, J)
      | _ => none
    | .l2i => match st with
      | .long x :: st => some (none, n, ls, .int x.toInt32 :: st, m, I, R, J)
      | _ => none
    | .i2b => match st with
      | .int x :: st => some (none, n, ls, .int x.toInt8.toInt32 :: st, m, I, R, J)
      | _ => none
    | .dup => match st with
      | .int x :: st => some (none, n, ls, .int x :: .int x :: st, m, I, R, J)
      | .ref x :: st => some (none, n, ls, .ref x :: .ref x :: st, m, I, R, J)
      | _ => none
    | .dup2 => match st with
      | .int x :: .ref y :: st => some (none, n, ls, .int x :: .ref y :: .int x :: .ref y :: st, m, I, R, J)
      | _ => none
    | .pop => match st with
      | .int _ :: st => some (none, n, ls, st, m, I, R, J)
      | .ref _ :: st => some (none, n, ls, st, m, I, R, J)
      | _ => none
    | .goto _ => match d with
      | [t] => some (none, t, ls, st, m, I, R, J)
      | _ => none
    | .ifnull _ => match d, st with
      | [_], .ref _ :: st => some (none, n, ls, st, m, I, R, J)
      | [t], .null :: st => some (none, t, ls, st, m, I, R, J)
      | _, _ => none
    | .ifnonnull _ => match d, st with
      | [t], .ref _ :: st => some (none, t, ls, st, m, I, R, J)
      | [_], .null :: st => some (none, n, ls, st, m, I, R, J)
      | _, _ => none
    | .tableswitch _ lo _ _ => match d, st with
      | df :: ts, .int x :: st => some (none, mj_sw lo df ts x, ls, st, m, I, R, J)
      | _, _ => none
    | .lookupswitch _ _ => match d, st with
      | df :: ts, .int x :: st => some (none, mj_lk df ts x, ls, st, m, I, R, J)
      | _, _ => none
    | .getfield _ => mj_gf n d ls st m I R J
    | .putfield _ => mj_pf n d ls st m I R J
    | .iaload => mj_xld 0 n ls st m I R J
    | .baload => mj_xld 1 n ls st m I R J
    | .iastore => mj_xst 0 n ls st m I R J
    | .bastore => match st with
      | .int x :: st => mj_xst 1 n ls (.int x.toInt8.toInt32 :: st) m I R J
      | _ => none
    | .aaload => mj_aald n ls st m I R J
    | .aastore => mj_aast n d ls st m I R J
    | .arraylength => mj_aln n ls st m I R J
    | .newarray .int => mj_newa 0 n ls st m I R J
    | .newarray .byte => mj_newa 1 n ls st m I R J
    | .anewarray _ => mj_newq n ls st m I R J
    | .multianewarray _ _ => mj_newm n ls st m I R J
    | .new _ => mj_new n d ls st m I R J
    | .instanceof _ => mj_inst n d ls st m I R J
    | .invokespecial _ => match d, st with
      | [5], .ref _ :: st => match Nat.ble (mj_sum st) 8 with
        | true => some (none, n, ls, st, m, I, R, J)
        | false => none
      | _, _ => none
    | .invokestatic _ => match d with
      | [6] => mj_copy n ls st m I R J
      | _ => none
    | _ => none
def mj_br (e : mjE) (c : mjC) : Option (Prop × mjC × mjC) := match e, c with
  | (ins, n, d), (_, ls, st, m, I, R, J) => match ins with
    | .ifCond .eq _ => match d, st with
      | [t], .int x :: st => some (x = 0, (t, ls, st, m, I, R, J), (n, ls, st, m, I, R, J))
      | _, _ => none
    | .ifCond .ne _ => match d, st with
      | [t], .int x :: st => some (¬ x = 0, (t, ls, st, m, I, R, J), (n, ls, st, m, I, R, J))
      | _, _ => none
    | .ifCond .lt _ => match d, st with
      | [t], .int x :: st => some (x < 0, (t, ls, st, m, I, R, J), (n, ls, st, m, I, R, J))
      | _, _ => none
    | .ifCond .ge _ => match d, st with
      | [t], .int x :: st => some (0 ≤ x, (t, ls, st, m, I, R, J), (n, ls, st, m, I, R, J))
      | _, _ => none
    | .ifCond .gt _ => match d, st with
      | [t], .int x :: st => some (0 < x, (t, ls, st, m, I, R, J), (n, ls, st, m, I, R, J))
      | _, _ => none
    | .ifCond .le _ => match d, st with
      | [t], .int x :: st => some (x ≤ 0, (t, ls, st, m, I, R, J), (n, ls, st, m, I, R, J))
      | _, _ => none
    | .if_icmp .eq _ => match d, st with
      | [t], .int y :: .int x :: st => some (x = y, (t, ls, st, m, I, R, J), (n, ls, st, m, I, R, J))
      | _, _ => none
    | .if_icmp .ne _ => match d, st with
      | [t], .int y :: .int x :: st => some (¬ x = y, (t, ls, st, m, I, R, J), (n, ls, st, m, I, R, J))
      | _, _ => none
    | .if_icmp .lt _ => match d, st with
      | [t], .int y :: .int x :: st => some (x < y, (t, ls, st, m, I, R, J), (n, ls, st, m, I, R, J))
      | _, _ => none
    | .if_icmp .ge _ => match d, st with
      | [t], .int y :: .int x :: st => some (y ≤ x, (t, ls, st, m, I, R, J), (n, ls, st, m, I, R, J))
      | _, _ => none
    | .if_icmp .gt _ => match d, st with
      | [t], .int y :: .int x :: st => some (y < x, (t, ls, st, m, I, R, J), (n, ls, st, m, I, R, J))
      | _, _ => none
    | .if_icmp .le _ => match d, st with
      | [t], .int y :: .int x :: st => some (x ≤ y, (t, ls, st, m, I, R, J), (n, ls, st, m, I, R, J))
      | _, _ => none
    | _ => none
/-! calls: data = 0, number of arguments, method (static); 1, number, tag, method ..; 2, number, method (a constructor) -/
abbrev mjQ : Type := Option (Nat × List Value × List Value)
def mj_inv (e : mjE) (c : mjC) : mjQ := match e, c with
  | (ins, _, d), (_, _, st, m, _, _, _) => match ins with
    | .invokestatic _ => match d with
      | [0, n, k] => mj_pop n st [] (fun as st => match Nat.ble (mj_sum st) 8 with
        | true => some (k, as, st)
        | false => none)
      | _ => none
    | .invokevirtual _ => match d with
      | 1 :: n :: ts => mj_pop n st [] (fun as st => match st with
        | .ref a :: st => match mj_mt a m with
          | some (t, _) => match mj_sel t ts, Nat.ble (mj_sum st) 8 with
            | some k, true => some (k, .ref a :: as, st)
            | _, _ => none
          | none => none
        | _ => none)
      | _ => none
    | .invokespecial _ => match d with
      | [2, n, k] => mj_pop n st [] (fun as st => match st with
        | .ref a :: st => match Nat.ble (mj_sum st) 8 with
          | true => some (k, .ref a :: as, st)
          | false => none
        | _ => none)
      | _ => none
    | _ => none
/-! ends: 0 none, 1 int, 2 boolean, 3 long, 4 reference -/
def mj_ret (rt : Nat) (e : mjE) (c : mjC) : Option (Option Prop × Option Value × mjH) := match e, c with
  | (ins, _, _), (_, _, st, h) => match ins, rt, st with
    | .return_, 0, [] => some (none, none, h)
    | .ireturn, 1, [.int x] => some (none, some (.int x), h)
    | .ireturn, 2, [.int x] => some (some (x = 0 ∨ x = 1), some (.int x), h)
    | .lreturn, 3, [.long x] => some (none, some (.long x), h)
    | .areturn, 4, [.ref a] => some (none, some (.ref a), h)
    | .areturn, 4, [.null] => some (none, some .null, h)
    | _, _, _ => none
def mj_ok : Option Prop → Prop
  | none => True
  | some p => p
def mj_psh : Option Value → List Value → List Value
  | none, st => st
  | some v, st => v :: st
abbrev mjK : Type := Nat → List Value → mjH → Option Value → mjH → Prop
def mj_go (K : mjK) (cd : List (Option mjE)) (rt : Nat) : Nat → mjC → Option Value → mjH → Prop
  | 0, _, _, _ => False
  | n + 1, c, v, h' => ∃ e, mj_at c.1 cd = some e ∧ (
      (∃ o c', mj_step e c = some (o, c') ∧ mj_ok o ∧ mj_go K cd rt n c' v h') ∨
      (∃ P c1 c2, mj_br e c = some (P, c1, c2) ∧ (P → mj_go K cd rt n c1 v h') ∧ (¬ P → mj_go K cd rt n c2 v h')) ∨
      (∃ m as st w h1, mj_inv e c = some (m, as, st) ∧ K m as c.2.2.2 w h1 ∧ mj_go K cd rt n (e.2.1, c.2.1, mj_psh w st, h1) v h') ∨
      (∃ o, mj_ret rt e c = some (o, v, h') ∧ mj_ok o))
/-- a method: its kind's number, its places for locals, what it ends with, its code -/
abbrev mjT : Type := Nat × Nat × Nat × List (Option mjE)
def mj_ent : List Value → List (Option Value)
  | [] => []
  | .long x :: vs => some (.long x) :: none :: mj_ent vs
  | .double x :: vs => some (.double x) :: none :: mj_ent vs
  | v :: vs => some v :: mj_ent vs
def mj_pad : Nat → List (Option Value) → List (Option Value)
  | 0, _ => []
  | n + 1, [] => none :: mj_pad n []
  | n + 1, x :: xs => x :: mj_pad n xs
def mj_call (P : List mjT) : Nat → mjK
  | 0 => fun _ _ _ _ _ => False
  | d + 1 => fun m as h v h' => ∃ t, P[m]? = some t ∧ (mj_ent as).length ≤ t.2.1 ∧ ∃ n, mj_go (mj_call P d) t.2.2.2 t.2.2.1 n (0, mj_pad t.2.1 (mj_ent as), [], h) v h'
end
section
def kc_Be_init : List (Option mjE) := [some (.aload_n 0, 1, []), some (.invokespecial 3, 4, [5]), none, none, some (.aload_n 0, 5, []), some (.bipush 7, 7, [7]), none, some (.bipush 10, 9, [10]), none, some (.multianewarray 9 2, 13, []), none, none, none, some (.putfield 11, 16, [0, 2, 10]), none, none, some (.aload_n 0, 17, []), some (.bipush 10, 19, [10]), none, some (.newarray .int, 21, []), none, some (.putfield 16, 24, [1, 2, 10]), none, none, some (.aload_n 0, 25, []), some (.bipush 10, 27, [10]), none, some (.newarray .int, 29, []), none, some (.putfield 20, 32, [2, 2, 10]), none, none, some (.return_, 33, [])]
def kc_Be_search : List (Option mjE) := [some (.aload_n 0, 1, []), some (.aload_n 1, 2, []), some (.putfield 23, 5, [4, 2, 10]), none, none, some (.aload_n 0, 6, []), some (.aload_n 2, 7, []), some (.putfield 27, 10, [5, 2, 10]), none, none, some (.aload_n 0, 11, []), some (.aload_n 3, 12, []), some (.putfield 30, 15, [6, 2, 10]), none, none, some (.aload_n 0, 16, []), some (.iload 4, 18, []), none, some (.putfield 33, 21, [7, 0, 10]), none, none, some (.aload_n 0, 22, []), some (.bipush 11, 24, [11]), none, some (.putfield 37, 27, [3, 0, 10]), none, none, some (.aload_n 2, 28, []), some (.iconst 0, 29, [0]), some (.aload_n 0, 30, []), some (.getfield 16, 33, [1, 2, 10]), none, none, some (.iconst 0, 34, [0]), some (.bipush 10, 36, [10]), none, some (.invokestatic 40, 39, [6]), none, none, some (.aload_n 0, 40, []), some (.iconst 0, 41, [0]), some (.iconst 0, 42, [0]), some (.iconst 0, 43, [0]), some (.iconst 0, 44, [0]), some (.bipush 10, 46, [10]), none, some (.iconst 0, 47, [0]), some (.invokevirtual 46, 50, [1, 6, 10, 2]), none, none, some (.aload_n 0, 51, []), some (.getfield 37, 54, [3, 0, 10]), none, none, some (.bipush 10, 56, [10]), none, some (.if_icmp .gt 7, 59, [63]), none, none, some (.iconst 1, 60, [1]), some (.goto 4, 63, [64]), none, none, some (.iconst 0, 64, [0]), some (.ireturn, 65, [])]
def kc_Be_follow : List (Option mjE) := [some (.aload_n 0, 1, []), some (.getfield 11, 4, [0, 2, 10]), none, none, some (.iload_n 1, 5, []), some (.aaload, 6, []), some (.astore 7, 8, []), none, some (.iload 4, 10, []), none, some (.istore 8, 12, []), none, some (.iload 5, 14, []), none, some (.istore 9, 16, []), none, some (.iload 6, 18, []), none, some (.istore 10, 20, []), none, some (.iconst 0, 21, [0]), some (.istore 11, 23, []), none, some (.iload 11, 25, []), none, some (.sipush 4008, 28, [4008]), none, none, some (.if_icmp .ge 134, 31, [162]), none, none, some (.iload 9, 33, []), none, some (.bipush 10, 35, [10]), none, some (.if_icmp .ge 44, 38, [79]), none, none, some (.iload 9, 40, []), none, some (.aload_n 0, 41, []), some (.getfield 30, 44, [6, 2, 10]), none, none, some (.iload 8, 46, []), none, some (.iaload, 47, []), some (.if_icmp .eq 4, 50, [51]), none, none, some (.return_, 51, []), some (.iinc 8 1, 54, [1]), none, none, some (.iload 8, 56, []), none, some (.aload_n 0, 57, []), some (.getfield 33, 60, [7, 0, 10]), none, none, some (.if_icmp .lt 9, 63, [69]), none, none, some (.aload_n 0, 64, []), some (.iload_n 3, 65, []), some (.invokevirtual 50, 68, [1, 1, 10, 4]), none, none, some (.return_, 69, []), some (.bipush 10, 71, [10]), none, some (.istore 9, 73, []), none, some (.iconst 0, 74, [0]), some (.istore 10, 76, []), none, some (.goto 80, 79, [156]), none, none, some (.iload 10, 81, []), none, some (.sipush 500, 84, [500]), none, none, some (.if_icmp .ge 25, 87, [109]), none, none, some (.aload_n 0, 88, []), some (.getfield 23, 91, [4, 2, 10]), none, none, some (.iload 9, 93, []), none, some (.bipush 10, 95, [10]), none, some (.isub, 96, []), some (.aload_n 0, 97, []), some (.getfield 30, 100, [6, 2, 10]), none, none, some (.iload 8, 102, []), none, some (.iaload, 103, []), some (.invokevirtual 54, 106, [1, 2, 20, 70]), none, none, some (.ifCond .ne 4, 109, [110]), none, none, some (.return_, 110, []), some (.iload_n 2, 111, []), some (.iload 9, 113, []), none, some (.bipush 10, 115, [10]), none, some (.isub, 116, []), some (.ishr, 117, []), some (.iconst 1, 118, [1]), some (.iand, 119, []), some (.ifCond .ne 17, 122, [136]), none, none, some (.aload_n 0, 123, []), some (.iload_n 1, 124, []), some (.iload_n 2, 125, []), some (.iload_n 3, 126, []), some (.iload 8, 128, []), none, some (.iload 9, 130, []), none, some (.iload 10, 132, []), none, some (.invokevirtual 60, 135, [1, 6, 10, 3]), none, none, some (.return_, 136, []), some (.aload_n 0, 137, []), some (.getfield 23, 140, [4, 2, 10]), none, none, some (.iload 9, 142, []), none, some (.bipush 10, 144, [10]), none, some (.isub, 145, []), some (.aload 7, 147, []), none, some (.iconst (-1), 148, []), some (.invokevirtual 63, 151, [1, 3, 20, 67]), none, none, some (.istore 9, 153, []), none, some (.iinc 10 1, 156, [1]), none, none, some (.iinc 11 1, 159, [1]), none, none, some (.goto (-136), 162, [23]), none, none, some (.return_, 163, [])]
def kc_Be_choose : List (Option mjE) := [some (.iload 5, 2, []), none, some (.bipush 10, 4, [10]), none, some (.isub, 5, []), some (.istore 7, 7, []), none, some (.iload_n 1, 8, []), some (.iconst 1, 9, [1]), some (.iadd, 10, []), some (.aload_n 0, 11, []), some (.getfield 11, 14, [0, 2, 10]), none, none, some (.arraylength, 15, []), some (.if_icmp .lt 4, 18, [19]), none, none, some (.return_, 19, []), some (.aload_n 0, 20, []), some (.getfield 23, 23, [4, 2, 10]), none, none, some (.getfield 67, 26, [0, 2, 20]), none, none, some (.iload 7, 28, []), none, some (.aaload, 29, []), some (.invokevirtual 71, 32, [1, 0, 11, 29, 12, 11, 14, 29, 18, 56]), none, none, some (.istore 8, 34, []), none, some (.iconst 0, 35, [0]), some (.istore 9, 37, []), none, some (.iload 9, 39, []), none, some (.iload 8, 41, []), none, some (.if_icmp .ge 103, 44, [144]), none, none, some (.iload 9, 46, []), none, some (.aload_n 0, 47, []), some (.getfield 27, 50, [5, 2, 10]), none, none, some (.iload 7, 52, []), none, some (.iaload, 53, []), some (.if_icmp .ne 7, 56, [60]), none, none, some (.iload_n 3, 57, []), some (.goto 6, 60, [63]), none, none, some (.iload_n 3, 61, []), some (.iconst 1, 62, [1]), some (.iadd, 63, []), some (.istore 10, 65, []), none, some (.iload 10, 67, []), none, some (.aload_n 0, 68, []), some (.getfield 37, 71, [3, 0, 10]), none, none, some (.if_icmp .gt 67, 74, [138]), none, none, some (.aload_n 0, 75, []), some (.getfield 16, 78, [1, 2, 10]), none, none, some (.iload 7, 80, []), none, some (.iload 9, 82, []), none, some (.iastore, 83, []), some (.aload_n 0, 84, []), some (.getfield 11, 87, [0, 2, 10]), none, none, some (.iload_n 1, 88, []), some (.aaload, 89, []), some (.iconst 0, 90, [0]), some (.aload_n 0, 91, []), some (.getfield 11, 94, [0, 2, 10]), none, none, some (.iload_n 1, 95, []), some (.iconst 1, 96, [1]), some (.iadd, 97, []), some (.aaload, 98, []), some (.iconst 0, 99, [0]), some (.bipush 10, 101, [10]), none, some (.invokestatic 40, 104, [6]), none, none, some (.aload_n 0, 105, []), some (.getfield 11, 108, [0, 2, 10]), none, none, some (.iload_n 1, 109, []), some (.iconst 1, 110, [1]), some (.iadd, 111, []), some (.aaload, 112, []), some (.iload 7, 114, []), none, some (.iload 9, 116, []), none, some (.iastore, 117, []), some (.aload_n 0, 118, []), some (.iload_n 1, 119, []), some (.iconst 1, 120, [1]), some (.iadd, 121, []), some (.iload_n 2, 122, []), some (.iconst 1, 123, [1]), some (.iload 7, 125, []), none, some (.ishl, 126, []), some (.ior, 127, []), some (.iload 10, 129, []), none, some (.iload 4, 131, []), none, some (.iload 5, 133, []), none, some (.iload 6, 135, []), none, some (.invokevirtual 46, 138, [1, 6, 10, 2]), none, none, some (.iinc 9 1, 141, [1]), none, none, some (.goto (-104), 144, [37]), none, none, some (.aload_n 0, 145, []), some (.getfield 16, 148, [1, 2, 10]), none, none, some (.iload 7, 150, []), none, some (.aload_n 0, 151, []), some (.getfield 27, 154, [5, 2, 10]), none, none, some (.iload 7, 156, []), none, some (.iaload, 157, []), some (.iastore, 158, []), some (.return_, 159, [])]
def kc_Be_keepIfBetter : List (Option mjE) := [some (.iload_n 1, 1, []), some (.aload_n 0, 2, []), some (.getfield 37, 5, [3, 0, 10]), none, none, some (.if_icmp .lt 18, 8, [23]), none, none, some (.iload_n 1, 9, []), some (.aload_n 0, 10, []), some (.getfield 37, 13, [3, 0, 10]), none, none, some (.if_icmp .ne 30, 16, [43]), none, none, some (.aload_n 0, 17, []), some (.invokevirtual 77, 20, [1, 0, 10, 5]), none, none, some (.ifCond .eq 23, 23, [43]), none, none, some (.aload_n 0, 24, []), some (.iload_n 1, 25, []), some (.putfield 37, 28, [3, 0, 10]), none, none, some (.aload_n 0, 29, []), some (.getfield 16, 32, [1, 2, 10]), none, none, some (.iconst 0, 33, [0]), some (.aload_n 0, 34, []), some (.getfield 20, 37, [2, 2, 10]), none, none, some (.iconst 0, 38, [0]), some (.bipush 10, 40, [10]), none, some (.invokestatic 40, 43, [6]), none, none, some (.return_, 44, [])]
def kc_Be_isChosenFirst : List (Option mjE) := [some (.iconst 0, 1, [0]), some (.istore_n 1, 2, []), some (.iload_n 1, 3, []), some (.bipush 10, 5, [10]), none, some (.if_icmp .ge 45, 8, [50]), none, none, some (.aload_n 0, 9, []), some (.getfield 16, 12, [1, 2, 10]), none, none, some (.iload_n 1, 13, []), some (.iaload, 14, []), some (.aload_n 0, 15, []), some (.getfield 20, 18, [2, 2, 10]), none, none, some (.iload_n 1, 19, []), some (.iaload, 20, []), some (.if_icmp .eq 24, 23, [44]), none, none, some (.aload_n 0, 24, []), some (.getfield 16, 27, [1, 2, 10]), none, none, some (.iload_n 1, 28, []), some (.iaload, 29, []), some (.aload_n 0, 30, []), some (.getfield 20, 33, [2, 2, 10]), none, none, some (.iload_n 1, 34, []), some (.iaload, 35, []), some (.if_icmp .ge 7, 38, [42]), none, none, some (.iconst 1, 39, [1]), some (.goto 4, 42, [43]), none, none, some (.iconst 0, 43, [0]), some (.ireturn, 44, []), some (.iinc 1 1, 47, [1]), none, none, some (.goto (-45), 50, [2]), none, none, some (.iconst 0, 51, [0]), some (.ireturn, 52, [])]
def kc_He_init : List (Option mjE) := [some (.aload_n 0, 1, []), some (.aload_n 1, 2, []), some (.invokespecial 3, 5, [2, 1, 27]), none, none, some (.return_, 6, [])]
def kc_He_kind : List (Option mjE) := [some (.iconst 1, 1, [1]), some (.ireturn, 2, [])]
def kc_He_period : List (Option mjE) := [some (.iconst 1, 1, [1]), some (.ireturn, 2, [])]
def kc_La_init : List (Option mjE) := [some (.aload_n 0, 1, []), some (.aload_n 1, 2, []), some (.invokespecial 3, 5, [2, 1, 6]), none, none, some (.return_, 6, [])]
def kc_La_kind : List (Option mjE) := [some (.iconst 3, 1, [3]), some (.ireturn, 2, [])]
def kc_La_standCount : List (Option mjE) := [some (.iconst 2, 1, [2]), some (.aload_n 0, 2, []), some (.getfield 9, 5, [0, 2, 11, 12, 14, 18]), none, none, some (.arraylength, 6, []), some (.imul, 7, []), some (.ireturn, 8, [])]
def kc_La_wayAt : List (Option mjE) := [some (.iload_n 1, 1, []), some (.iconst 2, 2, [2]), some (.idiv, 3, []), some (.ireturn, 4, [])]
def kc_La_firstStandAt : List (Option mjE) := [some (.iconst 2, 1, [2]), some (.iload_n 1, 2, []), some (.imul, 3, []), some (.ireturn, 4, [])]
def kc_La_period : List (Option mjE) := [some (.aload_n 0, 1, []), some (.invokevirtual 15, 4, [1, 0, 12, 11]), none, none, some (.ireturn, 5, [])]
def kc_Pg_init : List (Option mjE) := [some (.aload_n 0, 1, []), some (.invokespecial 3, 4, [5]), none, none, some (.aload_n 0, 5, []), some (.bipush 50, 7, [50]), none, some (.newarray .int, 9, []), none, some (.putfield 9, 12, [0, 2, 13]), none, none, some (.return_, 13, [])]
def kc_Pg_append : List (Option mjE) := [some (.lload_n 1, 1, []), some (.invokestatic 15, 4, [0, 1, 24]), none, none, some (.istore_n 3, 5, []), some (.iload_n 3, 6, []), some (.ifCond .ge 6, 9, [12]), none, none, some (.bipush (-102), 11, []), none, some (.ireturn, 12, []), some (.aload_n 0, 13, []), some (.getfield 19, 16, [1, 0, 13]), none, none, some (.iload_n 3, 17, []), some (.iadd, 18, []), some (.bipush 50, 20, [50]), none, some (.if_icmp .le 6, 23, [26]), none, none, some (.bipush (-104), 25, []), none, some (.ireturn, 26, []), some (.iconst 0, 27, [0]), some (.istore 4, 29, []), none, some (.iload 4, 31, []), none, some (.iload_n 3, 32, []), some (.if_icmp .ge 27, 35, [59]), none, none, some (.aload_n 0, 36, []), some (.getfield 9, 39, [0, 2, 13]), none, none, some (.aload_n 0, 40, []), some (.getfield 19, 43, [1, 0, 13]), none, none, some (.iload 4, 45, []), none, some (.iadd, 46, []), some (.lload_n 1, 47, []), some (.iload 4, 49, []), none, some (.invokestatic 23, 52, [0, 2, 23]), none, none, some (.iastore, 53, []), some (.iinc 4 1, 56, [1]), none, none, some (.goto (-27), 59, [29]), none, none, some (.aload_n 0, 60, []), some (.dup, 61, []), some (.getfield 19, 64, [1, 0, 13]), none, none, some (.iload_n 3, 65, []), some (.iadd, 66, []), some (.putfield 19, 69, [1, 0, 13]), none, none, some (.aload_n 0, 70, []), some (.getfield 19, 73, [1, 0, 13]), none, none, some (.ireturn, 74, [])]
def kc_Pg_wipe : List (Option mjE) := [some (.aload_n 0, 1, []), some (.getfield 19, 4, [1, 0, 13]), none, none, some (.istore_n 1, 5, []), some (.aload_n 0, 6, []), some (.iconst 0, 7, [0]), some (.putfield 19, 10, [1, 0, 13]), none, none, some (.iload_n 1, 11, []), some (.ireturn, 12, [])]
def kc_Pg_faultPlace : List (Option mjE) := [some (.iconst 1, 1, [1]), some (.istore_n 1, 2, []), some (.iconst 0, 3, [0]), some (.istore_n 2, 4, []), some (.iconst 0, 5, [0]), some (.istore_n 3, 6, []), some (.iconst 0, 7, [0]), some (.istore 4, 9, []), none, some (.iload 4, 11, []), none, some (.aload_n 0, 12, []), some (.getfield 19, 15, [1, 0, 13]), none, none, some (.if_icmp .ge 89, 18, [104]), none, none, some (.aload_n 0, 19, []), some (.getfield 9, 22, [0, 2, 13]), none, none, some (.iload 4, 24, []), none, some (.iaload, 25, []), some (.istore 5, 27, []), none, some (.iload 5, 29, []), none, some (.invokestatic 27, 32, [0, 1, 26]), none, none, some (.iconst (-1), 33, []), some (.if_icmp .eq 14, 36, [47]), none, none, some (.iinc 2 1, 39, [1]), none, none, some (.iload_n 2, 40, []), some (.iconst 3, 41, [3]), some (.if_icmp .le 57, 44, [98]), none, none, some (.iload 4, 46, []), none, some (.ireturn, 47, []), some (.iload 5, 49, []), none, some (.bipush 59, 51, [59]), none, some (.if_icmp .ne 26, 54, [77]), none, none, some (.iload_n 2, 55, []), some (.ifCond .eq 9, 58, [64]), none, none, some (.iload_n 1, 59, []), some (.bipush 10, 61, [10]), none, some (.if_icmp .ne 6, 64, [67]), none, none, some (.iload 4, 66, []), none, some (.ireturn, 67, []), some (.iinc 1 1, 70, [1]), none, none, some (.iconst 0, 71, [0]), some (.istore_n 2, 72, []), some (.iconst 0, 73, [0]), some (.istore_n 3, 74, []), some (.goto 24, 77, [98]), none, none, some (.iload 5, 79, []), none, some (.invokestatic 31, 82, [0, 1, 25]), none, none, some (.ifCond .eq 11, 85, [93]), none, none, some (.iload_n 3, 86, []), some (.ifCond .ne 7, 89, [93]), none, none, some (.iload_n 2, 90, []), some (.ifCond .le 6, 93, [96]), none, none, some (.iload 4, 95, []), none, some (.ireturn, 96, []), some (.iconst 1, 97, [1]), some (.istore_n 3, 98, []), some (.iinc 4 1, 101, [1]), none, none, some (.goto (-92), 104, [9]), none, none, some (.aload_n 0, 105, []), some (.getfield 19, 108, [1, 0, 13]), none, none, some (.ireturn, 109, [])]
def kc_Pg_read : List (Option mjE) := [some (.aload_n 0, 1, []), some (.getfield 19, 4, [1, 0, 13]), none, none, some (.ifCond .eq 32, 7, [36]), none, none, some (.aload_n 0, 8, []), some (.invokevirtual 34, 11, [1, 0, 13, 18]), none, none, some (.aload_n 0, 12, []), some (.getfield 19, 15, [1, 0, 13]), none, none, some (.if_icmp .lt 21, 18, [36]), none, none, some (.aload_n 0, 19, []), some (.getfield 9, 22, [0, 2, 13]), none, none, some (.aload_n 0, 23, []), some (.getfield 19, 26, [1, 0, 13]), none, none, some (.iconst 1, 27, [1]), some (.isub, 28, []), some (.iaload, 29, []), some (.invokestatic 27, 32, [0, 1, 26]), none, none, some (.iconst (-1), 33, []), some (.if_icmp .ne 5, 36, [38]), none, none, some (.aconst_null, 37, []), some (.areturn, 38, []), some (.aload_n 0, 39, []), some (.invokevirtual 38, 42, [1, 0, 13, 20]), none, none, some (.istore_n 1, 43, []), some (.iconst 0, 44, [0]), some (.istore_n 2, 45, []), some (.iload_n 2, 46, []), some (.aload_n 0, 47, []), some (.getfield 19, 50, [1, 0, 13]), none, none, some (.if_icmp .ge 27, 53, [77]), none, none, some (.aload_n 0, 54, []), some (.getfield 9, 57, [0, 2, 13]), none, none, some (.iload_n 2, 58, []), some (.iaload, 59, []), some (.invokestatic 27, 62, [0, 1, 26]), none, none, some (.bipush 10, 64, [10]), none, some (.iload_n 1, 65, []), some (.iadd, 66, []), some (.if_icmp .lt 5, 69, [71]), none, none, some (.aconst_null, 70, []), some (.areturn, 71, []), some (.iinc 2 1, 74, [1]), none, none, some (.goto (-29), 77, [45]), none, none, some (.iload_n 1, 78, []), some (.anewarray 41, 81, []), none, none, some (.astore_n 2, 82, []), some (.iconst 0, 83, [0]), some (.istore_n 3, 84, []), some (.iconst 0, 85, [0]), some (.istore 4, 87, []), none, some (.iload 4, 89, []), none, some (.iload_n 1, 90, []), some (.if_icmp .ge 32, 93, [122]), none, none, some (.aload_n 0, 94, []), some (.iload_n 3, 95, []), some (.invokevirtual 43, 98, [1, 1, 13, 21]), none, none, some (.istore 5, 100, []), none, some (.aload_n 2, 101, []), some (.iload 4, 103, []), none, some (.aload_n 0, 104, []), some (.iload_n 3, 105, []), some (.iload 5, 107, []), none, some (.invokevirtual 46, 110, [1, 2, 13, 22]), none, none, some (.aastore, 111, [14, 11, 12, 18]), some (.iload 5, 113, []), none, some (.iconst 1, 114, [1]), some (.iadd, 115, []), some (.istore_n 3, 116, []), some (.iinc 4 1, 119, [1]), none, none, some (.goto (-32), 122, [87]), none, none, some (.new 50, 125, [20, 8]), none, none, some (.dup, 126, []), some (.aload_n 2, 127, []), some (.invokespecial 52, 130, [2, 1, 66]), none, none, some (.areturn, 131, [])]
def kc_Pg_switchCount : List (Option mjE) := [some (.iconst 1, 1, [1]), some (.istore_n 1, 2, []), some (.iconst 0, 3, [0]), some (.istore_n 2, 4, []), some (.iload_n 2, 5, []), some (.aload_n 0, 6, []), some (.getfield 19, 9, [1, 0, 13]), none, none, some (.if_icmp .ge 23, 12, [32]), none, none, some (.aload_n 0, 13, []), some (.getfield 9, 16, [0, 2, 13]), none, none, some (.iload_n 2, 17, []), some (.iaload, 18, []), some (.bipush 59, 20, [59]), none, some (.if_icmp .ne 6, 23, [26]), none, none, some (.iinc 1 1, 26, [1]), none, none, some (.iinc 2 1, 29, [1]), none, none, some (.goto (-25), 32, [4]), none, none, some (.iload_n 1, 33, []), some (.ireturn, 34, [])]
def kc_Pg_endFrom : List (Option mjE) := [some (.iload_n 1, 1, []), some (.istore_n 2, 2, []), some (.iload_n 2, 3, []), some (.aload_n 0, 4, []), some (.getfield 19, 7, [1, 0, 13]), none, none, some (.if_icmp .ge 22, 10, [29]), none, none, some (.aload_n 0, 11, []), some (.getfield 9, 14, [0, 2, 13]), none, none, some (.iload_n 2, 15, []), some (.iaload, 16, []), some (.bipush 59, 18, [59]), none, some (.if_icmp .ne 5, 21, [23]), none, none, some (.iload_n 2, 22, []), some (.ireturn, 23, []), some (.iinc 2 1, 26, [1]), none, none, some (.goto (-24), 29, [2]), none, none, some (.aload_n 0, 30, []), some (.getfield 19, 33, [1, 0, 13]), none, none, some (.ireturn, 34, [])]
def kc_Pg_pointIn : List (Option mjE) := [some (.aload_n 0, 1, []), some (.getfield 9, 4, [0, 2, 13]), none, none, some (.iload_n 1, 5, []), some (.iaload, 6, []), some (.invokestatic 31, 9, [0, 1, 25]), none, none, some (.istore_n 3, 10, []), some (.iload_n 3, 11, []), some (.ifCond .ne 7, 14, [18]), none, none, some (.iload_n 1, 15, []), some (.goto 6, 18, [21]), none, none, some (.iload_n 1, 19, []), some (.iconst 1, 20, [1]), some (.iadd, 21, []), some (.istore 4, 23, []), none, some (.iconst 0, 24, [0]), some (.iload_n 2, 25, []), some (.iload 4, 27, []), none, some (.isub, 28, []), some (.invokestatic 55, 31, [0, 2, 188]), none, none, some (.newarray .int, 33, []), none, some (.astore 5, 35, []), none, some (.iconst 0, 36, [0]), some (.istore 6, 38, []), none, some (.iload 6, 40, []), none, some (.aload 5, 42, []), none, some (.arraylength, 43, []), some (.if_icmp .ge 27, 46, [70]), none, none, some (.aload 5, 48, []), none, some (.iload 6, 50, []), none, some (.aload_n 0, 51, []), some (.getfield 9, 54, [0, 2, 13]), none, none, some (.iload 4, 56, []), none, some (.iload 6, 58, []), none, some (.iadd, 59, []), some (.iaload, 60, []), some (.invokestatic 27, 63, [0, 1, 26]), none, none, some (.iastore, 64, []), some (.iinc 6 1, 67, [1]), none, none, some (.goto (-29), 70, [38]), none, none, some (.iload_n 3, 71, []), some (.tableswitch 55 1 3 #[25, 35, 45], 96, [126, 96, 106, 116]), none, none, none, none, none, none, none, none, none, none, none, none, none, none, none, none, none, none, none, none, none, none, none, none, some (.new 61, 99, [11, 1]), none, none, some (.dup, 100, []), some (.aload 5, 102, []), none, some (.invokespecial 63, 105, [2, 1, 6]), none, none, some (.areturn, 106, []), some (.new 66, 109, [18, 1]), none, none, some (.dup, 110, []), some (.aload 5, 112, []), none, some (.invokespecial 68, 115, [2, 1, 54]), none, none, some (.areturn, 116, []), some (.new 69, 119, [12, 1]), none, none, some (.dup, 120, []), some (.aload 5, 122, []), none, some (.invokespecial 71, 125, [2, 1, 9]), none, none, some (.areturn, 126, []), some (.new 41, 129, [14, 1]), none, none, some (.dup, 130, []), some (.aload 5, 132, []), none, some (.invokespecial 72, 135, [2, 1, 27]), none, none, some (.areturn, 136, [])]
def kc_Pg_codeIn : List (Option mjE) := [some (.lload_n 0, 1, []), some (.bipush 8, 3, [8]), none, some (.iload_n 2, 4, []), some (.imul, 5, []), some (.lushr, 6, []), some (.l2i, 7, []), some (.sipush 255, 10, [255]), none, none, some (.iand, 11, []), some (.ireturn, 12, [])]
def kc_Pg_lettersIn : List (Option mjE) := [some (.iconst 0, 1, [0]), some (.istore_n 2, 2, []), some (.iconst 0, 3, [0]), some (.istore_n 3, 4, []), some (.iload_n 3, 5, []), some (.bipush 8, 7, [8]), none, some (.if_icmp .ge 44, 10, [51]), none, none, some (.lload_n 0, 11, []), some (.iload_n 3, 12, []), some (.invokestatic 23, 15, [0, 2, 23]), none, none, some (.istore 4, 17, []), none, some (.iload 4, 19, []), none, some (.bipush 126, 21, [126]), none, some (.if_icmp .gt 13, 24, [34]), none, none, some (.iload 4, 26, []), none, some (.ifCond .eq 11, 29, [37]), none, none, some (.iload_n 2, 30, []), some (.iload_n 3, 31, []), some (.if_icmp .ge 6, 34, [37]), none, none, some (.bipush (-102), 36, []), none, some (.ireturn, 37, []), some (.iload 4, 39, []), none, some (.ifCond .eq 6, 42, [45]), none, none, some (.iinc 2 1, 45, [1]), none, none, some (.iinc 3 1, 48, [1]), none, none, some (.goto (-44), 51, [4]), none, none, some (.iload_n 2, 52, []), some (.ireturn, 53, [])]
def kc_Pg_kindOf : List (Option mjE) := [some (.iload_n 0, 1, []), some (.lookupswitch 41 #[(61, 35), (94, 39), (126, 37)], 36, [42, 61, 36, 94, 40, 126, 38]), none, none, none, none, none, none, none, none, none, none, none, none, none, none, none, none, none, none, none, none, none, none, none, none, none, none, none, none, none, none, none, none, none, none, some (.iconst 1, 37, [1]), some (.ireturn, 38, []), some (.iconst 2, 39, [2]), some (.ireturn, 40, []), some (.iconst 3, 41, [3]), some (.ireturn, 42, []), some (.iconst 0, 43, [0]), some (.ireturn, 44, [])]
def kc_Pg_placeOf : List (Option mjE) := [some (.iload_n 0, 1, []), some (.bipush 48, 3, [48]), none, some (.if_icmp .lt 14, 6, [17]), none, none, some (.iload_n 0, 7, []), some (.bipush 57, 9, [57]), none, some (.if_icmp .gt 8, 12, [17]), none, none, some (.iload_n 0, 13, []), some (.bipush 48, 15, [48]), none, some (.isub, 16, []), some (.ireturn, 17, []), some (.iload_n 0, 18, []), some (.bipush 97, 20, [97]), none, some (.if_icmp .lt 19, 23, [39]), none, none, some (.iload_n 0, 24, []), some (.bipush 106, 26, [106]), none, some (.if_icmp .gt 13, 29, [39]), none, none, some (.bipush 10, 31, [10]), none, some (.iload_n 0, 32, []), some (.iadd, 33, []), some (.bipush 97, 35, [97]), none, some (.isub, 36, []), some (.goto 4, 39, [40]), none, none, some (.iconst (-1), 40, []), some (.ireturn, 41, [])]
def kc_Pt_init : List (Option mjE) := [some (.aload_n 0, 1, []), some (.invokespecial 3, 4, [5]), none, none, some (.aload_n 0, 5, []), some (.aload_n 1, 6, []), some (.putfield 9, 9, [0, 2, 11, 12, 14, 18]), none, none, some (.return_, 10, [])]
def kc_Pt_kind : List (Option mjE) := [some (.iconst 0, 1, [0]), some (.ireturn, 2, [])]
def kc_Pt_standCount : List (Option mjE) := [some (.aload_n 0, 1, []), some (.getfield 9, 4, [0, 2, 11, 12, 14, 18]), none, none, some (.arraylength, 5, []), some (.ireturn, 6, [])]
def kc_Pt_wayAt : List (Option mjE) := [some (.iload_n 1, 1, []), some (.ireturn, 2, [])]
def kc_Pt_firstStandAt : List (Option mjE) := [some (.iload_n 1, 1, []), some (.ireturn, 2, [])]
def kc_Pt_period : List (Option mjE) := [some (.aload_n 0, 1, []), some (.invokevirtual 15, 4, [1, 0, 11, 29, 12, 11, 14, 29, 18, 56]), none, none, some (.ireturn, 5, [])]
def kc_Pt_turned : List (Option mjE) := [some (.aload_n 0, 1, []), some (.invokevirtual 19, 4, [1, 0, 11, 8, 12, 14, 14, 32, 18, 32]), none, none, some (.istore_n 3, 5, []), some (.iload_n 3, 6, []), some (.iconst 2, 7, [2]), some (.if_icmp .ge 7, 10, [14]), none, none, some (.iload_n 1, 11, []), some (.goto 10, 14, [21]), none, none, some (.iload_n 1, 15, []), some (.iload_n 2, 16, []), some (.iadd, 17, []), some (.iload_n 3, 18, []), some (.invokestatic 22, 21, [0, 2, 187]), none, none, some (.ireturn, 22, [])]
def kc_Pt_placeBy : List (Option mjE) := [some (.iload_n 1, 1, []), some (.ifCond .lt 21, 4, [22]), none, none, some (.iload_n 1, 5, []), some (.aload_n 0, 6, []), some (.getfield 9, 9, [0, 2, 11, 12, 14, 18]), none, none, some (.arraylength, 10, []), some (.if_icmp .ge 12, 13, [22]), none, none, some (.aload_n 0, 14, []), some (.getfield 9, 17, [0, 2, 11, 12, 14, 18]), none, none, some (.iload_n 1, 18, []), some (.iaload, 19, []), some (.goto 4, 22, [23]), none, none, some (.iconst (-1), 23, []), some (.ireturn, 24, [])]
def kc_Pt_canTurn : List (Option mjE) := [some (.aload_n 0, 1, []), some (.invokevirtual 19, 4, [1, 0, 11, 8, 12, 14, 14, 32, 18, 32]), none, none, some (.iconst 1, 5, [1]), some (.if_icmp .le 7, 8, [12]), none, none, some (.iconst 1, 9, [1]), some (.goto 4, 12, [13]), none, none, some (.iconst 0, 13, [0]), some (.ireturn, 14, [])]
def kc_Ro_init : List (Option mjE) := [some (.aload_n 0, 1, []), some (.invokespecial 3, 4, [5]), none, none, some (.aload_n 0, 5, []), some (.bipush 10, 7, [10]), none, some (.newarray .int, 9, []), none, some (.putfield 9, 12, [0, 2, 15]), none, none, some (.return_, 13, [])]
def kc_Ro_send : List (Option mjE) := [some (.aload_n 2, 1, []), some (.iconst 0, 2, [0]), some (.aload_n 0, 3, []), some (.getfield 9, 6, [0, 2, 15]), none, none, some (.iconst 0, 7, [0]), some (.bipush 10, 9, [10]), none, some (.invokestatic 15, 12, [6]), none, none, some (.aload_n 0, 13, []), some (.aload_n 1, 14, []), some (.aload_n 2, 15, []), some (.iload_n 3, 16, []), some (.invokevirtual 21, 19, [1, 3, 15, 39]), none, none, some (.istore 4, 21, []), none, some (.iload 4, 23, []), none, some (.bipush 10, 25, [10]), none, some (.if_icmp .ge 6, 28, [31]), none, none, some (.iload 4, 30, []), none, some (.ireturn, 31, []), some (.aload_n 0, 32, []), some (.getfield 9, 35, [0, 2, 15]), none, none, some (.iconst 0, 36, [0]), some (.aload_n 2, 37, []), some (.iconst 0, 38, [0]), some (.bipush 10, 40, [10]), none, some (.invokestatic 15, 43, [6]), none, none, some (.iconst (-1), 44, []), some (.ireturn, 45, [])]
def kc_Ro_roundOf : List (Option mjE) := [some (.aload_n 0, 1, []), some (.aload_n 1, 2, []), some (.aload_n 2, 3, []), some (.iconst (-1), 4, []), some (.invokevirtual 21, 7, [1, 3, 15, 39]), none, none, some (.istore_n 3, 8, []), some (.iload_n 3, 9, []), some (.istore 4, 11, []), none, some (.aload_n 2, 12, []), some (.iconst 0, 13, [0]), some (.aload_n 0, 14, []), some (.getfield 9, 17, [0, 2, 15]), none, none, some (.iconst 0, 18, [0]), some (.bipush 10, 20, [10]), none, some (.invokestatic 15, 23, [6]), none, none, some (.iconst 1, 24, [1]), some (.istore 5, 26, []), none, some (.iload 5, 28, []), none, some (.sipush 500, 31, [500]), none, none, some (.if_icmp .gt 46, 34, [77]), none, none, some (.iload 4, 36, []), none, some (.bipush 10, 38, [10]), none, some (.if_icmp .lt 39, 41, [77]), none, none, some (.aload_n 1, 42, []), some (.iload 4, 44, []), none, some (.bipush 10, 46, [10]), none, some (.isub, 47, []), some (.aload_n 2, 48, []), some (.iconst (-1), 49, []), some (.invokevirtual 25, 52, [1, 3, 20, 67]), none, none, some (.istore 4, 54, []), none, some (.iload 4, 56, []), none, some (.iload_n 3, 57, []), some (.if_icmp .ne 14, 60, [71]), none, none, some (.aload_n 0, 61, []), some (.aload_n 2, 62, []), some (.invokevirtual 31, 65, [1, 1, 15, 40]), none, none, some (.ifCond .eq 6, 68, [71]), none, none, some (.iload 5, 70, []), none, some (.ireturn, 71, []), some (.iinc 5 1, 74, [1]), none, none, some (.goto (-48), 77, [26]), none, none, some (.iconst (-1), 78, []), some (.ireturn, 79, [])]
def kc_Ro_roll : List (Option mjE) := [some (.bipush 10, 2, [10]), none, some (.istore 4, 4, []), none, some (.aload_n 0, 5, []), some (.iconst 0, 6, [0]), some (.putfield 35, 9, [1, 0, 15]), none, none, some (.iload 4, 11, []), none, some (.bipush 10, 13, [10]), none, some (.if_icmp .lt 39, 16, [52]), none, none, some (.aload_n 0, 17, []), some (.getfield 35, 20, [1, 0, 15]), none, none, some (.sipush 500, 23, [500]), none, none, some (.if_icmp .ge 29, 26, [52]), none, none, some (.aload_n 1, 27, []), some (.iload 4, 29, []), none, some (.bipush 10, 31, [10]), none, some (.isub, 32, []), some (.aload_n 2, 33, []), some (.iload_n 3, 34, []), some (.invokevirtual 25, 37, [1, 3, 20, 67]), none, none, some (.istore 4, 39, []), none, some (.aload_n 0, 40, []), some (.dup, 41, []), some (.getfield 35, 44, [1, 0, 15]), none, none, some (.iconst 1, 45, [1]), some (.iadd, 46, []), some (.putfield 35, 49, [1, 0, 15]), none, none, some (.goto (-40), 52, [9]), none, none, some (.iload 4, 54, []), none, some (.ireturn, 55, [])]
def kc_Ro_isAsAhead : List (Option mjE) := [some (.iconst 0, 1, [0]), some (.istore_n 2, 2, []), some (.iload_n 2, 3, []), some (.bipush 10, 5, [10]), none, some (.if_icmp .ge 23, 8, [28]), none, none, some (.aload_n 1, 9, []), some (.iload_n 2, 10, []), some (.iaload, 11, []), some (.aload_n 0, 12, []), some (.getfield 9, 15, [0, 2, 15]), none, none, some (.iload_n 2, 16, []), some (.iaload, 17, []), some (.if_icmp .eq 5, 20, [22]), none, none, some (.iconst 0, 21, [0]), some (.ireturn, 22, []), some (.iinc 2 1, 25, [1]), none, none, some (.goto (-23), 28, [2]), none, none, some (.iconst 1, 29, [1]), some (.ireturn, 30, [])]
def kc_Sc_init : List (Option mjE) := [some (.aload_n 0, 1, []), some (.invokespecial 3, 4, [5]), none, none, some (.aload_n 0, 5, []), some (.bipush 10, 7, [10]), none, some (.newarray .int, 9, []), none, some (.putfield 9, 12, [0, 2, 16]), none, none, some (.aload_n 0, 13, []), some (.bipush 60, 15, [60]), none, some (.newarray .int, 17, []), none, some (.putfield 15, 20, [1, 2, 16]), none, none, some (.return_, 21, [])]
def kc_Sc_reset : List (Option mjE) := [some (.aload_n 0, 1, []), some (.getfield 9, 4, [0, 2, 16]), none, none, some (.iconst 0, 5, [0]), some (.invokestatic 18, 8, [0, 2, 190]), none, none, some (.aload_n 0, 9, []), some (.iconst 0, 10, [0]), some (.putfield 24, 13, [2, 0, 16]), none, none, some (.return_, 14, [])]
def kc_Sc_copyFrom : List (Option mjE) := [some (.aload_n 1, 1, []), some (.getfield 9, 4, [0, 2, 16]), none, none, some (.iconst 0, 5, [0]), some (.aload_n 0, 6, []), some (.getfield 9, 9, [0, 2, 16]), none, none, some (.iconst 0, 10, [0]), some (.aload_n 0, 11, []), some (.getfield 9, 14, [0, 2, 16]), none, none, some (.arraylength, 15, []), some (.invokestatic 28, 18, [6]), none, none, some (.aload_n 1, 19, []), some (.getfield 15, 22, [1, 2, 16]), none, none, some (.iconst 0, 23, [0]), some (.aload_n 0, 24, []), some (.getfield 15, 27, [1, 2, 16]), none, none, some (.iconst 0, 28, [0]), some (.aload_n 0, 29, []), some (.getfield 15, 32, [1, 2, 16]), none, none, some (.arraylength, 33, []), some (.invokestatic 28, 36, [6]), none, none, some (.aload_n 0, 37, []), some (.aload_n 1, 38, []), some (.getfield 24, 41, [2, 0, 16]), none, none, some (.putfield 24, 44, [2, 0, 16]), none, none, some (.return_, 45, [])]
def kc_Sc_put : List (Option mjE) := [some (.aload_n 0, 1, []), some (.getfield 24, 4, [2, 0, 16]), none, none, some (.aload_n 0, 5, []), some (.getfield 15, 8, [1, 2, 16]), none, none, some (.arraylength, 9, []), some (.if_icmp .ge 23, 12, [32]), none, none, some (.aload_n 0, 13, []), some (.getfield 15, 16, [1, 2, 16]), none, none, some (.aload_n 0, 17, []), some (.getfield 24, 20, [2, 0, 16]), none, none, some (.iload_n 1, 21, []), some (.iastore, 22, []), some (.aload_n 0, 23, []), some (.dup, 24, []), some (.getfield 24, 27, [2, 0, 16]), none, none, some (.iconst 1, 28, [1]), some (.iadd, 29, []), some (.putfield 24, 32, [2, 0, 16]), none, none, some (.return_, 33, [])]
def kc_Sc_trucksIn : List (Option mjE) := [some (.iconst 0, 1, [0]), some (.istore_n 2, 2, []), some (.iconst 0, 3, [0]), some (.istore_n 3, 4, []), some (.iload_n 3, 5, []), some (.aload_n 0, 6, []), some (.getfield 24, 9, [2, 0, 16]), none, none, some (.if_icmp .ge 22, 12, [31]), none, none, some (.aload_n 0, 13, []), some (.getfield 15, 16, [1, 2, 16]), none, none, some (.iload_n 3, 17, []), some (.iaload, 18, []), some (.iload_n 1, 19, []), some (.if_icmp .ne 6, 22, [25]), none, none, some (.iinc 2 1, 25, [1]), none, none, some (.iinc 3 1, 28, [1]), none, none, some (.goto (-24), 31, [4]), none, none, some (.iload_n 2, 32, []), some (.ireturn, 33, [])]
def kc_Sc_truckIn : List (Option mjE) := [some (.iconst 0, 1, [0]), some (.istore_n 3, 2, []), some (.iconst 0, 3, [0]), some (.istore 4, 5, []), none, some (.iload 4, 7, []), none, some (.aload_n 0, 8, []), some (.getfield 24, 11, [2, 0, 16]), none, none, some (.if_icmp .ge 31, 14, [42]), none, none, some (.aload_n 0, 15, []), some (.getfield 15, 18, [1, 2, 16]), none, none, some (.iload 4, 20, []), none, some (.iaload, 21, []), some (.iload_n 1, 22, []), some (.if_icmp .ne 14, 25, [36]), none, none, some (.iload_n 3, 26, []), some (.iload_n 2, 27, []), some (.if_icmp .ne 6, 30, [33]), none, none, some (.iload 4, 32, []), none, some (.ireturn, 33, []), some (.iinc 3 1, 36, [1]), none, none, some (.iinc 4 1, 39, [1]), none, none, some (.goto (-34), 42, [5]), none, none, some (.iconst (-1), 43, []), some (.ireturn, 44, [])]
def kc_Su_init : List (Option mjE) := [some (.aload_n 0, 1, []), some (.invokespecial 3, 4, [5]), none, none, some (.aload_n 0, 5, []), some (.bipush 11, 7, [11]), none, some (.bipush 40, 9, [40]), none, some (.multianewarray 9 2, 13, []), none, none, none, some (.putfield 11, 16, [1, 2, 17]), none, none, some (.aload_n 0, 17, []), some (.bipush 10, 19, [10]), none, some (.newarray .int, 21, []), none, some (.putfield 16, 24, [2, 2, 17]), none, none, some (.aload_n 0, 25, []), some (.bipush 10, 27, [10]), none, some (.newarray .int, 29, []), none, some (.putfield 20, 32, [3, 2, 17]), none, none, some (.aload_n 0, 33, []), some (.aload_n 1, 34, []), some (.putfield 23, 37, [0, 2, 17]), none, none, some (.return_, 38, [])]
def kc_Su_watch : List (Option mjE) := [some (.aload_n 0, 1, []), some (.iconst 0, 2, [0]), some (.putfield 27, 5, [4, 0, 17]), none, none, some (.aload_n 1, 6, []), some (.getfield 31, 9, [3, 2, 20]), none, none, some (.astore_n 3, 10, []), some (.aload_n 3, 11, []), some (.arraylength, 12, []), some (.istore 4, 14, []), none, some (.iconst 0, 15, [0]), some (.istore 5, 17, []), none, some (.iload 5, 19, []), none, some (.iload 4, 21, []), none, some (.if_icmp .ge 64, 24, [85]), none, none, some (.aload_n 3, 25, []), some (.iload 5, 27, []), none, some (.iaload, 28, []), some (.istore 6, 30, []), none, some (.aload_n 1, 31, []), some (.getfield 36, 34, [0, 2, 20]), none, none, some (.iload 6, 36, []), none, some (.aaload, 37, []), some (.invokevirtual 40, 40, [1, 0, 11, 35, 12, 35, 14, 35, 18, 35]), none, none, some (.ifCond .eq 39, 43, [79]), none, none, some (.aload_n 0, 44, []), some (.getfield 20, 47, [3, 2, 17]), none, none, some (.aload_n 0, 48, []), some (.getfield 27, 51, [4, 0, 17]), none, none, some (.iload 6, 53, []), none, some (.iastore, 54, []), some (.aload_n 0, 55, []), some (.dup, 56, []), some (.getfield 27, 59, [4, 0, 17]), none, none, some (.iconst 1, 60, [1]), some (.iadd, 61, []), some (.putfield 27, 64, [4, 0, 17]), none, none, some (.aload_n 0, 65, []), some (.aload_n 1, 66, []), some (.aload_n 2, 67, []), some (.iload 6, 69, []), none, some (.aload_n 0, 70, []), some (.getfield 11, 73, [1, 2, 17]), none, none, some (.iload 6, 75, []), none, some (.aaload, 76, []), some (.invokevirtual 46, 79, [1, 4, 17, 52]), none, none, some (.iinc 5 1, 82, [1]), none, none, some (.goto (-65), 85, [17]), none, none, some (.aload_n 0, 86, []), some (.aload_n 1, 87, []), some (.aload_n 2, 88, []), some (.iconst (-1), 89, []), some (.aload_n 0, 90, []), some (.getfield 11, 93, [1, 2, 17]), none, none, some (.bipush 10, 95, [10]), none, some (.aaload, 96, []), some (.invokevirtual 46, 99, [1, 4, 17, 52]), none, none, some (.return_, 100, [])]
def kc_Su_trucksToNotice : List (Option mjE) := [some (.iconst 1, 1, [1]), some (.istore_n 1, 2, []), some (.iconst 0, 3, [0]), some (.istore_n 2, 4, []), some (.iload_n 2, 5, []), some (.aload_n 0, 6, []), some (.getfield 27, 9, [4, 0, 17]), none, none, some (.if_icmp .ge 35, 12, [44]), none, none, some (.iload_n 1, 13, []), some (.aload_n 0, 14, []), some (.getfield 11, 17, [1, 2, 17]), none, none, some (.aload_n 0, 18, []), some (.getfield 20, 21, [3, 2, 17]), none, none, some (.iload_n 2, 22, []), some (.iaload, 23, []), some (.aaload, 24, []), some (.aload_n 0, 25, []), some (.getfield 11, 28, [1, 2, 17]), none, none, some (.bipush 10, 30, [10]), none, some (.aaload, 31, []), some (.invokestatic 50, 34, [0, 2, 53]), none, none, some (.invokestatic 54, 37, [0, 2, 188]), none, none, some (.istore_n 1, 38, []), some (.iinc 2 1, 41, [1]), none, none, some (.goto (-37), 44, [4]), none, none, some (.iload_n 1, 45, []), some (.ireturn, 46, [])]
def kc_Su_trucksToTellApart : List (Option mjE) := [some (.iconst 1, 1, [1]), some (.istore_n 1, 2, []), some (.iconst 0, 3, [0]), some (.istore_n 2, 4, []), some (.iload_n 2, 5, []), some (.aload_n 0, 6, []), some (.getfield 27, 9, [4, 0, 17]), none, none, some (.if_icmp .ge 52, 12, [61]), none, none, some (.iconst 0, 13, [0]), some (.istore_n 3, 14, []), some (.iload_n 3, 15, []), some (.iload_n 2, 16, []), some (.if_icmp .ge 39, 19, [55]), none, none, some (.iload_n 1, 20, []), some (.aload_n 0, 21, []), some (.getfield 11, 24, [1, 2, 17]), none, none, some (.aload_n 0, 25, []), some (.getfield 20, 28, [3, 2, 17]), none, none, some (.iload_n 2, 29, []), some (.iaload, 30, []), some (.aaload, 31, []), some (.aload_n 0, 32, []), some (.getfield 11, 35, [1, 2, 17]), none, none, some (.aload_n 0, 36, []), some (.getfield 20, 39, [3, 2, 17]), none, none, some (.iload_n 3, 40, []), some (.iaload, 41, []), some (.aaload, 42, []), some (.invokestatic 50, 45, [0, 2, 53]), none, none, some (.invokestatic 54, 48, [0, 2, 188]), none, none, some (.istore_n 1, 49, []), some (.iinc 3 1, 52, [1]), none, none, some (.goto (-38), 55, [14]), none, none, some (.iinc 2 1, 58, [1]), none, none, some (.goto (-54), 61, [4]), none, none, some (.iload_n 1, 62, []), some (.ireturn, 63, [])]
def kc_Su_orNone : List (Option mjE) := [some (.iload_n 1, 1, []), some (.bipush 40, 3, [40]), none, some (.if_icmp .gt 7, 6, [10]), none, none, some (.iload_n 1, 7, []), some (.goto 4, 10, [11]), none, none, some (.iconst (-1), 11, []), some (.ireturn, 12, [])]
def kc_Su_fillStops : List (Option mjE) := [some (.aload_n 2, 1, []), some (.iconst 0, 2, [0]), some (.aload_n 0, 3, []), some (.getfield 16, 6, [2, 2, 17]), none, none, some (.iconst 0, 7, [0]), some (.bipush 10, 9, [10]), none, some (.invokestatic 60, 12, [6]), none, none, some (.aload 4, 14, []), none, some (.iconst (-1), 15, []), some (.invokestatic 66, 18, [0, 2, 190]), none, none, some (.iconst 0, 19, [0]), some (.istore 5, 21, []), none, some (.iload 5, 23, []), none, some (.aload 4, 25, []), none, some (.arraylength, 26, []), some (.if_icmp .ge 37, 29, [63]), none, none, some (.aload 4, 31, []), none, some (.iload 5, 33, []), none, some (.aload_n 0, 34, []), some (.getfield 23, 37, [0, 2, 17]), none, none, some (.aload_n 1, 38, []), some (.aload_n 0, 39, []), some (.getfield 16, 42, [2, 2, 17]), none, none, some (.iload_n 3, 43, []), some (.invokevirtual 72, 46, [1, 3, 15, 37]), none, none, some (.iastore, 47, []), some (.aload 4, 49, []), none, some (.iload 5, 51, []), none, some (.iaload, 52, []), some (.iconst (-1), 53, []), some (.if_icmp .ne 4, 56, [57]), none, none, some (.return_, 57, []), some (.iinc 5 1, 60, [1]), none, none, some (.goto (-39), 63, [21]), none, none, some (.return_, 64, [])]
def kc_Su_firstDifference : List (Option mjE) := [some (.iconst 0, 1, [0]), some (.istore_n 2, 2, []), some (.iload_n 2, 3, []), some (.bipush 40, 5, [40]), none, some (.if_icmp .ge 22, 8, [27]), none, none, some (.aload_n 0, 9, []), some (.iload_n 2, 10, []), some (.iaload, 11, []), some (.aload_n 1, 12, []), some (.iload_n 2, 13, []), some (.iaload, 14, []), some (.if_icmp .eq 7, 17, [21]), none, none, some (.iload_n 2, 18, []), some (.iconst 1, 19, [1]), some (.iadd, 20, []), some (.ireturn, 21, []), some (.iinc 2 1, 24, [1]), none, none, some (.goto (-22), 27, [2]), none, none, some (.bipush 41, 29, [41]), none, some (.ireturn, 30, [])]
def kc_Sw_init : List (Option mjE) := [some (.aload_n 0, 1, []), some (.aload_n 1, 2, []), some (.invokespecial 3, 5, [2, 1, 27]), none, none, some (.return_, 6, [])]
def kc_Sw_kind : List (Option mjE) := [some (.iconst 2, 1, [2]), some (.ireturn, 2, [])]
def kc_Sw_standCount : List (Option mjE) := [some (.iconst 1, 1, [1]), some (.iconst 2, 2, [2]), some (.aload_n 0, 3, []), some (.getfield 9, 6, [0, 2, 11, 12, 14, 18]), none, none, some (.arraylength, 7, []), some (.imul, 8, []), some (.iconst 2, 9, [2]), some (.isub, 10, []), some (.invokestatic 15, 13, [0, 2, 188]), none, none, some (.ireturn, 14, [])]
def kc_Sw_wayAt : List (Option mjE) := [some (.iload_n 1, 1, []), some (.aload_n 0, 2, []), some (.getfield 9, 5, [0, 2, 11, 12, 14, 18]), none, none, some (.arraylength, 6, []), some (.if_icmp .ge 7, 9, [13]), none, none, some (.iload_n 1, 10, []), some (.goto 14, 13, [24]), none, none, some (.iconst 2, 14, [2]), some (.aload_n 0, 15, []), some (.getfield 9, 18, [0, 2, 11, 12, 14, 18]), none, none, some (.arraylength, 19, []), some (.imul, 20, []), some (.iconst 2, 21, [2]), some (.isub, 22, []), some (.iload_n 1, 23, []), some (.isub, 24, []), some (.ireturn, 25, [])]
def kc_Th_init : List (Option mjE) := [some (.aload_n 0, 1, []), some (.invokespecial 3, 4, [5]), none, none, some (.aload_n 0, 5, []), some (.iconst 0, 6, [0]), some (.newarray .byte, 8, []), none, some (.putfield 9, 11, [0, 2, 19]), none, none, some (.aload_n 0, 12, []), some (.bipush 10, 14, [10]), none, some (.newarray .int, 16, []), none, some (.putfield 15, 19, [1, 2, 19]), none, none, some (.aload_n 0, 20, []), some (.bipush 10, 22, [10]), none, some (.newarray .int, 24, []), none, some (.putfield 19, 27, [2, 2, 19]), none, none, some (.return_, 28, [])]
def kc_Th_fewest : List (Option mjE) := [some (.aload_n 0, 1, []), some (.aload_n 1, 2, []), some (.putfield 22, 5, [3, 2, 19]), none, none, some (.aload_n 0, 6, []), some (.aload_n 2, 7, []), some (.invokevirtual 26, 10, [1, 1, 19, 60]), none, none, some (.istore 5, 12, []), none, some (.aload_n 1, 13, []), some (.getfield 30, 16, [3, 2, 20]), none, none, some (.arraylength, 17, []), some (.iconst 1, 18, [1]), some (.iadd, 19, []), some (.istore 6, 21, []), none, some (.aload_n 0, 22, []), some (.iload 6, 24, []), none, some (.aload_n 0, 25, []), some (.getfield 35, 28, [4, 0, 19]), none, none, some (.imul, 29, []), some (.invokevirtual 39, 32, [1, 1, 19, 61]), none, none, some (.aload_n 0, 33, []), some (.getfield 9, 36, [0, 2, 19]), none, none, some (.bipush 100, 38, [100]), none, some (.invokestatic 43, 41, [0, 2, 191]), none, none, some (.aload_n 0, 42, []), some (.iconst 0, 43, [0]), some (.iload 5, 45, []), none, some (.iconst 0, 46, [0]), some (.invokevirtual 49, 49, [1, 3, 19, 64]), none, none, some (.iconst 0, 50, [0]), some (.istore 7, 52, []), none, some (.iload 7, 54, []), none, some (.iload 4, 56, []), none, some (.if_icmp .ge 45, 59, [101]), none, none, some (.iconst 0, 60, [0]), some (.istore 8, 62, []), none, some (.iload 8, 64, []), none, some (.iload 6, 66, []), none, some (.iconst 1, 67, [1]), some (.isub, 68, []), some (.if_icmp .ge 19, 71, [87]), none, none, some (.aload_n 0, 72, []), some (.iload 8, 74, []), none, some (.aload_n 3, 75, []), some (.iload 7, 77, []), none, some (.iaload, 78, []), some (.invokevirtual 53, 81, [1, 2, 19, 62]), none, none, some (.iinc 8 1, 84, [1]), none, none, some (.goto (-22), 87, [62]), none, none, some (.aload_n 0, 88, []), some (.iload 6, 90, []), none, some (.iconst 1, 91, [1]), some (.isub, 92, []), some (.invokevirtual 57, 95, [1, 1, 19, 65]), none, none, some (.iinc 7 1, 98, [1]), none, none, some (.goto (-46), 101, [52]), none, none, some (.bipush 100, 103, [100]), none, some (.istore 7, 105, []), none, some (.iconst 0, 106, [0]), some (.istore 8, 108, []), none, some (.iload 8, 110, []), none, some (.aload_n 0, 111, []), some (.getfield 35, 114, [4, 0, 19]), none, none, some (.if_icmp .ge 23, 117, [137]), none, none, some (.iload 7, 119, []), none, some (.aload_n 0, 120, []), some (.getfield 9, 123, [0, 2, 19]), none, none, some (.iload 8, 125, []), none, some (.baload, 126, []), some (.invokestatic 60, 129, [0, 2, 189]), none, none, some (.istore 7, 131, []), none, some (.iinc 8 1, 134, [1]), none, none, some (.goto (-26), 137, [108]), none, none, some (.iload 7, 139, []), none, some (.bipush 100, 141, [100]), none, some (.if_icmp .ge 8, 144, [149]), none, none, some (.iload 7, 146, []), none, some (.goto 4, 149, [150]), none, none, some (.iconst (-1), 150, []), some (.ireturn, 151, [])]
def kc_Th_encode : List (Option mjE) := [some (.aload_n 0, 1, []), some (.iconst 1, 2, [1]), some (.putfield 35, 5, [4, 0, 19]), none, none, some (.iconst 0, 6, [0]), some (.istore_n 2, 7, []), some (.iconst 0, 8, [0]), some (.istore_n 3, 9, []), some (.iload_n 3, 10, []), some (.aload_n 0, 11, []), some (.getfield 22, 14, [3, 2, 19]), none, none, some (.getfield 30, 17, [3, 2, 20]), none, none, some (.arraylength, 18, []), some (.if_icmp .ge 73, 21, [91]), none, none, some (.aload_n 0, 22, []), some (.getfield 22, 25, [3, 2, 19]), none, none, some (.getfield 30, 28, [3, 2, 20]), none, none, some (.iload_n 3, 29, []), some (.iaload, 30, []), some (.istore 4, 32, []), none, some (.aload_n 0, 33, []), some (.getfield 15, 36, [1, 2, 19]), none, none, some (.iload 4, 38, []), none, some (.iload_n 3, 39, []), some (.iastore, 40, []), some (.aload_n 0, 41, []), some (.getfield 19, 44, [2, 2, 19]), none, none, some (.iload 4, 46, []), none, some (.aload_n 0, 47, []), some (.getfield 35, 50, [4, 0, 19]), none, none, some (.iastore, 51, []), some (.iload_n 2, 52, []), some (.aload_n 1, 53, []), some (.iload 4, 55, []), none, some (.iaload, 56, []), some (.aload_n 0, 57, []), some (.getfield 35, 60, [4, 0, 19]), none, none, some (.imul, 61, []), some (.iadd, 62, []), some (.istore_n 2, 63, []), some (.aload_n 0, 64, []), some (.dup, 65, []), some (.getfield 35, 68, [4, 0, 19]), none, none, some (.aload_n 0, 69, []), some (.getfield 22, 72, [3, 2, 19]), none, none, some (.getfield 66, 75, [0, 2, 20]), none, none, some (.iload 4, 77, []), none, some (.aaload, 78, []), some (.invokevirtual 70, 81, [1, 0, 11, 29, 12, 11, 14, 29, 18, 56]), none, none, some (.imul, 82, []), some (.putfield 35, 85, [4, 0, 19]), none, none, some (.iinc 3 1, 88, [1]), none, none, some (.goto (-79), 91, [9]), none, none, some (.iload_n 2, 92, []), some (.ireturn, 93, [])]
def kc_Th_makeRoom : List (Option mjE) := [some (.aload_n 0, 1, []), some (.getfield 9, 4, [0, 2, 19]), none, none, some (.arraylength, 5, []), some (.iload_n 1, 6, []), some (.if_icmp .ge 20, 9, [26]), none, none, some (.aload_n 0, 10, []), some (.iload_n 1, 11, []), some (.iconst 2, 12, [2]), some (.aload_n 0, 13, []), some (.getfield 9, 16, [0, 2, 19]), none, none, some (.arraylength, 17, []), some (.imul, 18, []), some (.invokestatic 76, 21, [0, 2, 188]), none, none, some (.newarray .byte, 23, []), none, some (.putfield 9, 26, [0, 2, 19]), none, none, some (.return_, 27, [])]
def kc_Th_leave : List (Option mjE) := [some (.aload_n 0, 1, []), some (.getfield 22, 4, [3, 2, 19]), none, none, some (.getfield 30, 7, [3, 2, 20]), none, none, some (.iload_n 1, 8, []), some (.iaload, 9, []), some (.istore_n 3, 10, []), some (.aload_n 0, 11, []), some (.getfield 22, 14, [3, 2, 19]), none, none, some (.getfield 66, 17, [0, 2, 20]), none, none, some (.iload_n 3, 18, []), some (.aaload, 19, []), some (.astore 4, 21, []), none, some (.aload 4, 23, []), none, some (.invokevirtual 70, 26, [1, 0, 11, 29, 12, 11, 14, 29, 18, 56]), none, none, some (.istore 5, 28, []), none, some (.aload_n 0, 29, []), some (.getfield 19, 32, [2, 2, 19]), none, none, some (.iload_n 3, 33, []), some (.iaload, 34, []), some (.istore 6, 36, []), none, some (.iload 6, 38, []), none, some (.iconst 1, 39, [1]), some (.if_icmp .lt 9, 42, [48]), none, none, some (.iload 5, 44, []), none, some (.iconst 1, 45, [1]), some (.if_icmp .ge 4, 48, [49]), none, none, some (.return_, 49, []), some (.iconst 0, 50, [0]), some (.istore 7, 52, []), none, some (.iload 7, 54, []), none, some (.aload_n 0, 55, []), some (.getfield 35, 58, [4, 0, 19]), none, none, some (.if_icmp .ge 119, 61, [177]), none, none, some (.aload_n 0, 62, []), some (.getfield 9, 65, [0, 2, 19]), none, none, some (.iload_n 1, 66, []), some (.aload_n 0, 67, []), some (.getfield 35, 70, [4, 0, 19]), none, none, some (.imul, 71, []), some (.iload 7, 73, []), none, some (.iadd, 74, []), some (.baload, 75, []), some (.istore 8, 77, []), none, some (.iload 8, 79, []), none, some (.bipush 100, 81, [100]), none, some (.if_icmp .ge 90, 84, [171]), none, none, some (.aload_n 0, 85, []), some (.getfield 9, 88, [0, 2, 19]), none, none, some (.iload_n 1, 89, []), some (.aload_n 0, 90, []), some (.getfield 35, 93, [4, 0, 19]), none, none, some (.imul, 94, []), some (.iload 7, 96, []), none, some (.iadd, 97, []), some (.bipush 100, 99, [100]), none, some (.bastore, 100, []), some (.iload 7, 102, []), none, some (.iload 6, 104, []), none, some (.idiv, 105, []), some (.iload 5, 107, []), none, some (.irem, 108, []), some (.istore 9, 110, []), none, some (.iload 7, 112, []), none, some (.iload 9, 114, []), none, some (.iload 6, 116, []), none, some (.imul, 117, []), some (.isub, 118, []), some (.istore 10, 120, []), none, some (.aload_n 0, 121, []), some (.iload_n 3, 122, []), some (.iload 9, 124, []), none, some (.iload 10, 126, []), none, some (.iload 8, 128, []), none, some (.iload_n 2, 129, []), some (.invokevirtual 79, 132, [1, 5, 19, 63]), none, none, some (.iconst 0, 133, [0]), some (.istore 11, 135, []), none, some (.iload 11, 137, []), none, some (.aload 4, 139, []), none, some (.getfield 83, 142, [0, 2, 11, 12, 14, 18]), none, none, some (.arraylength, 143, []), some (.if_icmp .ge 28, 146, [171]), none, none, some (.aload_n 0, 147, []), some (.iload_n 3, 148, []), some (.aload 4, 150, []), none, some (.iload 11, 152, []), none, some (.invokevirtual 86, 155, [1, 1, 11, 31, 12, 13, 14, 31, 18, 31]), none, none, some (.iload 10, 157, []), none, some (.iload 8, 159, []), none, some (.iconst 1, 160, [1]), some (.iadd, 161, []), some (.iload_n 2, 162, []), some (.invokevirtual 79, 165, [1, 5, 19, 63]), none, none, some (.iinc 11 1, 168, [1]), none, none, some (.goto (-33), 171, [135]), none, none, some (.iinc 7 1, 174, [1]), none, none, some (.goto (-122), 177, [52]), none, none, some (.return_, 178, [])]
def kc_Th_goOn : List (Option mjE) := [some (.aload_n 0, 1, []), some (.getfield 22, 4, [3, 2, 19]), none, none, some (.iload_n 1, 5, []), some (.iload_n 2, 6, []), some (.invokevirtual 90, 9, [1, 2, 20, 68]), none, none, some (.istore 6, 11, []), none, some (.iload_n 3, 12, []), some (.aload_n 0, 13, []), some (.getfield 22, 16, [3, 2, 19]), none, none, some (.iload_n 1, 17, []), some (.iload_n 2, 18, []), some (.invokevirtual 93, 21, [1, 2, 20, 69]), none, none, some (.aload_n 0, 22, []), some (.getfield 19, 25, [2, 2, 19]), none, none, some (.iload_n 1, 26, []), some (.iaload, 27, []), some (.imul, 28, []), some (.iadd, 29, []), some (.istore 7, 31, []), none, some (.iload 6, 33, []), none, some (.iload 5, 35, []), none, some (.if_icmp .ne 22, 38, [57]), none, none, some (.aload_n 0, 39, []), some (.aload_n 0, 40, []), some (.getfield 22, 43, [3, 2, 19]), none, none, some (.getfield 30, 46, [3, 2, 20]), none, none, some (.arraylength, 47, []), some (.iload 7, 49, []), none, some (.iload 4, 51, []), none, some (.invokevirtual 49, 54, [1, 3, 19, 64]), none, none, some (.goto 45, 57, [99]), none, none, some (.iload 6, 59, []), none, some (.bipush 10, 61, [10]), none, some (.if_icmp .lt 38, 64, [99]), none, none, some (.aload_n 0, 65, []), some (.getfield 22, 68, [3, 2, 19]), none, none, some (.iload 6, 70, []), none, some (.bipush 10, 72, [10]), none, some (.isub, 73, []), some (.iload 5, 75, []), none, some (.invokevirtual 96, 78, [1, 2, 20, 70]), none, none, some (.ifCond .eq 21, 81, [99]), none, none, some (.aload_n 0, 82, []), some (.aload_n 0, 83, []), some (.getfield 15, 86, [1, 2, 19]), none, none, some (.iload 6, 88, []), none, some (.bipush 10, 90, [10]), none, some (.isub, 91, []), some (.iaload, 92, []), some (.iload 7, 94, []), none, some (.iload 4, 96, []), none, some (.invokevirtual 49, 99, [1, 3, 19, 64]), none, none, some (.return_, 100, [])]
def kc_Th_offer : List (Option mjE) := [some (.iload_n 1, 1, []), some (.aload_n 0, 2, []), some (.getfield 35, 5, [4, 0, 19]), none, none, some (.imul, 6, []), some (.iload_n 2, 7, []), some (.iadd, 8, []), some (.istore 4, 10, []), none, some (.iload 4, 12, []), none, some (.ifCond .lt 33, 15, [45]), none, none, some (.iload 4, 17, []), none, some (.aload_n 0, 18, []), some (.getfield 9, 21, [0, 2, 19]), none, none, some (.arraylength, 22, []), some (.if_icmp .ge 23, 25, [45]), none, none, some (.iload_n 3, 26, []), some (.aload_n 0, 27, []), some (.getfield 9, 30, [0, 2, 19]), none, none, some (.iload 4, 32, []), none, some (.baload, 33, []), some (.if_icmp .ge 12, 36, [45]), none, none, some (.aload_n 0, 37, []), some (.getfield 9, 40, [0, 2, 19]), none, none, some (.iload 4, 42, []), none, some (.iload_n 3, 43, []), some (.i2b, 44, []), some (.bastore, 45, []), some (.return_, 46, [])]
def kc_Th_startNext : List (Option mjE) := [some (.iconst 0, 1, [0]), some (.istore_n 2, 2, []), some (.iload_n 2, 3, []), some (.aload_n 0, 4, []), some (.getfield 35, 7, [4, 0, 19]), none, none, some (.if_icmp .ge 43, 10, [50]), none, none, some (.aload_n 0, 11, []), some (.getfield 9, 14, [0, 2, 19]), none, none, some (.iload_n 2, 15, []), some (.aload_n 0, 16, []), some (.getfield 9, 19, [0, 2, 19]), none, none, some (.iload_n 1, 20, []), some (.aload_n 0, 21, []), some (.getfield 35, 24, [4, 0, 19]), none, none, some (.imul, 25, []), some (.iload_n 2, 26, []), some (.iadd, 27, []), some (.baload, 28, []), some (.bastore, 29, []), some (.aload_n 0, 30, []), some (.getfield 9, 33, [0, 2, 19]), none, none, some (.iload_n 1, 34, []), some (.aload_n 0, 35, []), some (.getfield 35, 38, [4, 0, 19]), none, none, some (.imul, 39, []), some (.iload_n 2, 40, []), some (.iadd, 41, []), some (.bipush 100, 43, [100]), none, some (.bastore, 44, []), some (.iinc 2 1, 47, [1]), none, none, some (.goto (-45), 50, [2]), none, none, some (.return_, 51, [])]
def kc_Yd_init : List (Option mjE) := [some (.aload_n 0, 1, []), some (.invokespecial 3, 4, [5]), none, none, some (.aload_n 0, 5, []), some (.bipush 60, 7, [60]), none, some (.newarray .int, 9, []), none, some (.putfield 9, 12, [4, 2, 20]), none, none, some (.aload_n 0, 13, []), some (.bipush 60, 15, [60]), none, some (.newarray .int, 17, []), none, some (.putfield 15, 20, [5, 2, 20]), none, none, some (.aload_n 0, 21, []), some (.bipush 10, 23, [10]), none, some (.newarray .int, 25, []), none, some (.putfield 18, 28, [6, 2, 20]), none, none, some (.aload_n 0, 29, []), some (.bipush 10, 31, [10]), none, some (.newarray .int, 33, []), none, some (.putfield 21, 36, [7, 2, 20]), none, none, some (.aload_n 0, 37, []), some (.aload_n 1, 38, []), some (.putfield 24, 41, [0, 2, 20]), none, none, some (.aload_n 0, 42, []), some (.aload_n 1, 43, []), some (.arraylength, 44, []), some (.bipush 10, 46, [10]), none, some (.invokestatic 28, 49, [0, 2, 189]), none, none, some (.putfield 34, 52, [1, 0, 20]), none, none, some (.aload_n 0, 53, []), some (.iconst 1, 54, [1]), some (.invokevirtual 38, 57, [1, 1, 20, 78]), none, none, some (.istore_n 2, 58, []), some (.aload_n 0, 59, []), some (.aload_n 0, 60, []), some (.iload_n 2, 61, []), some (.invokevirtual 42, 64, [1, 1, 20, 79]), none, none, some (.ifCond .ne 7, 67, [71]), none, none, some (.iconst 1, 68, [1]), some (.goto 4, 71, [72]), none, none, some (.iconst 0, 72, [0]), some (.putfield 46, 75, [2, 1, 20]), none, none, some (.aload_n 0, 76, []), some (.aload_n 0, 77, []), some (.iload_n 2, 78, []), some (.invokevirtual 50, 81, [1, 1, 20, 80]), none, none, some (.putfield 54, 84, [3, 2, 20]), none, none, some (.iconst 0, 85, [0]), some (.istore_n 3, 86, []), some (.iload_n 3, 87, []), some (.aload_n 0, 88, []), some (.getfield 34, 91, [1, 0, 20]), none, none, some (.if_icmp .ge 19, 94, [110]), none, none, some (.aload_n 0, 95, []), some (.iload_n 3, 96, []), some (.invokevirtual 57, 99, [1, 1, 20, 71]), none, none, some (.aload_n 0, 100, []), some (.iload_n 3, 101, []), some (.invokevirtual 61, 104, [1, 1, 20, 72]), none, none, some (.iinc 3 1, 107, [1]), none, none, some (.goto (-21), 110, [86]), none, none, some (.return_, 111, [])]
def kc_Yd_pass : List (Option mjE) := [some (.iload_n 1, 1, []), some (.ifCond .lt 11, 4, [12]), none, none, some (.iload_n 1, 5, []), some (.aload_n 0, 6, []), some (.getfield 34, 9, [1, 0, 20]), none, none, some (.if_icmp .lt 5, 12, [14]), none, none, some (.iconst (-1), 13, []), some (.ireturn, 14, []), some (.iload_n 1, 15, []), some (.bipush 6, 17, [6]), none, some (.imul, 18, []), some (.aload_n 2, 19, []), some (.iload_n 1, 20, []), some (.iaload, 21, []), some (.iadd, 22, []), some (.istore 4, 24, []), none, some (.iload 4, 26, []), none, some (.ifCond .lt 13, 29, [39]), none, none, some (.iload 4, 31, []), none, some (.aload_n 0, 32, []), some (.getfield 9, 35, [4, 2, 20]), none, none, some (.arraylength, 36, []), some (.if_icmp .lt 5, 39, [41]), none, none, some (.iconst (-1), 40, []), some (.ireturn, 41, []), some (.iload_n 1, 42, []), some (.iload_n 3, 43, []), some (.if_icmp .eq 13, 46, [56]), none, none, some (.aload_n 2, 47, []), some (.iload_n 1, 48, []), some (.aload_n 0, 49, []), some (.getfield 15, 52, [5, 2, 20]), none, none, some (.iload 4, 54, []), none, some (.iaload, 55, []), some (.iastore, 56, []), some (.aload_n 0, 57, []), some (.getfield 9, 60, [4, 2, 20]), none, none, some (.iload 4, 62, []), none, some (.iaload, 63, []), some (.ireturn, 64, [])]
def kc_Yd_placeFrom : List (Option mjE) := [some (.iload_n 1, 1, []), some (.bipush 6, 3, [6]), none, some (.imul, 4, []), some (.iload_n 2, 5, []), some (.iadd, 6, []), some (.istore_n 3, 7, []), some (.iload_n 3, 8, []), some (.ifCond .lt 21, 11, [29]), none, none, some (.iload_n 3, 12, []), some (.aload_n 0, 13, []), some (.getfield 9, 16, [4, 2, 20]), none, none, some (.arraylength, 17, []), some (.if_icmp .ge 12, 20, [29]), none, none, some (.aload_n 0, 21, []), some (.getfield 9, 24, [4, 2, 20]), none, none, some (.iload_n 3, 25, []), some (.iaload, 26, []), some (.goto 4, 29, [30]), none, none, some (.iconst (-1), 30, []), some (.ireturn, 31, [])]
def kc_Yd_standAfter : List (Option mjE) := [some (.iload_n 1, 1, []), some (.bipush 6, 3, [6]), none, some (.imul, 4, []), some (.iload_n 2, 5, []), some (.iadd, 6, []), some (.istore_n 3, 7, []), some (.iload_n 3, 8, []), some (.ifCond .lt 21, 11, [29]), none, none, some (.iload_n 3, 12, []), some (.aload_n 0, 13, []), some (.getfield 15, 16, [5, 2, 20]), none, none, some (.arraylength, 17, []), some (.if_icmp .ge 12, 20, [29]), none, none, some (.aload_n 0, 21, []), some (.getfield 15, 24, [5, 2, 20]), none, none, some (.iload_n 3, 25, []), some (.iaload, 26, []), some (.goto 4, 29, [30]), none, none, some (.iconst 0, 30, [0]), some (.ireturn, 31, [])]
def kc_Yd_canLead : List (Option mjE) := [some (.iload_n 2, 1, []), some (.ifCond .lt 27, 4, [28]), none, none, some (.iload_n 2, 5, []), some (.bipush 10, 7, [10]), none, some (.if_icmp .ge 21, 10, [28]), none, none, some (.aload_n 0, 11, []), some (.getfield 18, 14, [6, 2, 20]), none, none, some (.iload_n 2, 15, []), some (.iaload, 16, []), some (.iload_n 1, 17, []), some (.ishr, 18, []), some (.iconst 1, 19, [1]), some (.iand, 20, []), some (.iconst 1, 21, [1]), some (.if_icmp .ne 7, 24, [28]), none, none, some (.iconst 1, 25, [1]), some (.goto 4, 28, [29]), none, none, some (.iconst 0, 29, [0]), some (.ireturn, 30, [])]
def kc_Yd_tellStands : List (Option mjE) := [some (.aload_n 0, 1, []), some (.getfield 24, 4, [0, 2, 20]), none, none, some (.iload_n 1, 5, []), some (.aaload, 6, []), some (.astore_n 2, 7, []), some (.aload_n 2, 8, []), some (.invokevirtual 64, 11, [1, 0, 11, 29, 12, 11, 14, 29, 18, 56]), none, none, some (.bipush 6, 13, [6]), none, some (.invokestatic 28, 16, [0, 2, 189]), none, none, some (.istore_n 3, 17, []), some (.iconst 0, 18, [0]), some (.istore 4, 20, []), none, some (.iload 4, 22, []), none, some (.iload_n 3, 23, []), some (.if_icmp .ge 50, 26, [73]), none, none, some (.aload_n 0, 27, []), some (.getfield 9, 30, [4, 2, 20]), none, none, some (.iload_n 1, 31, []), some (.bipush 6, 33, [6]), none, some (.imul, 34, []), some (.iload 4, 36, []), none, some (.iadd, 37, []), some (.aload_n 2, 38, []), some (.aload_n 2, 39, []), some (.iload 4, 41, []), none, some (.invokevirtual 70, 44, [1, 1, 11, 30, 12, 12, 14, 30, 18, 57]), none, none, some (.invokevirtual 73, 47, [1, 1, 11, 34, 12, 34, 14, 34, 18, 34]), none, none, some (.iastore, 48, []), some (.aload_n 0, 49, []), some (.getfield 15, 52, [5, 2, 20]), none, none, some (.iload_n 1, 53, []), some (.bipush 6, 55, [6]), none, some (.imul, 56, []), some (.iload 4, 58, []), none, some (.iadd, 59, []), some (.aload_n 2, 60, []), some (.iload 4, 62, []), none, some (.iconst 1, 63, [1]), some (.invokevirtual 76, 66, [1, 2, 11, 33, 12, 33, 14, 33, 18, 33]), none, none, some (.iastore, 67, []), some (.iinc 4 1, 70, [1]), none, none, some (.goto (-50), 73, [20]), none, none, some (.return_, 74, [])]
def kc_Yd_tellSidings : List (Option mjE) := [some (.aload_n 0, 1, []), some (.iconst 1, 2, [1]), some (.iload_n 1, 3, []), some (.ishl, 4, []), some (.invokevirtual 38, 7, [1, 1, 20, 78]), none, none, some (.istore_n 2, 8, []), some (.iconst 0, 9, [0]), some (.istore_n 3, 10, []), some (.iload_n 3, 11, []), some (.aload_n 0, 12, []), some (.getfield 34, 15, [1, 0, 20]), none, none, some (.if_icmp .ge 78, 18, [93]), none, none, some (.iload_n 2, 19, []), some (.iload_n 3, 20, []), some (.ishr, 21, []), some (.iconst 1, 22, [1]), some (.iand, 23, []), some (.iconst 1, 24, [1]), some (.if_icmp .ne 63, 27, [87]), none, none, some (.aload_n 0, 28, []), some (.getfield 24, 31, [0, 2, 20]), none, none, some (.iload_n 3, 32, []), some (.aaload, 33, []), some (.getfield 79, 36, [0, 2, 11, 12, 14, 18]), none, none, some (.astore 4, 38, []), none, some (.aload 4, 40, []), none, some (.arraylength, 41, []), some (.istore 5, 43, []), none, some (.iconst 0, 44, [0]), some (.istore 6, 46, []), none, some (.iload 6, 48, []), none, some (.iload 5, 50, []), none, some (.if_icmp .ge 37, 53, [87]), none, none, some (.aload 4, 55, []), none, some (.iload 6, 57, []), none, some (.iaload, 58, []), some (.istore 7, 60, []), none, some (.iload 7, 62, []), none, some (.invokestatic 82, 65, [0, 1, 120]), none, none, some (.ifCond .eq 16, 68, [81]), none, none, some (.aload_n 0, 69, []), some (.getfield 18, 72, [6, 2, 20]), none, none, some (.iload 7, 74, []), none, some (.dup2, 75, []), some (.iaload, 76, []), some (.iconst 1, 77, [1]), some (.iload_n 1, 78, []), some (.ishl, 79, []), some (.ior, 80, []), some (.iastore, 81, []), some (.iinc 6 1, 84, [1]), none, none, some (.goto (-38), 87, [46]), none, none, some (.iinc 3 1, 90, [1]), none, none, some (.goto (-80), 93, [10]), none, none, some (.return_, 94, [])]
def kc_Yd_countOn : List (Option mjE) := [some (.aload_n 0, 1, []), some (.iload_n 1, 2, []), some (.invokevirtual 85, 5, [1, 1, 20, 75]), none, none, some (.iconst 0, 6, [0]), some (.istore_n 3, 7, []), some (.iload_n 3, 8, []), some (.aload_n 0, 9, []), some (.getfield 54, 12, [3, 2, 20]), none, none, some (.arraylength, 13, []), some (.if_icmp .ge 52, 16, [65]), none, none, some (.aload_n 0, 17, []), some (.getfield 54, 20, [3, 2, 20]), none, none, some (.iload_n 3, 21, []), some (.iaload, 22, []), some (.istore 4, 24, []), none, some (.aload_n 0, 25, []), some (.iload 4, 27, []), none, some (.aload_n 2, 28, []), some (.iload 4, 30, []), none, some (.iaload, 31, []), some (.invokevirtual 88, 34, [1, 2, 20, 76]), none, none, some (.aload_n 2, 35, []), some (.iload 4, 37, []), none, some (.aload_n 0, 38, []), some (.getfield 24, 41, [0, 2, 20]), none, none, some (.iload 4, 43, []), none, some (.aaload, 44, []), some (.aload_n 2, 45, []), some (.iload 4, 47, []), none, some (.iaload, 48, []), some (.aload_n 0, 49, []), some (.getfield 21, 52, [7, 2, 20]), none, none, some (.iload 4, 54, []), none, some (.iaload, 55, []), some (.invokevirtual 76, 58, [1, 2, 11, 33, 12, 33, 14, 33, 18, 33]), none, none, some (.iastore, 59, []), some (.iinc 3 1, 62, [1]), none, none, some (.goto (-55), 65, [7]), none, none, some (.return_, 66, [])]
def kc_Yd_countBack : List (Option mjE) := [some (.aload_n 0, 1, []), some (.iload_n 1, 2, []), some (.invokevirtual 85, 5, [1, 1, 20, 75]), none, none, some (.iconst 0, 6, [0]), some (.istore_n 3, 7, []), some (.iload_n 3, 8, []), some (.aload_n 0, 9, []), some (.getfield 54, 12, [3, 2, 20]), none, none, some (.arraylength, 13, []), some (.if_icmp .ge 53, 16, [66]), none, none, some (.aload_n 0, 17, []), some (.getfield 54, 20, [3, 2, 20]), none, none, some (.iload_n 3, 21, []), some (.iaload, 22, []), some (.istore 4, 24, []), none, some (.aload_n 2, 25, []), some (.iload 4, 27, []), none, some (.aload_n 0, 28, []), some (.getfield 24, 31, [0, 2, 20]), none, none, some (.iload 4, 33, []), none, some (.aaload, 34, []), some (.aload_n 2, 35, []), some (.iload 4, 37, []), none, some (.iaload, 38, []), some (.aload_n 0, 39, []), some (.getfield 21, 42, [7, 2, 20]), none, none, some (.iload 4, 44, []), none, some (.iaload, 45, []), some (.ineg, 46, []), some (.invokevirtual 76, 49, [1, 2, 11, 33, 12, 33, 14, 33, 18, 33]), none, none, some (.iastore, 50, []), some (.aload_n 0, 51, []), some (.iload 4, 53, []), none, some (.aload_n 2, 54, []), some (.iload 4, 56, []), none, some (.iaload, 57, []), some (.invokevirtual 88, 60, [1, 2, 20, 76]), none, none, some (.iinc 3 1, 63, [1]), none, none, some (.goto (-56), 66, [7]), none, none, some (.return_, 67, [])]
def kc_Yd_startCount : List (Option mjE) := [some (.aload_n 0, 1, []), some (.getfield 21, 4, [7, 2, 20]), none, none, some (.iconst 0, 5, [0]), some (.invokestatic 92, 8, [0, 2, 190]), none, none, some (.aload_n 0, 9, []), some (.getfield 21, 12, [7, 2, 20]), none, none, some (.iconst 0, 13, [0]), some (.iload_n 1, 14, []), some (.iastore, 15, []), some (.return_, 16, [])]
def kc_Yd_share : List (Option mjE) := [some (.aload_n 0, 1, []), some (.getfield 24, 4, [0, 2, 20]), none, none, some (.iload_n 1, 5, []), some (.aaload, 6, []), some (.astore_n 3, 7, []), some (.aload_n 3, 8, []), some (.invokevirtual 98, 11, [1, 0, 11, 8, 12, 14, 14, 32, 18, 32]), none, none, some (.istore 4, 13, []), none, some (.iconst 0, 14, [0]), some (.istore 5, 16, []), none, some (.iload 5, 18, []), none, some (.iload 4, 20, []), none, some (.if_icmp .ge 60, 23, [80]), none, none, some (.aload_n 0, 24, []), some (.iload_n 1, 25, []), some (.aload_n 3, 26, []), some (.iload_n 2, 27, []), some (.iload 5, 29, []), none, some (.invokevirtual 76, 32, [1, 2, 11, 33, 12, 33, 14, 33, 18, 33]), none, none, some (.invokevirtual 101, 35, [1, 2, 20, 68]), none, none, some (.istore 6, 37, []), none, some (.iload 6, 39, []), none, some (.bipush 10, 41, [10]), none, some (.if_icmp .lt 33, 44, [74]), none, none, some (.aload_n 0, 45, []), some (.getfield 21, 48, [7, 2, 20]), none, none, some (.iload 6, 50, []), none, some (.bipush 10, 52, [10]), none, some (.isub, 53, []), some (.dup2, 54, []), some (.iaload, 55, []), some (.aload_n 0, 56, []), some (.getfield 21, 59, [7, 2, 20]), none, none, some (.iload_n 1, 60, []), some (.iaload, 61, []), some (.iload 4, 63, []), none, some (.iadd, 64, []), some (.iconst 1, 65, [1]), some (.isub, 66, []), some (.iload 5, 68, []), none, some (.isub, 69, []), some (.iload 4, 71, []), none, some (.idiv, 72, []), some (.iadd, 73, []), some (.iastore, 74, []), some (.iinc 5 1, 77, [1]), none, none, some (.goto (-61), 80, [16]), none, none, some (.return_, 81, [])]
def kc_Yd_nextOf : List (Option mjE) := [some (.iconst 0, 1, [0]), some (.istore_n 2, 2, []), some (.iconst 0, 3, [0]), some (.istore_n 3, 4, []), some (.iload_n 3, 5, []), some (.aload_n 0, 6, []), some (.getfield 34, 9, [1, 0, 20]), none, none, some (.if_icmp .ge 78, 12, [87]), none, none, some (.iload_n 1, 13, []), some (.iload_n 3, 14, []), some (.ishr, 15, []), some (.iconst 1, 16, [1]), some (.iand, 17, []), some (.iconst 1, 18, [1]), some (.if_icmp .ne 63, 21, [81]), none, none, some (.aload_n 0, 22, []), some (.getfield 24, 25, [0, 2, 20]), none, none, some (.iload_n 3, 26, []), some (.aaload, 27, []), some (.getfield 79, 30, [0, 2, 11, 12, 14, 18]), none, none, some (.astore 4, 32, []), none, some (.aload 4, 34, []), none, some (.arraylength, 35, []), some (.istore 5, 37, []), none, some (.iconst 0, 38, [0]), some (.istore 6, 40, []), none, some (.iload 6, 42, []), none, some (.iload 5, 44, []), none, some (.if_icmp .ge 37, 47, [81]), none, none, some (.aload 4, 49, []), none, some (.iload 6, 51, []), none, some (.iaload, 52, []), some (.istore 7, 54, []), none, some (.iload_n 2, 55, []), some (.iload 7, 57, []), none, some (.bipush 10, 59, [10]), none, some (.if_icmp .lt 13, 62, [72]), none, none, some (.iconst 1, 63, [1]), some (.iload 7, 65, []), none, some (.bipush 10, 67, [10]), none, some (.isub, 68, []), some (.ishl, 69, []), some (.goto 4, 72, [73]), none, none, some (.iconst 0, 73, [0]), some (.ior, 74, []), some (.istore_n 2, 75, []), some (.iinc 6 1, 78, [1]), none, none, some (.goto (-38), 81, [40]), none, none, some (.iinc 3 1, 84, [1]), none, none, some (.goto (-80), 87, [4]), none, none, some (.iload_n 2, 88, []), some (.ireturn, 89, [])]
def kc_Yd_reachedFrom : List (Option mjE) := [some (.iload_n 1, 1, []), some (.istore_n 2, 2, []), some (.iconst 0, 3, [0]), some (.istore_n 3, 4, []), some (.iload_n 3, 5, []), some (.aload_n 0, 6, []), some (.getfield 34, 9, [1, 0, 20]), none, none, some (.if_icmp .ge 17, 12, [26]), none, none, some (.iload_n 2, 13, []), some (.aload_n 0, 14, []), some (.iload_n 2, 15, []), some (.invokevirtual 104, 18, [1, 1, 20, 77]), none, none, some (.ior, 19, []), some (.istore_n 2, 20, []), some (.iinc 3 1, 23, [1]), none, none, some (.goto (-19), 26, [4]), none, none, some (.iload_n 2, 27, []), some (.ireturn, 28, [])]
def kc_Yd_hasLoop : List (Option mjE) := [some (.iconst 0, 1, [0]), some (.istore_n 2, 2, []), some (.iload_n 2, 3, []), some (.aload_n 0, 4, []), some (.getfield 34, 7, [1, 0, 20]), none, none, some (.if_icmp .ge 39, 10, [46]), none, none, some (.iload_n 1, 11, []), some (.iload_n 2, 12, []), some (.ishr, 13, []), some (.iconst 1, 14, [1]), some (.iand, 15, []), some (.iconst 1, 16, [1]), some (.if_icmp .ne 24, 19, [40]), none, none, some (.aload_n 0, 20, []), some (.aload_n 0, 21, []), some (.iconst 1, 22, [1]), some (.iload_n 2, 23, []), some (.ishl, 24, []), some (.invokevirtual 104, 27, [1, 1, 20, 77]), none, none, some (.invokevirtual 38, 30, [1, 1, 20, 78]), none, none, some (.iload_n 2, 31, []), some (.ishr, 32, []), some (.iconst 1, 33, [1]), some (.iand, 34, []), some (.iconst 1, 35, [1]), some (.if_icmp .ne 5, 38, [40]), none, none, some (.iconst 1, 39, [1]), some (.ireturn, 40, []), some (.iinc 2 1, 43, [1]), none, none, some (.goto (-41), 46, [2]), none, none, some (.iconst 0, 47, [0]), some (.ireturn, 48, [])]
def kc_Yd_ordered : List (Option mjE) := [some (.iload_n 1, 1, []), some (.invokestatic 107, 4, [0, 1, 186]), none, none, some (.newarray .int, 6, []), none, some (.astore_n 2, 7, []), some (.iconst 0, 8, [0]), some (.istore_n 3, 9, []), some (.aload_n 0, 10, []), some (.getfield 34, 13, [1, 0, 20]), none, none, some (.istore 4, 15, []), none, some (.iload 4, 17, []), none, some (.ifCond .le 61, 20, [78]), none, none, some (.iconst 0, 21, [0]), some (.istore 5, 23, []), none, some (.iload 5, 25, []), none, some (.aload_n 0, 26, []), some (.getfield 34, 29, [1, 0, 20]), none, none, some (.if_icmp .ge 43, 32, [72]), none, none, some (.iload_n 1, 33, []), some (.iload 5, 35, []), none, some (.ishr, 36, []), some (.iconst 1, 37, [1]), some (.iand, 38, []), some (.iconst 1, 39, [1]), some (.if_icmp .ne 27, 42, [66]), none, none, some (.aload_n 0, 43, []), some (.iconst 1, 44, [1]), some (.iload 5, 46, []), none, some (.ishl, 47, []), some (.invokevirtual 38, 50, [1, 1, 20, 78]), none, none, some (.invokestatic 107, 53, [0, 1, 186]), none, none, some (.iload 4, 55, []), none, some (.if_icmp .ne 11, 58, [66]), none, none, some (.aload_n 2, 59, []), some (.iload_n 3, 60, []), some (.iload 5, 62, []), none, some (.iastore, 63, []), some (.iinc 3 1, 66, [1]), none, none, some (.iinc 5 1, 69, [1]), none, none, some (.goto (-46), 72, [23]), none, none, some (.iinc 4 (-1), 75, []), none, none, some (.goto (-60), 78, [15]), none, none, some (.aload_n 2, 79, []), some (.areturn, 80, [])]
def kc_T_init : List (Option mjE) := [some (.aload_n 0, 1, []), some (.invokespecial 3, 4, [5]), none, none, some (.aload_n 0, 5, []), some (.new 9, 8, [13, 2]), none, none, some (.dup, 9, []), some (.invokespecial 11, 12, [2, 0, 15]), none, none, some (.putfield 12, 15, [0, 2, 21]), none, none, some (.aload_n 0, 16, []), some (.new 16, 19, [16, 3]), none, none, some (.dup, 20, []), some (.invokespecial 18, 23, [2, 0, 41]), none, none, some (.putfield 19, 26, [1, 2, 21]), none, none, some (.aload_n 0, 27, []), some (.new 16, 30, [16, 3]), none, none, some (.dup, 31, []), some (.invokespecial 18, 34, [2, 0, 41]), none, none, some (.putfield 23, 37, [2, 2, 21]), none, none, some (.aload_n 0, 38, []), some (.new 26, 41, [15, 2]), none, none, some (.dup, 42, []), some (.invokespecial 28, 45, [2, 0, 36]), none, none, some (.putfield 29, 48, [3, 2, 21]), none, none, some (.aload_n 0, 49, []), some (.new 33, 52, [10, 8]), none, none, some (.dup, 53, []), some (.invokespecial 35, 56, [2, 0, 0]), none, none, some (.putfield 36, 59, [4, 2, 21]), none, none, some (.aload_n 0, 60, []), some (.new 40, 63, [19, 5]), none, none, some (.dup, 64, []), some (.invokespecial 42, 67, [2, 0, 58]), none, none, some (.putfield 43, 70, [5, 2, 21]), none, none, some (.aload_n 0, 71, []), some (.new 47, 74, [17, 5]), none, none, some (.dup, 75, []), some (.aload_n 0, 76, []), some (.getfield 29, 79, [3, 2, 21]), none, none, some (.invokespecial 49, 82, [2, 1, 47]), none, none, some (.putfield 52, 85, [6, 2, 21]), none, none, some (.aload_n 0, 86, []), some (.bipush 8, 88, [8]), none, some (.newarray .int, 90, []), none, some (.putfield 56, 93, [7, 2, 21]), none, none, some (.aload_n 0, 94, []), some (.bipush 10, 96, [10]), none, some (.newarray .int, 98, []), none, some (.putfield 60, 101, [8, 2, 21]), none, none, some (.aload_n 0, 102, []), some (.bipush 10, 104, [10]), none, some (.newarray .int, 106, []), none, some (.putfield 63, 109, [9, 2, 21]), none, none, some (.return_, 110, [])]
def kc_T_letters : List (Option mjE) := [some (.aload_n 0, 1, []), some (.getfield 12, 4, [0, 2, 21]), none, none, some (.lload_n 1, 5, []), some (.invokevirtual 66, 8, [1, 1, 13, 16]), none, none, some (.ireturn, 9, [])]
def kc_T_blank : List (Option mjE) := [some (.aload_n 0, 1, []), some (.getfield 12, 4, [0, 2, 21]), none, none, some (.invokevirtual 70, 7, [1, 0, 13, 17]), none, none, some (.ireturn, 8, [])]
def kc_T_fault : List (Option mjE) := [some (.aload_n 0, 1, []), some (.getfield 12, 4, [0, 2, 21]), none, none, some (.invokevirtual 74, 7, [1, 0, 13, 18]), none, none, some (.ireturn, 8, [])]
def kc_T_yard : List (Option mjE) := [some (.aload_n 0, 1, []), some (.getfield 12, 4, [0, 2, 21]), none, none, some (.invokevirtual 77, 7, [1, 0, 13, 19]), none, none, some (.astore_n 1, 8, []), some (.aload_n 1, 9, []), some (.ifnonnull 6, 12, [15]), none, none, some (.bipush (-103), 14, []), none, some (.ireturn, 15, []), some (.aload_n 0, 16, []), some (.aload_n 1, 17, []), some (.putfield 81, 20, [10, 2, 21]), none, none, some (.aload_n 0, 21, []), some (.getfield 12, 24, [0, 2, 21]), none, none, some (.invokevirtual 70, 27, [1, 0, 13, 17]), none, none, some (.pop, 28, []), some (.aload_n 0, 29, []), some (.getfield 19, 32, [1, 2, 21]), none, none, some (.invokevirtual 85, 35, [1, 0, 16, 42]), none, none, some (.aload_n 0, 36, []), some (.iconst 0, 37, [0]), some (.putfield 88, 40, [11, 1, 21]), none, none, some (.aload_n 0, 41, []), some (.dup, 42, []), some (.getfield 92, 45, [13, 0, 21]), none, none, some (.iconst 1, 46, [1]), some (.iadd, 47, []), some (.putfield 92, 50, [13, 0, 21]), none, none, some (.aload_n 1, 51, []), some (.getfield 96, 54, [1, 0, 20]), none, none, some (.ireturn, 55, [])]
def kc_T_about : List (Option mjE) := [some (.aload_n 0, 1, []), some (.iload_n 1, 2, []), some (.invokevirtual 101, 5, [1, 1, 21, 114]), none, none, some (.ifCond .ne 6, 8, [11]), none, none, some (.bipush (-101), 10, []), none, some (.ireturn, 11, []), some (.aload_n 0, 12, []), some (.getfield 81, 15, [10, 2, 21]), none, none, some (.getfield 105, 18, [0, 2, 20]), none, none, some (.iload_n 1, 19, []), some (.aaload, 20, []), some (.astore_n 3, 21, []), some (.aload_n 0, 22, []), some (.getfield 19, 25, [1, 2, 21]), none, none, some (.getfield 109, 28, [0, 2, 16]), none, none, some (.iload_n 1, 29, []), some (.iaload, 30, []), some (.istore 4, 32, []), none, some (.iload_n 2, 33, []), some (.tableswitch 102 0 12 #[67, 72, 78, 81, 86, 102, 102, 102, 102, 102, 93, 93, 93], 100, [135, 100, 105, 111, 114, 119, 135, 135, 135, 135, 135, 126, 126, 126]), none, none, none, none, none, none, none, none, none, none, none, none, none, none, none, none, none, none, none, none, none, none, none, none, none, none, none, none, none, none, none, none, none, none, none, none, none, none, none, none, none, none, none, none, none, none, none, none, none, none, none, none, none, none, none, none, none, none, none, none, none, none, none, none, none, none, some (.aload_n 3, 101, []), some (.invokevirtual 112, 104, [1, 0, 11, 7, 12, 10, 14, 28, 18, 55]), none, none, some (.ireturn, 105, []), some (.aload_n 3, 106, []), some (.getfield 117, 109, [0, 2, 11, 12, 14, 18]), none, none, some (.arraylength, 110, []), some (.ireturn, 111, []), some (.iload 4, 113, []), none, some (.ireturn, 114, []), some (.aload_n 3, 115, []), some (.invokevirtual 120, 118, [1, 0, 11, 29, 12, 11, 14, 29, 18, 56]), none, none, some (.ireturn, 119, []), some (.aload_n 3, 120, []), some (.iload 4, 122, []), none, some (.invokevirtual 123, 125, [1, 1, 11, 30, 12, 12, 14, 30, 18, 57]), none, none, some (.ireturn, 126, []), some (.aload_n 3, 127, []), some (.iload_n 2, 128, []), some (.bipush 10, 130, [10]), none, some (.isub, 131, []), some (.invokevirtual 127, 134, [1, 1, 11, 34, 12, 34, 14, 34, 18, 34]), none, none, some (.ireturn, 135, []), some (.bipush (-102), 137, []), none, some (.ireturn, 138, [])]
def kc_T_as : List (Option mjE) := [some (.aload_n 0, 1, []), some (.iload_n 1, 2, []), some (.invokevirtual 101, 5, [1, 1, 21, 114]), none, none, some (.ifCond .ne 6, 8, [11]), none, none, some (.bipush (-101), 10, []), none, some (.ireturn, 11, []), some (.iload_n 2, 12, []), some (.ifCond .lt 8, 15, [20]), none, none, some (.iload_n 2, 16, []), some (.iconst 3, 17, [3]), some (.if_icmp .le 6, 20, [23]), none, none, some (.bipush (-102), 22, []), none, some (.ireturn, 23, []), some (.aload_n 0, 24, []), some (.getfield 81, 27, [10, 2, 21]), none, none, some (.getfield 105, 30, [0, 2, 20]), none, none, some (.iload_n 1, 31, []), some (.aaload, 32, []), some (.iload_n 2, 33, []), some (.invokestatic 130, 36, [0, 2, 121]), none, none, some (.ifCond .eq 7, 39, [43]), none, none, some (.iload_n 1, 40, []), some (.goto 4, 43, [44]), none, none, some (.iconst (-1), 44, []), some (.ireturn, 45, [])]
def kc_T_lever : List (Option mjE) := [some (.aload_n 0, 1, []), some (.iload_n 1, 2, []), some (.invokevirtual 101, 5, [1, 1, 21, 114]), none, none, some (.ifCond .ne 6, 8, [11]), none, none, some (.bipush (-101), 10, []), none, some (.ireturn, 11, []), some (.aload_n 0, 12, []), some (.getfield 81, 15, [10, 2, 21]), none, none, some (.getfield 105, 18, [0, 2, 20]), none, none, some (.iload_n 1, 19, []), some (.aaload, 20, []), some (.astore_n 3, 21, []), some (.iload_n 2, 22, []), some (.ifCond .lt 12, 25, [34]), none, none, some (.iload_n 2, 26, []), some (.aload_n 3, 27, []), some (.getfield 117, 30, [0, 2, 11, 12, 14, 18]), none, none, some (.arraylength, 31, []), some (.if_icmp .lt 6, 34, [37]), none, none, some (.bipush (-102), 36, []), none, some (.ireturn, 37, []), some (.aload_n 0, 38, []), some (.getfield 19, 41, [1, 2, 21]), none, none, some (.getfield 109, 44, [0, 2, 16]), none, none, some (.iload_n 1, 45, []), some (.iaload, 46, []), some (.istore 4, 48, []), none, some (.aload_n 0, 49, []), some (.getfield 19, 52, [1, 2, 21]), none, none, some (.getfield 109, 55, [0, 2, 16]), none, none, some (.iload_n 1, 56, []), some (.aload_n 3, 57, []), some (.iload_n 2, 58, []), some (.invokevirtual 134, 61, [1, 1, 11, 31, 12, 13, 14, 31, 18, 31]), none, none, some (.iastore, 62, []), some (.iload 4, 64, []), none, some (.ireturn, 65, [])]
def kc_T_anew : List (Option mjE) := [some (.aload_n 0, 1, []), some (.getfield 81, 4, [10, 2, 21]), none, none, some (.ifnonnull 6, 7, [10]), none, none, some (.bipush (-103), 9, []), none, some (.ireturn, 10, []), some (.aload_n 0, 11, []), some (.getfield 19, 14, [1, 2, 21]), none, none, some (.getfield 137, 17, [2, 0, 16]), none, none, some (.istore_n 1, 18, []), some (.aload_n 0, 19, []), some (.getfield 19, 22, [1, 2, 21]), none, none, some (.invokevirtual 85, 25, [1, 0, 16, 42]), none, none, some (.iload_n 1, 26, []), some (.ireturn, 27, [])]
def kc_T_down : List (Option mjE) := [some (.aload_n 0, 1, []), some (.getfield 81, 4, [10, 2, 21]), none, none, some (.ifnonnull 6, 7, [10]), none, none, some (.bipush (-103), 9, []), none, some (.ireturn, 10, []), some (.aload_n 0, 11, []), some (.getfield 19, 14, [1, 2, 21]), none, none, some (.getfield 137, 17, [2, 0, 16]), none, none, some (.bipush 60, 19, [60]), none, some (.if_icmp .lt 6, 22, [25]), none, none, some (.bipush (-104), 24, []), none, some (.ireturn, 25, []), some (.aload_n 0, 26, []), some (.getfield 29, 29, [3, 2, 21]), none, none, some (.aload_n 0, 30, []), some (.getfield 81, 33, [10, 2, 21]), none, none, some (.aload_n 0, 34, []), some (.getfield 19, 37, [1, 2, 21]), none, none, some (.getfield 109, 40, [0, 2, 16]), none, none, some (.iconst (-1), 41, []), some (.invokevirtual 140, 44, [1, 3, 15, 37]), none, none, some (.istore_n 1, 45, []), some (.iload_n 1, 46, []), some (.iconst (-1), 47, []), some (.if_icmp .eq 11, 50, [58]), none, none, some (.aload_n 0, 51, []), some (.getfield 19, 54, [1, 2, 21]), none, none, some (.iload_n 1, 55, []), some (.invokevirtual 144, 58, [1, 1, 16, 44]), none, none, some (.iload_n 1, 59, []), some (.ireturn, 60, [])]
def kc_T_many : List (Option mjE) := [some (.iload_n 1, 1, []), some (.invokestatic 148, 4, [0, 1, 120]), none, none, some (.ifCond .eq 14, 7, [18]), none, none, some (.aload_n 0, 8, []), some (.getfield 19, 11, [1, 2, 21]), none, none, some (.iload_n 1, 12, []), some (.invokevirtual 151, 15, [1, 1, 16, 45]), none, none, some (.goto 5, 18, [20]), none, none, some (.bipush (-101), 20, []), none, some (.ireturn, 21, [])]
def kc_T_truck : List (Option mjE) := [some (.iload_n 1, 1, []), some (.invokestatic 148, 4, [0, 1, 120]), none, none, some (.ifCond .ne 6, 7, [10]), none, none, some (.bipush (-101), 9, []), none, some (.ireturn, 10, []), some (.iload_n 2, 11, []), some (.ifCond .lt 9, 14, [20]), none, none, some (.iload_n 2, 15, []), some (.bipush 60, 17, [60]), none, some (.if_icmp .lt 6, 20, [23]), none, none, some (.bipush (-102), 22, []), none, some (.ireturn, 23, []), some (.aload_n 0, 24, []), some (.getfield 19, 27, [1, 2, 21]), none, none, some (.iload_n 1, 28, []), some (.iload_n 2, 29, []), some (.invokevirtual 154, 32, [1, 2, 16, 46]), none, none, some (.ireturn, 33, [])]
def kc_T_moves : List (Option mjE) := [some (.aload_n 0, 1, []), some (.getfield 81, 4, [10, 2, 21]), none, none, some (.ifnonnull 6, 7, [10]), none, none, some (.bipush (-103), 9, []), none, some (.ireturn, 10, []), some (.aload_n 0, 11, []), some (.getfield 29, 14, [3, 2, 21]), none, none, some (.aload_n 0, 15, []), some (.getfield 81, 18, [10, 2, 21]), none, none, some (.aload_n 0, 19, []), some (.invokevirtual 158, 22, [1, 0, 21, 117]), none, none, some (.iconst (-1), 23, []), some (.invokevirtual 140, 26, [1, 3, 15, 37]), none, none, some (.pop, 27, []), some (.aload_n 0, 28, []), some (.getfield 29, 31, [3, 2, 21]), none, none, some (.getfield 162, 34, [1, 0, 15]), none, none, some (.ireturn, 35, [])]
def kc_T_round : List (Option mjE) := [some (.aload_n 0, 1, []), some (.getfield 81, 4, [10, 2, 21]), none, none, some (.ifnonnull 6, 7, [10]), none, none, some (.bipush (-103), 9, []), none, some (.ireturn, 10, []), some (.aload_n 0, 11, []), some (.getfield 29, 14, [3, 2, 21]), none, none, some (.aload_n 0, 15, []), some (.getfield 81, 18, [10, 2, 21]), none, none, some (.aload_n 0, 19, []), some (.invokevirtual 158, 22, [1, 0, 21, 117]), none, none, some (.invokevirtual 165, 25, [1, 2, 15, 38]), none, none, some (.ireturn, 26, [])]
def kc_T_straight : List (Option mjE) := [some (.aload_n 0, 1, []), some (.getfield 81, 4, [10, 2, 21]), none, none, some (.ifnonnull 6, 7, [10]), none, none, some (.bipush (-103), 9, []), none, some (.ireturn, 10, []), some (.aload_n 0, 11, []), some (.getfield 81, 14, [10, 2, 21]), none, none, some (.getfield 169, 17, [2, 1, 20]), none, none, some (.ifCond .eq 7, 20, [24]), none, none, some (.iconst 1, 21, [1]), some (.goto 4, 24, [25]), none, none, some (.iconst 0, 25, [0]), some (.ireturn, 26, [])]
def kc_T_nth : List (Option mjE) := [some (.aload_n 0, 1, []), some (.invokevirtual 172, 4, [1, 0, 21, 115]), none, none, some (.ifCond .ne 6, 7, [10]), none, none, some (.bipush (-103), 9, []), none, some (.ireturn, 10, []), some (.iload_n 1, 11, []), some (.iconst 1, 12, [1]), some (.if_icmp .lt 9, 15, [21]), none, none, some (.iload_n 1, 16, []), some (.ldc 176, 18, [1000000]), none, some (.if_icmp .le 6, 21, [24]), none, none, some (.bipush (-102), 23, []), none, some (.ireturn, 24, []), some (.aload_n 0, 25, []), some (.invokevirtual 158, 28, [1, 0, 21, 117]), none, none, some (.astore_n 2, 29, []), some (.aload_n 0, 30, []), some (.getfield 81, 33, [10, 2, 21]), none, none, some (.iload_n 1, 34, []), some (.iconst 1, 35, [1]), some (.isub, 36, []), some (.aload_n 2, 37, []), some (.invokevirtual 177, 40, [1, 2, 20, 73]), none, none, some (.aload_n 0, 41, []), some (.getfield 29, 44, [3, 2, 21]), none, none, some (.aload_n 0, 45, []), some (.getfield 81, 48, [10, 2, 21]), none, none, some (.aload_n 2, 49, []), some (.iconst (-1), 50, []), some (.invokevirtual 140, 53, [1, 3, 15, 37]), none, none, some (.ireturn, 54, [])]
def kc_T_behind : List (Option mjE) := [some (.aload_n 0, 1, []), some (.iload_n 2, 2, []), some (.invokevirtual 101, 5, [1, 1, 21, 114]), none, none, some (.ifCond .ne 6, 8, [11]), none, none, some (.bipush (-101), 10, []), none, some (.ireturn, 11, []), some (.aload_n 0, 12, []), some (.invokevirtual 172, 15, [1, 0, 21, 115]), none, none, some (.ifCond .ne 6, 18, [21]), none, none, some (.bipush (-103), 20, []), none, some (.ireturn, 21, []), some (.iload_n 1, 22, []), some (.iconst 1, 23, [1]), some (.if_icmp .lt 9, 26, [32]), none, none, some (.iload_n 1, 27, []), some (.ldc 176, 29, [1000000]), none, some (.if_icmp .le 6, 32, [35]), none, none, some (.bipush (-102), 34, []), none, some (.ireturn, 35, []), some (.aload_n 0, 36, []), some (.invokevirtual 158, 39, [1, 0, 21, 117]), none, none, some (.astore_n 3, 40, []), some (.aload_n 0, 41, []), some (.getfield 81, 44, [10, 2, 21]), none, none, some (.iload_n 1, 45, []), some (.aload_n 3, 46, []), some (.invokevirtual 177, 49, [1, 2, 20, 73]), none, none, some (.aload_n 3, 50, []), some (.iload_n 2, 51, []), some (.iaload, 52, []), some (.ireturn, 53, [])]
def kc_T_ago : List (Option mjE) := [some (.aload_n 0, 1, []), some (.iload_n 2, 2, []), some (.invokevirtual 101, 5, [1, 1, 21, 114]), none, none, some (.ifCond .ne 6, 8, [11]), none, none, some (.bipush (-101), 10, []), none, some (.ireturn, 11, []), some (.aload_n 0, 12, []), some (.invokevirtual 172, 15, [1, 0, 21, 115]), none, none, some (.ifCond .ne 6, 18, [21]), none, none, some (.bipush (-103), 20, []), none, some (.ireturn, 21, []), some (.iload_n 1, 22, []), some (.ifCond .lt 9, 25, [31]), none, none, some (.iload_n 1, 26, []), some (.ldc 176, 28, [1000000]), none, some (.if_icmp .le 6, 31, [34]), none, none, some (.bipush (-102), 33, []), none, some (.ireturn, 34, []), some (.aload_n 0, 35, []), some (.invokevirtual 158, 38, [1, 0, 21, 117]), none, none, some (.astore_n 3, 39, []), some (.aload_n 0, 40, []), some (.getfield 81, 43, [10, 2, 21]), none, none, some (.iload_n 1, 44, []), some (.aload_n 3, 45, []), some (.invokevirtual 181, 48, [1, 2, 20, 74]), none, none, some (.aload_n 3, 49, []), some (.iload_n 2, 50, []), some (.iaload, 51, []), some (.ireturn, 52, [])]
def kc_T_want : List (Option mjE) := [some (.iload_n 1, 1, []), some (.invokestatic 148, 4, [0, 1, 120]), none, none, some (.ifCond .ne 6, 7, [10]), none, none, some (.bipush (-101), 9, []), none, some (.ireturn, 10, []), some (.aload_n 0, 11, []), some (.getfield 184, 14, [12, 0, 21]), none, none, some (.bipush 8, 16, [8]), none, some (.if_icmp .lt 6, 19, [22]), none, none, some (.bipush (-104), 21, []), none, some (.ireturn, 22, []), some (.aload_n 0, 23, []), some (.getfield 56, 26, [7, 2, 21]), none, none, some (.aload_n 0, 27, []), some (.getfield 184, 30, [12, 0, 21]), none, none, some (.iload_n 1, 31, []), some (.iastore, 32, []), some (.aload_n 0, 33, []), some (.dup, 34, []), some (.getfield 184, 37, [12, 0, 21]), none, none, some (.iconst 1, 38, [1]), some (.iadd, 39, []), some (.putfield 184, 42, [12, 0, 21]), none, none, some (.aload_n 0, 43, []), some (.getfield 184, 46, [12, 0, 21]), none, none, some (.ireturn, 47, [])]
def kc_T_clear : List (Option mjE) := [some (.aload_n 0, 1, []), some (.getfield 184, 4, [12, 0, 21]), none, none, some (.istore_n 1, 5, []), some (.aload_n 0, 6, []), some (.iconst 0, 7, [0]), some (.putfield 184, 10, [12, 0, 21]), none, none, some (.iload_n 1, 11, []), some (.ireturn, 12, [])]
def kc_T_begin : List (Option mjE) := [some (.aload_n 0, 1, []), some (.getfield 81, 4, [10, 2, 21]), none, none, some (.ifnonnull 6, 7, [10]), none, none, some (.bipush (-103), 9, []), none, some (.ireturn, 10, []), some (.iload_n 1, 11, []), some (.ifCond .eq 18, 14, [29]), none, none, some (.iload_n 1, 15, []), some (.bipush 10, 17, [10]), none, some (.if_icmp .lt 9, 20, [26]), none, none, some (.iload_n 1, 21, []), some (.bipush 16, 23, [16]), none, some (.if_icmp .lt 6, 26, [29]), none, none, some (.bipush (-102), 28, []), none, some (.ireturn, 29, []), some (.aload_n 0, 30, []), some (.invokevirtual 187, 33, [1, 0, 21, 116]), none, none, some (.ifCond .ne 6, 36, [39]), none, none, some (.bipush (-103), 38, []), none, some (.ireturn, 39, []), some (.aload_n 0, 40, []), some (.dup, 41, []), some (.getfield 190, 44, [14, 0, 21]), none, none, some (.iconst 1, 45, [1]), some (.iadd, 46, []), some (.putfield 190, 49, [14, 0, 21]), none, none, some (.aload_n 0, 50, []), some (.getfield 36, 53, [4, 2, 21]), none, none, some (.aload_n 0, 54, []), some (.getfield 81, 57, [10, 2, 21]), none, none, some (.aload_n 0, 58, []), some (.getfield 19, 61, [1, 2, 21]), none, none, some (.getfield 109, 64, [0, 2, 16]), none, none, some (.aload_n 0, 65, []), some (.getfield 56, 68, [7, 2, 21]), none, none, some (.aload_n 0, 69, []), some (.getfield 184, 72, [12, 0, 21]), none, none, some (.invokevirtual 193, 75, [1, 4, 10, 1]), none, none, some (.ifCond .ne 5, 78, [80]), none, none, some (.iconst (-1), 79, []), some (.ireturn, 80, []), some (.iload_n 1, 81, []), some (.ifCond .ne 11, 84, [92]), none, none, some (.aload_n 0, 85, []), some (.getfield 36, 88, [4, 2, 21]), none, none, some (.getfield 197, 91, [3, 0, 10]), none, none, some (.ireturn, 92, []), some (.iload_n 1, 93, []), some (.bipush 10, 95, [10]), none, some (.isub, 96, []), some (.aload_n 0, 97, []), some (.getfield 81, 100, [10, 2, 21]), none, none, some (.getfield 96, 103, [1, 0, 20]), none, none, some (.if_icmp .ge 18, 106, [121]), none, none, some (.aload_n 0, 107, []), some (.getfield 36, 110, [4, 2, 21]), none, none, some (.getfield 200, 113, [2, 2, 10]), none, none, some (.iload_n 1, 114, []), some (.bipush 10, 116, [10]), none, some (.isub, 117, []), some (.iaload, 118, []), some (.goto 4, 121, [122]), none, none, some (.iconst (-1), 122, []), some (.ireturn, 123, [])]
def kc_T_hands : List (Option mjE) := [some (.aload_n 0, 1, []), some (.invokevirtual 172, 4, [1, 0, 21, 115]), none, none, some (.ifCond .eq 10, 7, [14]), none, none, some (.aload_n 0, 8, []), some (.invokevirtual 187, 11, [1, 0, 21, 116]), none, none, some (.ifCond .ne 6, 14, [17]), none, none, some (.bipush (-103), 16, []), none, some (.ireturn, 17, []), some (.aload_n 0, 18, []), some (.dup, 19, []), some (.getfield 190, 22, [14, 0, 21]), none, none, some (.iconst 1, 23, [1]), some (.iadd, 24, []), some (.putfield 190, 27, [14, 0, 21]), none, none, some (.aload_n 0, 28, []), some (.getfield 43, 31, [5, 2, 21]), none, none, some (.aload_n 0, 32, []), some (.getfield 81, 35, [10, 2, 21]), none, none, some (.aload_n 0, 36, []), some (.getfield 19, 39, [1, 2, 21]), none, none, some (.getfield 109, 42, [0, 2, 16]), none, none, some (.aload_n 0, 43, []), some (.getfield 56, 46, [7, 2, 21]), none, none, some (.aload_n 0, 47, []), some (.getfield 184, 50, [12, 0, 21]), none, none, some (.invokevirtual 203, 53, [1, 4, 19, 59]), none, none, some (.ireturn, 54, [])]
def kc_T_empty : List (Option mjE) := [some (.iload_n 1, 1, []), some (.invokestatic 148, 4, [0, 1, 120]), none, none, some (.ifCond .ne 6, 7, [10]), none, none, some (.bipush (-101), 9, []), none, some (.ireturn, 10, []), some (.aload_n 0, 11, []), some (.getfield 81, 14, [10, 2, 21]), none, none, some (.ifnonnull 6, 17, [20]), none, none, some (.bipush (-103), 19, []), none, some (.ireturn, 20, []), some (.aload_n 0, 21, []), some (.invokevirtual 206, 24, [1, 0, 21, 118]), none, none, some (.aload_n 0, 25, []), some (.getfield 63, 28, [9, 2, 21]), none, none, some (.iload_n 1, 29, []), some (.iaload, 30, []), some (.ireturn, 31, [])]
def kc_T_which : List (Option mjE) := [some (.aload_n 0, 1, []), some (.getfield 81, 4, [10, 2, 21]), none, none, some (.ifnull 10, 7, [14]), none, none, some (.aload_n 0, 8, []), some (.getfield 184, 11, [12, 0, 21]), none, none, some (.ifCond .ne 6, 14, [17]), none, none, some (.bipush (-103), 16, []), none, some (.ireturn, 17, []), some (.iconst 0, 18, [0]), some (.istore_n 1, 19, []), some (.iconst 0, 20, [0]), some (.istore_n 2, 21, []), some (.iload_n 2, 22, []), some (.aload_n 0, 23, []), some (.getfield 81, 26, [10, 2, 21]), none, none, some (.getfield 96, 29, [1, 0, 20]), none, none, some (.if_icmp .ge 23, 32, [52]), none, none, some (.aload_n 0, 33, []), some (.iload_n 2, 34, []), some (.invokevirtual 209, 37, [1, 1, 21, 119]), none, none, some (.ifCond .eq 9, 40, [46]), none, none, some (.iload_n 1, 41, []), some (.iconst 1, 42, [1]), some (.iload_n 2, 43, []), some (.ishl, 44, []), some (.ior, 45, []), some (.istore_n 1, 46, []), some (.iinc 2 1, 49, [1]), none, none, some (.goto (-28), 52, [21]), none, none, some (.aload_n 0, 53, []), some (.iconst (-1), 54, []), some (.invokevirtual 209, 57, [1, 1, 21, 119]), none, none, some (.ifCond .eq 11, 60, [68]), none, none, some (.iload_n 1, 61, []), some (.sipush 1024, 64, [1024]), none, none, some (.ior, 65, []), some (.goto 4, 68, [69]), none, none, some (.iload_n 1, 69, []), some (.ireturn, 70, [])]
def kc_T_noticed : List (Option mjE) := [some (.aload_n 0, 1, []), some (.getfield 81, 4, [10, 2, 21]), none, none, some (.ifnonnull 6, 7, [10]), none, none, some (.bipush (-103), 9, []), none, some (.ireturn, 10, []), some (.aload_n 0, 11, []), some (.getfield 52, 14, [6, 2, 21]), none, none, some (.aload_n 0, 15, []), some (.getfield 81, 18, [10, 2, 21]), none, none, some (.aload_n 0, 19, []), some (.getfield 19, 22, [1, 2, 21]), none, none, some (.getfield 109, 25, [0, 2, 16]), none, none, some (.invokevirtual 212, 28, [1, 2, 17, 48]), none, none, some (.aload_n 0, 29, []), some (.getfield 52, 32, [6, 2, 21]), none, none, some (.aload_n 0, 33, []), some (.getfield 52, 36, [6, 2, 21]), none, none, some (.invokevirtual 216, 39, [1, 0, 17, 49]), none, none, some (.invokevirtual 219, 42, [1, 1, 17, 51]), none, none, some (.ireturn, 43, [])]
def kc_T_apart : List (Option mjE) := [some (.aload_n 0, 1, []), some (.getfield 81, 4, [10, 2, 21]), none, none, some (.ifnonnull 6, 7, [10]), none, none, some (.bipush (-103), 9, []), none, some (.ireturn, 10, []), some (.aload_n 0, 11, []), some (.getfield 52, 14, [6, 2, 21]), none, none, some (.aload_n 0, 15, []), some (.getfield 81, 18, [10, 2, 21]), none, none, some (.aload_n 0, 19, []), some (.getfield 19, 22, [1, 2, 21]), none, none, some (.getfield 109, 25, [0, 2, 16]), none, none, some (.invokevirtual 212, 28, [1, 2, 17, 48]), none, none, some (.aload_n 0, 29, []), some (.getfield 52, 32, [6, 2, 21]), none, none, some (.aload_n 0, 33, []), some (.getfield 52, 36, [6, 2, 21]), none, none, some (.invokevirtual 216, 39, [1, 0, 17, 49]), none, none, some (.aload_n 0, 40, []), some (.getfield 52, 43, [6, 2, 21]), none, none, some (.invokevirtual 222, 46, [1, 0, 17, 50]), none, none, some (.invokestatic 225, 49, [0, 2, 188]), none, none, some (.invokevirtual 219, 52, [1, 1, 17, 51]), none, none, some (.ireturn, 53, [])]
def kc_T_image : List (Option mjE) := [some (.aload_n 0, 1, []), some (.getfield 81, 4, [10, 2, 21]), none, none, some (.ifnonnull 6, 7, [10]), none, none, some (.bipush (-103), 9, []), none, some (.ireturn, 10, []), some (.aload_n 0, 11, []), some (.getfield 23, 14, [2, 2, 21]), none, none, some (.aload_n 0, 15, []), some (.getfield 19, 18, [1, 2, 21]), none, none, some (.invokevirtual 230, 21, [1, 1, 16, 43]), none, none, some (.aload_n 0, 22, []), some (.iconst 1, 23, [1]), some (.putfield 88, 26, [11, 1, 21]), none, none, some (.aload_n 0, 27, []), some (.getfield 23, 30, [2, 2, 21]), none, none, some (.getfield 137, 33, [2, 0, 16]), none, none, some (.ireturn, 34, [])]
def kc_T_restore : List (Option mjE) := [some (.aload_n 0, 1, []), some (.getfield 88, 4, [11, 1, 21]), none, none, some (.ifCond .ne 6, 7, [10]), none, none, some (.bipush (-103), 9, []), none, some (.ireturn, 10, []), some (.aload_n 0, 11, []), some (.getfield 19, 14, [1, 2, 21]), none, none, some (.aload_n 0, 15, []), some (.getfield 23, 18, [2, 2, 21]), none, none, some (.invokevirtual 230, 21, [1, 1, 16, 43]), none, none, some (.aload_n 0, 22, []), some (.getfield 19, 25, [1, 2, 21]), none, none, some (.getfield 137, 28, [2, 0, 16]), none, none, some (.ireturn, 29, [])]
def kc_T_count : List (Option mjE) := [some (.iload_n 1, 1, []), some (.tableswitch 89 0 5 #[39, 58, 66, 71, 79, 84], 40, [90, 40, 59, 67, 72, 80, 85]), none, none, none, none, none, none, none, none, none, none, none, none, none, none, none, none, none, none, none, none, none, none, none, none, none, none, none, none, none, none, none, none, none, none, none, none, none, none, some (.aload_n 0, 41, []), some (.getfield 81, 44, [10, 2, 21]), none, none, some (.ifnonnull 7, 47, [51]), none, none, some (.iconst 0, 48, [0]), some (.goto 10, 51, [58]), none, none, some (.aload_n 0, 52, []), some (.getfield 81, 55, [10, 2, 21]), none, none, some (.getfield 96, 58, [1, 0, 20]), none, none, some (.ireturn, 59, []), some (.aload_n 0, 60, []), some (.getfield 19, 63, [1, 2, 21]), none, none, some (.getfield 137, 66, [2, 0, 16]), none, none, some (.ireturn, 67, []), some (.aload_n 0, 68, []), some (.getfield 184, 71, [12, 0, 21]), none, none, some (.ireturn, 72, []), some (.aload_n 0, 73, []), some (.getfield 12, 76, [0, 2, 21]), none, none, some (.getfield 234, 79, [1, 0, 13]), none, none, some (.ireturn, 80, []), some (.aload_n 0, 81, []), some (.getfield 92, 84, [13, 0, 21]), none, none, some (.ireturn, 85, []), some (.aload_n 0, 86, []), some (.getfield 190, 89, [14, 0, 21]), none, none, some (.ireturn, 90, []), some (.bipush (-102), 92, []), none, some (.ireturn, 93, [])]
def kc_T_digest : List (Option mjE) := [some (.aload_n 0, 1, []), some (.ldc2_w 235, 4, [521]), none, none, some (.invokevirtual 237, 7, [1, 1, 21, 111]), none, none, some (.lstore_n 1, 8, []), some (.aload_n 0, 9, []), some (.lload_n 1, 10, []), some (.invokevirtual 241, 13, [1, 1, 21, 112]), none, none, some (.lstore_n 1, 14, []), some (.aload_n 0, 15, []), some (.getfield 81, 18, [10, 2, 21]), none, none, some (.ifnull 21, 21, [39]), none, none, some (.aload_n 0, 22, []), some (.lload_n 1, 23, []), some (.invokevirtual 244, 26, [1, 1, 21, 113]), none, none, some (.lstore_n 1, 27, []), some (.ldc2_w 247, 30, [31]), none, none, some (.lload_n 1, 31, []), some (.lmul, 32, []), some (.aload_n 0, 33, []), some (.invokevirtual 249, 36, [1, 0, 21, 105]), none, none, some (.i2l, 37, []), some (.ladd, 38, []), some (.lstore_n 1, 39, []), some (.iconst 0, 40, [0]), some (.istore_n 3, 41, []), some (.iload_n 3, 42, []), some (.aload_n 0, 43, []), some (.getfield 184, 46, [12, 0, 21]), none, none, some (.if_icmp .ge 23, 49, [69]), none, none, some (.ldc2_w 247, 52, [31]), none, none, some (.lload_n 1, 53, []), some (.lmul, 54, []), some (.aload_n 0, 55, []), some (.getfield 56, 58, [7, 2, 21]), none, none, some (.iload_n 3, 59, []), some (.iaload, 60, []), some (.i2l, 61, []), some (.ladd, 62, []), some (.lstore_n 1, 63, []), some (.iinc 3 1, 66, [1]), none, none, some (.goto (-25), 69, [41]), none, none, some (.iconst 0, 70, [0]), some (.istore_n 3, 71, []), some (.iload_n 3, 72, []), some (.aload_n 0, 73, []), some (.getfield 12, 76, [0, 2, 21]), none, none, some (.getfield 234, 79, [1, 0, 13]), none, none, some (.if_icmp .ge 26, 82, [105]), none, none, some (.ldc2_w 247, 85, [31]), none, none, some (.lload_n 1, 86, []), some (.lmul, 87, []), some (.aload_n 0, 88, []), some (.getfield 12, 91, [0, 2, 21]), none, none, some (.getfield 252, 94, [0, 2, 13]), none, none, some (.iload_n 3, 95, []), some (.iaload, 96, []), some (.i2l, 97, []), some (.ladd, 98, []), some (.lstore_n 1, 99, []), some (.iinc 3 1, 102, [1]), none, none, some (.goto (-31), 105, [71]), none, none, some (.iconst 0, 106, [0]), some (.istore_n 3, 107, []), some (.iload_n 3, 108, []), some (.iconst 5, 109, [5]), some (.if_icmp .gt 22, 112, [131]), none, none, some (.ldc2_w 247, 115, [31]), none, none, some (.lload_n 1, 116, []), some (.lmul, 117, []), some (.aload_n 0, 118, []), some (.iload_n 3, 119, []), some (.invokevirtual 255, 122, [1, 1, 21, 109]), none, none, some (.i2l, 123, []), some (.ladd, 124, []), some (.lstore_n 1, 125, []), some (.iinc 3 1, 128, [1]), none, none, some (.goto (-21), 131, [107]), none, none, some (.lload_n 1, 132, []), some (.lreturn, 133, [])]
def kc_T_digestOfSwitches : List (Option mjE) := [some (.lload_n 1, 1, []), some (.lstore_n 3, 2, []), some (.aload_n 0, 3, []), some (.iconst 0, 4, [0]), some (.invokevirtual 255, 7, [1, 1, 21, 109]), none, none, some (.istore 5, 9, []), none, some (.iconst 0, 10, [0]), some (.istore 6, 12, []), none, some (.iload 6, 14, []), none, some (.iload 5, 16, []), none, some (.if_icmp .ge 73, 19, [89]), none, none, some (.iconst 0, 20, [0]), some (.istore 7, 22, []), none, some (.iload 7, 24, []), none, some (.iconst 4, 25, [4]), some (.if_icmp .gt 25, 28, [50]), none, none, some (.ldc2_w 247, 31, [31]), none, none, some (.lload_n 3, 32, []), some (.lmul, 33, []), some (.aload_n 0, 34, []), some (.iload 6, 36, []), none, some (.iload 7, 38, []), none, some (.invokevirtual 258, 41, [1, 2, 21, 86]), none, none, some (.i2l, 42, []), some (.ladd, 43, []), some (.lstore_n 3, 44, []), some (.iinc 7 1, 47, [1]), none, none, some (.goto (-25), 50, [22]), none, none, some (.bipush 10, 52, [10]), none, some (.istore 7, 54, []), none, some (.iload 7, 56, []), none, some (.bipush 12, 58, [12]), none, some (.if_icmp .gt 25, 61, [83]), none, none, some (.ldc2_w 247, 64, [31]), none, none, some (.lload_n 3, 65, []), some (.lmul, 66, []), some (.aload_n 0, 67, []), some (.iload 6, 69, []), none, some (.iload 7, 71, []), none, some (.invokevirtual 258, 74, [1, 2, 21, 86]), none, none, some (.i2l, 75, []), some (.ladd, 76, []), some (.lstore_n 3, 77, []), some (.iinc 7 1, 80, [1]), none, none, some (.goto (-26), 83, [54]), none, none, some (.iinc 6 1, 86, [1]), none, none, some (.goto (-74), 89, [12]), none, none, some (.lload_n 3, 90, []), some (.lreturn, 91, [])]
def kc_T_digestOfSidings : List (Option mjE) := [some (.lload_n 1, 1, []), some (.lstore_n 3, 2, []), some (.iconst 0, 3, [0]), some (.istore 5, 5, []), none, some (.iload 5, 7, []), none, some (.bipush 10, 9, [10]), none, some (.if_icmp .ge 65, 12, [74]), none, none, some (.aload_n 0, 13, []), some (.getfield 19, 16, [1, 2, 21]), none, none, some (.iload 5, 18, []), none, some (.invokevirtual 151, 21, [1, 1, 16, 45]), none, none, some (.istore 6, 23, []), none, some (.ldc2_w 247, 26, [31]), none, none, some (.lload_n 3, 27, []), some (.lmul, 28, []), some (.iload 6, 30, []), none, some (.i2l, 31, []), some (.ladd, 32, []), some (.lstore_n 3, 33, []), some (.iconst 0, 34, [0]), some (.istore 7, 36, []), none, some (.iload 7, 38, []), none, some (.iload 6, 40, []), none, some (.if_icmp .ge 28, 43, [68]), none, none, some (.ldc2_w 247, 46, [31]), none, none, some (.lload_n 3, 47, []), some (.lmul, 48, []), some (.aload_n 0, 49, []), some (.getfield 19, 52, [1, 2, 21]), none, none, some (.iload 5, 54, []), none, some (.iload 7, 56, []), none, some (.invokevirtual 154, 59, [1, 2, 16, 46]), none, none, some (.i2l, 60, []), some (.ladd, 61, []), some (.lstore_n 3, 62, []), some (.iinc 7 1, 65, [1]), none, none, some (.goto (-29), 68, [36]), none, none, some (.iinc 5 1, 71, [1]), none, none, some (.goto (-66), 74, [5]), none, none, some (.lload_n 3, 75, []), some (.lreturn, 76, [])]
def kc_T_digestOfTrials : List (Option mjE) := [some (.ldc2_w 247, 3, [31]), none, none, some (.lload_n 1, 4, []), some (.lmul, 5, []), some (.aload_n 0, 6, []), some (.invokevirtual 261, 9, [1, 0, 21, 93]), none, none, some (.i2l, 10, []), some (.ladd, 11, []), some (.lstore_n 3, 12, []), some (.ldc2_w 247, 15, [31]), none, none, some (.lload_n 3, 16, []), some (.lmul, 17, []), some (.aload_n 0, 18, []), some (.invokevirtual 264, 21, [1, 0, 21, 95]), none, none, some (.i2l, 22, []), some (.ladd, 23, []), some (.lstore_n 3, 24, []), some (.aload_n 0, 25, []), some (.invokevirtual 206, 28, [1, 0, 21, 118]), none, none, some (.iconst 0, 29, [0]), some (.istore 5, 31, []), none, some (.iload 5, 33, []), none, some (.bipush 10, 35, [10]), none, some (.if_icmp .ge 24, 38, [59]), none, none, some (.ldc2_w 247, 41, [31]), none, none, some (.lload_n 3, 42, []), some (.lmul, 43, []), some (.aload_n 0, 44, []), some (.getfield 63, 47, [9, 2, 21]), none, none, some (.iload 5, 49, []), none, some (.iaload, 50, []), some (.i2l, 51, []), some (.ladd, 52, []), some (.lstore_n 3, 53, []), some (.iinc 5 1, 56, [1]), none, none, some (.goto (-25), 59, [31]), none, none, some (.lload_n 3, 60, []), some (.lreturn, 61, [])]
def kc_T_isPoint : List (Option mjE) := [some (.aload_n 0, 1, []), some (.getfield 81, 4, [10, 2, 21]), none, none, some (.ifnull 22, 7, [26]), none, none, some (.iload_n 1, 8, []), some (.ifCond .lt 18, 11, [26]), none, none, some (.iload_n 1, 12, []), some (.aload_n 0, 13, []), some (.getfield 81, 16, [10, 2, 21]), none, none, some (.getfield 96, 19, [1, 0, 20]), none, none, some (.if_icmp .ge 7, 22, [26]), none, none, some (.iconst 1, 23, [1]), some (.goto 4, 26, [27]), none, none, some (.iconst 0, 27, [0]), some (.ireturn, 28, [])]
def kc_T_isStraightYard : List (Option mjE) := [some (.aload_n 0, 1, []), some (.getfield 81, 4, [10, 2, 21]), none, none, some (.ifnull 17, 7, [21]), none, none, some (.aload_n 0, 8, []), some (.getfield 81, 11, [10, 2, 21]), none, none, some (.getfield 169, 14, [2, 1, 20]), none, none, some (.ifCond .eq 7, 17, [21]), none, none, some (.iconst 1, 18, [1]), some (.goto 4, 21, [22]), none, none, some (.iconst 0, 22, [0]), some (.ireturn, 23, [])]
def kc_T_mayPlan : List (Option mjE) := [some (.aload_n 0, 1, []), some (.getfield 81, 4, [10, 2, 21]), none, none, some (.ifnull 35, 7, [39]), none, none, some (.aload_n 0, 8, []), some (.getfield 81, 11, [10, 2, 21]), none, none, some (.getfield 96, 14, [1, 0, 20]), none, none, some (.bipush 6, 16, [6]), none, some (.if_icmp .gt 23, 19, [39]), none, none, some (.aload_n 0, 20, []), some (.getfield 184, 23, [12, 0, 21]), none, none, some (.ifCond .le 16, 26, [39]), none, none, some (.aload_n 0, 27, []), some (.getfield 190, 30, [14, 0, 21]), none, none, some (.bipush 20, 32, [20]), none, some (.if_icmp .ge 7, 35, [39]), none, none, some (.iconst 1, 36, [1]), some (.goto 4, 39, [40]), none, none, some (.iconst 0, 40, [0]), some (.ireturn, 41, [])]
def kc_T_spareStands : List (Option mjE) := [some (.aload_n 0, 1, []), some (.getfield 19, 4, [1, 2, 21]), none, none, some (.getfield 109, 7, [0, 2, 16]), none, none, some (.iconst 0, 8, [0]), some (.aload_n 0, 9, []), some (.getfield 60, 12, [8, 2, 21]), none, none, some (.iconst 0, 13, [0]), some (.bipush 10, 15, [10]), none, some (.invokestatic 267, 18, [6]), none, none, some (.aload_n 0, 19, []), some (.getfield 60, 22, [8, 2, 21]), none, none, some (.areturn, 23, [])]
def kc_T_findEmptyAhead : List (Option mjE) := [some (.aload_n 0, 1, []), some (.invokevirtual 158, 4, [1, 0, 21, 117]), none, none, some (.astore_n 1, 5, []), some (.aload_n 0, 6, []), some (.getfield 63, 9, [9, 2, 21]), none, none, some (.iconst (-1), 10, []), some (.invokestatic 273, 13, [0, 2, 190]), none, none, some (.iconst 0, 14, [0]), some (.istore_n 2, 15, []), some (.iload_n 2, 16, []), some (.sipush 200, 19, [200]), none, none, some (.if_icmp .gt 48, 22, [67]), none, none, some (.aload_n 0, 23, []), some (.getfield 29, 26, [3, 2, 21]), none, none, some (.aload_n 0, 27, []), some (.getfield 81, 30, [10, 2, 21]), none, none, some (.aload_n 1, 31, []), some (.iconst (-1), 32, []), some (.invokevirtual 140, 35, [1, 3, 15, 37]), none, none, some (.istore_n 3, 36, []), some (.iload_n 3, 37, []), some (.invokestatic 148, 40, [0, 1, 120]), none, none, some (.ifCond .ne 4, 43, [44]), none, none, some (.return_, 44, []), some (.aload_n 0, 45, []), some (.getfield 63, 48, [9, 2, 21]), none, none, some (.iload_n 3, 49, []), some (.iaload, 50, []), some (.iconst (-1), 51, []), some (.if_icmp .ne 10, 54, [61]), none, none, some (.aload_n 0, 55, []), some (.getfield 63, 58, [9, 2, 21]), none, none, some (.iload_n 3, 59, []), some (.iload_n 2, 60, []), some (.iastore, 61, []), some (.iinc 2 1, 64, [1]), none, none, some (.goto (-49), 67, [15]), none, none, some (.return_, 68, [])]
def kc_T_isExplainedBy : List (Option mjE) := [some (.aload_n 0, 1, []), some (.invokevirtual 158, 4, [1, 0, 21, 117]), none, none, some (.astore_n 2, 5, []), some (.iconst 0, 6, [0]), some (.istore_n 3, 7, []), some (.iload_n 3, 8, []), some (.aload_n 0, 9, []), some (.getfield 184, 12, [12, 0, 21]), none, none, some (.if_icmp .ge 33, 15, [45]), none, none, some (.aload_n 0, 16, []), some (.getfield 29, 19, [3, 2, 21]), none, none, some (.aload_n 0, 20, []), some (.getfield 81, 23, [10, 2, 21]), none, none, some (.aload_n 2, 24, []), some (.iload_n 1, 25, []), some (.invokevirtual 140, 28, [1, 3, 15, 37]), none, none, some (.aload_n 0, 29, []), some (.getfield 56, 32, [7, 2, 21]), none, none, some (.iload_n 3, 33, []), some (.iaload, 34, []), some (.if_icmp .eq 5, 37, [39]), none, none, some (.iconst 0, 38, [0]), some (.ireturn, 39, []), some (.iinc 3 1, 42, [1]), none, none, some (.goto (-35), 45, [7]), none, none, some (.iconst 1, 46, [1]), some (.ireturn, 47, [])]
def kc_T_isSiding : List (Option mjE) := [some (.iload_n 0, 1, []), some (.ifCond .lt 13, 4, [14]), none, none, some (.iload_n 0, 5, []), some (.bipush 10, 7, [10]), none, some (.if_icmp .ge 7, 10, [14]), none, none, some (.iconst 1, 11, [1]), some (.goto 4, 14, [15]), none, none, some (.iconst 0, 15, [0]), some (.ireturn, 16, [])]
def kc_T_canBeTakenAs : List (Option mjE) := [some (.iload_n 1, 1, []), some (.tableswitch 42 1 3 #[27, 32, 37], 28, [43, 28, 33, 38]), none, none, none, none, none, none, none, none, none, none, none, none, none, none, none, none, none, none, none, none, none, none, none, none, none, none, some (.aload_n 0, 29, []), some (.instanceof 279, 32, [14, 0, 11, 1, 12, 1, 18, 0]), none, none, some (.ireturn, 33, []), some (.aload_n 0, 34, []), some (.instanceof 281, 37, [14, 0, 11, 0, 12, 0, 18, 1]), none, none, some (.ireturn, 38, []), some (.aload_n 0, 39, []), some (.instanceof 283, 42, [14, 0, 11, 0, 12, 1, 18, 0]), none, none, some (.ireturn, 43, []), some (.iconst 1, 44, [1]), some (.ireturn, 45, [])]
def kc_M_init : List (Option mjE) := [some (.aload_n 0, 1, []), some (.invokespecial 1, 4, [5]), none, none, some (.aload_n 0, 5, []), some (.bipush 50, 7, [50]), none, some (.newarray .int, 9, []), none, some (.putfield 7, 12, [0, 2, 22]), none, none, some (.aload_n 0, 13, []), some (.bipush 10, 15, [10]), none, some (.newarray .int, 17, []), none, some (.putfield 13, 20, [6, 2, 22]), none, none, some (.aload_n 0, 21, []), some (.bipush 10, 23, [10]), none, some (.newarray .int, 25, []), none, some (.putfield 16, 28, [7, 2, 22]), none, none, some (.aload_n 0, 29, []), some (.bipush 30, 31, [30]), none, some (.newarray .int, 33, []), none, some (.putfield 19, 36, [8, 2, 22]), none, none, some (.aload_n 0, 37, []), some (.bipush 10, 39, [10]), none, some (.newarray .int, 41, []), none, some (.putfield 22, 44, [11, 2, 22]), none, none, some (.aload_n 0, 45, []), some (.bipush 10, 47, [10]), none, some (.newarray .int, 49, []), none, some (.putfield 25, 52, [12, 2, 22]), none, none, some (.aload_n 0, 53, []), some (.bipush 30, 55, [30]), none, some (.newarray .int, 57, []), none, some (.putfield 28, 60, [13, 2, 22]), none, none, some (.aload_n 0, 61, []), some (.bipush 10, 63, [10]), none, some (.newarray .int, 65, []), none, some (.putfield 31, 68, [14, 2, 22]), none, none, some (.aload_n 0, 69, []), some (.bipush 60, 71, [60]), none, some (.newarray .int, 73, []), none, some (.putfield 34, 76, [16, 2, 22]), none, none, some (.aload_n 0, 77, []), some (.bipush 10, 79, [10]), none, some (.newarray .int, 81, []), none, some (.putfield 37, 84, [17, 2, 22]), none, none, some (.aload_n 0, 85, []), some (.bipush 10, 87, [10]), none, some (.newarray .int, 89, []), none, some (.putfield 40, 92, [18, 2, 22]), none, none, some (.aload_n 0, 93, []), some (.bipush 10, 95, [10]), none, some (.newarray .int, 97, []), none, some (.putfield 43, 100, [21, 2, 22]), none, none, some (.aload_n 0, 101, []), some (.bipush 8, 103, [8]), none, some (.newarray .int, 105, []), none, some (.putfield 46, 108, [23, 2, 22]), none, none, some (.aload_n 0, 109, []), some (.bipush 10, 111, [10]), none, some (.newarray .int, 113, []), none, some (.putfield 49, 116, [25, 2, 22]), none, none, some (.aload_n 0, 117, []), some (.ldc 52, 119, [46656]), none, some (.newarray .int, 121, []), none, some (.putfield 53, 124, [26, 2, 22]), none, none, some (.aload_n 0, 125, []), some (.ldc 52, 127, [46656]), none, some (.newarray .int, 129, []), none, some (.putfield 56, 132, [27, 2, 22]), none, none, some (.aload_n 0, 133, []), some (.sipush 440, 136, [440]), none, none, some (.newarray .int, 138, []), none, some (.putfield 59, 141, [28, 2, 22]), none, none, some (.aload_n 0, 142, []), some (.bipush 10, 144, [10]), none, some (.newarray .int, 146, []), none, some (.putfield 62, 149, [31, 2, 22]), none, none, some (.aload_n 0, 150, []), some (.bipush 60, 152, [60]), none, some (.newarray .int, 154, []), none, some (.putfield 65, 157, [32, 2, 22]), none, none, some (.aload_n 0, 158, []), some (.iconst (-1), 159, []), some (.putfield 68, 162, [29, 0, 22]), none, none, some (.return_, 163, [])]
def kc_M_in : List (Option mjE) := [some (.lload_n 0, 1, []), some (.lload_n 2, 2, []), some (.lcmp, 3, []), some (.ifCond .lt 14, 6, [17]), none, none, some (.lload_n 0, 7, []), some (.lload 4, 9, []), none, some (.lcmp, 10, []), some (.ifCond .gt 7, 13, [17]), none, none, some (.iconst 1, 14, [1]), some (.goto 4, 17, [18]), none, none, some (.iconst 0, 18, [0]), some (.ireturn, 19, [])]
def kc_M_letters : List (Option mjE) := [some (.iconst 0, 1, [0]), some (.istore_n 3, 2, []), some (.iconst 1, 3, [1]), some (.istore 4, 5, []), none, some (.lload_n 1, 6, []), some (.lstore 5, 8, []), none, some (.iconst 0, 9, [0]), some (.istore 7, 11, []), none, some (.iload 7, 13, []), none, some (.bipush 8, 15, [8]), none, some (.if_icmp .ge 68, 18, [83]), none, none, some (.lload 5, 20, []), none, some (.ldc2_w 72, 23, [255]), none, none, some (.land, 24, []), some (.l2i, 25, []), some (.istore 8, 27, []), none, some (.lload 5, 29, []), none, some (.bipush 8, 31, [8]), none, some (.lushr, 32, []), some (.lstore 5, 34, []), none, some (.iload 4, 36, []), none, some (.ifCond .eq 25, 39, [61]), none, none, some (.iload 8, 41, []), none, some (.bipush 126, 43, [126]), none, some (.if_icmp .gt 18, 46, [61]), none, none, some (.iload 8, 48, []), none, some (.ifCond .eq 9, 51, [57]), none, none, some (.iload_n 3, 52, []), some (.iload 7, 54, []), none, some (.if_icmp .ne 7, 57, [61]), none, none, some (.iconst 1, 58, [1]), some (.goto 4, 61, [62]), none, none, some (.iconst 0, 62, [0]), some (.istore 4, 64, []), none, some (.iload_n 3, 65, []), some (.iload 8, 67, []), none, some (.ifCond .le 7, 70, [74]), none, none, some (.iconst 1, 71, [1]), some (.goto 4, 74, [75]), none, none, some (.iconst 0, 75, [0]), some (.iadd, 76, []), some (.istore_n 3, 77, []), some (.iinc 7 1, 80, [1]), none, none, some (.goto (-69), 83, [11]), none, none, some (.iload 4, 85, []), none, some (.ifCond .ne 6, 88, [91]), none, none, some (.bipush (-102), 90, []), none, some (.ireturn, 91, []), some (.aload_n 0, 92, []), some (.getfield 74, 95, [1, 0, 22]), none, none, some (.iload_n 3, 96, []), some (.iadd, 97, []), some (.bipush 50, 99, [50]), none, some (.if_icmp .le 6, 102, [105]), none, none, some (.bipush (-104), 104, []), none, some (.ireturn, 105, []), some (.iconst 0, 106, [0]), some (.istore 7, 108, []), none, some (.iload 7, 110, []), none, some (.iload_n 3, 111, []), some (.if_icmp .ge 40, 114, [151]), none, none, some (.aload_n 0, 115, []), some (.getfield 7, 118, [0, 2, 22]), none, none, some (.aload_n 0, 119, []), some (.getfield 74, 122, [1, 0, 22]), none, none, some (.lload_n 1, 123, []), some (.bipush 8, 125, [8]), none, some (.iload 7, 127, []), none, some (.imul, 128, []), some (.lushr, 129, []), some (.ldc2_w 72, 132, [255]), none, none, some (.land, 133, []), some (.l2i, 134, []), some (.iastore, 135, []), some (.aload_n 0, 136, []), some (.dup, 137, []), some (.getfield 74, 140, [1, 0, 22]), none, none, some (.iconst 1, 141, [1]), some (.iadd, 142, []), some (.putfield 74, 145, [1, 0, 22]), none, none, some (.iinc 7 1, 148, [1]), none, none, some (.goto (-40), 151, [108]), none, none, some (.aload_n 0, 152, []), some (.getfield 74, 155, [1, 0, 22]), none, none, some (.ireturn, 156, [])]
def kc_M_blank : List (Option mjE) := [some (.aload_n 0, 1, []), some (.getfield 74, 4, [1, 0, 22]), none, none, some (.istore_n 1, 5, []), some (.aload_n 0, 6, []), some (.iconst 0, 7, [0]), some (.putfield 74, 10, [1, 0, 22]), none, none, some (.iload_n 1, 11, []), some (.ireturn, 12, [])]
def kc_M_signOf : List (Option mjE) := [some (.iload_n 0, 1, []), some (.bipush 61, 3, [61]), none, some (.if_icmp .ne 7, 6, [10]), none, none, some (.iconst 1, 7, [1]), some (.goto 24, 10, [31]), none, none, some (.iload_n 0, 11, []), some (.bipush 126, 13, [126]), none, some (.if_icmp .ne 7, 16, [20]), none, none, some (.iconst 2, 17, [2]), some (.goto 14, 20, [31]), none, none, some (.iload_n 0, 21, []), some (.bipush 94, 23, [94]), none, some (.if_icmp .ne 7, 26, [30]), none, none, some (.iconst 3, 27, [3]), some (.goto 4, 30, [31]), none, none, some (.iconst 0, 31, [0]), some (.ireturn, 32, [])]
def kc_M_go : List (Option mjE) := [some (.iload_n 1, 1, []), some (.invokestatic 77, 4, [0, 1, 126]), none, none, some (.ifCond .le 43, 7, [47]), none, none, some (.aload_n 0, 8, []), some (.getfield 81, 11, [3, 0, 22]), none, none, some (.ifCond .ne 14, 14, [25]), none, none, some (.aload_n 0, 15, []), some (.getfield 84, 18, [4, 1, 22]), none, none, some (.ifCond .ne 7, 21, [25]), none, none, some (.iconst 1, 22, [1]), some (.goto 4, 25, [26]), none, none, some (.iconst 0, 26, [0]), some (.istore_n 2, 27, []), some (.aload_n 0, 28, []), some (.getfield 13, 31, [6, 2, 22]), none, none, some (.aload_n 0, 32, []), some (.getfield 88, 35, [2, 0, 22]), none, none, some (.iload_n 1, 36, []), some (.invokestatic 77, 39, [0, 1, 126]), none, none, some (.iastore, 40, []), some (.aload_n 0, 41, []), some (.iconst 1, 42, [1]), some (.putfield 84, 45, [4, 1, 22]), none, none, some (.iload_n 2, 46, []), some (.ireturn, 47, []), some (.iload_n 1, 48, []), some (.bipush 59, 50, [59]), none, some (.if_icmp .ne 92, 53, [142]), none, none, some (.aload_n 0, 54, []), some (.getfield 81, 57, [3, 0, 22]), none, none, some (.ifCond .le 16, 60, [73]), none, none, some (.aload_n 0, 61, []), some (.getfield 88, 64, [2, 0, 22]), none, none, some (.bipush 9, 66, [9]), none, some (.if_icmp .ge 7, 69, [73]), none, none, some (.iconst 1, 70, [1]), some (.goto 4, 73, [74]), none, none, some (.iconst 0, 74, [0]), some (.istore_n 2, 75, []), some (.aload_n 0, 76, []), some (.dup, 77, []), some (.getfield 88, 80, [2, 0, 22]), none, none, some (.iload_n 2, 81, []), some (.ifCond .eq 7, 84, [88]), none, none, some (.iconst 1, 85, [1]), some (.goto 4, 88, [89]), none, none, some (.iconst 0, 89, [0]), some (.iadd, 90, []), some (.putfield 88, 93, [2, 0, 22]), none, none, some (.aload_n 0, 94, []), some (.getfield 13, 97, [6, 2, 22]), none, none, some (.aload_n 0, 98, []), some (.getfield 88, 101, [2, 0, 22]), none, none, some (.iload_n 2, 102, []), some (.ifCond .eq 7, 105, [109]), none, none, some (.iconst 0, 106, [0]), some (.goto 12, 109, [118]), none, none, some (.aload_n 0, 110, []), some (.getfield 13, 113, [6, 2, 22]), none, none, some (.aload_n 0, 114, []), some (.getfield 88, 117, [2, 0, 22]), none, none, some (.iaload, 118, []), some (.iastore, 119, []), some (.aload_n 0, 120, []), some (.iload_n 2, 121, []), some (.ifCond .eq 7, 124, [128]), none, none, some (.iconst 0, 125, [0]), some (.goto 7, 128, [132]), none, none, some (.aload_n 0, 129, []), some (.getfield 81, 132, [3, 0, 22]), none, none, some (.putfield 81, 135, [3, 0, 22]), none, none, some (.aload_n 0, 136, []), some (.iconst 0, 137, [0]), some (.putfield 84, 140, [4, 1, 22]), none, none, some (.iload_n 2, 141, []), some (.ireturn, 142, []), some (.iload_n 1, 143, []), some (.i2l, 144, []), some (.ldc2_w 91, 147, [48]), none, none, some (.ldc2_w 93, 150, [57]), none, none, some (.invokestatic 95, 153, [0, 3, 123]), none, none, some (.istore_n 2, 154, []), some (.iload_n 2, 155, []), some (.ifCond .ne 17, 158, [172]), none, none, some (.iload_n 1, 159, []), some (.i2l, 160, []), some (.ldc2_w 99, 163, [97]), none, none, some (.ldc2_w 101, 166, [106]), none, none, some (.invokestatic 95, 169, [0, 3, 123]), none, none, some (.ifCond .eq 11, 172, [180]), none, none, some (.aload_n 0, 173, []), some (.getfield 81, 176, [3, 0, 22]), none, none, some (.iconst 3, 177, [3]), some (.if_icmp .ne 5, 180, [182]), none, none, some (.iconst 0, 181, [0]), some (.ireturn, 182, []), some (.iload_n 2, 183, []), some (.ifCond .eq 10, 186, [193]), none, none, some (.iload_n 1, 187, []), some (.bipush 48, 189, [48]), none, some (.isub, 190, []), some (.goto 10, 193, [200]), none, none, some (.bipush 10, 195, [10]), none, some (.iload_n 1, 196, []), some (.iadd, 197, []), some (.bipush 97, 199, [97]), none, some (.isub, 200, []), some (.istore_n 3, 201, []), some (.aload_n 0, 202, []), some (.getfield 19, 205, [8, 2, 22]), none, none, some (.iconst 3, 206, [3]), some (.aload_n 0, 207, []), some (.getfield 88, 210, [2, 0, 22]), none, none, some (.imul, 211, []), some (.aload_n 0, 212, []), some (.getfield 81, 215, [3, 0, 22]), none, none, some (.iadd, 216, []), some (.iload_n 3, 217, []), some (.iastore, 218, []), some (.aload_n 0, 219, []), some (.dup, 220, []), some (.getfield 81, 223, [3, 0, 22]), none, none, some (.iconst 1, 224, [1]), some (.iadd, 225, []), some (.putfield 81, 228, [3, 0, 22]), none, none, some (.aload_n 0, 229, []), some (.getfield 16, 232, [7, 2, 22]), none, none, some (.aload_n 0, 233, []), some (.getfield 88, 236, [2, 0, 22]), none, none, some (.aload_n 0, 237, []), some (.getfield 81, 240, [3, 0, 22]), none, none, some (.iastore, 241, []), some (.aload_n 0, 242, []), some (.iload_n 3, 243, []), some (.bipush 10, 245, [10]), none, some (.isub, 246, []), some (.aload_n 0, 247, []), some (.getfield 103, 250, [5, 0, 22]), none, none, some (.if_icmp .le 10, 253, [260]), none, none, some (.iload_n 3, 254, []), some (.bipush 10, 256, [10]), none, some (.isub, 257, []), some (.goto 7, 260, [264]), none, none, some (.aload_n 0, 261, []), some (.getfield 103, 264, [5, 0, 22]), none, none, some (.putfield 103, 267, [5, 0, 22]), none, none, some (.iconst 1, 268, [1]), some (.ireturn, 269, [])]
def kc_M_faultOf : List (Option mjE) := [some (.aload_n 0, 1, []), some (.iconst 0, 2, [0]), some (.putfield 88, 5, [2, 0, 22]), none, none, some (.aload_n 0, 6, []), some (.iconst 0, 7, [0]), some (.putfield 81, 10, [3, 0, 22]), none, none, some (.aload_n 0, 11, []), some (.iconst 0, 12, [0]), some (.putfield 84, 15, [4, 1, 22]), none, none, some (.aload_n 0, 16, []), some (.iconst 0, 17, [0]), some (.putfield 103, 20, [5, 0, 22]), none, none, some (.aload_n 0, 21, []), some (.getfield 13, 24, [6, 2, 22]), none, none, some (.iconst 0, 25, [0]), some (.iconst 0, 26, [0]), some (.iastore, 27, []), some (.iconst 0, 28, [0]), some (.istore_n 1, 29, []), some (.iload_n 1, 30, []), some (.aload_n 0, 31, []), some (.getfield 74, 34, [1, 0, 22]), none, none, some (.if_icmp .ge 22, 37, [56]), none, none, some (.aload_n 0, 38, []), some (.aload_n 0, 39, []), some (.getfield 7, 42, [0, 2, 22]), none, none, some (.iload_n 1, 43, []), some (.iaload, 44, []), some (.invokevirtual 106, 47, [1, 1, 22, 127]), none, none, some (.ifCond .eq 9, 50, [56]), none, none, some (.iinc 1 1, 53, [1]), none, none, some (.goto (-24), 56, [29]), none, none, some (.iload_n 1, 57, []), some (.ireturn, 58, [])]
def kc_M_fault : List (Option mjE) := [some (.aload_n 0, 1, []), some (.invokevirtual 110, 4, [1, 0, 22, 128]), none, none, some (.ireturn, 5, [])]
def kc_M_yard : List (Option mjE) := [some (.aload_n 0, 1, []), some (.invokevirtual 110, 4, [1, 0, 22, 128]), none, none, some (.aload_n 0, 5, []), some (.getfield 74, 8, [1, 0, 22]), none, none, some (.if_icmp .lt 21, 11, [29]), none, none, some (.aload_n 0, 12, []), some (.getfield 81, 15, [3, 0, 22]), none, none, some (.ifCond .eq 14, 18, [29]), none, none, some (.aload_n 0, 19, []), some (.getfield 103, 22, [5, 0, 22]), none, none, some (.aload_n 0, 23, []), some (.getfield 88, 26, [2, 0, 22]), none, none, some (.if_icmp .le 6, 29, [32]), none, none, some (.bipush (-103), 31, []), none, some (.ireturn, 32, []), some (.aload_n 0, 33, []), some (.aload_n 0, 34, []), some (.getfield 88, 37, [2, 0, 22]), none, none, some (.iconst 1, 38, [1]), some (.iadd, 39, []), some (.putfield 114, 42, [9, 0, 22]), none, none, some (.iconst 0, 43, [0]), some (.istore_n 1, 44, []), some (.iload_n 1, 45, []), some (.aload_n 0, 46, []), some (.getfield 114, 49, [9, 0, 22]), none, none, some (.if_icmp .ge 87, 52, [136]), none, none, some (.aload_n 0, 53, []), some (.getfield 22, 56, [11, 2, 22]), none, none, some (.iload_n 1, 57, []), some (.aload_n 0, 58, []), some (.getfield 13, 61, [6, 2, 22]), none, none, some (.iload_n 1, 62, []), some (.iaload, 63, []), some (.iastore, 64, []), some (.aload_n 0, 65, []), some (.getfield 25, 68, [12, 2, 22]), none, none, some (.iload_n 1, 69, []), some (.aload_n 0, 70, []), some (.getfield 16, 73, [7, 2, 22]), none, none, some (.iload_n 1, 74, []), some (.iaload, 75, []), some (.iastore, 76, []), some (.aload_n 0, 77, []), some (.getfield 31, 80, [14, 2, 22]), none, none, some (.iload_n 1, 81, []), some (.iconst 0, 82, [0]), some (.iastore, 83, []), some (.iconst 0, 84, [0]), some (.istore_n 2, 85, []), some (.iload_n 2, 86, []), some (.iconst 3, 87, [3]), some (.if_icmp .ge 43, 90, [130]), none, none, some (.aload_n 0, 91, []), some (.getfield 28, 94, [13, 2, 22]), none, none, some (.iconst 3, 95, [3]), some (.iload_n 1, 96, []), some (.imul, 97, []), some (.iload_n 2, 98, []), some (.iadd, 99, []), some (.iload_n 2, 100, []), some (.aload_n 0, 101, []), some (.getfield 25, 104, [12, 2, 22]), none, none, some (.iload_n 1, 105, []), some (.iaload, 106, []), some (.if_icmp .ge 16, 109, [122]), none, none, some (.aload_n 0, 110, []), some (.getfield 19, 113, [8, 2, 22]), none, none, some (.iconst 3, 114, [3]), some (.iload_n 1, 115, []), some (.imul, 116, []), some (.iload_n 2, 117, []), some (.iadd, 118, []), some (.iaload, 119, []), some (.goto 4, 122, [123]), none, none, some (.iconst (-1), 123, []), some (.iastore, 124, []), some (.iinc 2 1, 127, [1]), none, none, some (.goto (-42), 130, [85]), none, none, some (.iinc 1 1, 133, [1]), none, none, some (.goto (-89), 136, [44]), none, none, some (.aload_n 0, 137, []), some (.iconst 0, 138, [0]), some (.putfield 117, 141, [15, 0, 22]), none, none, some (.aload_n 0, 142, []), some (.dup, 143, []), some (.getfield 120, 146, [10, 0, 22]), none, none, some (.iconst 1, 147, [1]), some (.iadd, 148, []), some (.putfield 120, 151, [10, 0, 22]), none, none, some (.aload_n 0, 152, []), some (.iconst 0, 153, [0]), some (.putfield 74, 156, [1, 0, 22]), none, none, some (.aload_n 0, 157, []), some (.getfield 114, 160, [9, 0, 22]), none, none, some (.ireturn, 161, [])]
def kc_M_isPoint : List (Option mjE) := [some (.iload_n 1, 1, []), some (.i2l, 2, []), some (.lconst 0, 3, []), some (.aload_n 0, 4, []), some (.getfield 114, 7, [9, 0, 22]), none, none, some (.iconst 1, 8, [1]), some (.isub, 9, []), some (.i2l, 10, []), some (.invokestatic 95, 13, [0, 3, 123]), none, none, some (.ireturn, 14, [])]
def kc_M_lacks : List (Option mjE) := [some (.aload_n 0, 1, []), some (.getfield 114, 4, [9, 0, 22]), none, none, some (.ifCond .ne 7, 7, [11]), none, none, some (.iconst 1, 8, [1]), some (.goto 4, 11, [12]), none, none, some (.iconst 0, 12, [0]), some (.ireturn, 13, [])]
def kc_M_standMany : List (Option mjE) := [some (.aload_n 0, 1, []), some (.getfield 25, 4, [12, 2, 22]), none, none, some (.iload_n 1, 5, []), some (.iaload, 6, []), some (.istore_n 2, 7, []), some (.aload_n 0, 8, []), some (.getfield 22, 11, [11, 2, 22]), none, none, some (.iload_n 1, 12, []), some (.iaload, 13, []), some (.iconst 2, 14, [2]), some (.if_icmp .ne 20, 17, [34]), none, none, some (.iload_n 2, 18, []), some (.iconst 1, 19, [1]), some (.if_icmp .ne 7, 22, [26]), none, none, some (.iconst 1, 23, [1]), some (.goto 28, 26, [51]), none, none, some (.iconst 2, 27, [2]), some (.iload_n 2, 28, []), some (.imul, 29, []), some (.iconst 2, 30, [2]), some (.isub, 31, []), some (.goto 20, 34, [51]), none, none, some (.aload_n 0, 35, []), some (.getfield 22, 38, [11, 2, 22]), none, none, some (.iload_n 1, 39, []), some (.iaload, 40, []), some (.iconst 3, 41, [3]), some (.if_icmp .ne 9, 44, [50]), none, none, some (.iconst 2, 45, [2]), some (.iload_n 2, 46, []), some (.imul, 47, []), some (.goto 4, 50, [51]), none, none, some (.iload_n 2, 51, []), some (.ireturn, 52, [])]
def kc_M_wayAt : List (Option mjE) := [some (.aload_n 0, 1, []), some (.getfield 25, 4, [12, 2, 22]), none, none, some (.iload_n 1, 5, []), some (.iaload, 6, []), some (.istore_n 3, 7, []), some (.aload_n 0, 8, []), some (.getfield 22, 11, [11, 2, 22]), none, none, some (.iload_n 1, 12, []), some (.iaload, 13, []), some (.iconst 2, 14, [2]), some (.if_icmp .ne 22, 17, [36]), none, none, some (.iload_n 2, 18, []), some (.iload_n 3, 19, []), some (.if_icmp .ge 7, 22, [26]), none, none, some (.iload_n 2, 23, []), some (.goto 30, 26, [53]), none, none, some (.iconst 2, 27, [2]), some (.iload_n 3, 28, []), some (.imul, 29, []), some (.iconst 2, 30, [2]), some (.isub, 31, []), some (.iload_n 2, 32, []), some (.isub, 33, []), some (.goto 20, 36, [53]), none, none, some (.aload_n 0, 37, []), some (.getfield 22, 40, [11, 2, 22]), none, none, some (.iload_n 1, 41, []), some (.iaload, 42, []), some (.iconst 3, 43, [3]), some (.if_icmp .ne 9, 46, [52]), none, none, some (.iload_n 2, 47, []), some (.iconst 2, 48, [2]), some (.idiv, 49, []), some (.goto 4, 52, [53]), none, none, some (.iload_n 2, 53, []), some (.ireturn, 54, [])]
def kc_M_turned : List (Option mjE) := [some (.aload_n 0, 1, []), some (.getfield 22, 4, [11, 2, 22]), none, none, some (.iload_n 1, 5, []), some (.iaload, 6, []), some (.iconst 1, 7, [1]), some (.if_icmp .ne 7, 10, [14]), none, none, some (.iload_n 2, 11, []), some (.goto 12, 14, [23]), none, none, some (.iload_n 2, 15, []), some (.iconst 1, 16, [1]), some (.iadd, 17, []), some (.aload_n 0, 18, []), some (.iload_n 1, 19, []), some (.invokevirtual 123, 22, [1, 1, 22, 133]), none, none, some (.irem, 23, []), some (.ireturn, 24, [])]
def kc_M_aboutOf : List (Option mjE) := [some (.iload_n 2, 1, []), some (.tableswitch 120 0 12 #[67, 74, 81, 88, 94, 120, 120, 120, 120, 120, 106, 106, 106], 68, [121, 68, 75, 82, 89, 95, 121, 121, 121, 121, 121, 107, 107, 107]), none, none, none, none, none, none, none, none, none, none, none, none, none, none, none, none, none, none, none, none, none, none, none, none, none, none, none, none, none, none, none, none, none, none, none, none, none, none, none, none, none, none, none, none, none, none, none, none, none, none, none, none, none, none, none, none, none, none, none, none, none, none, none, none, none, none, some (.aload_n 0, 69, []), some (.getfield 22, 72, [11, 2, 22]), none, none, some (.iload_n 1, 73, []), some (.iaload, 74, []), some (.ireturn, 75, []), some (.aload_n 0, 76, []), some (.getfield 25, 79, [12, 2, 22]), none, none, some (.iload_n 1, 80, []), some (.iaload, 81, []), some (.ireturn, 82, []), some (.aload_n 0, 83, []), some (.getfield 31, 86, [14, 2, 22]), none, none, some (.iload_n 1, 87, []), some (.iaload, 88, []), some (.ireturn, 89, []), some (.aload_n 0, 90, []), some (.iload_n 1, 91, []), some (.invokevirtual 123, 94, [1, 1, 22, 133]), none, none, some (.ireturn, 95, []), some (.aload_n 0, 96, []), some (.iload_n 1, 97, []), some (.aload_n 0, 98, []), some (.getfield 31, 101, [14, 2, 22]), none, none, some (.iload_n 1, 102, []), some (.iaload, 103, []), some (.invokevirtual 126, 106, [1, 2, 22, 134]), none, none, some (.ireturn, 107, []), some (.aload_n 0, 108, []), some (.getfield 28, 111, [13, 2, 22]), none, none, some (.iconst 3, 112, [3]), some (.iload_n 1, 113, []), some (.imul, 114, []), some (.iload_n 2, 115, []), some (.iadd, 116, []), some (.bipush 10, 118, [10]), none, some (.isub, 119, []), some (.iaload, 120, []), some (.ireturn, 121, []), some (.bipush (-102), 123, []), none, some (.ireturn, 124, [])]
def kc_M_about : List (Option mjE) := [some (.aload_n 0, 1, []), some (.iload_n 1, 2, []), some (.invokevirtual 130, 5, [1, 1, 22, 131]), none, none, some (.ifCond .eq 12, 8, [17]), none, none, some (.aload_n 0, 9, []), some (.iload_n 1, 10, []), some (.iload_n 2, 11, []), some (.invokevirtual 133, 14, [1, 2, 22, 136]), none, none, some (.goto 5, 17, [19]), none, none, some (.bipush (-101), 19, []), none, some (.ireturn, 20, [])]
def kc_M_as : List (Option mjE) := [some (.aload_n 0, 1, []), some (.iload_n 1, 2, []), some (.invokevirtual 130, 5, [1, 1, 22, 131]), none, none, some (.ifCond .ne 6, 8, [11]), none, none, some (.bipush (-101), 10, []), none, some (.ireturn, 11, []), some (.iload_n 2, 12, []), some (.i2l, 13, []), some (.lconst 0, 14, []), some (.ldc2_w 136, 17, [3]), none, none, some (.invokestatic 95, 20, [0, 3, 123]), none, none, some (.ifCond .ne 6, 23, [26]), none, none, some (.bipush (-102), 25, []), none, some (.ireturn, 26, []), some (.iload_n 2, 27, []), some (.ifCond .eq 28, 30, [55]), none, none, some (.iload_n 2, 31, []), some (.aload_n 0, 32, []), some (.getfield 22, 35, [11, 2, 22]), none, none, some (.iload_n 1, 36, []), some (.iaload, 37, []), some (.if_icmp .eq 18, 40, [55]), none, none, some (.iload_n 2, 41, []), some (.iconst 1, 42, [1]), some (.if_icmp .ne 17, 45, [59]), none, none, some (.aload_n 0, 46, []), some (.getfield 22, 49, [11, 2, 22]), none, none, some (.iload_n 1, 50, []), some (.iaload, 51, []), some (.iconst 3, 52, [3]), some (.if_icmp .ne 7, 55, [59]), none, none, some (.iconst 1, 56, [1]), some (.goto 4, 59, [60]), none, none, some (.iconst 0, 60, [0]), some (.istore_n 3, 61, []), some (.iload_n 3, 62, []), some (.ifCond .eq 7, 65, [69]), none, none, some (.iload_n 1, 66, []), some (.goto 4, 69, [70]), none, none, some (.iconst (-1), 70, []), some (.ireturn, 71, [])]
def kc_M_leastStand : List (Option mjE) := [some (.iconst 0, 1, [0]), some (.istore_n 3, 2, []), some (.aload_n 0, 3, []), some (.iload_n 1, 4, []), some (.iload_n 3, 5, []), some (.invokevirtual 126, 8, [1, 2, 22, 134]), none, none, some (.iload_n 2, 9, []), some (.if_icmp .eq 9, 12, [18]), none, none, some (.iinc 3 1, 15, [1]), none, none, some (.goto (-13), 18, [2]), none, none, some (.iload_n 3, 19, []), some (.ireturn, 20, [])]
def kc_M_lever : List (Option mjE) := [some (.aload_n 0, 1, []), some (.iload_n 1, 2, []), some (.invokevirtual 130, 5, [1, 1, 22, 131]), none, none, some (.ifCond .ne 6, 8, [11]), none, none, some (.bipush (-101), 10, []), none, some (.ireturn, 11, []), some (.iload_n 2, 12, []), some (.i2l, 13, []), some (.lconst 0, 14, []), some (.aload_n 0, 15, []), some (.getfield 25, 18, [12, 2, 22]), none, none, some (.iload_n 1, 19, []), some (.iaload, 20, []), some (.iconst 1, 21, [1]), some (.isub, 22, []), some (.i2l, 23, []), some (.invokestatic 95, 26, [0, 3, 123]), none, none, some (.ifCond .ne 6, 29, [32]), none, none, some (.bipush (-102), 31, []), none, some (.ireturn, 32, []), some (.aload_n 0, 33, []), some (.getfield 31, 36, [14, 2, 22]), none, none, some (.iload_n 1, 37, []), some (.iaload, 38, []), some (.istore_n 3, 39, []), some (.aload_n 0, 40, []), some (.getfield 31, 43, [14, 2, 22]), none, none, some (.iload_n 1, 44, []), some (.aload_n 0, 45, []), some (.iload_n 1, 46, []), some (.iload_n 2, 47, []), some (.invokevirtual 138, 50, [1, 2, 22, 139]), none, none, some (.iastore, 51, []), some (.iload_n 3, 52, []), some (.ireturn, 53, [])]
def kc_M_anew : List (Option mjE) := [some (.aload_n 0, 1, []), some (.invokevirtual 141, 4, [1, 0, 22, 132]), none, none, some (.ifCond .eq 6, 7, [10]), none, none, some (.bipush (-103), 9, []), none, some (.ireturn, 10, []), some (.aload_n 0, 11, []), some (.getfield 117, 14, [15, 0, 22]), none, none, some (.istore_n 1, 15, []), some (.aload_n 0, 16, []), some (.iconst 0, 17, [0]), some (.putfield 117, 20, [15, 0, 22]), none, none, some (.iconst 0, 21, [0]), some (.istore_n 2, 22, []), some (.iload_n 2, 23, []), some (.bipush 10, 25, [10]), none, some (.if_icmp .ge 16, 28, [41]), none, none, some (.aload_n 0, 29, []), some (.getfield 31, 32, [14, 2, 22]), none, none, some (.iload_n 2, 33, []), some (.iconst 0, 34, [0]), some (.iastore, 35, []), some (.iinc 2 1, 38, [1]), none, none, some (.goto (-16), 41, [22]), none, none, some (.iload_n 1, 42, []), some (.ireturn, 43, [])]
def kc_M_layTried : List (Option mjE) := [some (.iconst 0, 1, [0]), some (.istore_n 1, 2, []), some (.iload_n 1, 3, []), some (.bipush 10, 5, [10]), none, some (.if_icmp .ge 21, 8, [26]), none, none, some (.aload_n 0, 9, []), some (.getfield 37, 12, [17, 2, 22]), none, none, some (.iload_n 1, 13, []), some (.aload_n 0, 14, []), some (.getfield 31, 17, [14, 2, 22]), none, none, some (.iload_n 1, 18, []), some (.iaload, 19, []), some (.iastore, 20, []), some (.iinc 1 1, 23, [1]), none, none, some (.goto (-21), 26, [2]), none, none, some (.return_, 27, [])]
def kc_M_move : List (Option mjE) := [some (.aload_n 0, 1, []), some (.getfield 145, 4, [19, 0, 22]), none, none, some (.bipush 10, 6, [10]), none, some (.isub, 7, []), some (.istore_n 2, 8, []), some (.aload_n 0, 9, []), some (.aload_n 0, 10, []), some (.getfield 28, 13, [13, 2, 22]), none, none, some (.iconst 3, 14, [3]), some (.iload_n 2, 15, []), some (.imul, 16, []), some (.aload_n 0, 17, []), some (.iload_n 2, 18, []), some (.aload_n 0, 19, []), some (.getfield 37, 22, [17, 2, 22]), none, none, some (.iload_n 2, 23, []), some (.iaload, 24, []), some (.invokevirtual 126, 27, [1, 2, 22, 134]), none, none, some (.iadd, 28, []), some (.iaload, 29, []), some (.putfield 145, 32, [19, 0, 22]), none, none, some (.aload_n 0, 33, []), some (.getfield 37, 36, [17, 2, 22]), none, none, some (.iload_n 2, 37, []), some (.iload_n 2, 38, []), some (.iload_n 1, 39, []), some (.if_icmp .ne 12, 42, [51]), none, none, some (.aload_n 0, 43, []), some (.getfield 37, 46, [17, 2, 22]), none, none, some (.iload_n 2, 47, []), some (.iaload, 48, []), some (.goto 14, 51, [62]), none, none, some (.aload_n 0, 52, []), some (.iload_n 2, 53, []), some (.aload_n 0, 54, []), some (.getfield 37, 57, [17, 2, 22]), none, none, some (.iload_n 2, 58, []), some (.iaload, 59, []), some (.invokevirtual 148, 62, [1, 2, 22, 135]), none, none, some (.iastore, 63, []), some (.aload_n 0, 64, []), some (.dup, 65, []), some (.getfield 151, 68, [20, 0, 22]), none, none, some (.iconst 1, 69, [1]), some (.iadd, 70, []), some (.putfield 151, 73, [20, 0, 22]), none, none, some (.return_, 74, [])]
def kc_M_goTruck : List (Option mjE) := [some (.iconst 0, 1, [0]), some (.istore_n 2, 2, []), some (.iload_n 2, 3, []), some (.bipush 10, 5, [10]), none, some (.if_icmp .ge 21, 8, [26]), none, none, some (.aload_n 0, 9, []), some (.getfield 40, 12, [18, 2, 22]), none, none, some (.iload_n 2, 13, []), some (.aload_n 0, 14, []), some (.getfield 37, 17, [17, 2, 22]), none, none, some (.iload_n 2, 18, []), some (.iaload, 19, []), some (.iastore, 20, []), some (.iinc 2 1, 23, [1]), none, none, some (.goto (-21), 26, [2]), none, none, some (.aload_n 0, 27, []), some (.bipush 10, 29, [10]), none, some (.putfield 145, 32, [19, 0, 22]), none, none, some (.aload_n 0, 33, []), some (.iconst 0, 34, [0]), some (.putfield 151, 37, [20, 0, 22]), none, none, some (.aload_n 0, 38, []), some (.getfield 145, 41, [19, 0, 22]), none, none, some (.bipush 10, 43, [10]), none, some (.if_icmp .lt 21, 46, [64]), none, none, some (.aload_n 0, 47, []), some (.getfield 151, 50, [20, 0, 22]), none, none, some (.sipush 500, 53, [500]), none, none, some (.if_icmp .ge 11, 56, [64]), none, none, some (.aload_n 0, 57, []), some (.iload_n 1, 58, []), some (.invokevirtual 154, 61, [1, 1, 22, 143]), none, none, some (.goto (-24), 64, [37]), none, none, some (.aload_n 0, 65, []), some (.getfield 145, 68, [19, 0, 22]), none, none, some (.bipush 10, 70, [10]), none, some (.if_icmp .ge 8, 73, [78]), none, none, some (.aload_n 0, 74, []), some (.getfield 145, 77, [19, 0, 22]), none, none, some (.ireturn, 78, []), some (.iconst 0, 79, [0]), some (.istore_n 2, 80, []), some (.iload_n 2, 81, []), some (.bipush 10, 83, [10]), none, some (.if_icmp .ge 21, 86, [104]), none, none, some (.aload_n 0, 87, []), some (.getfield 37, 90, [17, 2, 22]), none, none, some (.iload_n 2, 91, []), some (.aload_n 0, 92, []), some (.getfield 40, 95, [18, 2, 22]), none, none, some (.iload_n 2, 96, []), some (.iaload, 97, []), some (.iastore, 98, []), some (.iinc 2 1, 101, [1]), none, none, some (.goto (-21), 104, [80]), none, none, some (.iconst (-1), 105, []), some (.ireturn, 106, [])]
def kc_M_down : List (Option mjE) := [some (.aload_n 0, 1, []), some (.invokevirtual 141, 4, [1, 0, 22, 132]), none, none, some (.ifCond .eq 6, 7, [10]), none, none, some (.bipush (-103), 9, []), none, some (.ireturn, 10, []), some (.aload_n 0, 11, []), some (.getfield 117, 14, [15, 0, 22]), none, none, some (.bipush 60, 16, [60]), none, some (.if_icmp .ne 6, 19, [22]), none, none, some (.bipush (-104), 21, []), none, some (.ireturn, 22, []), some (.aload_n 0, 23, []), some (.invokevirtual 158, 26, [1, 0, 22, 142]), none, none, some (.aload_n 0, 27, []), some (.iconst (-1), 28, []), some (.invokevirtual 161, 31, [1, 1, 22, 144]), none, none, some (.istore_n 1, 32, []), some (.iload_n 1, 33, []), some (.iconst (-1), 34, []), some (.if_icmp .ne 5, 37, [39]), none, none, some (.iconst (-1), 38, []), some (.ireturn, 39, []), some (.iconst 0, 40, [0]), some (.istore_n 2, 41, []), some (.iload_n 2, 42, []), some (.bipush 10, 44, [10]), none, some (.if_icmp .ge 21, 47, [65]), none, none, some (.aload_n 0, 48, []), some (.getfield 31, 51, [14, 2, 22]), none, none, some (.iload_n 2, 52, []), some (.aload_n 0, 53, []), some (.getfield 37, 56, [17, 2, 22]), none, none, some (.iload_n 2, 57, []), some (.iaload, 58, []), some (.iastore, 59, []), some (.iinc 2 1, 62, [1]), none, none, some (.goto (-21), 65, [41]), none, none, some (.aload_n 0, 66, []), some (.getfield 34, 69, [16, 2, 22]), none, none, some (.aload_n 0, 70, []), some (.getfield 117, 73, [15, 0, 22]), none, none, some (.iload_n 1, 74, []), some (.iastore, 75, []), some (.aload_n 0, 76, []), some (.dup, 77, []), some (.getfield 117, 80, [15, 0, 22]), none, none, some (.iconst 1, 81, [1]), some (.iadd, 82, []), some (.putfield 117, 85, [15, 0, 22]), none, none, some (.iload_n 1, 86, []), some (.ireturn, 87, [])]
def kc_M_manyIn : List (Option mjE) := [some (.iconst 0, 1, [0]), some (.istore_n 2, 2, []), some (.iconst 0, 3, [0]), some (.istore_n 3, 4, []), some (.iload_n 3, 5, []), some (.aload_n 0, 6, []), some (.getfield 117, 9, [15, 0, 22]), none, none, some (.if_icmp .ge 27, 12, [36]), none, none, some (.iload_n 2, 13, []), some (.aload_n 0, 14, []), some (.getfield 34, 17, [16, 2, 22]), none, none, some (.iload_n 3, 18, []), some (.iaload, 19, []), some (.iload_n 1, 20, []), some (.if_icmp .ne 7, 23, [27]), none, none, some (.iconst 1, 24, [1]), some (.goto 4, 27, [28]), none, none, some (.iconst 0, 28, [0]), some (.iadd, 29, []), some (.istore_n 2, 30, []), some (.iinc 3 1, 33, [1]), none, none, some (.goto (-29), 36, [4]), none, none, some (.iload_n 2, 37, []), some (.ireturn, 38, [])]
def kc_M_many : List (Option mjE) := [some (.iload_n 1, 1, []), some (.i2l, 2, []), some (.lconst 0, 3, []), some (.ldc2_w 164, 6, [9]), none, none, some (.invokestatic 95, 9, [0, 3, 123]), none, none, some (.ifCond .eq 11, 12, [20]), none, none, some (.aload_n 0, 13, []), some (.iload_n 1, 14, []), some (.invokevirtual 166, 17, [1, 1, 22, 146]), none, none, some (.goto 5, 20, [22]), none, none, some (.bipush (-101), 22, []), none, some (.ireturn, 23, [])]
def kc_M_truck : List (Option mjE) := [some (.iload_n 1, 1, []), some (.i2l, 2, []), some (.lconst 0, 3, []), some (.ldc2_w 164, 6, [9]), none, none, some (.invokestatic 95, 9, [0, 3, 123]), none, none, some (.ifCond .ne 6, 12, [15]), none, none, some (.bipush (-101), 14, []), none, some (.ireturn, 15, []), some (.iload_n 2, 16, []), some (.i2l, 17, []), some (.lconst 0, 18, []), some (.ldc2_w 169, 21, [59]), none, none, some (.invokestatic 95, 24, [0, 3, 123]), none, none, some (.ifCond .ne 6, 27, [30]), none, none, some (.bipush (-102), 29, []), none, some (.ireturn, 30, []), some (.iconst 0, 31, [0]), some (.istore_n 3, 32, []), some (.iconst 0, 33, [0]), some (.istore 4, 35, []), none, some (.iload 4, 37, []), none, some (.aload_n 0, 38, []), some (.getfield 117, 41, [15, 0, 22]), none, none, some (.if_icmp .ge 31, 44, [72]), none, none, some (.aload_n 0, 45, []), some (.getfield 34, 48, [16, 2, 22]), none, none, some (.iload 4, 50, []), none, some (.iaload, 51, []), some (.iload_n 1, 52, []), some (.if_icmp .ne 14, 55, [66]), none, none, some (.iload_n 3, 56, []), some (.iload_n 2, 57, []), some (.if_icmp .ne 6, 60, [63]), none, none, some (.iload 4, 62, []), none, some (.ireturn, 63, []), some (.iinc 3 1, 66, [1]), none, none, some (.iinc 4 1, 69, [1]), none, none, some (.goto (-34), 72, [35]), none, none, some (.iconst (-1), 73, []), some (.ireturn, 74, [])]
def kc_M_movesOf : List (Option mjE) := [some (.aload_n 0, 1, []), some (.invokevirtual 158, 4, [1, 0, 22, 142]), none, none, some (.aload_n 0, 5, []), some (.iconst (-1), 6, []), some (.invokevirtual 161, 9, [1, 1, 22, 144]), none, none, some (.istore_n 1, 10, []), some (.aload_n 0, 11, []), some (.getfield 151, 14, [20, 0, 22]), none, none, some (.ireturn, 15, [])]
def kc_M_moves : List (Option mjE) := [some (.aload_n 0, 1, []), some (.invokevirtual 141, 4, [1, 0, 22, 132]), none, none, some (.ifCond .eq 8, 7, [12]), none, none, some (.bipush (-103), 9, []), none, some (.goto 7, 12, [16]), none, none, some (.aload_n 0, 13, []), some (.invokevirtual 171, 16, [1, 0, 22, 149]), none, none, some (.ireturn, 17, [])]
def kc_M_round : List (Option mjE) := [some (.aload_n 0, 1, []), some (.invokevirtual 141, 4, [1, 0, 22, 132]), none, none, some (.ifCond .eq 6, 7, [10]), none, none, some (.bipush (-103), 9, []), none, some (.ireturn, 10, []), some (.aload_n 0, 11, []), some (.invokevirtual 158, 14, [1, 0, 22, 142]), none, none, some (.aload_n 0, 15, []), some (.bipush 10, 17, [10]), none, some (.putfield 145, 20, [19, 0, 22]), none, none, some (.aload_n 0, 21, []), some (.iconst 0, 22, [0]), some (.putfield 151, 25, [20, 0, 22]), none, none, some (.aload_n 0, 26, []), some (.getfield 145, 29, [19, 0, 22]), none, none, some (.bipush 10, 31, [10]), none, some (.if_icmp .lt 21, 34, [52]), none, none, some (.aload_n 0, 35, []), some (.getfield 151, 38, [20, 0, 22]), none, none, some (.sipush 500, 41, [500]), none, none, some (.if_icmp .ge 11, 44, [52]), none, none, some (.aload_n 0, 45, []), some (.iconst (-1), 46, []), some (.invokevirtual 154, 49, [1, 1, 22, 143]), none, none, some (.goto (-24), 52, [25]), none, none, some (.aload_n 0, 53, []), some (.getfield 145, 56, [19, 0, 22]), none, none, some (.bipush 10, 58, [10]), none, some (.if_icmp .ge 5, 61, [63]), none, none, some (.iconst (-1), 62, []), some (.ireturn, 63, []), some (.aload_n 0, 64, []), some (.getfield 145, 67, [19, 0, 22]), none, none, some (.istore_n 1, 68, []), some (.iconst 0, 69, [0]), some (.istore_n 2, 70, []), some (.iload_n 2, 71, []), some (.bipush 10, 73, [10]), none, some (.if_icmp .ge 21, 76, [94]), none, none, some (.aload_n 0, 77, []), some (.getfield 40, 80, [18, 2, 22]), none, none, some (.iload_n 2, 81, []), some (.aload_n 0, 82, []), some (.getfield 37, 85, [17, 2, 22]), none, none, some (.iload_n 2, 86, []), some (.iaload, 87, []), some (.iastore, 88, []), some (.iinc 2 1, 91, [1]), none, none, some (.goto (-21), 94, [70]), none, none, some (.iconst 1, 95, [1]), some (.istore_n 2, 96, []), some (.iload_n 2, 97, []), some (.sipush 500, 100, [500]), none, none, some (.if_icmp .gt 90, 103, [190]), none, none, some (.aload_n 0, 104, []), some (.iconst (-1), 105, []), some (.invokevirtual 154, 108, [1, 1, 22, 143]), none, none, some (.aload_n 0, 109, []), some (.getfield 145, 112, [19, 0, 22]), none, none, some (.bipush 10, 114, [10]), none, some (.if_icmp .ge 5, 117, [119]), none, none, some (.iconst (-1), 118, []), some (.ireturn, 119, []), some (.aload_n 0, 120, []), some (.getfield 145, 123, [19, 0, 22]), none, none, some (.iload_n 1, 124, []), some (.if_icmp .ne 7, 127, [131]), none, none, some (.iconst 1, 128, [1]), some (.goto 4, 131, [132]), none, none, some (.iconst 0, 132, [0]), some (.istore_n 3, 133, []), some (.iconst 0, 134, [0]), some (.istore 4, 136, []), none, some (.iload 4, 138, []), none, some (.aload_n 0, 139, []), some (.getfield 114, 142, [9, 0, 22]), none, none, some (.if_icmp .ge 36, 145, [178]), none, none, some (.iload_n 3, 146, []), some (.ifCond .eq 24, 149, [170]), none, none, some (.aload_n 0, 150, []), some (.getfield 37, 153, [17, 2, 22]), none, none, some (.iload 4, 155, []), none, some (.iaload, 156, []), some (.aload_n 0, 157, []), some (.getfield 40, 160, [18, 2, 22]), none, none, some (.iload 4, 162, []), none, some (.iaload, 163, []), some (.if_icmp .ne 7, 166, [170]), none, none, some (.iconst 1, 167, [1]), some (.goto 4, 170, [171]), none, none, some (.iconst 0, 171, [0]), some (.istore_n 3, 172, []), some (.iinc 4 1, 175, [1]), none, none, some (.goto (-39), 178, [136]), none, none, some (.iload_n 3, 179, []), some (.ifCond .eq 5, 182, [184]), none, none, some (.iload_n 2, 183, []), some (.ireturn, 184, []), some (.iinc 2 1, 187, [1]), none, none, some (.goto (-91), 190, [96]), none, none, some (.iconst (-1), 191, []), some (.ireturn, 192, [])]
def kc_M_reach : List (Option mjE) := [some (.iconst 0, 1, [0]), some (.istore_n 2, 2, []), some (.iconst 0, 3, [0]), some (.istore_n 3, 4, []), some (.iload_n 3, 5, []), some (.aload_n 0, 6, []), some (.getfield 114, 9, [9, 0, 22]), none, none, some (.if_icmp .gt 117, 12, [126]), none, none, some (.iconst 0, 13, [0]), some (.istore 4, 15, []), none, some (.iload 4, 17, []), none, some (.aload_n 0, 18, []), some (.getfield 114, 21, [9, 0, 22]), none, none, some (.if_icmp .ge 99, 24, [120]), none, none, some (.iload 4, 26, []), none, some (.iload_n 1, 27, []), some (.if_icmp .eq 13, 30, [40]), none, none, some (.iload_n 2, 31, []), some (.iload 4, 33, []), none, some (.ishr, 34, []), some (.iconst 1, 35, [1]), some (.iand, 36, []), some (.iconst 1, 37, [1]), some (.if_icmp .ne 7, 40, [44]), none, none, some (.iconst 1, 41, [1]), some (.goto 4, 44, [45]), none, none, some (.iconst 0, 45, [0]), some (.istore 5, 47, []), none, some (.iconst 0, 48, [0]), some (.istore 6, 50, []), none, some (.iload 6, 52, []), none, some (.aload_n 0, 53, []), some (.getfield 25, 56, [12, 2, 22]), none, none, some (.iload 4, 58, []), none, some (.iaload, 59, []), some (.if_icmp .ge 55, 62, [114]), none, none, some (.iload 5, 64, []), none, some (.ifCond .eq 50, 67, [114]), none, none, some (.iload_n 2, 68, []), some (.aload_n 0, 69, []), some (.getfield 28, 72, [13, 2, 22]), none, none, some (.iconst 3, 73, [3]), some (.iload 4, 75, []), none, some (.imul, 76, []), some (.iload 6, 78, []), none, some (.iadd, 79, []), some (.iaload, 80, []), some (.bipush 10, 82, [10]), none, some (.if_icmp .lt 23, 85, [105]), none, none, some (.iconst 1, 86, [1]), some (.aload_n 0, 87, []), some (.getfield 28, 90, [13, 2, 22]), none, none, some (.iconst 3, 91, [3]), some (.iload 4, 93, []), none, some (.imul, 94, []), some (.iload 6, 96, []), none, some (.iadd, 97, []), some (.iaload, 98, []), some (.bipush 10, 100, [10]), none, some (.isub, 101, []), some (.ishl, 102, []), some (.goto 4, 105, [106]), none, none, some (.iconst 0, 106, [0]), some (.ior, 107, []), some (.istore_n 2, 108, []), some (.iinc 6 1, 111, [1]), none, none, some (.goto (-61), 114, [50]), none, none, some (.iinc 4 1, 117, [1]), none, none, some (.goto (-102), 120, [15]), none, none, some (.iinc 3 1, 123, [1]), none, none, some (.goto (-119), 126, [4]), none, none, some (.iload_n 2, 127, []), some (.ireturn, 128, [])]
def kc_M_isStraight : List (Option mjE) := [some (.aload_n 0, 1, []), some (.iconst 0, 2, [0]), some (.invokevirtual 174, 5, [1, 1, 22, 152]), none, none, some (.iconst 1, 6, [1]), some (.ior, 7, []), some (.istore_n 1, 8, []), some (.iconst 1, 9, [1]), some (.istore_n 2, 10, []), some (.iconst 0, 11, [0]), some (.istore_n 3, 12, []), some (.iload_n 3, 13, []), some (.aload_n 0, 14, []), some (.getfield 114, 17, [9, 0, 22]), none, none, some (.if_icmp .ge 39, 20, [56]), none, none, some (.iload_n 2, 21, []), some (.ifCond .eq 27, 24, [48]), none, none, some (.iload_n 1, 25, []), some (.iload_n 3, 26, []), some (.ishr, 27, []), some (.iconst 1, 28, [1]), some (.iand, 29, []), some (.ifCond .eq 15, 32, [44]), none, none, some (.aload_n 0, 33, []), some (.iload_n 3, 34, []), some (.invokevirtual 174, 37, [1, 1, 22, 152]), none, none, some (.iload_n 3, 38, []), some (.ishr, 39, []), some (.iconst 1, 40, [1]), some (.iand, 41, []), some (.ifCond .ne 7, 44, [48]), none, none, some (.iconst 1, 45, [1]), some (.goto 4, 48, [49]), none, none, some (.iconst 0, 49, [0]), some (.istore_n 2, 50, []), some (.iinc 3 1, 53, [1]), none, none, some (.goto (-41), 56, [12]), none, none, some (.iload_n 2, 57, []), some (.ireturn, 58, [])]
def kc_M_straight : List (Option mjE) := [some (.aload_n 0, 1, []), some (.invokevirtual 141, 4, [1, 0, 22, 132]), none, none, some (.ifCond .eq 8, 7, [12]), none, none, some (.bipush (-103), 9, []), none, some (.goto 15, 12, [24]), none, none, some (.aload_n 0, 13, []), some (.invokevirtual 177, 16, [1, 0, 22, 153]), none, none, some (.ifCond .eq 7, 19, [23]), none, none, some (.iconst 1, 20, [1]), some (.goto 4, 23, [24]), none, none, some (.iconst 0, 24, [0]), some (.ireturn, 25, [])]
def kc_M_isReady : List (Option mjE) := [some (.iconst 1, 1, [1]), some (.istore_n 3, 2, []), some (.iconst 0, 3, [0]), some (.istore 4, 5, []), none, some (.iload 4, 7, []), none, some (.aload_n 0, 8, []), some (.getfield 114, 11, [9, 0, 22]), none, none, some (.if_icmp .ge 68, 14, [79]), none, none, some (.iconst 0, 15, [0]), some (.istore 5, 17, []), none, some (.iload 5, 19, []), none, some (.aload_n 0, 20, []), some (.getfield 25, 23, [12, 2, 22]), none, none, some (.iload 4, 25, []), none, some (.iaload, 26, []), some (.if_icmp .ge 47, 29, [73]), none, none, some (.iload_n 3, 30, []), some (.ifCond .eq 35, 33, [65]), none, none, some (.iload_n 2, 34, []), some (.iload 4, 36, []), none, some (.ishr, 37, []), some (.iconst 1, 38, [1]), some (.iand, 39, []), some (.ifCond .eq 22, 42, [61]), none, none, some (.aload_n 0, 43, []), some (.getfield 28, 46, [13, 2, 22]), none, none, some (.iconst 3, 47, [3]), some (.iload 4, 49, []), none, some (.imul, 50, []), some (.iload 5, 52, []), none, some (.iadd, 53, []), some (.iaload, 54, []), some (.bipush 10, 56, [10]), none, some (.iload_n 1, 57, []), some (.iadd, 58, []), some (.if_icmp .eq 7, 61, [65]), none, none, some (.iconst 1, 62, [1]), some (.goto 4, 65, [66]), none, none, some (.iconst 0, 66, [0]), some (.istore_n 3, 67, []), some (.iinc 5 1, 70, [1]), none, none, some (.goto (-53), 73, [17]), none, none, some (.iinc 4 1, 76, [1]), none, none, some (.goto (-71), 79, [5]), none, none, some (.iload_n 3, 80, []), some (.ireturn, 81, [])]
def kc_M_send : List (Option mjE) := [some (.aload_n 0, 1, []), some (.getfield 43, 4, [21, 2, 22]), none, none, some (.iload_n 1, 5, []), some (.iaload, 6, []), some (.istore_n 3, 7, []), some (.aload_n 0, 8, []), some (.getfield 22, 11, [11, 2, 22]), none, none, some (.iload_n 1, 12, []), some (.iaload, 13, []), some (.iconst 1, 14, [1]), some (.if_icmp .ne 7, 17, [21]), none, none, some (.iconst 1, 18, [1]), some (.goto 8, 21, [26]), none, none, some (.aload_n 0, 22, []), some (.iload_n 1, 23, []), some (.invokevirtual 123, 26, [1, 1, 22, 133]), none, none, some (.istore 4, 28, []), none, some (.iload_n 2, 29, []), some (.istore 5, 31, []), none, some (.iconst 0, 32, [0]), some (.istore 6, 34, []), none, some (.iload 6, 36, []), none, some (.iload 4, 38, []), none, some (.if_icmp .ge 79, 41, [117]), none, none, some (.aload_n 0, 42, []), some (.getfield 28, 45, [13, 2, 22]), none, none, some (.iconst 3, 46, [3]), some (.iload_n 1, 47, []), some (.imul, 48, []), some (.aload_n 0, 49, []), some (.iload_n 1, 50, []), some (.iload 5, 52, []), none, some (.invokevirtual 126, 55, [1, 2, 22, 134]), none, none, some (.iadd, 56, []), some (.iaload, 57, []), some (.istore 7, 59, []), none, some (.iload_n 3, 60, []), some (.iload 4, 62, []), none, some (.idiv, 63, []), some (.iload 6, 65, []), none, some (.iload_n 3, 66, []), some (.iload 4, 68, []), none, some (.irem, 69, []), some (.if_icmp .ge 7, 72, [76]), none, none, some (.iconst 1, 73, [1]), some (.goto 4, 76, [77]), none, none, some (.iconst 0, 77, [0]), some (.iadd, 78, []), some (.istore 8, 80, []), none, some (.iload 7, 82, []), none, some (.bipush 10, 84, [10]), none, some (.if_icmp .lt 18, 87, [102]), none, none, some (.aload_n 0, 88, []), some (.getfield 43, 91, [21, 2, 22]), none, none, some (.iload 7, 93, []), none, some (.bipush 10, 95, [10]), none, some (.isub, 96, []), some (.dup2, 97, []), some (.iaload, 98, []), some (.iload 8, 100, []), none, some (.iadd, 101, []), some (.iastore, 102, []), some (.aload_n 0, 103, []), some (.iload_n 1, 104, []), some (.iload 5, 106, []), none, some (.invokevirtual 148, 109, [1, 2, 22, 135]), none, none, some (.istore 5, 111, []), none, some (.iinc 6 1, 114, [1]), none, none, some (.goto (-80), 117, [34]), none, none, some (.return_, 118, [])]
def kc_M_layBehind : List (Option mjE) := [some (.iload_n 1, 1, []), some (.ifCond .ge 8, 4, [9]), none, none, some (.iload_n 1, 5, []), some (.ineg, 6, []), some (.goto 4, 9, [10]), none, none, some (.iload_n 1, 10, []), some (.istore_n 2, 11, []), some (.aload_n 0, 12, []), some (.iconst 0, 13, [0]), some (.invokevirtual 174, 16, [1, 1, 22, 152]), none, none, some (.iconst 1, 17, [1]), some (.ior, 18, []), some (.istore_n 3, 19, []), some (.iconst 0, 20, [0]), some (.istore 4, 22, []), none, some (.iload 4, 24, []), none, some (.bipush 10, 26, [10]), none, some (.if_icmp .ge 40, 29, [66]), none, none, some (.aload_n 0, 30, []), some (.getfield 43, 33, [21, 2, 22]), none, none, some (.iload 4, 35, []), none, some (.iload 4, 37, []), none, some (.ifCond .ne 7, 40, [44]), none, none, some (.iload_n 2, 41, []), some (.goto 4, 44, [45]), none, none, some (.iconst 0, 45, [0]), some (.iastore, 46, []), some (.aload_n 0, 47, []), some (.getfield 37, 50, [17, 2, 22]), none, none, some (.iload 4, 52, []), none, some (.aload_n 0, 53, []), some (.getfield 31, 56, [14, 2, 22]), none, none, some (.iload 4, 58, []), none, some (.iaload, 59, []), some (.iastore, 60, []), some (.iinc 4 1, 63, [1]), none, none, some (.goto (-41), 66, [22]), none, none, some (.iload_n 3, 67, []), some (.ifCond .eq 145, 70, [212]), none, none, some (.iconst 0, 71, [0]), some (.istore 4, 73, []), none, some (.iload_n 3, 74, []), some (.iload 4, 76, []), none, some (.ishr, 77, []), some (.iconst 1, 78, [1]), some (.iand, 79, []), some (.ifCond .eq 13, 82, [92]), none, none, some (.aload_n 0, 83, []), some (.iload 4, 85, []), none, some (.iload_n 3, 86, []), some (.invokevirtual 180, 89, [1, 2, 22, 155]), none, none, some (.ifCond .ne 9, 92, [98]), none, none, some (.iinc 4 1, 95, [1]), none, none, some (.goto (-22), 98, [73]), none, none, some (.aload_n 0, 99, []), some (.iload 4, 101, []), none, some (.invokevirtual 123, 104, [1, 1, 22, 133]), none, none, some (.istore 5, 106, []), none, some (.aload_n 0, 107, []), some (.getfield 22, 110, [11, 2, 22]), none, none, some (.iload 4, 112, []), none, some (.iaload, 113, []), some (.iconst 1, 114, [1]), some (.if_icmp .ne 7, 117, [121]), none, none, some (.iconst 0, 118, [0]), some (.goto 13, 121, [131]), none, none, some (.aload_n 0, 122, []), some (.getfield 43, 125, [21, 2, 22]), none, none, some (.iload 4, 127, []), none, some (.iaload, 128, []), some (.iload 5, 130, []), none, some (.irem, 131, []), some (.istore 6, 133, []), none, some (.iload_n 1, 134, []), some (.ifCond .ge 22, 137, [156]), none, none, some (.aload_n 0, 138, []), some (.getfield 31, 141, [14, 2, 22]), none, none, some (.iload 4, 143, []), none, some (.iaload, 144, []), some (.iload 6, 146, []), none, some (.isub, 147, []), some (.iload 5, 149, []), none, some (.iadd, 150, []), some (.iload 5, 152, []), none, some (.irem, 153, []), some (.goto 16, 156, [169]), none, none, some (.aload_n 0, 157, []), some (.getfield 31, 160, [14, 2, 22]), none, none, some (.iload 4, 162, []), none, some (.iaload, 163, []), some (.iload 6, 165, []), none, some (.iadd, 166, []), some (.iload 5, 168, []), none, some (.irem, 169, []), some (.istore 7, 171, []), none, some (.aload_n 0, 172, []), some (.iload 4, 174, []), none, some (.iload_n 1, 175, []), some (.ifCond .ge 8, 178, [183]), none, none, some (.iload 7, 180, []), none, some (.goto 10, 183, [190]), none, none, some (.aload_n 0, 184, []), some (.getfield 31, 187, [14, 2, 22]), none, none, some (.iload 4, 189, []), none, some (.iaload, 190, []), some (.invokevirtual 184, 193, [1, 2, 22, 156]), none, none, some (.aload_n 0, 194, []), some (.getfield 37, 197, [17, 2, 22]), none, none, some (.iload 4, 199, []), none, some (.iload 7, 201, []), none, some (.iastore, 202, []), some (.iload_n 3, 203, []), some (.iconst 1, 204, [1]), some (.iload 4, 206, []), none, some (.ishl, 207, []), some (.isub, 208, []), some (.istore_n 3, 209, []), some (.goto (-143), 212, [66]), none, none, some (.return_, 213, [])]
def kc_M_nth : List (Option mjE) := [some (.aload_n 0, 1, []), some (.invokevirtual 141, 4, [1, 0, 22, 132]), none, none, some (.ifCond .ne 10, 7, [14]), none, none, some (.aload_n 0, 8, []), some (.invokevirtual 177, 11, [1, 0, 22, 153]), none, none, some (.ifCond .ne 6, 14, [17]), none, none, some (.bipush (-103), 16, []), none, some (.ireturn, 17, []), some (.iload_n 1, 18, []), some (.i2l, 19, []), some (.lconst 1, 20, []), some (.ldc2_w 188, 23, [1000000]), none, none, some (.invokestatic 95, 26, [0, 3, 123]), none, none, some (.ifCond .ne 6, 29, [32]), none, none, some (.bipush (-102), 31, []), none, some (.ireturn, 32, []), some (.aload_n 0, 33, []), some (.iload_n 1, 34, []), some (.iconst 1, 35, [1]), some (.isub, 36, []), some (.invokevirtual 190, 39, [1, 1, 22, 157]), none, none, some (.aload_n 0, 40, []), some (.iconst (-1), 41, []), some (.invokevirtual 161, 44, [1, 1, 22, 144]), none, none, some (.ireturn, 45, [])]
def kc_M_behind : List (Option mjE) := [some (.aload_n 0, 1, []), some (.iload_n 2, 2, []), some (.invokevirtual 130, 5, [1, 1, 22, 131]), none, none, some (.ifCond .ne 6, 8, [11]), none, none, some (.bipush (-101), 10, []), none, some (.ireturn, 11, []), some (.aload_n 0, 12, []), some (.invokevirtual 177, 15, [1, 0, 22, 153]), none, none, some (.ifCond .ne 6, 18, [21]), none, none, some (.bipush (-103), 20, []), none, some (.ireturn, 21, []), some (.iload_n 1, 22, []), some (.i2l, 23, []), some (.lconst 1, 24, []), some (.ldc2_w 188, 27, [1000000]), none, none, some (.invokestatic 95, 30, [0, 3, 123]), none, none, some (.ifCond .ne 6, 33, [36]), none, none, some (.bipush (-102), 35, []), none, some (.ireturn, 36, []), some (.aload_n 0, 37, []), some (.iload_n 1, 38, []), some (.invokevirtual 190, 41, [1, 1, 22, 157]), none, none, some (.aload_n 0, 42, []), some (.getfield 37, 45, [17, 2, 22]), none, none, some (.iload_n 2, 46, []), some (.iaload, 47, []), some (.ireturn, 48, [])]
def kc_M_ago : List (Option mjE) := [some (.aload_n 0, 1, []), some (.iload_n 2, 2, []), some (.invokevirtual 130, 5, [1, 1, 22, 131]), none, none, some (.ifCond .ne 6, 8, [11]), none, none, some (.bipush (-101), 10, []), none, some (.ireturn, 11, []), some (.aload_n 0, 12, []), some (.invokevirtual 177, 15, [1, 0, 22, 153]), none, none, some (.ifCond .ne 6, 18, [21]), none, none, some (.bipush (-103), 20, []), none, some (.ireturn, 21, []), some (.iload_n 1, 22, []), some (.i2l, 23, []), some (.lconst 0, 24, []), some (.ldc2_w 188, 27, [1000000]), none, none, some (.invokestatic 95, 30, [0, 3, 123]), none, none, some (.ifCond .ne 6, 33, [36]), none, none, some (.bipush (-102), 35, []), none, some (.ireturn, 36, []), some (.aload_n 0, 37, []), some (.iload_n 1, 38, []), some (.ineg, 39, []), some (.invokevirtual 190, 42, [1, 1, 22, 157]), none, none, some (.aload_n 0, 43, []), some (.getfield 37, 46, [17, 2, 22]), none, none, some (.iload_n 2, 47, []), some (.iaload, 48, []), some (.ireturn, 49, [])]
def kc_M_want : List (Option mjE) := [some (.iload_n 1, 1, []), some (.i2l, 2, []), some (.lconst 0, 3, []), some (.ldc2_w 164, 6, [9]), none, none, some (.invokestatic 95, 9, [0, 3, 123]), none, none, some (.ifCond .ne 6, 12, [15]), none, none, some (.bipush (-101), 14, []), none, some (.ireturn, 15, []), some (.aload_n 0, 16, []), some (.getfield 193, 19, [22, 0, 22]), none, none, some (.bipush 8, 21, [8]), none, some (.if_icmp .ne 6, 24, [27]), none, none, some (.bipush (-104), 26, []), none, some (.ireturn, 27, []), some (.aload_n 0, 28, []), some (.getfield 46, 31, [23, 2, 22]), none, none, some (.aload_n 0, 32, []), some (.getfield 193, 35, [22, 0, 22]), none, none, some (.iload_n 1, 36, []), some (.iastore, 37, []), some (.aload_n 0, 38, []), some (.dup, 39, []), some (.getfield 193, 42, [22, 0, 22]), none, none, some (.iconst 1, 43, [1]), some (.iadd, 44, []), some (.putfield 193, 47, [22, 0, 22]), none, none, some (.aload_n 0, 48, []), some (.getfield 193, 51, [22, 0, 22]), none, none, some (.ireturn, 52, [])]
def kc_M_clear : List (Option mjE) := [some (.aload_n 0, 1, []), some (.getfield 193, 4, [22, 0, 22]), none, none, some (.istore_n 1, 5, []), some (.aload_n 0, 6, []), some (.iconst 0, 7, [0]), some (.putfield 193, 10, [22, 0, 22]), none, none, some (.iload_n 1, 11, []), some (.ireturn, 12, [])]
def kc_M_isTrue : List (Option mjE) := [some (.iconst 1, 1, [1]), some (.istore_n 2, 2, []), some (.iconst 0, 3, [0]), some (.istore_n 3, 4, []), some (.iload_n 3, 5, []), some (.aload_n 0, 6, []), some (.getfield 193, 9, [22, 0, 22]), none, none, some (.if_icmp .ge 33, 12, [42]), none, none, some (.iload_n 2, 13, []), some (.ifCond .eq 29, 16, [42]), none, none, some (.aload_n 0, 17, []), some (.iload_n 1, 18, []), some (.invokevirtual 161, 21, [1, 1, 22, 144]), none, none, some (.aload_n 0, 22, []), some (.getfield 46, 25, [23, 2, 22]), none, none, some (.iload_n 3, 26, []), some (.iaload, 27, []), some (.if_icmp .ne 7, 30, [34]), none, none, some (.iconst 1, 31, [1]), some (.goto 4, 34, [35]), none, none, some (.iconst 0, 35, [0]), some (.istore_n 2, 36, []), some (.iinc 3 1, 39, [1]), none, none, some (.goto (-35), 42, [4]), none, none, some (.iload_n 2, 43, []), some (.ireturn, 44, [])]
def kc_M_standsInAll : List (Option mjE) := [some (.iconst 1, 1, [1]), some (.istore_n 1, 2, []), some (.iconst 0, 3, [0]), some (.istore_n 2, 4, []), some (.iload_n 2, 5, []), some (.aload_n 0, 6, []), some (.getfield 114, 9, [9, 0, 22]), none, none, some (.if_icmp .ge 17, 12, [26]), none, none, some (.iload_n 1, 13, []), some (.aload_n 0, 14, []), some (.iload_n 2, 15, []), some (.invokevirtual 123, 18, [1, 1, 22, 133]), none, none, some (.imul, 19, []), some (.istore_n 1, 20, []), some (.iinc 2 1, 23, [1]), none, none, some (.goto (-19), 26, [4]), none, none, some (.iload_n 1, 27, []), some (.ireturn, 28, [])]
def kc_M_layStands : List (Option mjE) := [some (.iload_n 1, 1, []), some (.istore_n 2, 2, []), some (.aload_n 0, 3, []), some (.getfield 114, 6, [9, 0, 22]), none, none, some (.iconst 1, 7, [1]), some (.isub, 8, []), some (.istore_n 3, 9, []), some (.iload_n 3, 10, []), some (.ifCond .lt 30, 13, [40]), none, none, some (.aload_n 0, 14, []), some (.getfield 37, 17, [17, 2, 22]), none, none, some (.iload_n 3, 18, []), some (.iload_n 2, 19, []), some (.aload_n 0, 20, []), some (.iload_n 3, 21, []), some (.invokevirtual 123, 24, [1, 1, 22, 133]), none, none, some (.irem, 25, []), some (.iastore, 26, []), some (.iload_n 2, 27, []), some (.aload_n 0, 28, []), some (.iload_n 3, 29, []), some (.invokevirtual 123, 32, [1, 1, 22, 133]), none, none, some (.idiv, 33, []), some (.istore_n 2, 34, []), some (.iinc 3 (-1), 37, []), none, none, some (.goto (-28), 40, [9]), none, none, some (.return_, 41, [])]
def kc_M_codeOf : List (Option mjE) := [some (.iconst 0, 1, [0]), some (.istore_n 1, 2, []), some (.iconst 0, 3, [0]), some (.istore_n 2, 4, []), some (.iload_n 2, 5, []), some (.aload_n 0, 6, []), some (.getfield 114, 9, [9, 0, 22]), none, none, some (.if_icmp .ge 24, 12, [33]), none, none, some (.iload_n 1, 13, []), some (.aload_n 0, 14, []), some (.iload_n 2, 15, []), some (.invokevirtual 123, 18, [1, 1, 22, 133]), none, none, some (.imul, 19, []), some (.aload_n 0, 20, []), some (.getfield 37, 23, [17, 2, 22]), none, none, some (.iload_n 2, 24, []), some (.iaload, 25, []), some (.iadd, 26, []), some (.istore_n 1, 27, []), some (.iinc 2 1, 30, [1]), none, none, some (.goto (-26), 33, [4]), none, none, some (.iload_n 1, 34, []), some (.ireturn, 35, [])]
def kc_M_begin : List (Option mjE) := [some (.aload_n 0, 1, []), some (.invokevirtual 141, 4, [1, 0, 22, 132]), none, none, some (.ifCond .eq 6, 7, [10]), none, none, some (.bipush (-103), 9, []), none, some (.ireturn, 10, []), some (.iload_n 1, 11, []), some (.ifCond .eq 20, 14, [31]), none, none, some (.iload_n 1, 15, []), some (.i2l, 16, []), some (.ldc2_w 196, 19, [10]), none, none, some (.ldc2_w 198, 22, [15]), none, none, some (.invokestatic 95, 25, [0, 3, 123]), none, none, some (.ifCond .ne 6, 28, [31]), none, none, some (.bipush (-102), 30, []), none, some (.ireturn, 31, []), some (.aload_n 0, 32, []), some (.getfield 114, 35, [9, 0, 22]), none, none, some (.bipush 6, 37, [6]), none, some (.if_icmp .gt 19, 40, [56]), none, none, some (.aload_n 0, 41, []), some (.getfield 193, 44, [22, 0, 22]), none, none, some (.ifCond .eq 12, 47, [56]), none, none, some (.aload_n 0, 48, []), some (.getfield 200, 51, [24, 0, 22]), none, none, some (.bipush 20, 53, [20]), none, some (.if_icmp .ne 6, 56, [59]), none, none, some (.bipush (-103), 58, []), none, some (.ireturn, 59, []), some (.aload_n 0, 60, []), some (.dup, 61, []), some (.getfield 200, 64, [24, 0, 22]), none, none, some (.iconst 1, 65, [1]), some (.iadd, 66, []), some (.putfield 200, 69, [24, 0, 22]), none, none, some (.iconst (-1), 70, []), some (.istore_n 2, 71, []), some (.bipush 11, 73, [11]), none, some (.istore_n 3, 74, []), some (.aload_n 0, 75, []), some (.invokevirtual 203, 78, [1, 0, 22, 164]), none, none, some (.istore 4, 80, []), none, some (.iconst 0, 81, [0]), some (.istore 5, 83, []), none, some (.iload 5, 85, []), none, some (.iload 4, 87, []), none, some (.if_icmp .ge 83, 90, [170]), none, none, some (.aload_n 0, 91, []), some (.iload 5, 93, []), none, some (.invokevirtual 206, 96, [1, 1, 22, 165]), none, none, some (.iconst 0, 97, [0]), some (.istore 6, 99, []), none, some (.iconst 0, 100, [0]), some (.istore 7, 102, []), none, some (.iload 7, 104, []), none, some (.aload_n 0, 105, []), some (.getfield 114, 108, [9, 0, 22]), none, none, some (.if_icmp .ge 36, 111, [144]), none, none, some (.iload 6, 113, []), none, some (.aload_n 0, 114, []), some (.getfield 37, 117, [17, 2, 22]), none, none, some (.iload 7, 119, []), none, some (.iaload, 120, []), some (.aload_n 0, 121, []), some (.getfield 31, 124, [14, 2, 22]), none, none, some (.iload 7, 126, []), none, some (.iaload, 127, []), some (.if_icmp .ne 7, 130, [134]), none, none, some (.iconst 0, 131, [0]), some (.goto 4, 134, [135]), none, none, some (.iconst 1, 135, [1]), some (.iadd, 136, []), some (.istore 6, 138, []), none, some (.iinc 7 1, 141, [1]), none, none, some (.goto (-39), 144, [102]), none, none, some (.iload 6, 146, []), none, some (.iload_n 3, 147, []), some (.if_icmp .ge 17, 150, [164]), none, none, some (.aload_n 0, 151, []), some (.iconst (-1), 152, []), some (.invokevirtual 209, 155, [1, 1, 22, 163]), none, none, some (.ifCond .eq 9, 158, [164]), none, none, some (.iload 5, 160, []), none, some (.istore_n 2, 161, []), some (.iload 6, 163, []), none, some (.istore_n 3, 164, []), some (.iinc 5 1, 167, [1]), none, none, some (.goto (-84), 170, [83]), none, none, some (.iload_n 2, 171, []), some (.iconst (-1), 172, []), some (.if_icmp .eq 7, 175, [179]), none, none, some (.iload_n 1, 176, []), some (.ifCond .ne 14, 179, [190]), none, none, some (.iload_n 2, 180, []), some (.iconst (-1), 181, []), some (.if_icmp .ne 7, 184, [188]), none, none, some (.iconst (-1), 185, []), some (.goto 4, 188, [189]), none, none, some (.iload_n 3, 189, []), some (.ireturn, 190, []), some (.aload_n 0, 191, []), some (.iload_n 2, 192, []), some (.invokevirtual 206, 195, [1, 1, 22, 165]), none, none, some (.iload_n 1, 196, []), some (.bipush 10, 198, [10]), none, some (.isub, 199, []), some (.aload_n 0, 200, []), some (.getfield 114, 203, [9, 0, 22]), none, none, some (.if_icmp .ge 15, 206, [218]), none, none, some (.aload_n 0, 207, []), some (.getfield 37, 210, [17, 2, 22]), none, none, some (.iload_n 1, 211, []), some (.bipush 10, 213, [10]), none, some (.isub, 214, []), some (.iaload, 215, []), some (.goto 4, 218, [219]), none, none, some (.iconst (-1), 219, []), some (.ireturn, 220, [])]
def kc_M_throwAll : List (Option mjE) := [some (.iconst 1, 1, [1]), some (.istore_n 2, 2, []), some (.aload_n 0, 3, []), some (.getfield 114, 6, [9, 0, 22]), none, none, some (.iconst 1, 7, [1]), some (.isub, 8, []), some (.istore_n 3, 9, []), some (.iload_n 3, 10, []), some (.ifCond .lt 172, 13, [182]), none, none, some (.aload_n 0, 14, []), some (.iload_n 3, 15, []), some (.invokevirtual 123, 18, [1, 1, 22, 133]), none, none, some (.istore 4, 20, []), none, some (.iconst 0, 21, [0]), some (.istore 5, 23, []), none, some (.iload 5, 25, []), none, some (.iload_n 1, 26, []), some (.if_icmp .ge 145, 29, [171]), none, none, some (.iload 5, 31, []), none, some (.iload_n 2, 32, []), some (.idiv, 33, []), some (.iload 4, 35, []), none, some (.irem, 36, []), some (.ifCond .ne 129, 39, [165]), none, none, some (.ldc 212, 41, [1000000]), none, some (.istore 6, 43, []), none, some (.iconst 0, 44, [0]), some (.istore 7, 46, []), none, some (.iload 7, 48, []), none, some (.iload 4, 50, []), none, some (.if_icmp .ge 39, 53, [89]), none, none, some (.aload_n 0, 54, []), some (.getfield 53, 57, [26, 2, 22]), none, none, some (.iload 5, 59, []), none, some (.iload 7, 61, []), none, some (.iload_n 2, 62, []), some (.imul, 63, []), some (.iadd, 64, []), some (.iaload, 65, []), some (.istore 8, 67, []), none, some (.iload 8, 69, []), none, some (.iload 6, 71, []), none, some (.if_icmp .ge 8, 74, [79]), none, none, some (.iload 8, 76, []), none, some (.goto 5, 79, [81]), none, none, some (.iload 6, 81, []), none, some (.istore 6, 83, []), none, some (.iinc 7 1, 86, [1]), none, none, some (.goto (-40), 89, [46]), none, none, some (.iconst 0, 90, [0]), some (.istore 7, 92, []), none, some (.iload 7, 94, []), none, some (.aload_n 0, 95, []), some (.getfield 25, 98, [12, 2, 22]), none, none, some (.iload_n 3, 99, []), some (.iaload, 100, []), some (.if_icmp .ge 65, 103, [165]), none, none, some (.iload 6, 105, []), none, some (.ldc 212, 107, [1000000]), none, some (.if_icmp .ge 58, 110, [165]), none, none, some (.iload 5, 112, []), none, some (.aload_n 0, 113, []), some (.iload_n 3, 114, []), some (.iload 7, 116, []), none, some (.invokevirtual 138, 119, [1, 2, 22, 139]), none, none, some (.iload_n 2, 120, []), some (.imul, 121, []), some (.iadd, 122, []), some (.istore 8, 124, []), none, some (.aload_n 0, 125, []), some (.getfield 53, 128, [26, 2, 22]), none, none, some (.iload 8, 130, []), none, some (.iload 6, 132, []), none, some (.iconst 1, 133, [1]), some (.iadd, 134, []), some (.aload_n 0, 135, []), some (.getfield 53, 138, [26, 2, 22]), none, none, some (.iload 8, 140, []), none, some (.iaload, 141, []), some (.if_icmp .ge 10, 144, [151]), none, none, some (.iload 6, 146, []), none, some (.iconst 1, 147, [1]), some (.iadd, 148, []), some (.goto 10, 151, [158]), none, none, some (.aload_n 0, 152, []), some (.getfield 53, 155, [26, 2, 22]), none, none, some (.iload 8, 157, []), none, some (.iaload, 158, []), some (.iastore, 159, []), some (.iinc 7 1, 162, [1]), none, none, some (.goto (-70), 165, [92]), none, none, some (.iinc 5 1, 168, [1]), none, none, some (.goto (-145), 171, [23]), none, none, some (.iload_n 2, 172, []), some (.iload 4, 174, []), none, some (.imul, 175, []), some (.istore_n 2, 176, []), some (.iinc 3 (-1), 179, []), none, none, some (.goto (-170), 182, [9]), none, none, some (.return_, 183, [])]
def kc_M_hands : List (Option mjE) := [some (.aload_n 0, 1, []), some (.invokevirtual 141, 4, [1, 0, 22, 132]), none, none, some (.ifCond .ne 35, 7, [39]), none, none, some (.aload_n 0, 8, []), some (.invokevirtual 177, 11, [1, 0, 22, 153]), none, none, some (.ifCond .eq 28, 14, [39]), none, none, some (.aload_n 0, 15, []), some (.getfield 114, 18, [9, 0, 22]), none, none, some (.bipush 6, 20, [6]), none, some (.if_icmp .gt 19, 23, [39]), none, none, some (.aload_n 0, 24, []), some (.getfield 193, 27, [22, 0, 22]), none, none, some (.ifCond .eq 12, 30, [39]), none, none, some (.aload_n 0, 31, []), some (.getfield 200, 34, [24, 0, 22]), none, none, some (.bipush 20, 36, [20]), none, some (.if_icmp .ne 6, 39, [42]), none, none, some (.bipush (-103), 41, []), none, some (.ireturn, 42, []), some (.aload_n 0, 43, []), some (.dup, 44, []), some (.getfield 200, 47, [24, 0, 22]), none, none, some (.iconst 1, 48, [1]), some (.iadd, 49, []), some (.putfield 200, 52, [24, 0, 22]), none, none, some (.aload_n 0, 53, []), some (.invokevirtual 203, 56, [1, 0, 22, 164]), none, none, some (.istore_n 1, 57, []), some (.iconst 0, 58, [0]), some (.istore_n 2, 59, []), some (.iload_n 2, 60, []), some (.iload_n 1, 61, []), some (.if_icmp .ge 17, 64, [78]), none, none, some (.aload_n 0, 65, []), some (.getfield 53, 68, [26, 2, 22]), none, none, some (.iload_n 2, 69, []), some (.ldc 212, 71, [1000000]), none, some (.iastore, 72, []), some (.iinc 2 1, 75, [1]), none, none, some (.goto (-16), 78, [59]), none, none, some (.aload_n 0, 79, []), some (.invokevirtual 158, 82, [1, 0, 22, 142]), none, none, some (.aload_n 0, 83, []), some (.getfield 53, 86, [26, 2, 22]), none, none, some (.aload_n 0, 87, []), some (.invokevirtual 213, 90, [1, 0, 22, 166]), none, none, some (.iconst 0, 91, [0]), some (.iastore, 92, []), some (.iconst 0, 93, [0]), some (.istore_n 2, 94, []), some (.iload_n 2, 95, []), some (.aload_n 0, 96, []), some (.getfield 193, 99, [22, 0, 22]), none, none, some (.if_icmp .ge 148, 102, [247]), none, none, some (.aload_n 0, 103, []), some (.iload_n 1, 104, []), some (.invokevirtual 216, 107, [1, 1, 22, 168]), none, none, some (.iconst 0, 108, [0]), some (.istore_n 3, 109, []), some (.iload_n 3, 110, []), some (.iload_n 1, 111, []), some (.if_icmp .ge 17, 114, [128]), none, none, some (.aload_n 0, 115, []), some (.getfield 56, 118, [27, 2, 22]), none, none, some (.iload_n 3, 119, []), some (.ldc 212, 121, [1000000]), none, some (.iastore, 122, []), some (.iinc 3 1, 125, [1]), none, none, some (.goto (-16), 128, [109]), none, none, some (.iconst 0, 129, [0]), some (.istore_n 3, 130, []), some (.iload_n 3, 131, []), some (.iload_n 1, 132, []), some (.if_icmp .ge 84, 135, [216]), none, none, some (.aload_n 0, 136, []), some (.getfield 53, 139, [26, 2, 22]), none, none, some (.iload_n 3, 140, []), some (.iaload, 141, []), some (.ldc 212, 143, [1000000]), none, some (.if_icmp .ge 67, 146, [210]), none, none, some (.aload_n 0, 147, []), some (.iload_n 3, 148, []), some (.invokevirtual 206, 151, [1, 1, 22, 165]), none, none, some (.aload_n 0, 152, []), some (.iconst (-1), 153, []), some (.invokevirtual 161, 156, [1, 1, 22, 144]), none, none, some (.aload_n 0, 157, []), some (.getfield 46, 160, [23, 2, 22]), none, none, some (.iload_n 2, 161, []), some (.iaload, 162, []), some (.if_icmp .ne 48, 165, [210]), none, none, some (.aload_n 0, 166, []), some (.invokevirtual 213, 169, [1, 0, 22, 166]), none, none, some (.istore 4, 171, []), none, some (.aload_n 0, 172, []), some (.getfield 56, 175, [27, 2, 22]), none, none, some (.iload 4, 177, []), none, some (.aload_n 0, 178, []), some (.getfield 53, 181, [26, 2, 22]), none, none, some (.iload_n 3, 182, []), some (.iaload, 183, []), some (.aload_n 0, 184, []), some (.getfield 56, 187, [27, 2, 22]), none, none, some (.iload 4, 189, []), none, some (.iaload, 190, []), some (.if_icmp .ge 12, 193, [202]), none, none, some (.aload_n 0, 194, []), some (.getfield 53, 197, [26, 2, 22]), none, none, some (.iload_n 3, 198, []), some (.iaload, 199, []), some (.goto 10, 202, [209]), none, none, some (.aload_n 0, 203, []), some (.getfield 56, 206, [27, 2, 22]), none, none, some (.iload 4, 208, []), none, some (.iaload, 209, []), some (.iastore, 210, []), some (.iinc 3 1, 213, [1]), none, none, some (.goto (-83), 216, [130]), none, none, some (.iconst 0, 217, [0]), some (.istore_n 3, 218, []), some (.iload_n 3, 219, []), some (.iload_n 1, 220, []), some (.if_icmp .ge 21, 223, [241]), none, none, some (.aload_n 0, 224, []), some (.getfield 53, 227, [26, 2, 22]), none, none, some (.iload_n 3, 228, []), some (.aload_n 0, 229, []), some (.getfield 56, 232, [27, 2, 22]), none, none, some (.iload_n 3, 233, []), some (.iaload, 234, []), some (.iastore, 235, []), some (.iinc 3 1, 238, [1]), none, none, some (.goto (-20), 241, [218]), none, none, some (.iinc 2 1, 244, [1]), none, none, some (.goto (-150), 247, [94]), none, none, some (.ldc 212, 249, [1000000]), none, some (.istore_n 2, 250, []), some (.iconst 0, 251, [0]), some (.istore_n 3, 252, []), some (.iload_n 3, 253, []), some (.iload_n 1, 254, []), some (.if_icmp .ge 30, 257, [284]), none, none, some (.aload_n 0, 258, []), some (.getfield 53, 261, [26, 2, 22]), none, none, some (.iload_n 3, 262, []), some (.iaload, 263, []), some (.iload_n 2, 264, []), some (.if_icmp .ge 12, 267, [276]), none, none, some (.aload_n 0, 268, []), some (.getfield 53, 271, [26, 2, 22]), none, none, some (.iload_n 3, 272, []), some (.iaload, 273, []), some (.goto 4, 276, [277]), none, none, some (.iload_n 2, 277, []), some (.istore_n 2, 278, []), some (.iinc 3 1, 281, [1]), none, none, some (.goto (-29), 284, [252]), none, none, some (.iload_n 2, 285, []), some (.ldc 212, 287, [1000000]), none, some (.if_icmp .ne 7, 290, [294]), none, none, some (.iconst (-1), 291, []), some (.goto 4, 294, [295]), none, none, some (.iload_n 2, 295, []), some (.ireturn, 296, [])]
def kc_M_emptyOf : List (Option mjE) := [some (.aload_n 0, 1, []), some (.invokevirtual 158, 4, [1, 0, 22, 142]), none, none, some (.iconst 0, 5, [0]), some (.istore_n 2, 6, []), some (.iload_n 2, 7, []), some (.sipush 200, 10, [200]), none, none, some (.if_icmp .gt 20, 13, [30]), none, none, some (.aload_n 0, 14, []), some (.iconst (-1), 15, []), some (.invokevirtual 161, 18, [1, 1, 22, 144]), none, none, some (.iload_n 1, 19, []), some (.if_icmp .ne 5, 22, [24]), none, none, some (.iload_n 2, 23, []), some (.ireturn, 24, []), some (.iinc 2 1, 27, [1]), none, none, some (.goto (-21), 30, [6]), none, none, some (.iconst (-1), 31, []), some (.ireturn, 32, [])]
def kc_M_empty : List (Option mjE) := [some (.iload_n 1, 1, []), some (.i2l, 2, []), some (.lconst 0, 3, []), some (.ldc2_w 164, 6, [9]), none, none, some (.invokestatic 95, 9, [0, 3, 123]), none, none, some (.ifCond .ne 6, 12, [15]), none, none, some (.bipush (-101), 14, []), none, some (.ireturn, 15, []), some (.aload_n 0, 16, []), some (.invokevirtual 141, 19, [1, 0, 22, 132]), none, none, some (.ifCond .eq 8, 22, [27]), none, none, some (.bipush (-103), 24, []), none, some (.goto 8, 27, [32]), none, none, some (.aload_n 0, 28, []), some (.iload_n 1, 29, []), some (.invokevirtual 219, 32, [1, 1, 22, 170]), none, none, some (.ireturn, 33, [])]
def kc_M_which : List (Option mjE) := [some (.aload_n 0, 1, []), some (.invokevirtual 141, 4, [1, 0, 22, 132]), none, none, some (.ifCond .ne 10, 7, [14]), none, none, some (.aload_n 0, 8, []), some (.getfield 193, 11, [22, 0, 22]), none, none, some (.ifCond .ne 6, 14, [17]), none, none, some (.bipush (-103), 16, []), none, some (.ireturn, 17, []), some (.iconst 0, 18, [0]), some (.istore_n 1, 19, []), some (.iconst 0, 20, [0]), some (.istore_n 2, 21, []), some (.iload_n 2, 22, []), some (.bipush 10, 24, [10]), none, some (.if_icmp .gt 55, 27, [79]), none, none, some (.iload_n 2, 28, []), some (.aload_n 0, 29, []), some (.getfield 114, 32, [9, 0, 22]), none, none, some (.if_icmp .lt 9, 35, [41]), none, none, some (.iload_n 2, 36, []), some (.bipush 10, 38, [10]), none, some (.if_icmp .ne 35, 41, [73]), none, none, some (.aload_n 0, 42, []), some (.invokevirtual 158, 45, [1, 0, 22, 142]), none, none, some (.iload_n 1, 46, []), some (.aload_n 0, 47, []), some (.iload_n 2, 48, []), some (.bipush 10, 50, [10]), none, some (.if_icmp .ne 7, 53, [57]), none, none, some (.iconst (-1), 54, []), some (.goto 4, 57, [58]), none, none, some (.iload_n 2, 58, []), some (.invokevirtual 209, 61, [1, 1, 22, 163]), none, none, some (.ifCond .eq 9, 64, [70]), none, none, some (.iconst 1, 65, [1]), some (.iload_n 2, 66, []), some (.ishl, 67, []), some (.goto 4, 70, [71]), none, none, some (.iconst 0, 71, [0]), some (.ior, 72, []), some (.istore_n 1, 73, []), some (.iinc 2 1, 76, [1]), none, none, some (.goto (-55), 79, [21]), none, none, some (.iload_n 1, 80, []), some (.ireturn, 81, [])]
def kc_M_doesTurn : List (Option mjE) := [some (.iload_n 1, 1, []), some (.ifCond .eq 16, 4, [17]), none, none, some (.aload_n 0, 5, []), some (.iconst 0, 6, [0]), some (.invokevirtual 174, 9, [1, 1, 22, 152]), none, none, some (.iload_n 1, 10, []), some (.ishr, 11, []), some (.iconst 1, 12, [1]), some (.iand, 13, []), some (.iconst 1, 14, [1]), some (.if_icmp .ne 7, 17, [21]), none, none, some (.iconst 1, 18, [1]), some (.goto 4, 21, [22]), none, none, some (.iconst 0, 22, [0]), some (.istore_n 2, 23, []), some (.iload_n 2, 24, []), some (.ifCond .eq 26, 27, [50]), none, none, some (.aload_n 0, 28, []), some (.getfield 22, 31, [11, 2, 22]), none, none, some (.iload_n 1, 32, []), some (.iaload, 33, []), some (.iconst 1, 34, [1]), some (.if_icmp .eq 16, 37, [50]), none, none, some (.aload_n 0, 38, []), some (.iload_n 1, 39, []), some (.invokevirtual 123, 42, [1, 1, 22, 133]), none, none, some (.iconst 1, 43, [1]), some (.if_icmp .le 7, 46, [50]), none, none, some (.iconst 1, 47, [1]), some (.goto 4, 50, [51]), none, none, some (.iconst 0, 51, [0]), some (.ireturn, 52, [])]
def kc_M_layGoes : List (Option mjE) := [some (.iconst 0, 1, [0]), some (.istore_n 1, 2, []), some (.iload_n 1, 3, []), some (.bipush 10, 5, [10]), none, some (.if_icmp .gt 67, 8, [72]), none, none, some (.aload_n 0, 9, []), some (.invokevirtual 158, 12, [1, 0, 22, 142]), none, none, some (.iconst 0, 13, [0]), some (.istore_n 2, 14, []), some (.iload_n 2, 15, []), some (.bipush 40, 17, [40]), none, some (.if_icmp .ge 49, 20, [66]), none, none, some (.iload_n 1, 21, []), some (.aload_n 0, 22, []), some (.getfield 114, 25, [9, 0, 22]), none, none, some (.if_icmp .lt 9, 28, [34]), none, none, some (.iload_n 1, 29, []), some (.bipush 10, 31, [10]), none, some (.if_icmp .ne 35, 34, [66]), none, none, some (.aload_n 0, 35, []), some (.getfield 59, 38, [28, 2, 22]), none, none, some (.bipush 40, 40, [40]), none, some (.iload_n 1, 41, []), some (.imul, 42, []), some (.iload_n 2, 43, []), some (.iadd, 44, []), some (.aload_n 0, 45, []), some (.iload_n 1, 46, []), some (.bipush 10, 48, [10]), none, some (.if_icmp .ne 7, 51, [55]), none, none, some (.iconst (-1), 52, []), some (.goto 4, 55, [56]), none, none, some (.iload_n 1, 56, []), some (.invokevirtual 161, 59, [1, 1, 22, 144]), none, none, some (.iastore, 60, []), some (.iinc 2 1, 63, [1]), none, none, some (.goto (-49), 66, [14]), none, none, some (.iinc 1 1, 69, [1]), none, none, some (.goto (-67), 72, [2]), none, none, some (.return_, 73, [])]
def kc_M_unlike : List (Option mjE) := [some (.iconst 0, 1, [0]), some (.istore_n 3, 2, []), some (.iload_n 3, 3, []), some (.bipush 40, 5, [40]), none, some (.if_icmp .ge 38, 8, [43]), none, none, some (.aload_n 0, 9, []), some (.getfield 59, 12, [28, 2, 22]), none, none, some (.bipush 40, 14, [40]), none, some (.iload_n 1, 15, []), some (.imul, 16, []), some (.iload_n 3, 17, []), some (.iadd, 18, []), some (.iaload, 19, []), some (.aload_n 0, 20, []), some (.getfield 59, 23, [28, 2, 22]), none, none, some (.bipush 40, 25, [40]), none, some (.iload_n 2, 26, []), some (.imul, 27, []), some (.iload_n 3, 28, []), some (.iadd, 29, []), some (.iaload, 30, []), some (.if_icmp .eq 7, 33, [37]), none, none, some (.iload_n 3, 34, []), some (.iconst 1, 35, [1]), some (.iadd, 36, []), some (.ireturn, 37, []), some (.iinc 3 1, 40, [1]), none, none, some (.goto (-38), 43, [2]), none, none, some (.ldc 212, 45, [1000000]), none, some (.ireturn, 46, [])]
def kc_M_noticedOf : List (Option mjE) := [some (.aload_n 0, 1, []), some (.invokevirtual 222, 4, [1, 0, 22, 174]), none, none, some (.iconst 1, 5, [1]), some (.istore_n 2, 6, []), some (.iconst 0, 7, [0]), some (.istore_n 3, 8, []), some (.iload_n 3, 9, []), some (.aload_n 0, 10, []), some (.getfield 114, 13, [9, 0, 22]), none, none, some (.if_icmp .ge 93, 16, [106]), none, none, some (.aload_n 0, 17, []), some (.iload_n 3, 18, []), some (.invokevirtual 225, 21, [1, 1, 22, 173]), none, none, some (.ifCond .eq 79, 24, [100]), none, none, some (.aload_n 0, 25, []), some (.iload_n 3, 26, []), some (.bipush 10, 28, [10]), none, some (.invokevirtual 228, 31, [1, 2, 22, 175]), none, none, some (.istore 4, 33, []), none, some (.iload 4, 35, []), none, some (.iload_n 2, 36, []), some (.if_icmp .le 8, 39, [44]), none, none, some (.iload 4, 41, []), none, some (.goto 4, 44, [45]), none, none, some (.iload_n 2, 45, []), some (.istore_n 2, 46, []), some (.iconst 0, 47, [0]), some (.istore 5, 49, []), none, some (.iload 5, 51, []), none, some (.iload_n 3, 52, []), some (.if_icmp .ge 48, 55, [100]), none, none, some (.iload_n 1, 56, []), some (.ifCond .eq 44, 59, [100]), none, none, some (.aload_n 0, 60, []), some (.iload 5, 62, []), none, some (.invokevirtual 225, 65, [1, 1, 22, 173]), none, none, some (.ifCond .eq 13, 68, [78]), none, none, some (.aload_n 0, 69, []), some (.iload_n 3, 70, []), some (.iload 5, 72, []), none, some (.invokevirtual 228, 75, [1, 2, 22, 175]), none, none, some (.goto 4, 78, [79]), none, none, some (.iconst 1, 79, [1]), some (.istore 6, 81, []), none, some (.iload 6, 83, []), none, some (.iload_n 2, 84, []), some (.if_icmp .le 8, 87, [92]), none, none, some (.iload 6, 89, []), none, some (.goto 4, 92, [93]), none, none, some (.iload_n 2, 93, []), some (.istore_n 2, 94, []), some (.iinc 5 1, 97, [1]), none, none, some (.goto (-48), 100, [49]), none, none, some (.iinc 3 1, 103, [1]), none, none, some (.goto (-95), 106, [8]), none, none, some (.iload_n 2, 107, []), some (.ldc 212, 109, [1000000]), none, some (.if_icmp .ne 7, 112, [116]), none, none, some (.iconst (-1), 113, []), some (.goto 4, 116, [117]), none, none, some (.iload_n 2, 117, []), some (.ireturn, 118, [])]
def kc_M_noticed : List (Option mjE) := [some (.aload_n 0, 1, []), some (.invokevirtual 141, 4, [1, 0, 22, 132]), none, none, some (.ifCond .eq 8, 7, [12]), none, none, some (.bipush (-103), 9, []), none, some (.goto 8, 12, [17]), none, none, some (.aload_n 0, 13, []), some (.iconst 0, 14, [0]), some (.invokevirtual 231, 17, [1, 1, 22, 176]), none, none, some (.ireturn, 18, [])]
def kc_M_apart : List (Option mjE) := [some (.aload_n 0, 1, []), some (.invokevirtual 141, 4, [1, 0, 22, 132]), none, none, some (.ifCond .eq 8, 7, [12]), none, none, some (.bipush (-103), 9, []), none, some (.goto 8, 12, [17]), none, none, some (.aload_n 0, 13, []), some (.iconst 1, 14, [1]), some (.invokevirtual 231, 17, [1, 1, 22, 176]), none, none, some (.ireturn, 18, [])]
def kc_M_image : List (Option mjE) := [some (.aload_n 0, 1, []), some (.invokevirtual 141, 4, [1, 0, 22, 132]), none, none, some (.ifCond .eq 6, 7, [10]), none, none, some (.bipush (-103), 9, []), none, some (.ireturn, 10, []), some (.iconst 0, 11, [0]), some (.istore_n 1, 12, []), some (.iload_n 1, 13, []), some (.bipush 10, 15, [10]), none, some (.if_icmp .ge 21, 18, [36]), none, none, some (.aload_n 0, 19, []), some (.getfield 62, 22, [31, 2, 22]), none, none, some (.iload_n 1, 23, []), some (.aload_n 0, 24, []), some (.getfield 31, 27, [14, 2, 22]), none, none, some (.iload_n 1, 28, []), some (.iaload, 29, []), some (.iastore, 30, []), some (.iinc 1 1, 33, [1]), none, none, some (.goto (-21), 36, [12]), none, none, some (.iconst 0, 37, [0]), some (.istore_n 1, 38, []), some (.iload_n 1, 39, []), some (.bipush 60, 41, [60]), none, some (.if_icmp .ge 21, 44, [62]), none, none, some (.aload_n 0, 45, []), some (.getfield 65, 48, [32, 2, 22]), none, none, some (.iload_n 1, 49, []), some (.aload_n 0, 50, []), some (.getfield 34, 53, [16, 2, 22]), none, none, some (.iload_n 1, 54, []), some (.iaload, 55, []), some (.iastore, 56, []), some (.iinc 1 1, 59, [1]), none, none, some (.goto (-21), 62, [38]), none, none, some (.aload_n 0, 63, []), some (.aload_n 0, 64, []), some (.getfield 117, 67, [15, 0, 22]), none, none, some (.putfield 68, 70, [29, 0, 22]), none, none, some (.aload_n 0, 71, []), some (.aload_n 0, 72, []), some (.getfield 120, 75, [10, 0, 22]), none, none, some (.putfield 235, 78, [30, 0, 22]), none, none, some (.aload_n 0, 79, []), some (.getfield 117, 82, [15, 0, 22]), none, none, some (.ireturn, 83, [])]
def kc_M_restore : List (Option mjE) := [some (.aload_n 0, 1, []), some (.getfield 68, 4, [29, 0, 22]), none, none, some (.iconst (-1), 5, []), some (.if_icmp .eq 14, 8, [19]), none, none, some (.aload_n 0, 9, []), some (.getfield 235, 12, [30, 0, 22]), none, none, some (.aload_n 0, 13, []), some (.getfield 120, 16, [10, 0, 22]), none, none, some (.if_icmp .eq 6, 19, [22]), none, none, some (.bipush (-103), 21, []), none, some (.ireturn, 22, []), some (.iconst 0, 23, [0]), some (.istore_n 1, 24, []), some (.iload_n 1, 25, []), some (.bipush 10, 27, [10]), none, some (.if_icmp .ge 21, 30, [48]), none, none, some (.aload_n 0, 31, []), some (.getfield 31, 34, [14, 2, 22]), none, none, some (.iload_n 1, 35, []), some (.aload_n 0, 36, []), some (.getfield 62, 39, [31, 2, 22]), none, none, some (.iload_n 1, 40, []), some (.iaload, 41, []), some (.iastore, 42, []), some (.iinc 1 1, 45, [1]), none, none, some (.goto (-21), 48, [24]), none, none, some (.iconst 0, 49, [0]), some (.istore_n 1, 50, []), some (.iload_n 1, 51, []), some (.bipush 60, 53, [60]), none, some (.if_icmp .ge 21, 56, [74]), none, none, some (.aload_n 0, 57, []), some (.getfield 34, 60, [16, 2, 22]), none, none, some (.iload_n 1, 61, []), some (.aload_n 0, 62, []), some (.getfield 65, 65, [32, 2, 22]), none, none, some (.iload_n 1, 66, []), some (.iaload, 67, []), some (.iastore, 68, []), some (.iinc 1 1, 71, [1]), none, none, some (.goto (-21), 74, [50]), none, none, some (.aload_n 0, 75, []), some (.aload_n 0, 76, []), some (.getfield 68, 79, [29, 0, 22]), none, none, some (.putfield 117, 82, [15, 0, 22]), none, none, some (.aload_n 0, 83, []), some (.getfield 117, 86, [15, 0, 22]), none, none, some (.ireturn, 87, [])]
def kc_M_countOf : List (Option mjE) := [some (.iload_n 1, 1, []), some (.tableswitch 69 0 5 #[39, 44, 49, 54, 59, 64], 40, [70, 40, 45, 50, 55, 60, 65]), none, none, none, none, none, none, none, none, none, none, none, none, none, none, none, none, none, none, none, none, none, none, none, none, none, none, none, none, none, none, none, none, none, none, none, none, none, none, some (.aload_n 0, 41, []), some (.getfield 114, 44, [9, 0, 22]), none, none, some (.ireturn, 45, []), some (.aload_n 0, 46, []), some (.getfield 117, 49, [15, 0, 22]), none, none, some (.ireturn, 50, []), some (.aload_n 0, 51, []), some (.getfield 193, 54, [22, 0, 22]), none, none, some (.ireturn, 55, []), some (.aload_n 0, 56, []), some (.getfield 74, 59, [1, 0, 22]), none, none, some (.ireturn, 60, []), some (.aload_n 0, 61, []), some (.getfield 120, 64, [10, 0, 22]), none, none, some (.ireturn, 65, []), some (.aload_n 0, 66, []), some (.getfield 200, 69, [24, 0, 22]), none, none, some (.ireturn, 70, []), some (.bipush (-102), 72, []), none, some (.ireturn, 73, [])]
def kc_M_count : List (Option mjE) := [some (.aload_n 0, 1, []), some (.iload_n 1, 2, []), some (.invokevirtual 238, 5, [1, 1, 22, 181]), none, none, some (.ireturn, 6, [])]
def kc_M_say : List (Option mjE) := [some (.aload_n 0, 1, []), some (.ldc2_w 241, 4, [31]), none, none, some (.aload_n 0, 5, []), some (.getfield 243, 8, [33, 3, 22]), none, none, some (.lmul, 9, []), some (.lload_n 1, 10, []), some (.ladd, 11, []), some (.putfield 243, 14, [33, 3, 22]), none, none, some (.return_, 15, [])]
def kc_M_sayYard : List (Option mjE) := [some (.aload_n 0, 1, []), some (.aload_n 0, 2, []), some (.invokevirtual 171, 5, [1, 0, 22, 149]), none, none, some (.i2l, 6, []), some (.invokevirtual 247, 9, [1, 1, 22, 183]), none, none, some (.aload_n 0, 10, []), some (.aload_n 0, 11, []), some (.invokevirtual 177, 14, [1, 0, 22, 153]), none, none, some (.ifCond .eq 7, 17, [21]), none, none, some (.lconst 1, 18, []), some (.goto 4, 21, [22]), none, none, some (.lconst 0, 22, []), some (.invokevirtual 247, 25, [1, 1, 22, 183]), none, none, some (.iconst 0, 26, [0]), some (.istore_n 1, 27, []), some (.iload_n 1, 28, []), some (.bipush 10, 30, [10]), none, some (.if_icmp .ge 19, 33, [49]), none, none, some (.aload_n 0, 34, []), some (.aload_n 0, 35, []), some (.iload_n 1, 36, []), some (.invokevirtual 219, 39, [1, 1, 22, 170]), none, none, some (.i2l, 40, []), some (.invokevirtual 247, 43, [1, 1, 22, 183]), none, none, some (.iinc 1 1, 46, [1]), none, none, some (.goto (-19), 49, [27]), none, none, some (.aload_n 0, 50, []), some (.aload_n 0, 51, []), some (.iconst 0, 52, [0]), some (.invokevirtual 231, 55, [1, 1, 22, 176]), none, none, some (.i2l, 56, []), some (.invokevirtual 247, 59, [1, 1, 22, 183]), none, none, some (.return_, 60, [])]
def kc_M_digest : List (Option mjE) := [some (.aload_n 0, 1, []), some (.ldc2_w 251, 4, [521]), none, none, some (.putfield 243, 7, [33, 3, 22]), none, none, some (.iconst 0, 8, [0]), some (.istore_n 1, 9, []), some (.iload_n 1, 10, []), some (.aload_n 0, 11, []), some (.getfield 114, 14, [9, 0, 22]), none, none, some (.if_icmp .ge 45, 17, [59]), none, none, some (.iconst 0, 18, [0]), some (.istore_n 2, 19, []), some (.iload_n 2, 20, []), some (.bipush 13, 22, [13]), none, some (.if_icmp .ge 31, 25, [53]), none, none, some (.iload_n 2, 26, []), some (.iconst 5, 27, [5]), some (.if_icmp .lt 9, 30, [36]), none, none, some (.iload_n 2, 31, []), some (.bipush 9, 33, [9]), none, some (.if_icmp .le 14, 36, [47]), none, none, some (.aload_n 0, 37, []), some (.aload_n 0, 38, []), some (.iload_n 1, 39, []), some (.iload_n 2, 40, []), some (.invokevirtual 133, 43, [1, 2, 22, 136]), none, none, some (.i2l, 44, []), some (.invokevirtual 247, 47, [1, 1, 22, 183]), none, none, some (.iinc 2 1, 50, [1]), none, none, some (.goto (-31), 53, [19]), none, none, some (.iinc 1 1, 56, [1]), none, none, some (.goto (-47), 59, [9]), none, none, some (.iconst 0, 60, [0]), some (.istore_n 1, 61, []), some (.iload_n 1, 62, []), some (.bipush 10, 64, [10]), none, some (.if_icmp .ge 51, 67, [115]), none, none, some (.aload_n 0, 68, []), some (.aload_n 0, 69, []), some (.iload_n 1, 70, []), some (.invokevirtual 166, 73, [1, 1, 22, 146]), none, none, some (.i2l, 74, []), some (.invokevirtual 247, 77, [1, 1, 22, 183]), none, none, some (.iconst 0, 78, [0]), some (.istore_n 2, 79, []), some (.iload_n 2, 80, []), some (.aload_n 0, 81, []), some (.getfield 117, 84, [15, 0, 22]), none, none, some (.if_icmp .ge 25, 87, [109]), none, none, some (.aload_n 0, 88, []), some (.getfield 34, 91, [16, 2, 22]), none, none, some (.iload_n 2, 92, []), some (.iaload, 93, []), some (.iload_n 1, 94, []), some (.if_icmp .ne 9, 97, [103]), none, none, some (.aload_n 0, 98, []), some (.iload_n 2, 99, []), some (.i2l, 100, []), some (.invokevirtual 247, 103, [1, 1, 22, 183]), none, none, some (.iinc 2 1, 106, [1]), none, none, some (.goto (-27), 109, [79]), none, none, some (.iinc 1 1, 112, [1]), none, none, some (.goto (-51), 115, [61]), none, none, some (.aload_n 0, 116, []), some (.invokevirtual 141, 119, [1, 0, 22, 132]), none, none, some (.ifCond .ne 7, 122, [126]), none, none, some (.aload_n 0, 123, []), some (.invokevirtual 253, 126, [1, 0, 22, 184]), none, none, some (.iconst 0, 127, [0]), some (.istore_n 1, 128, []), some (.iload_n 1, 129, []), some (.aload_n 0, 130, []), some (.getfield 193, 133, [22, 0, 22]), none, none, some (.if_icmp .ge 20, 136, [153]), none, none, some (.aload_n 0, 137, []), some (.aload_n 0, 138, []), some (.getfield 46, 141, [23, 2, 22]), none, none, some (.iload_n 1, 142, []), some (.iaload, 143, []), some (.i2l, 144, []), some (.invokevirtual 247, 147, [1, 1, 22, 183]), none, none, some (.iinc 1 1, 150, [1]), none, none, some (.goto (-22), 153, [128]), none, none, some (.iconst 0, 154, [0]), some (.istore_n 1, 155, []), some (.iload_n 1, 156, []), some (.aload_n 0, 157, []), some (.getfield 74, 160, [1, 0, 22]), none, none, some (.if_icmp .ge 20, 163, [180]), none, none, some (.aload_n 0, 164, []), some (.aload_n 0, 165, []), some (.getfield 7, 168, [0, 2, 22]), none, none, some (.iload_n 1, 169, []), some (.iaload, 170, []), some (.i2l, 171, []), some (.invokevirtual 247, 174, [1, 1, 22, 183]), none, none, some (.iinc 1 1, 177, [1]), none, none, some (.goto (-22), 180, [155]), none, none, some (.iconst 0, 181, [0]), some (.istore_n 1, 182, []), some (.iload_n 1, 183, []), some (.bipush 6, 185, [6]), none, some (.if_icmp .ge 19, 188, [204]), none, none, some (.aload_n 0, 189, []), some (.aload_n 0, 190, []), some (.iload_n 1, 191, []), some (.invokevirtual 238, 194, [1, 1, 22, 181]), none, none, some (.i2l, 195, []), some (.invokevirtual 247, 198, [1, 1, 22, 183]), none, none, some (.iinc 1 1, 201, [1]), none, none, some (.goto (-19), 204, [182]), none, none, some (.aload_n 0, 205, []), some (.getfield 243, 208, [33, 3, 22]), none, none, some (.lreturn, 209, [])]
def kc_In_bitCount : List (Option mjE) := [some (.iload_n 0, 1, []), some (.iload_n 0, 2, []), some (.iconst 1, 3, [1]), some (.iushr, 4, []), some (.ldc_w 265, 7, [1431655765]), none, none, some (.iand, 8, []), some (.isub, 9, []), some (.istore_n 0, 10, []), some (.iload_n 0, 11, []), some (.ldc_w 266, 14, [858993459]), none, none, some (.iand, 15, []), some (.iload_n 0, 16, []), some (.iconst 2, 17, [2]), some (.iushr, 18, []), some (.ldc_w 266, 21, [858993459]), none, none, some (.iand, 22, []), some (.iadd, 23, []), some (.istore_n 0, 24, []), some (.iload_n 0, 25, []), some (.iload_n 0, 26, []), some (.iconst 4, 27, [4]), some (.iushr, 28, []), some (.iadd, 29, []), some (.ldc_w 267, 32, [252645135]), none, none, some (.iand, 33, []), some (.istore_n 0, 34, []), some (.iload_n 0, 35, []), some (.iload_n 0, 36, []), some (.bipush 8, 38, [8]), none, some (.iushr, 39, []), some (.iadd, 40, []), some (.istore_n 0, 41, []), some (.iload_n 0, 42, []), some (.iload_n 0, 43, []), some (.bipush 16, 45, [16]), none, some (.iushr, 46, []), some (.iadd, 47, []), some (.istore_n 0, 48, []), some (.iload_n 0, 49, []), some (.bipush 63, 51, [63]), none, some (.iand, 52, []), some (.ireturn, 53, [])]
def kc_Ma_floorMod : List (Option mjE) := [some (.iload_n 0, 1, []), some (.iload_n 1, 2, []), some (.irem, 3, []), some (.istore_n 2, 4, []), some (.iload_n 0, 5, []), some (.iload_n 1, 6, []), some (.ixor, 7, []), some (.ifCond .ge 11, 10, [18]), none, none, some (.iload_n 2, 11, []), some (.ifCond .eq 7, 14, [18]), none, none, some (.iload_n 2, 15, []), some (.iload_n 1, 16, []), some (.iadd, 17, []), some (.ireturn, 18, []), some (.iload_n 2, 19, []), some (.ireturn, 20, [])]
def kc_Ma_max : List (Option mjE) := [some (.iload_n 0, 1, []), some (.iload_n 1, 2, []), some (.if_icmp .lt 7, 5, [9]), none, none, some (.iload_n 0, 6, []), some (.goto 4, 9, [10]), none, none, some (.iload_n 1, 10, []), some (.ireturn, 11, [])]
def kc_Ma_min : List (Option mjE) := [some (.iload_n 0, 1, []), some (.iload_n 1, 2, []), some (.if_icmp .gt 7, 5, [9]), none, none, some (.iload_n 0, 6, []), some (.goto 4, 9, [10]), none, none, some (.iload_n 1, 10, []), some (.ireturn, 11, [])]
def kc_Ar_fill : List (Option mjE) := [some (.iconst 0, 1, [0]), some (.istore_n 2, 2, []), some (.aload_n 0, 3, []), some (.arraylength, 4, []), some (.istore_n 3, 5, []), some (.iload_n 2, 6, []), some (.iload_n 3, 7, []), some (.if_icmp .ge 13, 10, [20]), none, none, some (.aload_n 0, 11, []), some (.iload_n 2, 12, []), some (.iload_n 1, 13, []), some (.iastore, 14, []), some (.iinc 2 1, 17, [1]), none, none, some (.goto (-12), 20, [5]), none, none, some (.return_, 21, [])]
def kc_Ar_fill2 : List (Option mjE) := [some (.iconst 0, 1, [0]), some (.istore_n 2, 2, []), some (.aload_n 0, 3, []), some (.arraylength, 4, []), some (.istore_n 3, 5, []), some (.iload_n 2, 6, []), some (.iload_n 3, 7, []), some (.if_icmp .ge 13, 10, [20]), none, none, some (.aload_n 0, 11, []), some (.iload_n 2, 12, []), some (.iload_n 1, 13, []), some (.bastore, 14, []), some (.iinc 2 1, 17, [1]), none, none, some (.goto (-12), 20, [5]), none, none, some (.return_, 21, [])]
def kc_L_law : List (Option mjE) := [some (.new 7, 3, [21, 15]), none, none, some (.dup, 4, []), some (.invokespecial 9, 7, [2, 0, 81]), none, none, some (.astore_n 1, 8, []), some (.new 10, 11, [22, 34]), none, none, some (.dup, 12, []), some (.invokespecial 12, 15, [2, 0, 122]), none, none, some (.astore_n 2, 16, []), some (.iconst 0, 17, [0]), some (.istore_n 3, 18, []), some (.iload_n 3, 19, []), some (.aload_n 0, 20, []), some (.arraylength, 21, []), some (.iconst 3, 22, [3]), some (.isub, 23, []), some (.if_icmp .gt 745, 26, [768]), none, none, some (.aload_n 0, 27, []), some (.iload_n 3, 28, []), some (.iaload, 29, []), some (.bipush 31, 31, [31]), none, some (.iand, 32, []), some (.tableswitch 730 0 28 #[132, 185, 198, 211, 224, 257, 290, 323, 336, 349, 372, 405, 418, 431, 444, 467, 500, 533, 556, 569, 592, 605, 628, 641, 654, 667, 680, 693, 716], 164, [762, 164, 217, 230, 243, 256, 289, 322, 355, 368, 381, 404, 437, 450, 463, 476, 499, 532, 565, 588, 601, 624, 637, 660, 673, 686, 699, 712, 725, 748]), none, none, none, none, none, none, none, none, none, none, none, none, none, none, none, none, none, none, none, none, none, none, none, none, none, none, none, none, none, none, none, none, none, none, none, none, none, none, none, none, none, none, none, none, none, none, none, none, none, none, none, none, none, none, none, none, none, none, none, none, none, none, none, none, none, none, none, none, none, none, none, none, none, none, none, none, none, none, none, none, none, none, none, none, none, none, none, none, none, none, none, none, none, none, none, none, none, none, none, none, none, none, none, none, none, none, none, none, none, none, none, none, none, none, none, none, none, none, none, none, none, none, none, none, none, none, none, none, none, none, none, some (.aload_n 1, 165, []), some (.aload_n 0, 166, []), some (.iload_n 3, 167, []), some (.iconst 1, 168, [1]), some (.iadd, 169, []), some (.iaload, 170, []), some (.i2l, 171, []), some (.bipush 32, 173, [32]), none, some (.lshl, 174, []), some (.aload_n 0, 175, []), some (.iload_n 3, 176, []), some (.iconst 2, 177, [2]), some (.iadd, 178, []), some (.iaload, 179, []), some (.i2l, 180, []), some (.ldc2_w 13, 183, [4294967295]), none, none, some (.land, 184, []), some (.lor, 185, []), some (.invokevirtual 15, 188, [1, 1, 21, 82]), none, none, some (.aload_n 2, 189, []), some (.aload_n 0, 190, []), some (.iload_n 3, 191, []), some (.iconst 1, 192, [1]), some (.iadd, 193, []), some (.iaload, 194, []), some (.i2l, 195, []), some (.bipush 32, 197, [32]), none, some (.lshl, 198, []), some (.aload_n 0, 199, []), some (.iload_n 3, 200, []), some (.iconst 2, 201, [2]), some (.iadd, 202, []), some (.iaload, 203, []), some (.i2l, 204, []), some (.ldc2_w 13, 207, [4294967295]), none, none, some (.land, 208, []), some (.lor, 209, []), some (.invokevirtual 19, 212, [1, 1, 22, 124]), none, none, some (.if_icmp .eq 550, 215, [762]), none, none, some (.iconst 0, 216, [0]), some (.ireturn, 217, []), some (.aload_n 1, 218, []), some (.invokevirtual 20, 221, [1, 0, 21, 83]), none, none, some (.aload_n 2, 222, []), some (.invokevirtual 24, 225, [1, 0, 22, 125]), none, none, some (.if_icmp .eq 537, 228, [762]), none, none, some (.iconst 0, 229, [0]), some (.ireturn, 230, []), some (.aload_n 1, 231, []), some (.invokevirtual 25, 234, [1, 0, 21, 84]), none, none, some (.aload_n 2, 235, []), some (.invokevirtual 28, 238, [1, 0, 22, 129]), none, none, some (.if_icmp .eq 524, 241, [762]), none, none, some (.iconst 0, 242, [0]), some (.ireturn, 243, []), some (.aload_n 1, 244, []), some (.invokevirtual 29, 247, [1, 0, 21, 85]), none, none, some (.aload_n 2, 248, []), some (.invokevirtual 32, 251, [1, 0, 22, 130]), none, none, some (.if_icmp .eq 511, 254, [762]), none, none, some (.iconst 0, 255, [0]), some (.ireturn, 256, []), some (.aload_n 1, 257, []), some (.aload_n 0, 258, []), some (.iload_n 3, 259, []), some (.iconst 1, 260, [1]), some (.iadd, 261, []), some (.iaload, 262, []), some (.aload_n 0, 263, []), some (.iload_n 3, 264, []), some (.iconst 2, 265, [2]), some (.iadd, 266, []), some (.iaload, 267, []), some (.invokevirtual 33, 270, [1, 2, 21, 86]), none, none, some (.aload_n 2, 271, []), some (.aload_n 0, 272, []), some (.iload_n 3, 273, []), some (.iconst 1, 274, [1]), some (.iadd, 275, []), some (.iaload, 276, []), some (.aload_n 0, 277, []), some (.iload_n 3, 278, []), some (.iconst 2, 279, [2]), some (.iadd, 280, []), some (.iaload, 281, []), some (.invokevirtual 37, 284, [1, 2, 22, 137]), none, none, some (.if_icmp .eq 478, 287, [762]), none, none, some (.iconst 0, 288, [0]), some (.ireturn, 289, []), some (.aload_n 1, 290, []), some (.aload_n 0, 291, []), some (.iload_n 3, 292, []), some (.iconst 1, 293, [1]), some (.iadd, 294, []), some (.iaload, 295, []), some (.aload_n 0, 296, []), some (.iload_n 3, 297, []), some (.iconst 2, 298, [2]), some (.iadd, 299, []), some (.iaload, 300, []), some (.invokevirtual 38, 303, [1, 2, 21, 87]), none, none, some (.aload_n 2, 304, []), some (.aload_n 0, 305, []), some (.iload_n 3, 306, []), some (.iconst 1, 307, [1]), some (.iadd, 308, []), some (.iaload, 309, []), some (.aload_n 0, 310, []), some (.iload_n 3, 311, []), some (.iconst 2, 312, [2]), some (.iadd, 313, []), some (.iaload, 314, []), some (.invokevirtual 41, 317, [1, 2, 22, 138]), none, none, some (.if_icmp .eq 445, 320, [762]), none, none, some (.iconst 0, 321, [0]), some (.ireturn, 322, []), some (.aload_n 1, 323, []), some (.aload_n 0, 324, []), some (.iload_n 3, 325, []), some (.iconst 1, 326, [1]), some (.iadd, 327, []), some (.iaload, 328, []), some (.aload_n 0, 329, []), some (.iload_n 3, 330, []), some (.iconst 2, 331, [2]), some (.iadd, 332, []), some (.iaload, 333, []), some (.invokevirtual 42, 336, [1, 2, 21, 88]), none, none, some (.aload_n 2, 337, []), some (.aload_n 0, 338, []), some (.iload_n 3, 339, []), some (.iconst 1, 340, [1]), some (.iadd, 341, []), some (.iaload, 342, []), some (.aload_n 0, 343, []), some (.iload_n 3, 344, []), some (.iconst 2, 345, [2]), some (.iadd, 346, []), some (.iaload, 347, []), some (.invokevirtual 45, 350, [1, 2, 22, 140]), none, none, some (.if_icmp .eq 412, 353, [762]), none, none, some (.iconst 0, 354, [0]), some (.ireturn, 355, []), some (.aload_n 1, 356, []), some (.invokevirtual 46, 359, [1, 0, 21, 89]), none, none, some (.aload_n 2, 360, []), some (.invokevirtual 49, 363, [1, 0, 22, 141]), none, none, some (.if_icmp .eq 399, 366, [762]), none, none, some (.iconst 0, 367, [0]), some (.ireturn, 368, []), some (.aload_n 1, 369, []), some (.invokevirtual 50, 372, [1, 0, 21, 90]), none, none, some (.aload_n 2, 373, []), some (.invokevirtual 53, 376, [1, 0, 22, 145]), none, none, some (.if_icmp .eq 386, 379, [762]), none, none, some (.iconst 0, 380, [0]), some (.ireturn, 381, []), some (.aload_n 1, 382, []), some (.aload_n 0, 383, []), some (.iload_n 3, 384, []), some (.iconst 1, 385, [1]), some (.iadd, 386, []), some (.iaload, 387, []), some (.invokevirtual 54, 390, [1, 1, 21, 91]), none, none, some (.aload_n 2, 391, []), some (.aload_n 0, 392, []), some (.iload_n 3, 393, []), some (.iconst 1, 394, [1]), some (.iadd, 395, []), some (.iaload, 396, []), some (.invokevirtual 58, 399, [1, 1, 22, 147]), none, none, some (.if_icmp .eq 363, 402, [762]), none, none, some (.iconst 0, 403, [0]), some (.ireturn, 404, []), some (.aload_n 1, 405, []), some (.aload_n 0, 406, []), some (.iload_n 3, 407, []), some (.iconst 1, 408, [1]), some (.iadd, 409, []), some (.iaload, 410, []), some (.aload_n 0, 411, []), some (.iload_n 3, 412, []), some (.iconst 2, 413, [2]), some (.iadd, 414, []), some (.iaload, 415, []), some (.invokevirtual 59, 418, [1, 2, 21, 92]), none, none, some (.aload_n 2, 419, []), some (.aload_n 0, 420, []), some (.iload_n 3, 421, []), some (.iconst 1, 422, [1]), some (.iadd, 423, []), some (.iaload, 424, []), some (.aload_n 0, 425, []), some (.iload_n 3, 426, []), some (.iconst 2, 427, [2]), some (.iadd, 428, []), some (.iaload, 429, []), some (.invokevirtual 62, 432, [1, 2, 22, 148]), none, none, some (.if_icmp .eq 330, 435, [762]), none, none, some (.iconst 0, 436, [0]), some (.ireturn, 437, []), some (.aload_n 1, 438, []), some (.invokevirtual 63, 441, [1, 0, 21, 93]), none, none, some (.aload_n 2, 442, []), some (.invokevirtual 66, 445, [1, 0, 22, 150]), none, none, some (.if_icmp .eq 317, 448, [762]), none, none, some (.iconst 0, 449, [0]), some (.ireturn, 450, []), some (.aload_n 1, 451, []), some (.invokevirtual 67, 454, [1, 0, 21, 94]), none, none, some (.aload_n 2, 455, []), some (.invokevirtual 70, 458, [1, 0, 22, 151]), none, none, some (.if_icmp .eq 304, 461, [762]), none, none, some (.iconst 0, 462, [0]), some (.ireturn, 463, []), some (.aload_n 1, 464, []), some (.invokevirtual 71, 467, [1, 0, 21, 95]), none, none, some (.aload_n 2, 468, []), some (.invokevirtual 74, 471, [1, 0, 22, 154]), none, none, some (.if_icmp .eq 291, 474, [762]), none, none, some (.iconst 0, 475, [0]), some (.ireturn, 476, []), some (.aload_n 1, 477, []), some (.aload_n 0, 478, []), some (.iload_n 3, 479, []), some (.iconst 1, 480, [1]), some (.iadd, 481, []), some (.iaload, 482, []), some (.invokevirtual 75, 485, [1, 1, 21, 96]), none, none, some (.aload_n 2, 486, []), some (.aload_n 0, 487, []), some (.iload_n 3, 488, []), some (.iconst 1, 489, [1]), some (.iadd, 490, []), some (.iaload, 491, []), some (.invokevirtual 78, 494, [1, 1, 22, 158]), none, none, some (.if_icmp .eq 268, 497, [762]), none, none, some (.iconst 0, 498, [0]), some (.ireturn, 499, []), some (.aload_n 1, 500, []), some (.aload_n 0, 501, []), some (.iload_n 3, 502, []), some (.iconst 1, 503, [1]), some (.iadd, 504, []), some (.iaload, 505, []), some (.aload_n 0, 506, []), some (.iload_n 3, 507, []), some (.iconst 2, 508, [2]), some (.iadd, 509, []), some (.iaload, 510, []), some (.invokevirtual 79, 513, [1, 2, 21, 97]), none, none, some (.aload_n 2, 514, []), some (.aload_n 0, 515, []), some (.iload_n 3, 516, []), some (.iconst 1, 517, [1]), some (.iadd, 518, []), some (.iaload, 519, []), some (.aload_n 0, 520, []), some (.iload_n 3, 521, []), some (.iconst 2, 522, [2]), some (.iadd, 523, []), some (.iaload, 524, []), some (.invokevirtual 82, 527, [1, 2, 22, 159]), none, none, some (.if_icmp .eq 235, 530, [762]), none, none, some (.iconst 0, 531, [0]), some (.ireturn, 532, []), some (.aload_n 1, 533, []), some (.aload_n 0, 534, []), some (.iload_n 3, 535, []), some (.iconst 1, 536, [1]), some (.iadd, 537, []), some (.iaload, 538, []), some (.aload_n 0, 539, []), some (.iload_n 3, 540, []), some (.iconst 2, 541, [2]), some (.iadd, 542, []), some (.iaload, 543, []), some (.invokevirtual 83, 546, [1, 2, 21, 98]), none, none, some (.aload_n 2, 547, []), some (.aload_n 0, 548, []), some (.iload_n 3, 549, []), some (.iconst 1, 550, [1]), some (.iadd, 551, []), some (.iaload, 552, []), some (.aload_n 0, 553, []), some (.iload_n 3, 554, []), some (.iconst 2, 555, [2]), some (.iadd, 556, []), some (.iaload, 557, []), some (.invokevirtual 86, 560, [1, 2, 22, 160]), none, none, some (.if_icmp .eq 202, 563, [762]), none, none, some (.iconst 0, 564, [0]), some (.ireturn, 565, []), some (.aload_n 1, 566, []), some (.aload_n 0, 567, []), some (.iload_n 3, 568, []), some (.iconst 1, 569, [1]), some (.iadd, 570, []), some (.iaload, 571, []), some (.invokevirtual 87, 574, [1, 1, 21, 99]), none, none, some (.aload_n 2, 575, []), some (.aload_n 0, 576, []), some (.iload_n 3, 577, []), some (.iconst 1, 578, [1]), some (.iadd, 579, []), some (.iaload, 580, []), some (.invokevirtual 90, 583, [1, 1, 22, 161]), none, none, some (.if_icmp .eq 179, 586, [762]), none, none, some (.iconst 0, 587, [0]), some (.ireturn, 588, []), some (.aload_n 1, 589, []), some (.invokevirtual 91, 592, [1, 0, 21, 100]), none, none, some (.aload_n 2, 593, []), some (.invokevirtual 94, 596, [1, 0, 22, 162]), none, none, some (.if_icmp .eq 166, 599, [762]), none, none, some (.iconst 0, 600, [0]), some (.ireturn, 601, []), some (.aload_n 1, 602, []), some (.aload_n 0, 603, []), some (.iload_n 3, 604, []), some (.iconst 1, 605, [1]), some (.iadd, 606, []), some (.iaload, 607, []), some (.invokevirtual 95, 610, [1, 1, 21, 101]), none, none, some (.aload_n 2, 611, []), some (.aload_n 0, 612, []), some (.iload_n 3, 613, []), some (.iconst 1, 614, [1]), some (.iadd, 615, []), some (.iaload, 616, []), some (.invokevirtual 98, 619, [1, 1, 22, 167]), none, none, some (.if_icmp .eq 143, 622, [762]), none, none, some (.iconst 0, 623, [0]), some (.ireturn, 624, []), some (.aload_n 1, 625, []), some (.invokevirtual 99, 628, [1, 0, 21, 102]), none, none, some (.aload_n 2, 629, []), some (.invokevirtual 102, 632, [1, 0, 22, 169]), none, none, some (.if_icmp .eq 130, 635, [762]), none, none, some (.iconst 0, 636, [0]), some (.ireturn, 637, []), some (.aload_n 1, 638, []), some (.aload_n 0, 639, []), some (.iload_n 3, 640, []), some (.iconst 1, 641, [1]), some (.iadd, 642, []), some (.iaload, 643, []), some (.invokevirtual 103, 646, [1, 1, 21, 103]), none, none, some (.aload_n 2, 647, []), some (.aload_n 0, 648, []), some (.iload_n 3, 649, []), some (.iconst 1, 650, [1]), some (.iadd, 651, []), some (.iaload, 652, []), some (.invokevirtual 106, 655, [1, 1, 22, 171]), none, none, some (.if_icmp .eq 107, 658, [762]), none, none, some (.iconst 0, 659, [0]), some (.ireturn, 660, []), some (.aload_n 1, 661, []), some (.invokevirtual 107, 664, [1, 0, 21, 104]), none, none, some (.aload_n 2, 665, []), some (.invokevirtual 110, 668, [1, 0, 22, 172]), none, none, some (.if_icmp .eq 94, 671, [762]), none, none, some (.iconst 0, 672, [0]), some (.ireturn, 673, []), some (.aload_n 1, 674, []), some (.invokevirtual 111, 677, [1, 0, 21, 105]), none, none, some (.aload_n 2, 678, []), some (.invokevirtual 114, 681, [1, 0, 22, 177]), none, none, some (.if_icmp .eq 81, 684, [762]), none, none, some (.iconst 0, 685, [0]), some (.ireturn, 686, []), some (.aload_n 1, 687, []), some (.invokevirtual 115, 690, [1, 0, 21, 106]), none, none, some (.aload_n 2, 691, []), some (.invokevirtual 118, 694, [1, 0, 22, 178]), none, none, some (.if_icmp .eq 68, 697, [762]), none, none, some (.iconst 0, 698, [0]), some (.ireturn, 699, []), some (.aload_n 1, 700, []), some (.invokevirtual 119, 703, [1, 0, 21, 107]), none, none, some (.aload_n 2, 704, []), some (.invokevirtual 122, 707, [1, 0, 22, 179]), none, none, some (.if_icmp .eq 55, 710, [762]), none, none, some (.iconst 0, 711, [0]), some (.ireturn, 712, []), some (.aload_n 1, 713, []), some (.invokevirtual 123, 716, [1, 0, 21, 108]), none, none, some (.aload_n 2, 717, []), some (.invokevirtual 126, 720, [1, 0, 22, 180]), none, none, some (.if_icmp .eq 42, 723, [762]), none, none, some (.iconst 0, 724, [0]), some (.ireturn, 725, []), some (.aload_n 1, 726, []), some (.aload_n 0, 727, []), some (.iload_n 3, 728, []), some (.iconst 1, 729, [1]), some (.iadd, 730, []), some (.iaload, 731, []), some (.invokevirtual 127, 734, [1, 1, 21, 109]), none, none, some (.aload_n 2, 735, []), some (.aload_n 0, 736, []), some (.iload_n 3, 737, []), some (.iconst 1, 738, [1]), some (.iadd, 739, []), some (.iaload, 740, []), some (.invokevirtual 130, 743, [1, 1, 22, 182]), none, none, some (.if_icmp .eq 19, 746, [762]), none, none, some (.iconst 0, 747, [0]), some (.ireturn, 748, []), some (.aload_n 1, 749, []), some (.invokevirtual 131, 752, [1, 0, 21, 110]), none, none, some (.aload_n 2, 753, []), some (.invokevirtual 135, 756, [1, 0, 22, 185]), none, none, some (.lcmp, 757, []), some (.ifCond .eq 5, 760, [762]), none, none, some (.iconst 0, 761, [0]), some (.ireturn, 762, []), some (.iinc 3 3, 765, [3]), none, none, some (.goto (-747), 768, [18]), none, none, some (.iconst 1, 769, [1]), some (.ireturn, 770, [])]
abbrev kn_Be_init : Nat := 0
abbrev kn_Be_search : Nat := 1
abbrev kn_Be_follow : Nat := 2
abbrev kn_Be_choose : Nat := 3
abbrev kn_Be_keepIfBetter : Nat := 4
abbrev kn_Be_isChosenFirst : Nat := 5
abbrev kn_He_init : Nat := 6
abbrev kn_He_kind : Nat := 7
abbrev kn_He_period : Nat := 8
abbrev kn_La_init : Nat := 9
abbrev kn_La_kind : Nat := 10
abbrev kn_La_standCount : Nat := 11
abbrev kn_La_wayAt : Nat := 12
abbrev kn_La_firstStandAt : Nat := 13
abbrev kn_La_period : Nat := 14
abbrev kn_Pg_init : Nat := 15
abbrev kn_Pg_append : Nat := 16
abbrev kn_Pg_wipe : Nat := 17
abbrev kn_Pg_faultPlace : Nat := 18
abbrev kn_Pg_read : Nat := 19
abbrev kn_Pg_switchCount : Nat := 20
abbrev kn_Pg_endFrom : Nat := 21
abbrev kn_Pg_pointIn : Nat := 22
abbrev kn_Pg_codeIn : Nat := 23
abbrev kn_Pg_lettersIn : Nat := 24
abbrev kn_Pg_kindOf : Nat := 25
abbrev kn_Pg_placeOf : Nat := 26
abbrev kn_Pt_init : Nat := 27
abbrev kn_Pt_kind : Nat := 28
abbrev kn_Pt_standCount : Nat := 29
abbrev kn_Pt_wayAt : Nat := 30
abbrev kn_Pt_firstStandAt : Nat := 31
abbrev kn_Pt_period : Nat := 32
abbrev kn_Pt_turned : Nat := 33
abbrev kn_Pt_placeBy : Nat := 34
abbrev kn_Pt_canTurn : Nat := 35
abbrev kn_Ro_init : Nat := 36
abbrev kn_Ro_send : Nat := 37
abbrev kn_Ro_roundOf : Nat := 38
abbrev kn_Ro_roll : Nat := 39
abbrev kn_Ro_isAsAhead : Nat := 40
abbrev kn_Sc_init : Nat := 41
abbrev kn_Sc_reset : Nat := 42
abbrev kn_Sc_copyFrom : Nat := 43
abbrev kn_Sc_put : Nat := 44
abbrev kn_Sc_trucksIn : Nat := 45
abbrev kn_Sc_truckIn : Nat := 46
abbrev kn_Su_init : Nat := 47
abbrev kn_Su_watch : Nat := 48
abbrev kn_Su_trucksToNotice : Nat := 49
abbrev kn_Su_trucksToTellApart : Nat := 50
abbrev kn_Su_orNone : Nat := 51
abbrev kn_Su_fillStops : Nat := 52
abbrev kn_Su_firstDifference : Nat := 53
abbrev kn_Sw_init : Nat := 54
abbrev kn_Sw_kind : Nat := 55
abbrev kn_Sw_standCount : Nat := 56
abbrev kn_Sw_wayAt : Nat := 57
abbrev kn_Th_init : Nat := 58
abbrev kn_Th_fewest : Nat := 59
abbrev kn_Th_encode : Nat := 60
abbrev kn_Th_makeRoom : Nat := 61
abbrev kn_Th_leave : Nat := 62
abbrev kn_Th_goOn : Nat := 63
abbrev kn_Th_offer : Nat := 64
abbrev kn_Th_startNext : Nat := 65
abbrev kn_Yd_init : Nat := 66
abbrev kn_Yd_pass : Nat := 67
abbrev kn_Yd_placeFrom : Nat := 68
abbrev kn_Yd_standAfter : Nat := 69
abbrev kn_Yd_canLead : Nat := 70
abbrev kn_Yd_tellStands : Nat := 71
abbrev kn_Yd_tellSidings : Nat := 72
abbrev kn_Yd_countOn : Nat := 73
abbrev kn_Yd_countBack : Nat := 74
abbrev kn_Yd_startCount : Nat := 75
abbrev kn_Yd_share : Nat := 76
abbrev kn_Yd_nextOf : Nat := 77
abbrev kn_Yd_reachedFrom : Nat := 78
abbrev kn_Yd_hasLoop : Nat := 79
abbrev kn_Yd_ordered : Nat := 80
abbrev kn_T_init : Nat := 81
abbrev kn_T_letters : Nat := 82
abbrev kn_T_blank : Nat := 83
abbrev kn_T_fault : Nat := 84
abbrev kn_T_yard : Nat := 85
abbrev kn_T_about : Nat := 86
abbrev kn_T_as : Nat := 87
abbrev kn_T_lever : Nat := 88
abbrev kn_T_anew : Nat := 89
abbrev kn_T_down : Nat := 90
abbrev kn_T_many : Nat := 91
abbrev kn_T_truck : Nat := 92
abbrev kn_T_moves : Nat := 93
abbrev kn_T_round : Nat := 94
abbrev kn_T_straight : Nat := 95
abbrev kn_T_nth : Nat := 96
abbrev kn_T_behind : Nat := 97
abbrev kn_T_ago : Nat := 98
abbrev kn_T_want : Nat := 99
abbrev kn_T_clear : Nat := 100
abbrev kn_T_begin : Nat := 101
abbrev kn_T_hands : Nat := 102
abbrev kn_T_empty : Nat := 103
abbrev kn_T_which : Nat := 104
abbrev kn_T_noticed : Nat := 105
abbrev kn_T_apart : Nat := 106
abbrev kn_T_image : Nat := 107
abbrev kn_T_restore : Nat := 108
abbrev kn_T_count : Nat := 109
abbrev kn_T_digest : Nat := 110
abbrev kn_T_digestOfSwitches : Nat := 111
abbrev kn_T_digestOfSidings : Nat := 112
abbrev kn_T_digestOfTrials : Nat := 113
abbrev kn_T_isPoint : Nat := 114
abbrev kn_T_isStraightYard : Nat := 115
abbrev kn_T_mayPlan : Nat := 116
abbrev kn_T_spareStands : Nat := 117
abbrev kn_T_findEmptyAhead : Nat := 118
abbrev kn_T_isExplainedBy : Nat := 119
abbrev kn_T_isSiding : Nat := 120
abbrev kn_T_canBeTakenAs : Nat := 121
abbrev kn_M_init : Nat := 122
abbrev kn_M_in : Nat := 123
abbrev kn_M_letters : Nat := 124
abbrev kn_M_blank : Nat := 125
abbrev kn_M_signOf : Nat := 126
abbrev kn_M_go : Nat := 127
abbrev kn_M_faultOf : Nat := 128
abbrev kn_M_fault : Nat := 129
abbrev kn_M_yard : Nat := 130
abbrev kn_M_isPoint : Nat := 131
abbrev kn_M_lacks : Nat := 132
abbrev kn_M_standMany : Nat := 133
abbrev kn_M_wayAt : Nat := 134
abbrev kn_M_turned : Nat := 135
abbrev kn_M_aboutOf : Nat := 136
abbrev kn_M_about : Nat := 137
abbrev kn_M_as : Nat := 138
abbrev kn_M_leastStand : Nat := 139
abbrev kn_M_lever : Nat := 140
abbrev kn_M_anew : Nat := 141
abbrev kn_M_layTried : Nat := 142
abbrev kn_M_move : Nat := 143
abbrev kn_M_goTruck : Nat := 144
abbrev kn_M_down : Nat := 145
abbrev kn_M_manyIn : Nat := 146
abbrev kn_M_many : Nat := 147
abbrev kn_M_truck : Nat := 148
abbrev kn_M_movesOf : Nat := 149
abbrev kn_M_moves : Nat := 150
abbrev kn_M_round : Nat := 151
abbrev kn_M_reach : Nat := 152
abbrev kn_M_isStraight : Nat := 153
abbrev kn_M_straight : Nat := 154
abbrev kn_M_isReady : Nat := 155
abbrev kn_M_send : Nat := 156
abbrev kn_M_layBehind : Nat := 157
abbrev kn_M_nth : Nat := 158
abbrev kn_M_behind : Nat := 159
abbrev kn_M_ago : Nat := 160
abbrev kn_M_want : Nat := 161
abbrev kn_M_clear : Nat := 162
abbrev kn_M_isTrue : Nat := 163
abbrev kn_M_standsInAll : Nat := 164
abbrev kn_M_layStands : Nat := 165
abbrev kn_M_codeOf : Nat := 166
abbrev kn_M_begin : Nat := 167
abbrev kn_M_throwAll : Nat := 168
abbrev kn_M_hands : Nat := 169
abbrev kn_M_emptyOf : Nat := 170
abbrev kn_M_empty : Nat := 171
abbrev kn_M_which : Nat := 172
abbrev kn_M_doesTurn : Nat := 173
abbrev kn_M_layGoes : Nat := 174
abbrev kn_M_unlike : Nat := 175
abbrev kn_M_noticedOf : Nat := 176
abbrev kn_M_noticed : Nat := 177
abbrev kn_M_apart : Nat := 178
abbrev kn_M_image : Nat := 179
abbrev kn_M_restore : Nat := 180
abbrev kn_M_countOf : Nat := 181
abbrev kn_M_count : Nat := 182
abbrev kn_M_say : Nat := 183
abbrev kn_M_sayYard : Nat := 184
abbrev kn_M_digest : Nat := 185
abbrev kn_In_bitCount : Nat := 186
abbrev kn_Ma_floorMod : Nat := 187
abbrev kn_Ma_max : Nat := 188
abbrev kn_Ma_min : Nat := 189
abbrev kn_Ar_fill : Nat := 190
abbrev kn_Ar_fill2 : Nat := 191
abbrev kn_L_law : Nat := 192
def mj_P : List mjT := [(0, 1, 0, kc_Be_init), (0, 5, 2, kc_Be_search), (0, 12, 0, kc_Be_follow), (0, 11, 0, kc_Be_choose), (0, 2, 0, kc_Be_keepIfBetter), (0, 2, 2, kc_Be_isChosenFirst), (1, 2, 0, kc_He_init), (1, 1, 1, kc_He_kind), (1, 1, 1, kc_He_period), (2, 2, 0, kc_La_init), (2, 1, 1, kc_La_kind), (2, 1, 1, kc_La_standCount), (2, 2, 1, kc_La_wayAt), (2, 2, 1, kc_La_firstStandAt), (2, 1, 1, kc_La_period), (3, 1, 0, kc_Pg_init), (3, 5, 1, kc_Pg_append), (3, 2, 1, kc_Pg_wipe), (3, 6, 1, kc_Pg_faultPlace), (3, 6, 4, kc_Pg_read), (3, 3, 1, kc_Pg_switchCount), (3, 3, 1, kc_Pg_endFrom), (3, 7, 4, kc_Pg_pointIn), (3, 3, 1, kc_Pg_codeIn), (3, 5, 1, kc_Pg_lettersIn), (3, 1, 1, kc_Pg_kindOf), (3, 1, 1, kc_Pg_placeOf), (4, 2, 0, kc_Pt_init), (4, 1, 1, kc_Pt_kind), (4, 1, 1, kc_Pt_standCount), (4, 2, 1, kc_Pt_wayAt), (4, 2, 1, kc_Pt_firstStandAt), (4, 1, 1, kc_Pt_period), (4, 4, 1, kc_Pt_turned), (4, 2, 1, kc_Pt_placeBy), (4, 1, 2, kc_Pt_canTurn), (5, 1, 0, kc_Ro_init), (5, 5, 1, kc_Ro_send), (5, 6, 1, kc_Ro_roundOf), (5, 5, 1, kc_Ro_roll), (5, 3, 2, kc_Ro_isAsAhead), (6, 1, 0, kc_Sc_init), (6, 1, 0, kc_Sc_reset), (6, 2, 0, kc_Sc_copyFrom), (6, 2, 0, kc_Sc_put), (6, 4, 1, kc_Sc_trucksIn), (6, 5, 1, kc_Sc_truckIn), (7, 2, 0, kc_Su_init), (7, 7, 0, kc_Su_watch), (7, 3, 1, kc_Su_trucksToNotice), (7, 4, 1, kc_Su_trucksToTellApart), (7, 2, 1, kc_Su_orNone), (7, 6, 0, kc_Su_fillStops), (7, 3, 1, kc_Su_firstDifference), (8, 2, 0, kc_Sw_init), (8, 1, 1, kc_Sw_kind), (8, 1, 1, kc_Sw_standCount), (8, 2, 1, kc_Sw_wayAt), (9, 1, 0, kc_Th_init), (9, 9, 1, kc_Th_fewest), (9, 5, 1, kc_Th_encode), (9, 2, 0, kc_Th_makeRoom), (9, 12, 0, kc_Th_leave), (9, 8, 0, kc_Th_goOn), (9, 5, 0, kc_Th_offer), (9, 3, 0, kc_Th_startNext), (10, 4, 0, kc_Yd_init), (10, 5, 1, kc_Yd_pass), (10, 4, 1, kc_Yd_placeFrom), (10, 4, 1, kc_Yd_standAfter), (10, 3, 2, kc_Yd_canLead), (10, 5, 0, kc_Yd_tellStands), (10, 8, 0, kc_Yd_tellSidings), (10, 5, 0, kc_Yd_countOn), (10, 5, 0, kc_Yd_countBack), (10, 2, 0, kc_Yd_startCount), (10, 7, 0, kc_Yd_share), (10, 8, 1, kc_Yd_nextOf), (10, 4, 1, kc_Yd_reachedFrom), (10, 3, 2, kc_Yd_hasLoop), (10, 6, 4, kc_Yd_ordered), (11, 1, 0, kc_T_init), (11, 3, 1, kc_T_letters), (11, 1, 1, kc_T_blank), (11, 1, 1, kc_T_fault), (11, 2, 1, kc_T_yard), (11, 5, 1, kc_T_about), (11, 3, 1, kc_T_as), (11, 5, 1, kc_T_lever), (11, 2, 1, kc_T_anew), (11, 2, 1, kc_T_down), (11, 2, 1, kc_T_many), (11, 3, 1, kc_T_truck), (11, 1, 1, kc_T_moves), (11, 1, 1, kc_T_round), (11, 1, 1, kc_T_straight), (11, 3, 1, kc_T_nth), (11, 4, 1, kc_T_behind), (11, 4, 1, kc_T_ago), (11, 2, 1, kc_T_want), (11, 2, 1, kc_T_clear), (11, 2, 1, kc_T_begin), (11, 1, 1, kc_T_hands), (11, 2, 1, kc_T_empty), (11, 3, 1, kc_T_which), (11, 1, 1, kc_T_noticed), (11, 1, 1, kc_T_apart), (11, 1, 1, kc_T_image), (11, 1, 1, kc_T_restore), (11, 2, 1, kc_T_count), (11, 4, 3, kc_T_digest), (11, 8, 3, kc_T_digestOfSwitches), (11, 8, 3, kc_T_digestOfSidings), (11, 6, 3, kc_T_digestOfTrials), (11, 2, 2, kc_T_isPoint), (11, 1, 2, kc_T_isStraightYard), (11, 1, 2, kc_T_mayPlan), (11, 1, 4, kc_T_spareStands), (11, 4, 0, kc_T_findEmptyAhead), (11, 4, 2, kc_T_isExplainedBy), (11, 1, 2, kc_T_isSiding), (11, 2, 2, kc_T_canBeTakenAs), (12, 1, 0, kc_M_init), (12, 6, 2, kc_M_in), (12, 9, 1, kc_M_letters), (12, 2, 1, kc_M_blank), (12, 1, 1, kc_M_signOf), (12, 4, 2, kc_M_go), (12, 2, 1, kc_M_faultOf), (12, 1, 1, kc_M_fault), (12, 3, 1, kc_M_yard), (12, 2, 2, kc_M_isPoint), (12, 1, 2, kc_M_lacks), (12, 3, 1, kc_M_standMany), (12, 4, 1, kc_M_wayAt), (12, 3, 1, kc_M_turned), (12, 3, 1, kc_M_aboutOf), (12, 3, 1, kc_M_about), (12, 4, 1, kc_M_as), (12, 4, 1, kc_M_leastStand), (12, 4, 1, kc_M_lever), (12, 3, 1, kc_M_anew), (12, 2, 0, kc_M_layTried), (12, 3, 0, kc_M_move), (12, 3, 1, kc_M_goTruck), (12, 3, 1, kc_M_down), (12, 4, 1, kc_M_manyIn), (12, 2, 1, kc_M_many), (12, 5, 1, kc_M_truck), (12, 2, 1, kc_M_movesOf), (12, 1, 1, kc_M_moves), (12, 5, 1, kc_M_round), (12, 7, 1, kc_M_reach), (12, 4, 2, kc_M_isStraight), (12, 1, 1, kc_M_straight), (12, 6, 2, kc_M_isReady), (12, 9, 0, kc_M_send), (12, 8, 0, kc_M_layBehind), (12, 2, 1, kc_M_nth), (12, 3, 1, kc_M_behind), (12, 3, 1, kc_M_ago), (12, 2, 1, kc_M_want), (12, 2, 1, kc_M_clear), (12, 4, 2, kc_M_isTrue), (12, 3, 1, kc_M_standsInAll), (12, 4, 0, kc_M_layStands), (12, 3, 1, kc_M_codeOf), (12, 8, 1, kc_M_begin), (12, 9, 0, kc_M_throwAll), (12, 5, 1, kc_M_hands), (12, 3, 1, kc_M_emptyOf), (12, 2, 1, kc_M_empty), (12, 3, 1, kc_M_which), (12, 3, 2, kc_M_doesTurn), (12, 3, 0, kc_M_layGoes), (12, 4, 1, kc_M_unlike), (12, 7, 1, kc_M_noticedOf), (12, 1, 1, kc_M_noticed), (12, 1, 1, kc_M_apart), (12, 2, 1, kc_M_image), (12, 2, 1, kc_M_restore), (12, 2, 1, kc_M_countOf), (12, 2, 1, kc_M_count), (12, 3, 0, kc_M_say), (12, 2, 0, kc_M_sayYard), (12, 3, 3, kc_M_digest), (13, 1, 1, kc_In_bitCount), (14, 3, 1, kc_Ma_floorMod), (14, 2, 1, kc_Ma_max), (14, 2, 1, kc_Ma_min), (15, 4, 0, kc_Ar_fill), (15, 4, 0, kc_Ar_fill2), (16, 4, 2, kc_L_law)]
end
section
/-! the small machine's heap as cells of the Statement's machine: cell 0 is the script (at w.1), cell a + 1 is at w.2.1 + a -/
abbrev mjW : Type := Nat × Nat × Nat × Nat × Nat × Nat
def mj_ad (w : mjW) : Nat → Nat
  | 0 => w.1
  | a + 1 => w.2.1 + a
def mj_cv (w : mjW) : Value → Value
  | .ref a => .ref (mj_ad w a)
  | v => v
def mj_ty : Nat → Nat → FieldType
  | 0 => tyX0
  | 1 => tyX1
  | 2 => tyX2
  | 3 => tyX3
  | 4 => tyX4
  | 5 => tyX5
  | 6 => tyX6
  | 7 => tyX7
  | 8 => tyX8
  | 9 => tyX9
  | 10 => tyX10
  | 11 => tyX11
  | _ => tyX12
def mj_nf : Nat → Nat
  | 0 => 8
  | 1 => 1
  | 2 => 1
  | 3 => 2
  | 4 => 1
  | 5 => 2
  | 6 => 3
  | 7 => 5
  | 8 => 1
  | 9 => 5
  | 10 => 8
  | 11 => 15
  | 12 => 34
  | _ => 0
def mj_fv (w : mjW) (I : mjI) (R : mjR) (J : mjJ) (a k : Nat) : FieldType → Value
  | .int => .int (I a k)
  | .boolean => .int (I a k)
  | .long => .long (J a k)
  | _ => va_rf ((R a k).map (mj_ad w))
def mj_fs (w : mjW) (I : mjI) (R : mjR) (J : mjJ) (a ci : Nat) : List Value := (List.range (mj_nf ci)).map (fun k => mj_fv w I R J a k (mj_ty ci k))
def mj_ce (w : mjW) (I : mjI) (R : mjR) (J : mjJ) (a : Nat) : Nat × Nat → va_E
  | (0, n) => .inl (w.2.2.1, n, .inl (I a))
  | (1, n) => .inl (w.2.2.2.1, n, .inl (I a))
  | (2, n) => .inl (w.2.2.2.2.1, n, .inr (.inr (.inr (.inr (fun j => (R a j).map (mj_ad w))))))
  | (3, n) => .inl (w.2.2.2.2.2, n, .inr (.inr (.inr (.inr (fun j => (R a j).map (mj_ad w))))))
  | (t, _) => .inr (t - 10, mj_fs w I R J a (t - 10))
def mj_wc (w : mjW) (I : mjI) (R : mjR) (J : mjJ) : Nat → List (Nat × Nat) → va_W
  | _, [] => []
  | a, x :: xs => (w.2.1 + a, mj_ce w I R J (a + 1) x) :: mj_wc w I R J (a + 1) xs
def mj_ws (w : mjW) (h : mjH) : va_W := mj_wc w h.2.1 h.2.2.1 h.2.2.2 0 h.1.tail
abbrev mj_tys (w : mjW) : List (ClassId × FieldType) := [(w.2.2.1, .int), (w.2.2.2.1, .byte), (w.2.2.2.2.1, .array .int), (w.2.2.2.2.2, .object "PointsThrow$Point")]
theorem mj_mt_eq : ∀ (a : Nat) (m : mjM), mj_mt a m = m[a]?
  | _, [] => by simp [mj_mt]
  | 0, x :: _ => by simp [mj_mt]
  | a + 1, x :: xs => by simp [mj_mt, mj_mt_eq a xs]
theorem mj_wc_len (w : mjW) (I : mjI) (R : mjR) (J : mjJ) : ∀ (a : Nat) (m : List (Nat × Nat)), (mj_wc w I R J a m).length = m.length
  | _, [] => rfl
  | a, x :: xs => by simp [mj_wc, mj_wc_len w I R J (a + 1) xs]
theorem mj_wc_at (w : mjW) (I : mjI) (R : mjR) (J : mjJ) : ∀ (a : Nat) (m : List (Nat × Nat)) (i : Nat), (mj_wc w I R J a m)[i]? = (m[i]?).map (fun x => (w.2.1 + (a + i), mj_ce w I R J (a + i + 1) x))
  | _, [], i => by simp [mj_wc]
  | a, x :: xs, 0 => by simp [mj_wc]
  | a, x :: xs, i + 1 => by
    simp only [mj_wc, List.getElem?_cons_succ, mj_wc_at w I R J (a + 1) xs i]
    rw [show a + 1 + i = a + (i + 1) by omega]
theorem mj_ws_at {w : mjW} {h : mjH} {a : Nat} {x : Nat × Nat} (hx : mj_mt (a + 1) h.1 = some x) : (mj_ws w h)[a]? = some (w.2.1 + a, mj_ce w h.2.1 h.2.2.1 h.2.2.2 (a + 1) x) := by
  rw [mj_mt_eq] at hx
  have h2 : h.1.tail[a]? = some x := by rw [List.getElem?_tail]; exact hx
  simp [mj_ws, mj_wc_at, h2]
theorem mj_ws_len (w : mjW) (h : mjH) : (mj_ws w h).length = h.1.length - 1 := by simp [mj_ws, mj_wc_len]
theorem mj_ws_adr {w : mjW} {h : mjH} {i : Nat} {q : Nat × va_E} (hq : (mj_ws w h)[i]? = some q) : q.1 = w.2.1 + i := by
  rw [mj_ws, mj_wc_at] at hq
  cases hm : h.1.tail[i]? with
  | none => rw [hm] at hq; cases hq
  | some x => rw [hm] at hq; cases hq; simp
theorem mj_D (w : mjW) (h : mjH) : va_D (fun q : Nat => w.2.1 ≤ q) (mj_ws w h) := by
  refine ⟨fun i j p q hi hj e => ?_, fun k q hk => ?_⟩
  · have h1 := mj_ws_adr hi
    have h2 := mj_ws_adr hj
    omega
  · rw [mj_ws_adr hk]
    exact Nat.le_add_right _ _
/-- the cells of h stand in H, nothing else was made -/
def mj_HR (w : mjW) (D : va_G) (L : Nat) (xs : Nat → Int32) (h : mjH) (H : Heap) : Prop := H.size + 1 = w.2.1 + h.1.length ∧ mj_mt 0 h.1 = some (0, L) ∧ h.2.1 0 = xs ∧ va_P D vwCl (mj_ws w h) H
/-- locals -/
def mj_LR (w : mjW) (nL : Nat) (ls : List (Option Value)) (als : Array Slot) : Prop := ls.length = nL ∧ als.size = nL ∧ lv_wf als ∧ ∀ i v, mj_get i ls = some v → als[i]? = some (.val (mj_cv w v))
def mj_lv (w : mjW) : Nat → List (Option Value) → List (Nat × Value)
  | _, [] => []
  | i, none :: xs => mj_lv w (i + 1) xs
  | i, some v :: xs => (i, mj_cv w v) :: mj_lv w (i + 1) xs
theorem mj_lv_of (w : mjW) : ∀ (j : Nat) (ls : List (Option Value)) (q : Nat × Value), q ∈ mj_lv w j ls → ∃ i v, q = (j + i, mj_cv w v) ∧ mj_get i ls = some v
  | _, [], q, h => by cases h
  | j, none :: xs, q, h => by
    obtain ⟨i, v, e, g⟩ := mj_lv_of w (j + 1) xs q h
    exact ⟨i + 1, v, by rw [e, show j + 1 + i = j + (i + 1) by omega], g⟩
  | j, some u :: xs, q, h => by
    rcases List.mem_cons.mp h with e | h
    · exact ⟨0, u, e, rfl⟩
    · obtain ⟨i, v, e, g⟩ := mj_lv_of w (j + 1) xs q h
      exact ⟨i + 1, v, by rw [e, show j + 1 + i = j + (i + 1) by omega], g⟩
theorem mj_lv_to (w : mjW) : ∀ (j : Nat) (ls : List (Option Value)) (i : Nat) (v : Value), mj_get i ls = some v → (j + i, mj_cv w v) ∈ mj_lv w j ls
  | _, [], i, v, h => by simp [mj_get] at h
  | j, x :: xs, 0, v, h => by
    have e : x = some v := h
    subst e
    exact List.mem_cons_self
  | j, x :: xs, i + 1, v, h => by
    have h1 := mj_lv_to w (j + 1) xs i v h
    rw [show j + 1 + i = j + (i + 1) by omega] at h1
    cases x with
    | none => exact h1
    | some u => exact List.mem_cons_of_mem _ h1
theorem mj_LR.has {w : mjW} {nL : Nat} {ls : List (Option Value)} {als : Array Slot} (h : mj_LR w nL ls als) : lv_has als nL (mj_lv w 0 ls) := by
  refine ⟨h.2.1, h.2.2.1, fun q hq => ?_⟩
  obtain ⟨i, v, e, g⟩ := mj_lv_of w 0 ls q hq
  rw [e, Nat.zero_add]
  exact h.2.2.2 i v g
theorem mj_LR.of {w : mjW} {nL : Nat} {ls : List (Option Value)} {als : Array Slot} {lv : List (Nat × Value)} (hl : ls.length = nL) (h : lv_has als nL lv) (hs : ∀ i v, mj_get i ls = some v → (i, mj_cv w v) ∈ lv) : mj_LR w nL ls als := ⟨hl, h.1, h.2.1, fun i v g => h.2.2 _ (hs i v g)⟩
theorem mj_cv_cat (w : mjW) (v : Value) : (mj_cv w v).category = v.category := by cases v <;> rfl
theorem mj_set_spec {α : Type} {v : Option Value} : ∀ (i : Nat) (ls : List (Option Value)) (k : List (Option Value) → Option α) (r : α), mj_set v i ls k = some r → ∃ ls', k ls' = some r ∧ ls'.length = ls.length ∧ i < ls.length ∧ mj_get i ls' = v ∧ ∀ j, j ≠ i → mj_get j ls' = mj_get j ls
  | _, [], k, r, h => by simp [mj_set] at h
  | 0, x :: xs, k, r, h => by
    refine ⟨v :: xs, h, by simp, by simp, rfl, fun j hj => ?_⟩
    cases j with
    | zero => exact absurd rfl hj
    | succ j => rfl
  | i + 1, x :: xs, k, r, h => by
    obtain ⟨ls', h1, h2, h3, h4, h5⟩ := mj_set_spec i xs (fun ys => k (x :: ys)) r h
    refine ⟨x :: ls', h1, by simp [h2], by simp; omega, h4, fun j hj => ?_⟩
    cases j with
    | zero => rfl
    | succ j => exact h5 j (fun e => hj (by rw [e]))
theorem mj_pl_spec : ∀ (i : Nat) (ls : List (Option Value)), mj_pl (i + 1) ls = true → ∀ v, mj_get i ls = some v → v.category ≠ 2
  | _, [], _, v, h => by simp [mj_get] at h
  | 0, x :: xs, hp, v, h => by
    have e : x = some v := h
    subst e
    cases v <;> simp [mj_pl, mj_lg, Value.category] at hp ⊢
  | i + 1, x :: xs, hp, v, h => mj_pl_spec i xs hp v h
/-- a store of a value of one place -/
theorem mj_LR.st1 {w : mjW} {nL : Nat} {ls ls' : List (Option Value)} {als' : Array Slot} {i : Nat} {v : Value} (h : ls.length = nL) (hl : ls'.length = ls.length) (hg : mj_get i ls' = some v) (ho : ∀ j, j ≠ i → mj_get j ls' = mj_get j ls) (hp : mj_pl i ls = true)
    (hs : lv_has als' nL ((i, mj_cv w v) :: (mj_lv w 0 ls).filter (fun q => !(q.1 == i) && !(q.1 + 1 == i && q.2.category == 2)))) : mj_LR w nL ls' als' := by
  refine mj_LR.of (hl.trans h) hs (fun j u hj => ?_)
  by_cases e : j = i
  · subst e
    rw [hg] at hj
    cases hj
    exact List.mem_cons_self
  · rw [ho j e] at hj
    refine List.mem_cons_of_mem _ (List.mem_filter.mpr ⟨?_, ?_⟩)
    · have := mj_lv_to w 0 ls j u hj
      rwa [Nat.zero_add] at this
    · by_cases e2 : j + 1 = i
      · subst e2
        have hc := mj_pl_spec j ls hp u hj
        simp [mj_cv_cat, hc]
      · simp [e, e2]
/-- a store of a long -/
theorem mj_LR.st2 {w : mjW} {nL : Nat} {ls l1 ls' : List (Option Value)} {als' : Array Slot} {i : Nat} {v : Value} (h : ls.length = nL) (hl : l1.length = ls.length) (hg : mj_get i l1 = some v) (ho : ∀ j, j ≠ i → mj_get j l1 = mj_get j ls) (hl2 : ls'.length = l1.length) (hg2 : mj_get (i + 1) ls' = none) (ho2 : ∀ j, j ≠ i + 1 → mj_get j ls' = mj_get j l1) (hp : mj_pl i ls = true)
    (hs : lv_has als' nL ((i, mj_cv w v) :: (mj_lv w 0 ls).filter (fun q => !(q.1 == i) && (!(q.1 == i + 1) && !(q.1 + 1 == i && q.2.category == 2))))) : mj_LR w nL ls' als' := by
  refine mj_LR.of (hl2.trans (hl.trans h)) hs (fun j u hj => ?_)
  by_cases e : j = i
  · subst e
    rw [ho2 j (by omega), hg] at hj
    cases hj
    exact List.mem_cons_self
  · by_cases e1 : j = i + 1
    · subst e1
      rw [hg2] at hj
      cases hj
    · rw [ho2 j e1, ho j e] at hj
      refine List.mem_cons_of_mem _ (List.mem_filter.mpr ⟨?_, ?_⟩)
      · have := mj_lv_to w 0 ls j u hj
        rwa [Nat.zero_add] at this
      · by_cases e2 : j + 1 = i
        · subst e2
          have hc := mj_pl_spec j ls hp u hj
          simp [mj_cv_cat, hc, e1]
        · simp [e, e1, e2]
end
section
def mj_sl (m : mjM) : Nat := (m.map (fun x => x.2)).sum
def mj_cn : Nat → String
  | 0 => RX0
  | 1 => RX1
  | 2 => RX2
  | 3 => RX3
  | 4 => RX4
  | 5 => RX5
  | 6 => RX6
  | 7 => RX7
  | 8 => RX8
  | 9 => RX9
  | 10 => RX10
  | 11 => RX11
  | 12 => RX12
  | 13 => RJ6
  | 14 => RJ9
  | 15 => RJ7
  | _ => RL
def mj_tb : List Cond := lw_tbl.filter goodWord
def mj_isx : Cond → Bool
  | .methodLinkNest .. => true
  | .castable .. => true
  | _ => false
def mj_xn : List Cond := lw_tbl.filter mj_isx
def mj_nc : List (String × String) := [(RX4, RX1), (RX4, RX8), (RX4, RX2), (RX1, RX8), (RX1, RX2), (RX2, RX8), (RX8, RX1), (RX8, RX2)]
/-- words that aren't kept by themselves -/
def mj_XW (U : State) : Prop := (∀ z ∈ mj_xn, va_Nw z U) ∧ va_AO "PointsThrow$Point" U ∧ (Cond.arrayOver (.array .int)).before #[] U = true ∧ ∀ q ∈ mj_nc, va_Nc q.1 q.2 U
def mj_Sim (p : Program) (l : Launch) (e : Env) (R : Room) (s : State) (m : MethodId) (args : Array Value) (below : List Frame) (meth : Method) (c : Code) (Q : State → Prop) (w : mjW) (D : va_G) (L : Nat) (xs : Nat → Int32) (nL n0 u0 : Nat) (cf : mjC) : Prop :=
  ∀ (H : Heap) (locs : List Loc) (als : Array Slot) (cells slots : Nat), mj_HR w D L xs cf.2.2.2 H → va_S (fun q : Nat => w.2.1 ≤ q) s.heap H locs → mj_LR w nL cf.2.1 als → n0 + cells = cf.2.2.2.1.length → u0 + slots = mj_sl cf.2.2.2.1 → W p l e R s m args below meth c H locs cells slots Q (F0 m cf.1 als (cf.2.2.1.map (mj_cv w)))
def mj_Cx (p : Program) (R : Room) (s : State) (m : MethodId) (args : Array Value) (meth : Method) (c : Code) (w : mjW) (D : va_G) (L : Nat) (xs : Nat → Int32) (own nL : Nat) (cc : ByteArray) (ini : Bool) (n0 u0 nE uE : Nat) : Prop :=
  p.tables.exec = Jvm.exec ∧ c.code = cc ∧ c.maxLocals = nL ∧ s.vm.findClass (mj_cn own) = some m.cls ∧ (∀ z ∈ mj_tb, z.before args s = true) ∧ va_K D vwCl (mj_tys w) s ∧ mj_XW s ∧ (ini = true → meth.name = "<init>") ∧ va_X w.1 L xs s s.heap ∧ w.1 < w.2.1 ∧ s.heap.size + 1 = w.2.1 + n0 ∧ 1 ≤ n0 ∧ 1 ≤ R.frames ∧ 100 ≤ R.locals ∧ nE ≤ n0 + R.cells ∧ uE ≤ u0 + R.slots
def mj_ln : Instr → Nat
  | .bipush _ => 2
  | .sipush _ => 3
  | .ldc _ => 2
  | .ldc_w _ => 3
  | .ldc2_w _ => 3
  | .iload _ => 2
  | .lload _ => 2
  | .aload _ => 2
  | .istore _ => 2
  | .lstore _ => 2
  | .astore _ => 2
  | .iinc _ _ => 3
  | .goto _ => 3
  | .ifCond _ _ => 3
  | .if_icmp _ _ => 3
  | .ifnull _ => 3
  | .ifnonnull _ => 3
  | .getfield _ => 3
  | .putfield _ => 3
  | .newarray _ => 2
  | .anewarray _ => 3
  | .multianewarray _ _ => 4
  | .new _ => 3
  | .instanceof _ => 3
  | .invokespecial _ => 3
  | .invokestatic _ => 3
  | .invokevirtual _ => 3
  | _ => 1
theorem mj_Wsz {p : Program} {l : Launch} {e : Env} {R : Room} {s : State} {m : MethodId} {args : Array Value} {below : List Frame} {meth : Method} {c : Code} {Q : State → Prop} {H : Heap} {locs : List Loc} {cells slots : Nat} {g : JFrame} (hlo : s.heap.size + cells ≤ H.size) (k : H.size = s.heap.size + cells → W p l e R s m args below meth c H locs cells slots Q g) : W p l e R s m args below meth c H locs cells slots Q g := fun T hT X => k (by have h := X.heapSize; rw [hT] at h; omega) T hT X
/-- the cells of h are there: H is large enough -/
theorem mj_P_size {w : mjW} {D : va_G} {h : mjH} {H0 H : Heap} {n0 : Nat} (h1 : 1 ≤ n0) (h0 : H0.size + 1 = w.2.1 + n0) (hle : H0.size ≤ H.size) (hn : n0 ≤ h.1.length) (hP : va_P D vwCl (mj_ws w h) H) : w.2.1 + h.1.length ≤ H.size + 1 := by
  by_cases hz : h.1.length = n0
  · omega
  · have hlt : h.1.length - 2 < (mj_ws w h).length := by rw [mj_ws_len]; omega
    obtain ⟨q, hq⟩ : ∃ q, (mj_ws w h)[h.1.length - 2]? = some q := ⟨_, List.getElem?_eq_getElem hlt⟩
    have h1 := (hP _ _ hq).lt
    have h2 := mj_ws_adr hq
    omega
end
section
def mj_tc : FieldType → Nat
  | .int => 0
  | .boolean => 1
  | .object _ => 2
  | .array _ => 2
  | .long => 3
  | _ => 9
theorem mj_cl_nf : ∀ {ci : Nat} {q : vw_C}, vwCl[ci]? = some q → q.2.2 = mj_nf ci
  | 0, _, h => by cases h; rfl
  | 1, _, h => by cases h; rfl
  | 2, _, h => by cases h; rfl
  | 3, _, h => by cases h; rfl
  | 4, _, h => by cases h; rfl
  | 5, _, h => by cases h; rfl
  | 6, _, h => by cases h; rfl
  | 7, _, h => by cases h; rfl
  | 8, _, h => by cases h; rfl
  | 9, _, h => by cases h; rfl
  | 10, _, h => by cases h; rfl
  | 11, _, h => by cases h; rfl
  | 12, _, h => by cases h; rfl
  | n + 13, _, h => by simp [vwCl] at h
theorem mj_cl_ty : ∀ {ci : Nat} {q : vw_C}, vwCl[ci]? = some q → ∀ k, k < q.2.2 → parseFieldDescriptor (q.2.1 k).2.2.1 = some (mj_ty ci k)
  | 0, _, h => by cases h; exact tyX0_ok
  | 1, _, h => by cases h; exact tyX1_ok
  | 2, _, h => by cases h; exact tyX2_ok
  | 3, _, h => by cases h; exact tyX3_ok
  | 4, _, h => by cases h; exact tyX4_ok
  | 5, _, h => by cases h; exact tyX5_ok
  | 6, _, h => by cases h; exact tyX6_ok
  | 7, _, h => by cases h; exact tyX7_ok
  | 8, _, h => by cases h; exact tyX8_ok
  | 9, _, h => by cases h; exact tyX9_ok
  | 10, _, h => by cases h; exact tyX10_ok
  | 11, _, h => by cases h; exact tyX11_ok
  | 12, _, h => by cases h; exact tyX12_ok
  | n + 13, _, h => by simp [vwCl] at h
theorem mj_cl_nm : ∀ {ci : Nat} {q : vw_C}, vwCl[ci]? = some q → ∀ a, a < q.2.2 → ∀ b, b < q.2.2 → a ≠ b → (q.2.1 a).2.1 ≠ (q.2.1 b).2.1
  | 0, _, h => by cases h; exact nmX0
  | 1, _, h => by cases h; exact nmX1
  | 2, _, h => by cases h; exact nmX2
  | 3, _, h => by cases h; exact nmX3
  | 4, _, h => by cases h; exact nmX4
  | 5, _, h => by cases h; exact nmX5
  | 6, _, h => by cases h; exact nmX6
  | 7, _, h => by cases h; exact nmX7
  | 8, _, h => by cases h; exact nmX8
  | 9, _, h => by cases h; exact nmX9
  | 10, _, h => by cases h; exact nmX10
  | 11, _, h => by cases h; exact nmX11
  | 12, _, h => by cases h; exact nmX12
  | n + 13, _, h => by simp [vwCl] at h
set_option maxRecDepth 100000 in
theorem mj_cl_in0 : vwCl.all (fun q => (u_ws q.1 q.2.1 q.2.2).all (fun z => decide (z ∈ mj_tb))) = true := by decide +kernel
theorem mj_cl_in {ci : Nat} {q : vw_C} (h : vwCl[ci]? = some q) : ∀ z ∈ u_ws q.1 q.2.1 q.2.2, z ∈ mj_tb := by
  have h1 := List.all_eq_true.mp mj_cl_in0 q (List.mem_of_getElem? h)
  intro z hz
  exact of_decide_eq_true (List.all_eq_true.mp h1 z hz)
theorem mj_ce_obj (w : mjW) (I : mjI) (R : mjR) (J : mjJ) (a ci n : Nat) : mj_ce w I R J a (ci + 10, n) = .inr (ci, mj_fs w I R J a ci) := by
  have h : ci + 10 - 10 = ci := by omega
  show (Sum.inr (ci + 10 - 10, mj_fs w I R J a (ci + 10 - 10)) : va_E) = _
  rw [h]
theorem mj_fs_at (w : mjW) (I : mjI) (R : mjR) (J : mjJ) (a ci : Nat) {k : Nat} (hk : k < mj_nf ci) : (mj_fs w I R J a ci)[k]? = some (mj_fv w I R J a k (mj_ty ci k)) := by
  simp [mj_fs, hk]
theorem mj_fs_len (w : mjW) (I : mjI) (R : mjR) (J : mjJ) (a ci : Nat) : (mj_fs w I R J a ci).length = mj_nf ci := by simp [mj_fs]
theorem mj_ce_congr {w : mjW} {I I' : mjI} {R R' : mjR} {J J' : mjJ} {b : Nat} (hI : I' b = I b) (hR : R' b = R b) (hJ : J' b = J b) (x : Nat × Nat) : mj_ce w I' R' J' b x = mj_ce w I R J b x := by
  have h : mj_fv w I' R' J' b = mj_fv w I R J b := by
    funext k ty
    cases ty <;> simp [mj_fv, hI, hR, hJ]
  obtain ⟨t, n⟩ := x
  match t with
  | 0 => simp [mj_ce, hI]
  | 1 => simp [mj_ce, hI]
  | 2 => simp [mj_ce, hR]
  | 3 => simp [mj_ce, hR]
  | t + 4 => simp [mj_ce, mj_fs, h]
/-- one cell is changed -/
theorem mj_ws_set {w : mjW} {m : mjM} {I I' : mjI} {R R' : mjR} {J J' : mjJ} {a : Nat} {x : Nat × Nat} (hx : mj_mt (a + 1) m = some x) (ho : ∀ b, b ≠ a + 1 → I' b = I b ∧ R' b = R b ∧ J' b = J b) : (mj_ws w (m, I, R, J)).set a (w.2.1 + a, mj_ce w I' R' J' (a + 1) x) = mj_ws w (m, I', R', J') := by
  rw [mj_mt_eq] at hx
  have h2 : m.tail[a]? = some x := by rw [List.getElem?_tail]; exact hx
  apply List.ext_getElem?
  intro i
  by_cases e : i = a
  · subst e
    have hl : i < (mj_ws w (m, I, R, J)).length := by
      simp only [mj_ws, mj_wc_len]
      exact (List.getElem?_eq_some_iff.mp h2).1
    rw [List.getElem?_set_self hl]
    simp [mj_ws, mj_wc_at, h2]
  · rw [List.getElem?_set_ne (fun q => e q.symm)]
    simp only [mj_ws, mj_wc_at, Nat.zero_add]
    obtain ⟨h3, h4, h5⟩ := ho (i + 1) (by omega)
    congr 1
    funext y
    rw [mj_ce_congr h3 h4 h5]
theorem mj_any_mem {t : Nat} : ∀ {cs : List Nat}, mj_any t cs = true → t ∈ cs
  | [], h => by simp [mj_any] at h
  | c :: cs, h => by
    unfold mj_any at h
    split at h
    next hb => rw [Nat.eq_of_beq_eq_true hb]; exact List.mem_cons_self
    next => exact List.mem_cons_of_mem _ (mj_any_mem h)
/-- a field's link, as the code's data say it -/
def mj_VF (own idx k ty : Nat) (cs : List Nat) : Prop := ∃ ref nm ds, Cond.fieldLink (mj_cn own) idx ref nm ds ∈ mj_tb ∧ ∀ t, t ∈ cs → ∃ (ci : Nat) (C : String) (T : u_T) (N : Nat), t = ci + 10 ∧ vwCl[ci]? = some (C, T, N) ∧ k < N ∧ (T k).2.1 = nm ∧ (T k).2.2.1 = ds ∧ ((T k).1 = ref ∨ Cond.sameField ref (T k).1 nm ds ∈ mj_tb) ∧ mj_tc (mj_ty ci k) = ty
section MJ
variable {p : Program} {l : Launch} {e : Env} {R : Room} {s : State} {mi : MethodId} {args : Array Value} {below : List Frame} {meth : Method} {c : Code} {Q : State → Prop} {w : mjW} {D : va_G} {L : Nat} {xs : Nat → Int32} {own nL : Nat} {cc : ByteArray} {ini : Bool} {n0 u0 nE uE : Nat}
theorem mj_s_gf (C : mj_Cx p R s mi args meth c w D L xs own nL cc ini n0 u0 nE uE) {idx pc n k ty : Nat} {cs : List Nat} (hd : decode cc pc = .ok (.getfield idx, 3)) (hv : mj_VF own idx k ty cs) (hn : n = pc + 3) {ls : List (Option Value)} {st : List Value} {m : mjM} {I : mjI} {RR : mjR} {J : mjJ} {o : Option Prop} {cf' : mjC} (hst : mj_gf n (k :: ty :: cs) ls st m I RR J = some (o, cf')) (kk : mj_Sim p l e R s mi args below meth c Q w D L xs nL n0 u0 cf') : mj_Sim p l e R s mi args below meth c Q w D L xs nL n0 u0 (pc, ls, st, m, I, RR, J) := by
  obtain ⟨hx, hb, hml, hown, hts, hK, -⟩ := C
  obtain ⟨ref, nm, ds, hlk, hcs⟩ := hv
  subst hn
  cases st with
  | nil => simp [mj_gf] at hst
  | cons v st' =>
  cases v with
  | ref a =>
    cases hm : mj_mt a m with
    | none => simp [mj_gf, hm] at hst
    | some tq =>
      obtain ⟨t, q⟩ := tq
      cases hany : mj_any t cs with
      | false => simp [mj_gf, hm, hany] at hst
      | true =>
        obtain ⟨ci, Cn, T, N, rfl, hcl, hk, e1, e2, e3, e4⟩ := hcs t (mj_any_mem hany)
        have hN : N = mj_nf ci := mj_cl_nf hcl
        intro H locs als cells slots hH hS hL hc hs
        obtain ⟨hz, hm0, hx0, hP⟩ := hH
        cases a with
        | zero =>
          exfalso
          have hm0' : mj_mt 0 m = some (0, L) := hm0
          rw [hm] at hm0'
          cases hm0'
        | succ a =>
          have hat := mj_ws_at (w := w) (h := (m, I, RR, J)) hm
          rw [mj_ce_obj] at hat
          have hval := mj_fs_at w I RR J (a + 1) ci (hN ▸ hk)
          have hsame : ∀ x, s.fieldFound? (T k).1 (T k).2.1 (T k).2.2.1 = some x → s.fieldFound? ref (T k).2.1 (T k).2.2.1 = some x := by
            intro x hx9
            rcases e3 with e3 | e3
            · rw [← e3]; exact hx9
            · rw [e1, e2] at hx9 ⊢
              exact u_same (hts _ e3) x hx9
          have hlink : (Cond.fieldLink (mj_cn own) idx ref (T k).2.1 (T k).2.2.1).before args s = true := by rw [e1, e2]; exact hts _ hlk
          show W p l e R s mi args below meth c H locs cells slots Q (F0 mi pc als (.ref (w.2.1 + a) :: st'.map (mj_cv w)))
          refine va_get (D := D) hx hb hts (mj_cl_in hcl) hown hK hP a hat hcl k hk hlink hsame hval hd ?_
          rcases ty with _ | _ | _ | _ | ty
          · simp only [mj_gf, hm, hany, Option.some.injEq, Prod.mk.injEq] at hst
            obtain ⟨-, rfl⟩ := hst
            have h9 : mj_fv w I RR J (a + 1) k (mj_ty ci k) = .int (I (a + 1) k) := by
              cases hty : mj_ty ci k <;> rw [hty] at e4 <;> simp [mj_tc] at e4
              rfl
            rw [h9]
            exact kk H locs als cells slots ⟨hz, hm0, hx0, hP⟩ hS hL hc hs
          · simp only [mj_gf, hm, hany, Option.some.injEq, Prod.mk.injEq] at hst
            obtain ⟨-, rfl⟩ := hst
            have h9 : mj_fv w I RR J (a + 1) k (mj_ty ci k) = .int (I (a + 1) k) := by
              cases hty : mj_ty ci k <;> rw [hty] at e4 <;> simp [mj_tc] at e4
              rfl
            rw [h9]
            exact kk H locs als cells slots ⟨hz, hm0, hx0, hP⟩ hS hL hc hs
          · have h9 : mj_fv w I RR J (a + 1) k (mj_ty ci k) = va_rf ((RR (a + 1) k).map (mj_ad w)) := by
              cases hty : mj_ty ci k <;> rw [hty] at e4 <;> simp [mj_tc] at e4 <;> rfl
            rw [h9]
            cases hR : RR (a + 1) k with
            | none =>
              simp only [mj_gf, hm, hany, hR, Option.some.injEq, Prod.mk.injEq] at hst
              obtain ⟨-, rfl⟩ := hst
              exact kk H locs als cells slots ⟨hz, hm0, hx0, hP⟩ hS hL hc hs
            | some b =>
              simp only [mj_gf, hm, hany, hR, Option.some.injEq, Prod.mk.injEq] at hst
              obtain ⟨-, rfl⟩ := hst
              exact kk H locs als cells slots ⟨hz, hm0, hx0, hP⟩ hS hL hc hs
          · simp only [mj_gf, hm, hany, Option.some.injEq, Prod.mk.injEq] at hst
            obtain ⟨-, rfl⟩ := hst
            have h9 : mj_fv w I RR J (a + 1) k (mj_ty ci k) = .long (J (a + 1) k) := by
              cases hty : mj_ty ci k <;> rw [hty] at e4 <;> simp [mj_tc] at e4
              rfl
            rw [h9]
            exact kk H locs als cells slots ⟨hz, hm0, hx0, hP⟩ hS hL hc hs
          · simp [mj_gf, hm, hany] at hst
  | _ => simp [mj_gf] at hst
end MJ
end
section
theorem mj_fs_set {w : mjW} {I I' : mjI} {R R' : mjR} {J J' : mjJ} {a ci k : Nat} {v : Value} (hv : mj_fv w I' R' J' a k (mj_ty ci k) = v) (ho : ∀ j, j ≠ k → mj_fv w I' R' J' a j = mj_fv w I R J a j) : (mj_fs w I R J a ci).set k v = mj_fs w I' R' J' a ci := by
  apply List.ext_getElem?
  intro j
  by_cases e : j = k
  · subst e
    by_cases hk : j < mj_nf ci
    · rw [List.getElem?_set_self (by rw [mj_fs_len]; exact hk), mj_fs_at _ _ _ _ _ _ hk, hv]
    · rw [List.getElem?_eq_none (by rw [List.length_set, mj_fs_len]; omega), List.getElem?_eq_none (by rw [mj_fs_len]; omega)]
  · rw [List.getElem?_set_ne (fun q => e q.symm)]
    simp only [mj_fs, List.getElem?_map]
    by_cases hk : j < mj_nf ci
    · rw [List.getElem?_range hk]
      simp [ho j e]
    · rw [List.getElem?_eq_none (by rw [List.length_range]; omega)]
      rfl
section MJ
variable {p : Program} {l : Launch} {e : Env} {R : Room} {s : State} {mi : MethodId} {args : Array Value} {below : List Frame} {meth : Method} {c : Code} {Q : State → Prop} {w : mjW} {D : va_G} {L : Nat} {xs : Nat → Int32} {own nL : Nat} {cc : ByteArray} {ini : Bool} {n0 u0 nE uE : Nat}
/-- behind a store -/
theorem mj_close (C : mj_Cx p R s mi args meth c w D L xs own nL cc ini n0 u0 nE uE) {n : Nat} {ls : List (Option Value)} {st : List Value} {m : mjM} {I I' : mjI} {RR R' : mjR} {J J' : mjJ} {H H1 : Heap} {locs1 : List Loc} {als : Array Slot} {cells slots : Nat} (h0 : I' 0 = I 0) (hH : mj_HR w D L xs (m, I, RR, J) H) (hP1 : va_P D vwCl (mj_ws w (m, I', R', J')) H1) (hS1 : va_S (fun q : Nat => w.2.1 ≤ q) s.heap H1 locs1) (hL : mj_LR w nL ls als) (hc : n0 + cells = m.length) (hs : u0 + slots = mj_sl m) (kk : mj_Sim p l e R s mi args below meth c Q w D L xs nL n0 u0 (n, ls, st, m, I', R', J')) : W p l e R s mi args below meth c H1 locs1 cells slots Q (F0 mi n als (st.map (mj_cv w))) := by
  obtain ⟨-, -, -, -, -, -, -, -, -, -, hsz, hn0, -⟩ := C
  obtain ⟨hz, hm0, hx0, -⟩ := hH
  have hlo := mj_P_size (h := (m, I', R', J')) hn0 hsz hS1.1 (by show n0 ≤ m.length; omega) hP1
  have hlo' : w.2.1 + m.length ≤ H1.size + 1 := hlo
  refine mj_Wsz (by omega) (fun h9 => ?_)
  refine kk H1 locs1 als cells slots ⟨?_, hm0, h0.trans hx0, hP1⟩ hS1 hL hc hs
  show H1.size + 1 = w.2.1 + m.length
  omega
def mj_VP (ini : Bool) (own idx k ty : Nat) (cs : List Nat) : Prop := mj_VF own idx k ty cs ∧ ∀ t, t ∈ cs → ∀ (ci : Nat) (q : vw_C), t = ci + 10 → vwCl[ci]? = some q → (q.2.1 k).2.2.2 = false ∨ (ini = true ∧ (q.2.1 k).2.2.2 = true ∧ (q.2.1 k).1 = mj_cn own)
theorem mj_s_put (C : mj_Cx p R s mi args meth c w D L xs own nL cc ini n0 u0 nE uE) {idx pc k ty a ci q : Nat} {cs : List Nat} (hd : decode cc pc = .ok (.putfield idx, 3)) (hv : mj_VP ini own idx k ty cs) {ls : List (Option Value)} {st : List Value} {m : mjM} {I I' : mjI} {RR R' : mjR} {J J' : mjJ} {v : Value} (hm : mj_mt (a + 1) m = some (ci + 10, q)) (hany : mj_any (ci + 10) cs = true)
    (hok : mj_tc (mj_ty ci k) = ty → narrow (mj_ty ci k) (mj_cv w v) = mj_cv w v ∧ fits (mj_ty ci k) (mj_cv w v) = true ∧ mj_fv w I' R' J' (a + 1) k (mj_ty ci k) = mj_cv w v) (ho : ∀ j, j ≠ k → mj_fv w I' R' J' (a + 1) j = mj_fv w I RR J (a + 1) j) (ho2 : ∀ b, b ≠ a + 1 → I' b = I b ∧ R' b = RR b ∧ J' b = J b)
    (kk : mj_Sim p l e R s mi args below meth c Q w D L xs nL n0 u0 (pc + 3, ls, st, m, I', R', J')) : mj_Sim p l e R s mi args below meth c Q w D L xs nL n0 u0 (pc, ls, v :: .ref (a + 1) :: st, m, I, RR, J) := by
  have C0 := C
  obtain ⟨hx, hb, hml, hown, hts, hK, -, hini, -⟩ := C
  obtain ⟨⟨ref, nm, ds, hlk, hcs⟩, hfin⟩ := hv
  obtain ⟨ci', Cn, T, N, he, hcl, hk, e1, e2, e3, e4⟩ := hcs _ (mj_any_mem hany)
  have hci : ci' = ci := by omega
  subst hci
  obtain ⟨o1, o2, o3⟩ := hok e4
  have hN : N = mj_nf ci' := mj_cl_nf hcl
  intro H locs als cells slots hH hS hL hc hs
  have hH0 := hH
  obtain ⟨hz, hm0, hx0, hP⟩ := hH
  have hat := mj_ws_at (w := w) (h := (m, I, RR, J)) hm
  rw [mj_ce_obj] at hat
  have hsame : ∀ x, s.fieldFound? (T k).1 (T k).2.1 (T k).2.2.1 = some x → s.fieldFound? ref (T k).2.1 (T k).2.2.1 = some x := by
    intro x hx9
    rcases e3 with e3 | e3
    · rw [← e3]; exact hx9
    · rw [e1, e2] at hx9 ⊢
      exact u_same (hts _ e3) x hx9
  have hlink : (Cond.fieldLink (mj_cn own) idx ref (T k).2.1 (T k).2.2.1).before args s = true := by rw [e1, e2]; exact hts _ hlk
  have hdesc : parseFieldDescriptor (T k).2.2.1 = some (mj_ty ci' k) := mj_cl_ty hcl k hk
  have hset : (mj_ws w (m, I, RR, J)).set a (w.2.1 + a, .inr (ci', (mj_fs w I RR J (a + 1) ci').set k (mj_cv w v))) = mj_ws w (m, I', R', J') := by
    rw [mj_fs_set o3 ho, ← mj_ce_obj w I' R' J' (a + 1) ci' q]
    exact mj_ws_set hm ho2
  show W p l e R s mi args below meth c H locs cells slots Q (F0 mi pc als (mj_cv w v :: .ref (w.2.1 + a) :: st.map (mj_cv w)))
  rcases hfin _ (mj_any_mem hany) ci' _ rfl hcl with hf | ⟨hi, hf, hde⟩
  · refine va_put (D := D) (A := fun q : Nat => w.2.1 ≤ q) hx hb hts (mj_cl_in hcl) (mj_ty ci') (mj_cl_ty hcl) (mj_cl_nm hcl) hown hK hP (mj_D w (m, I, RR, J)) hS a hat hcl k hk hlink hsame hf hdesc o1 o2 (by rw [mj_fs_len]; omega) hd (fun H1 locs1 hP1 hD1 hS1 => ?_)
    rw [hset] at hP1
    exact mj_close C0 (ho2 0 (by omega)).1 hH0 hP1 hS1 hL hc hs kk
  · refine va_putF (D := D) (A := fun q : Nat => w.2.1 ≤ q) hx hb hts (mj_cl_in hcl) (mj_ty ci') (mj_cl_ty hcl) (mj_cl_nm hcl) hown hK hP (mj_D w (m, I, RR, J)) hS a hat hcl k hk hlink hsame hf (hini hi) hde hdesc o1 o2 (by rw [mj_fs_len]; omega) hd (fun H1 locs1 hP1 hD1 hS1 => ?_)
    rw [hset] at hP1
    exact mj_close C0 (ho2 0 (by omega)).1 hH0 hP1 hS1 hL hc hs kk
theorem mj_s_pf (C : mj_Cx p R s mi args meth c w D L xs own nL cc ini n0 u0 nE uE) {idx pc n k ty : Nat} {cs : List Nat} (hd : decode cc pc = .ok (.putfield idx, 3)) (hv : mj_VP ini own idx k ty cs) (hn : n = pc + 3) {ls : List (Option Value)} {st : List Value} {m : mjM} {I : mjI} {RR : mjR} {J : mjJ} {o : Option Prop} {cf' : mjC} (hst : mj_pf n (k :: ty :: cs) ls st m I RR J = some (o, cf')) (ho : mj_ok o) (kk : mj_Sim p l e R s mi args below meth c Q w D L xs nL n0 u0 cf') : mj_Sim p l e R s mi args below meth c Q w D L xs nL n0 u0 (pc, ls, st, m, I, RR, J) := by
  subst hn
  cases st with
  | nil => simp [mj_pf] at hst
  | cons v st =>
  cases st with
  | nil => simp [mj_pf] at hst
  | cons v2 st' =>
  cases v2 with
  | ref a =>
    cases hm : mj_mt a m with
    | none => simp [mj_pf, hm] at hst
    | some tq =>
      obtain ⟨t, q⟩ := tq
      cases hany : mj_any t cs with
      | false => simp [mj_pf, hm, hany] at hst
      | true =>
        obtain ⟨⟨ref, nm, ds, hlk, hcs⟩, hfin⟩ := id hv
        obtain ⟨ci, Cn, T, N, rfl, hcl, hk, e1, e2, e3, e4⟩ := hcs t (mj_any_mem hany)
        cases a with
        | zero =>
          intro H locs als cells slots hH
          exfalso
          have hm0' : mj_mt 0 m = some (0, L) := hH.2.1
          rw [hm] at hm0'
          cases hm0'
        | succ a =>
          rcases ty with _ | _ | _ | _ | ty
          · cases v <;> simp only [mj_pf, hm, hany, Option.some.injEq, Prod.mk.injEq, reduceCtorEq] at hst
            obtain ⟨-, rfl⟩ := hst
            refine mj_s_put C hd hv hm hany (fun h9 => ?_) (fun j hj => ?_) (fun b hb => ?_) kk
            · cases hty : mj_ty ci k <;> rw [hty] at h9 <;> simp [mj_tc] at h9
              refine ⟨rfl, rfl, ?_⟩
              simp [mj_fv, mj_ui, mj_cv, upd]
            · funext ty
              cases ty <;> simp [mj_fv, mj_ui, upd, hj]
            · simp [mj_ui, hb]
          · cases v <;> simp only [mj_pf, hm, hany, Option.some.injEq, Prod.mk.injEq, reduceCtorEq] at hst
            obtain ⟨rfl, rfl⟩ := hst
            refine mj_s_put C hd hv hm hany (fun h9 => ?_) (fun j hj => ?_) (fun b hb => ?_) kk
            · cases hty : mj_ty ci k <;> rw [hty] at h9 <;> simp [mj_tc] at h9
              have ho' : _ ∨ _ := ho
              refine ⟨?_, ?_, ?_⟩
              · rcases ho' with e | e <;> rw [e] <;> rfl
              · rcases ho' with e | e <;> rw [e] <;> rfl
              · simp [mj_fv, mj_ui, mj_cv, upd]
            · funext ty
              cases ty <;> simp [mj_fv, mj_ui, upd, hj]
            · simp [mj_ui, hb]
          · cases v <;> simp only [mj_pf, hm, hany, Option.some.injEq, Prod.mk.injEq, reduceCtorEq] at hst
            · obtain ⟨-, rfl⟩ := hst
              refine mj_s_put C hd hv hm hany (fun h9 => ?_) (fun j hj => ?_) (fun b hb => ?_) kk
              · cases hty : mj_ty ci k <;> rw [hty] at h9 <;> simp [mj_tc] at h9 <;> exact ⟨rfl, rfl, by simp [mj_fv, mj_ur, mj_cv, va_up, va_rf]⟩
              · funext ty
                cases ty <;> simp [mj_fv, mj_ur, va_up, hj]
              · simp [mj_ur, hb]
            · obtain ⟨-, rfl⟩ := hst
              refine mj_s_put C hd hv hm hany (fun h9 => ?_) (fun j hj => ?_) (fun b hb => ?_) kk
              · cases hty : mj_ty ci k <;> rw [hty] at h9 <;> simp [mj_tc] at h9 <;> exact ⟨rfl, rfl, by simp [mj_fv, mj_ur, mj_cv, va_up, va_rf]⟩
              · funext ty
                cases ty <;> simp [mj_fv, mj_ur, va_up, hj]
              · simp [mj_ur, hb]
          · cases v <;> simp only [mj_pf, hm, hany, Option.some.injEq, Prod.mk.injEq, reduceCtorEq] at hst
            obtain ⟨-, rfl⟩ := hst
            refine mj_s_put C hd hv hm hany (fun h9 => ?_) (fun j hj => ?_) (fun b hb => ?_) kk
            · cases hty : mj_ty ci k <;> rw [hty] at h9 <;> simp [mj_tc] at h9
              refine ⟨rfl, rfl, ?_⟩
              simp [mj_fv, mj_uj, mj_cv, vp_updL]
            · funext ty
              cases ty <;> simp [mj_fv, mj_uj, vp_updL, hj]
            · simp [mj_uj, hb]
          · simp [mj_pf, hm, hany] at hst
  | _ => simp [mj_pf] at hst
end MJ
end
section
section MJ
variable {p : Program} {l : Launch} {e : Env} {R : Room} {s : State} {mi : MethodId} {args : Array Value} {below : List Frame} {meth : Method} {c : Code} {Q : State → Prop} {w : mjW} {D : va_G} {L : Nat} {xs : Nat → Int32} {own nL : Nat} {cc : ByteArray} {ini : Bool} {n0 u0 nE uE : Nat}
theorem mj_s_iald (C : mj_Cx p R s mi args meth c w D L xs own nL cc ini n0 u0 nE uE) {pc : Nat} (hd : decode cc pc = .ok (.iaload, 1)) {ls : List (Option Value)} {st : List Value} {m : mjM} {I : mjI} {RR : mjR} {J : mjJ} {o : Option Prop} {cf' : mjC} (hst : mj_xld 0 (pc + 1) ls st m I RR J = some (o, cf')) (ho : mj_ok o) (kk : mj_Sim p l e R s mi args below meth c Q w D L xs nL n0 u0 cf') : mj_Sim p l e R s mi args below meth c Q w D L xs nL n0 u0 (pc, ls, st, m, I, RR, J) := by
  obtain ⟨hx, hb, hml, hown, hts, hK, -, -, hX, hbB, hsz, hn0, -⟩ := C
  unfold mj_xld at hst
  split at hst <;> try (cases hst; done)
  next i a st' =>
    cases hm : mj_mt a m with
    | none => simp [hm] at hst
    | some tq =>
      obtain ⟨t, q⟩ := tq
      cases hbq : Nat.beq t 0 with
      | false => simp [hm, hbq] at hst
      | true =>
        have ht := Nat.eq_of_beq_eq_true hbq
        subst ht
        simp only [hm, hbq, Option.some.injEq, Prod.mk.injEq] at hst
        obtain ⟨rfl, rfl⟩ := hst
        have hin : vp_in i q := ho
        intro H locs als cells slots hH hS hL hc hs
        have hH0 := hH
        obtain ⟨hz, hm0, hx0, hP⟩ := hH
        cases a with
        | zero =>
          have hm0' : mj_mt 0 m = some (0, L) := hm0
          rw [hm] at hm0'
          cases hm0'
          have hx0' : I 0 = xs := hx0
          have hlt : w.1 < s.heap.size := by omega
          show W p l e R s mi args below meth c H locs cells slots Q (F0 mi pc als (.int i :: .ref w.1 :: st'.map (mj_cv w)))
          refine va_sld (A := fun q : Nat => w.2.1 ≤ q) hx hb hX hlt (by show ¬ w.2.1 ≤ w.1; omega) hS hin hd ?_
          rw [← hx0']
          exact kk H locs als cells slots hH0 hS hL hc hs
        | succ a =>
          have hat := mj_ws_at (w := w) (h := (m, I, RR, J)) hm
          show W p l e R s mi args below meth c H locs cells slots Q (F0 mi pc als (.int i :: .ref (w.2.1 + a) :: st'.map (mj_cv w)))
          exact va_iald hx hb hK hP a 0 hat rfl hin hd (kk H locs als cells slots hH0 hS hL hc hs)
theorem mj_s_bald (C : mj_Cx p R s mi args meth c w D L xs own nL cc ini n0 u0 nE uE) {pc : Nat} (hd : decode cc pc = .ok (.baload, 1)) {ls : List (Option Value)} {st : List Value} {m : mjM} {I : mjI} {RR : mjR} {J : mjJ} {o : Option Prop} {cf' : mjC} (hst : mj_xld 1 (pc + 1) ls st m I RR J = some (o, cf')) (ho : mj_ok o) (kk : mj_Sim p l e R s mi args below meth c Q w D L xs nL n0 u0 cf') : mj_Sim p l e R s mi args below meth c Q w D L xs nL n0 u0 (pc, ls, st, m, I, RR, J) := by
  obtain ⟨hx, hb, hml, hown, hts, hK, -, -, hX, hbB, hsz, hn0, -⟩ := C
  unfold mj_xld at hst
  split at hst <;> try (cases hst; done)
  next i a st' =>
    cases hm : mj_mt a m with
    | none => simp [hm] at hst
    | some tq =>
      obtain ⟨t, q⟩ := tq
      cases hbq : Nat.beq t 1 with
      | false => simp [hm, hbq] at hst
      | true =>
        have ht := Nat.eq_of_beq_eq_true hbq
        subst ht
        simp only [hm, hbq, Option.some.injEq, Prod.mk.injEq] at hst
        obtain ⟨rfl, rfl⟩ := hst
        have hin : vp_in i q := ho
        intro H locs als cells slots hH hS hL hc hs
        have hH0 := hH
        obtain ⟨hz, hm0, hx0, hP⟩ := hH
        cases a with
        | zero =>
          have hm0' : mj_mt 0 m = some (0, L) := hm0
          rw [hm] at hm0'
          cases hm0'
        | succ a =>
          have hat := mj_ws_at (w := w) (h := (m, I, RR, J)) hm
          show W p l e R s mi args below meth c H locs cells slots Q (F0 mi pc als (.int i :: .ref (w.2.1 + a) :: st'.map (mj_cv w)))
          exact va_bald hx hb hK hP a 1 hat rfl hin hd (kk H locs als cells slots hH0 hS hL hc hs)
theorem mj_s_iast (C : mj_Cx p R s mi args meth c w D L xs own nL cc ini n0 u0 nE uE) {pc : Nat} (hd : decode cc pc = .ok (.iastore, 1)) {ls : List (Option Value)} {st : List Value} {m : mjM} {I : mjI} {RR : mjR} {J : mjJ} {o : Option Prop} {cf' : mjC} (hst : mj_xst 0 (pc + 1) ls st m I RR J = some (o, cf')) (ho : mj_ok o) (kk : mj_Sim p l e R s mi args below meth c Q w D L xs nL n0 u0 cf') : mj_Sim p l e R s mi args below meth c Q w D L xs nL n0 u0 (pc, ls, st, m, I, RR, J) := by
  have C0 := C
  obtain ⟨hx, hb, hml, hown, hts, hK, -, -, hX, hbB, hsz, hn0, -⟩ := C
  unfold mj_xst at hst
  split at hst <;> try (cases hst; done)
  next x i a st' =>
    cases hm : mj_mt a m with
    | none => simp [hm] at hst
    | some tq =>
      obtain ⟨t, q⟩ := tq
      cases hbq : Nat.beq t 0 with
      | false => simp [hm, hbq] at hst
      | true =>
        have ht := Nat.eq_of_beq_eq_true hbq
        subst ht
        simp only [hm, hbq, Option.some.injEq, Prod.mk.injEq] at hst
        obtain ⟨rfl, rfl⟩ := hst
        have hin : vp_in i q ∧ 0 < a := ho
        intro H locs als cells slots hH hS hL hc hs
        have hH0 := hH
        obtain ⟨hz, hm0, hx0, hP⟩ := hH
        cases a with
        | zero => exact absurd hin.2 (Nat.lt_irrefl 0)
        | succ a =>
          have hat := mj_ws_at (w := w) (h := (m, I, RR, J)) hm
          have hset : (mj_ws w (m, I, RR, J)).set a (w.2.1 + a, .inl (w.2.2.1, q, .inl (upd (I (a + 1)) i.toNatClampNeg x))) = mj_ws w (m, mj_ui I (a + 1) i.toNatClampNeg x, RR, J) := by
            rw [← mj_ws_set (I := I) (R := RR) (J := J) hm (I' := mj_ui I (a + 1) i.toNatClampNeg x) (R' := RR) (J' := J) (fun b hb => ⟨by simp [mj_ui, hb], rfl, rfl⟩)]
            simp [mj_ce, mj_ui]
          show W p l e R s mi args below meth c H locs cells slots Q (F0 mi pc als (.int x :: .int i :: .ref (w.2.1 + a) :: st'.map (mj_cv w)))
          refine va_iast (A := fun q : Nat => w.2.1 ≤ q) hx hb hK hP (mj_D w (m, I, RR, J)) hS a 0 hat rfl hin.1 hd (fun H1 locs1 hP1 hD1 hS1 => ?_)
          rw [hset] at hP1
          exact mj_close C0 (by simp [mj_ui]) hH0 hP1 hS1 hL hc hs kk
theorem mj_s_bast (C : mj_Cx p R s mi args meth c w D L xs own nL cc ini n0 u0 nE uE) {pc : Nat} (hd : decode cc pc = .ok (.bastore, 1)) {ls : List (Option Value)} {y : Int32} {st : List Value} {m : mjM} {I : mjI} {RR : mjR} {J : mjJ} {o : Option Prop} {cf' : mjC} (hst : mj_xst 1 (pc + 1) ls (.int y.toInt8.toInt32 :: st) m I RR J = some (o, cf')) (ho : mj_ok o) (kk : mj_Sim p l e R s mi args below meth c Q w D L xs nL n0 u0 cf') : mj_Sim p l e R s mi args below meth c Q w D L xs nL n0 u0 (pc, ls, .int y :: st, m, I, RR, J) := by
  have C0 := C
  obtain ⟨hx, hb, hml, hown, hts, hK, -, -, hX, hbB, hsz, hn0, -⟩ := C
  generalize hy : y.toInt8.toInt32 = y' at hst
  unfold mj_xst at hst
  split at hst <;> try (cases hst; done)
  next x i a st' heq =>
    cases heq
    cases hm : mj_mt a m with
    | none => simp [hm] at hst
    | some tq =>
      obtain ⟨t, q⟩ := tq
      cases hbq : Nat.beq t 1 with
      | false => simp [hm, hbq] at hst
      | true =>
        have ht := Nat.eq_of_beq_eq_true hbq
        subst ht
        simp only [hm, hbq, Option.some.injEq, Prod.mk.injEq] at hst
        obtain ⟨rfl, rfl⟩ := hst
        have hin : vp_in i q ∧ 0 < a := ho
        intro H locs als cells slots hH hS hL hc hs
        have hH0 := hH
        obtain ⟨hz, hm0, hx0, hP⟩ := hH
        cases a with
        | zero => exact absurd hin.2 (Nat.lt_irrefl 0)
        | succ a =>
          have hat := mj_ws_at (w := w) (h := (m, I, RR, J)) hm
          have hset : (mj_ws w (m, I, RR, J)).set a (w.2.1 + a, .inl (w.2.2.2.1, q, .inl (upd (I (a + 1)) i.toNatClampNeg y'))) = mj_ws w (m, mj_ui I (a + 1) i.toNatClampNeg y', RR, J) := by
            rw [← mj_ws_set (I := I) (R := RR) (J := J) hm (I' := mj_ui I (a + 1) i.toNatClampNeg y') (R' := RR) (J' := J) (fun b hb => ⟨by simp [mj_ui, hb], rfl, rfl⟩)]
            simp [mj_ce, mj_ui]
          show W p l e R s mi args below meth c H locs cells slots Q (F0 mi pc als (.int y :: .int i :: .ref (w.2.1 + a) :: st'.map (mj_cv w)))
          refine va_bast (A := fun q : Nat => w.2.1 ≤ q) hx hb hK hP (mj_D w (m, I, RR, J)) hS a 1 hat rfl hin.1 hd (fun H1 locs1 hP1 hD1 hS1 => ?_)
          rw [vp_nar_byte, hy, hset] at hP1
          exact mj_close C0 (by simp [mj_ui]) hH0 hP1 hS1 hL hc hs kk
theorem mj_s_aln (C : mj_Cx p R s mi args meth c w D L xs own nL cc ini n0 u0 nE uE) {pc : Nat} (hd : decode cc pc = .ok (.arraylength, 1)) {ls : List (Option Value)} {st : List Value} {m : mjM} {I : mjI} {RR : mjR} {J : mjJ} {o : Option Prop} {cf' : mjC} (hst : mj_aln (pc + 1) ls st m I RR J = some (o, cf')) (kk : mj_Sim p l e R s mi args below meth c Q w D L xs nL n0 u0 cf') : mj_Sim p l e R s mi args below meth c Q w D L xs nL n0 u0 (pc, ls, st, m, I, RR, J) := by
  obtain ⟨hx, hb, hml, hown, hts, hK, -, -, hX, hbB, hsz, hn0, -⟩ := C
  unfold mj_aln at hst
  split at hst <;> try (cases hst; done)
  next a st' =>
    cases hm : mj_mt a m with
    | none => simp [hm] at hst
    | some tq =>
      obtain ⟨t, q⟩ := tq
      cases hbq : Nat.ble t 3 with
      | false => simp [hm, hbq] at hst
      | true =>
        have ht : t ≤ 3 := Nat.le_of_ble_eq_true hbq
        simp only [hm, hbq, Option.some.injEq, Prod.mk.injEq] at hst
        obtain ⟨rfl, rfl⟩ := hst
        intro H locs als cells slots hH hS hL hc hs
        have hH0 := hH
        obtain ⟨hz, hm0, hx0, hP⟩ := hH
        cases a with
        | zero =>
          have hm0' : mj_mt 0 m = some (0, L) := hm0
          rw [hm] at hm0'
          cases hm0'
          have hlt : w.1 < s.heap.size := by omega
          show W p l e R s mi args below meth c H locs cells slots Q (F0 mi pc als (.ref w.1 :: st'.map (mj_cv w)))
          exact va_slen (A := fun q : Nat => w.2.1 ≤ q) hx hb hX hlt (by show ¬ w.2.1 ≤ w.1; omega) hS hd (kk H locs als cells slots hH0 hS hL hc hs)
        | succ a =>
          have hat := mj_ws_at (w := w) (h := (m, I, RR, J)) hm
          show W p l e R s mi args below meth c H locs cells slots Q (F0 mi pc als (.ref (w.2.1 + a) :: st'.map (mj_cv w)))
          rcases (show t = 0 ∨ t = 1 ∨ t = 2 ∨ t = 3 by omega) with rfl | rfl | rfl | rfl
          · exact va_alen hx hb hK hP a 0 hat rfl rfl hd (kk H locs als cells slots hH0 hS hL hc hs)
          · exact va_alen hx hb hK hP a 1 hat rfl rfl hd (kk H locs als cells slots hH0 hS hL hc hs)
          · exact va_alen hx hb hK hP a 2 hat rfl rfl hd (kk H locs als cells slots hH0 hS hL hc hs)
          · exact va_alen hx hb hK hP a 3 hat rfl rfl hd (kk H locs als cells slots hH0 hS hL hc hs)
theorem mj_aldW {ty : FieldType} (hx : p.tables.exec = Jvm.exec) (hb : c.code = cc) {H : Heap} {locs : List Loc} {cells slots : Nat} {cl : List vw_C} {tys : List (ClassId × FieldType)} {ws : va_W} {a pc : Nat} {ls : Array Slot} {rest : List Value} (hK : va_K D cl tys s) (hP : va_P D cl ws H) (q0 t0 : Nat) {cA : ClassId} {n : Nat} {f : Nat → Option Nat} (ha : ws[q0]? = some (a, .inl (cA, n, .inr (.inr (.inr (.inr f)))))) (ht : tys[t0]? = some (cA, ty)) (hty : ty.isReference = true) {i : Int32} (hin : vp_in i n) (hdg : decode cc pc = .ok (.aaload, 1))
    (kk : W p l e R s mi args below meth c H locs cells slots Q (F0 mi (pc + 1) ls (va_rf (f i.toNatClampNeg) :: rest))) : W p l e R s mi args below meth c H locs cells slots Q (F0 mi pc ls (.int i :: .ref a :: rest)) := by
  have hlt : i.toNatClampNeg < n := Nat.not_le.mp fun q => hin (Or.inr q)
  exact W.aald (v := va_rf (f i.toNatClampNeg)) (ty := ty) hx hb (hP q0 _ ha) ((hK.2 t0 _ ht).1 n (fun j => va_rf (f j))) hty (fun q => by cases q) (by show ¬ (i < 0 ∨ (arrV _ _ _).slots.size ≤ _); rw [arrV_size]; exact hin) (by show (arrV _ _ _).slots[_]? = _; rw [arrV_read _ _ hlt]) rfl rfl hdg kk
theorem mj_s_aald (C : mj_Cx p R s mi args meth c w D L xs own nL cc ini n0 u0 nE uE) {pc : Nat} (hd : decode cc pc = .ok (.aaload, 1)) {ls : List (Option Value)} {st : List Value} {m : mjM} {I : mjI} {RR : mjR} {J : mjJ} {o : Option Prop} {cf' : mjC} (hst : mj_aald (pc + 1) ls st m I RR J = some (o, cf')) (ho : mj_ok o) (kk : mj_Sim p l e R s mi args below meth c Q w D L xs nL n0 u0 cf') : mj_Sim p l e R s mi args below meth c Q w D L xs nL n0 u0 (pc, ls, st, m, I, RR, J) := by
  obtain ⟨hx, hb, hml, hown, hts, hK, -, -, hX, hbB, hsz, hn0, -⟩ := C
  unfold mj_aald at hst
  split at hst <;> try (cases hst; done)
  next i a st' =>
    cases hm : mj_mt a m with
    | none => simp [hm] at hst
    | some tq =>
      obtain ⟨t, q⟩ := tq
      cases hbq : (Nat.beq t 2 || Nat.beq t 3) with
      | false => simp [hm, hbq] at hst
      | true =>
        have ht : t = 2 ∨ t = 3 := by
          rcases Bool.or_eq_true _ _ ▸ hbq with h | h
          · exact Or.inl (Nat.eq_of_beq_eq_true h)
          · exact Or.inr (Nat.eq_of_beq_eq_true h)
        simp only [hm, hbq] at hst
        have key : vp_in i q ∧ cf' = (pc + 1, ls, va_rf (RR a i.toNatClampNeg) :: st', m, I, RR, J) := by
          cases hR : RR a i.toNatClampNeg with
          | none =>
            simp only [hR, Option.some.injEq, Prod.mk.injEq] at hst
            obtain ⟨rfl, rfl⟩ := hst
            exact ⟨ho, rfl⟩
          | some b =>
            simp only [hR, Option.some.injEq, Prod.mk.injEq] at hst
            obtain ⟨rfl, rfl⟩ := hst
            exact ⟨ho, rfl⟩
        obtain ⟨hin, rfl⟩ := key
        intro H locs als cells slots hH hS hL hc hs
        have hH0 := hH
        obtain ⟨hz, hm0, hx0, hP⟩ := hH
        have hcv : mj_cv w (va_rf (RR a i.toNatClampNeg)) = va_rf ((RR a i.toNatClampNeg).map (mj_ad w)) := by
          cases RR a i.toNatClampNeg <;> rfl
        have kk' := kk H locs als cells slots hH0 hS hL hc hs
        have kk2 : W p l e R s mi args below meth c H locs cells slots Q (F0 mi (pc + 1) als (va_rf ((RR a i.toNatClampNeg).map (mj_ad w)) :: st'.map (mj_cv w))) := by
          rw [← hcv]
          exact kk'
        cases a with
        | zero =>
          exfalso
          have hm0' : mj_mt 0 m = some (0, L) := hm0
          rw [hm] at hm0'
          cases hm0'
          omega
        | succ a =>
          have hat := mj_ws_at (w := w) (h := (m, I, RR, J)) hm
          show W p l e R s mi args below meth c H locs cells slots Q (F0 mi pc als (.int i :: .ref (w.2.1 + a) :: st'.map (mj_cv w)))
          rcases ht with rfl | rfl
          · exact mj_aldW (ty := .array .int) hx hb hK hP a 2 hat rfl rfl hin hd kk2
          · exact mj_aldW (ty := .object "PointsThrow$Point") hx hb hK hP a 3 hat rfl rfl hin hd kk2
end MJ
end
section
theorem mj_wc_app (w : mjW) (I : mjI) (R : mjR) (J : mjJ) : ∀ (a : Nat) (x y : List (Nat × Nat)), mj_wc w I R J a (x ++ y) = mj_wc w I R J a x ++ mj_wc w I R J (a + x.length) y
  | a, [], y => by simp [mj_wc]
  | a, z :: x, y => by
    simp only [List.cons_append, mj_wc, mj_wc_app w I R J (a + 1) x y, List.length_cons]
    rw [show a + 1 + x.length = a + (x.length + 1) by omega]
theorem mj_wc_congr {w : mjW} {I I' : mjI} {R R' : mjR} {J J' : mjJ} : ∀ (a : Nat) (x : List (Nat × Nat)), (∀ b, b ≤ a + x.length → I' b = I b ∧ R' b = R b ∧ J' b = J b) → mj_wc w I' R' J' a x = mj_wc w I R J a x
  | _, [], _ => rfl
  | a, z :: x, h => by
    obtain ⟨h1, h2, h3⟩ := h (a + 1) (by simp)
    simp only [mj_wc]
    rw [mj_ce_congr h1 h2 h3, mj_wc_congr (a + 1) x (fun b hb => h b (by simp; omega))]
/-- cells are made -/
theorem mj_ws_push {w : mjW} {m ys : mjM} {I I' : mjI} {R R' : mjR} {J J' : mjJ} (hm : 1 ≤ m.length) (h : ∀ b, b < m.length → I' b = I b ∧ R' b = R b ∧ J' b = J b) : mj_ws w (m ++ ys, I', R', J') = mj_ws w (m, I, R, J) ++ mj_wc w I' R' J' (m.length - 1) ys := by
  cases m with
  | nil => simp at hm
  | cons z m =>
    simp only [mj_ws, List.cons_append, List.tail_cons]
    rw [mj_wc_app, mj_wc_congr 0 m (fun b hb => h b (by simp; omega))]
    simp
theorem mj_any_of {t : Nat} : ∀ {cs : List Nat}, t ∈ cs → mj_any t cs = true
  | [], h => by cases h
  | c :: cs, h => by
    unfold mj_any
    split
    · rfl
    next hb =>
      rcases List.mem_cons.mp h with e | e
      · rw [e, Nat.beq_refl] at hb
        cases hb
      · exact mj_any_of e
theorem mj_xn_in {z : Cond} (h : z ∈ lw_tbl) (hz : mj_isx z = true) : z ∈ mj_xn := List.mem_filter.mpr ⟨h, hz⟩
theorem mj_ty_ok0 : ∀ ci, ci < 13 → ∀ j, j < mj_nf ci → mj_tc (mj_ty ci j) ≠ 9 := by decide +kernel
theorem mj_ty_ok {ci j : Nat} {q : vw_C} (h : vwCl[ci]? = some q) (hj : j < mj_nf ci) : mj_tc (mj_ty ci j) ≠ 9 := mj_ty_ok0 ci (by have := (List.getElem?_eq_some_iff.mp h).1; simpa [vwCl] using this) j hj
section MJ
variable {p : Program} {l : Launch} {e : Env} {R : Room} {s : State} {mi : MethodId} {args : Array Value} {below : List Frame} {meth : Method} {c : Code} {Q : State → Prop} {w : mjW} {D : va_G} {L : Nat} {xs : Nat → Int32} {own nL : Nat} {cc : ByteArray} {ini : Bool} {n0 u0 nE uE : Nat}
theorem mj_Wub {H : Heap} {locs : List Loc} {cells slots : Nat} {g : JFrame} (k : H.size ≤ s.heap.size + cells → W p l e R s mi args below meth c H locs cells slots Q g) : W p l e R s mi args below meth c H locs cells slots Q g := fun T hT X => k (by have h := X.heapSize; rw [hT] at h; exact h) T hT X
/-- where the one new cell is -/
theorem mj_fresh {m : mjM} {I : mjI} {RR : mjR} {J : mjJ} {q : Nat} {en : va_E} {H1 : Heap} (hm : 1 ≤ m.length) (hP : va_P D vwCl (mj_ws w (m, I, RR, J) ++ [(q, en)]) H1) (hD : va_D (fun q : Nat => w.2.1 ≤ q) (mj_ws w (m, I, RR, J) ++ [(q, en)])) (hz : H1.size ≤ w.2.1 + m.length) : q = w.2.1 + (m.length - 1) ∧ H1.size = w.2.1 + m.length := by
  have hlen : (mj_ws w (m, I, RR, J)).length = m.length - 1 := mj_ws_len w (m, I, RR, J)
  have hq : (mj_ws w (m, I, RR, J) ++ [(q, en)])[m.length - 1]? = some (q, en) := by
    rw [List.getElem?_append_right (by omega), hlen]
    simp
  have h1 := (hP _ _ hq).lt
  have h2 : w.2.1 ≤ q := hD.2 _ _ hq
  have h1' : q < H1.size := h1
  have h3 : q = w.2.1 + (m.length - 1) := by
    rcases Nat.lt_or_ge q (w.2.1 + (m.length - 1)) with h4 | h4
    · exfalso
      obtain ⟨i, hi⟩ : ∃ i, q = w.2.1 + i := ⟨q - w.2.1, by omega⟩
      have hil : i < (mj_ws w (m, I, RR, J)).length := by omega
      obtain ⟨y, hy⟩ : ∃ y, (mj_ws w (m, I, RR, J))[i]? = some y := ⟨_, List.getElem?_eq_getElem hil⟩
      have hy2 : (mj_ws w (m, I, RR, J) ++ [(q, en)])[i]? = some y := by rw [List.getElem?_append_left hil]; exact hy
      have := hD.1 _ _ _ _ hy2 hq (by rw [mj_ws_adr hy]; exact hi.symm)
      omega
    · omega
  exact ⟨h3, by omega⟩
theorem mj_sl_app (m y : mjM) : mj_sl (m ++ y) = mj_sl m + mj_sl y := by simp [mj_sl]
theorem mj_made (C : mj_Cx p R s mi args meth c w D L xs own nL cc ini n0 u0 nE uE) {n N : Nat} {x : Nat × Nat} (hN : x.2 = N) {ls : List (Option Value)} {st : List Value} {m : mjM} {I I' : mjI} {RR R' : mjR} {J J' : mjJ} {q : Nat} {en : va_E} {H H1 : Heap} {locs : List Loc} {als : Array Slot} {cells slots : Nat} (hb : ∀ b, b < m.length → I' b = I b ∧ R' b = RR b ∧ J' b = J b) (hH : mj_HR w D L xs (m, I, RR, J) H) (hP1 : va_P D vwCl (mj_ws w (m, I, RR, J) ++ [(q, en)]) H1) (hD1 : va_D (fun q : Nat => w.2.1 ≤ q) (mj_ws w (m, I, RR, J) ++ [(q, en)])) (hen : en = mj_ce w I' R' J' m.length x) (hS1 : va_S (fun q : Nat => w.2.1 ≤ q) s.heap H1 locs) (hL : mj_LR w nL ls als) (hc : n0 + cells = m.length) (hs : u0 + slots = mj_sl m)
    (kk : mj_Sim p l e R s mi args below meth c Q w D L xs nL n0 u0 (n, ls, .ref m.length :: st, m ++ [x], I', R', J')) : W p l e R s mi args below meth c H1 locs (cells + 1) (slots + N) Q (F0 mi n als (.ref q :: st.map (mj_cv w))) := by
  obtain ⟨-, -, -, -, -, -, -, -, -, -, hsz, hn0, -⟩ := C
  obtain ⟨hz, hm0, hx0, -⟩ := hH
  have hml : 1 ≤ m.length := by omega
  refine mj_Wub (fun hub => ?_)
  obtain ⟨hq, hz1⟩ := mj_fresh hml hP1 hD1 (by omega)
  have hws : mj_ws w (m, I, RR, J) ++ [(q, en)] = mj_ws w (m ++ [x], I', R', J') := by
    rw [mj_ws_push hml hb]
    simp only [mj_wc]
    rw [hq, hen, show m.length - 1 + 1 = m.length by omega]
  rw [hws] at hP1
  have had : q = mj_ad w m.length := by
    rw [hq]
    cases hmm : m.length with
    | zero => omega
    | succ k => rfl
  rw [had]
  refine kk H1 locs als (cells + 1) (slots + N) ⟨?_, ?_, ?_, hP1⟩ hS1 hL ?_ ?_
  · show H1.size + 1 = w.2.1 + (m ++ [x]).length
    rw [List.length_append]
    simp
    omega
  · show mj_mt 0 (m ++ [x]) = some (0, L)
    have hm0' : mj_mt 0 m = some (0, L) := hm0
    cases m with
    | nil => simp [mj_mt] at hm0'
    | cons z m => simpa [mj_mt] using hm0'
  · exact (hb 0 (by omega)).1.trans hx0
  · show n0 + (cells + 1) = (m ++ [x]).length
    rw [List.length_append]
    simp
    omega
  · show u0 + (slots + N) = mj_sl (m ++ [x])
    rw [mj_sl_app, ← hs, ← hN]
    simp [mj_sl]
    omega
theorem mj_tys_int (C : mj_Cx p R s mi args meth c w D L xs own nL cc ini n0 u0 nE uE) {cA : ClassId} (hK : va_K D vwCl (mj_tys w ++ [(cA, .int)]) s) : cA = w.2.2.1 := by
  obtain ⟨-, -, -, -, -, hK0, -⟩ := C
  have h1 : s.vm.findClass ("[" ++ FieldType.int.toString) = some cA := (hK.2 4 _ rfl).2
  have h2 : s.vm.findClass ("[" ++ FieldType.int.toString) = some w.2.2.1 := (hK0.2 0 _ rfl).2
  exact Option.some.inj (h1.symm.trans h2)
theorem mj_tys_byte (C : mj_Cx p R s mi args meth c w D L xs own nL cc ini n0 u0 nE uE) {cA : ClassId} (hK : va_K D vwCl (mj_tys w ++ [(cA, .byte)]) s) : cA = w.2.2.2.1 := by
  obtain ⟨-, -, -, -, -, hK0, -⟩ := C
  have h1 : s.vm.findClass ("[" ++ FieldType.byte.toString) = some cA := (hK.2 4 _ rfl).2
  have h2 : s.vm.findClass ("[" ++ FieldType.byte.toString) = some w.2.2.2.1 := (hK0.2 1 _ rfl).2
  exact Option.some.inj (h1.symm.trans h2)
theorem mj_tys_pt (C : mj_Cx p R s mi args meth c w D L xs own nL cc ini n0 u0 nE uE) {cA : ClassId} (hK : va_K D vwCl (mj_tys w ++ [(cA, .object "PointsThrow$Point")]) s) : cA = w.2.2.2.2.2 := by
  obtain ⟨-, -, -, -, -, hK0, -⟩ := C
  obtain ⟨_, _, _, _, _, h1⟩ := (hK.2 4 _ rfl).2
  obtain ⟨_, _, _, _, _, h2⟩ := (hK0.2 3 _ rfl).2
  exact Option.some.inj (h1.symm.trans h2)
theorem mj_s_newI (C : mj_Cx p R s mi args meth c w D L xs own nL cc ini n0 u0 nE uE) {pc : Nat} (hd : decode cc pc = .ok (.newarray .int, 2)) (hw : Cond.arrayClass .int ∈ mj_tb) {ls : List (Option Value)} {st : List Value} {m : mjM} {I : mjI} {RR : mjR} {J : mjJ} {o : Option Prop} {cf' : mjC} (hst : mj_newa 0 (pc + 2) ls st m I RR J = some (o, cf')) (ho : mj_ok o) (hE : cf'.2.2.2.1.length ≤ nE ∧ mj_sl cf'.2.2.2.1 ≤ uE) (kk : mj_Sim p l e R s mi args below meth c Q w D L xs nL n0 u0 cf') : mj_Sim p l e R s mi args below meth c Q w D L xs nL n0 u0 (pc, ls, st, m, I, RR, J) := by
  have C0 := C
  obtain ⟨hx, hb, hml, hown, hts, hK, -, -, hX, hbB, hsz, hn0, hfr, hlo, hRc, hRs⟩ := C
  unfold mj_newa at hst
  split at hst <;> try (cases hst; done)
  next x st' =>
    simp only [Option.some.injEq, Prod.mk.injEq] at hst
    obtain ⟨rfl, rfl⟩ := hst
    obtain ⟨hx0, hx1⟩ : ¬ x < 0 ∧ x.toNatClampNeg ≤ 1000000 := ho
    intro H locs als cells slots hH hS hL hc hs
    have hH0 := hH
    obtain ⟨hz, hm0, hx00, hP⟩ := hH
    have hE1 : m.length + 1 ≤ nE := by simpa using hE.1
    have hE2 : mj_sl m + x.toNatClampNeg ≤ uE := by simpa [mj_sl_app, mj_sl] using hE.2
    have hc' : n0 + cells = m.length := hc
    have hs' : u0 + slots = mj_sl m := hs
    show W p l e R s mi args below meth c H locs cells slots Q (F0 mi pc als (.int x :: st'.map (mj_cv w)))
    refine va_newa (D := D) (A := fun q : Nat => w.2.1 ≤ q) (a0 := (x.toNatClampNeg, .inl (fun _ => 0))) hx hb (show (Cond.arrayClass (newarray.typeOf .int)).before args s = true from hts _ hw) rfl hK hP (mj_D w (m, I, RR, J)) hS (fun q hq => by show w.2.1 ≤ q; omega) (fun cA => rfl) hx0 rfl (by show x.toNatClampNeg * 4 ≤ 536870912; omega) (by omega) (by omega) hd (fun q cA H1 hK1 hP1 hD1 hS1 => ?_)
    have hcA := mj_tys_int C0 hK1
    subst hcA
    exact mj_made C0 (x := (0, x.toNatClampNeg)) rfl (fun b hb => ⟨by simp [mj_row, Nat.ne_of_lt hb], rfl, rfl⟩) hH0 hP1 hD1 (by simp [mj_ce, mj_row]) hS1 hL hc hs kk
theorem mj_s_newB (C : mj_Cx p R s mi args meth c w D L xs own nL cc ini n0 u0 nE uE) {pc : Nat} (hd : decode cc pc = .ok (.newarray .byte, 2)) (hw : Cond.arrayClass .byte ∈ mj_tb) {ls : List (Option Value)} {st : List Value} {m : mjM} {I : mjI} {RR : mjR} {J : mjJ} {o : Option Prop} {cf' : mjC} (hst : mj_newa 1 (pc + 2) ls st m I RR J = some (o, cf')) (ho : mj_ok o) (hE : cf'.2.2.2.1.length ≤ nE ∧ mj_sl cf'.2.2.2.1 ≤ uE) (kk : mj_Sim p l e R s mi args below meth c Q w D L xs nL n0 u0 cf') : mj_Sim p l e R s mi args below meth c Q w D L xs nL n0 u0 (pc, ls, st, m, I, RR, J) := by
  have C0 := C
  obtain ⟨hx, hb, hml, hown, hts, hK, -, -, hX, hbB, hsz, hn0, hfr, hlo, hRc, hRs⟩ := C
  unfold mj_newa at hst
  split at hst <;> try (cases hst; done)
  next x st' =>
    simp only [Option.some.injEq, Prod.mk.injEq] at hst
    obtain ⟨rfl, rfl⟩ := hst
    obtain ⟨hx0, hx1⟩ : ¬ x < 0 ∧ x.toNatClampNeg ≤ 1000000 := ho
    intro H locs als cells slots hH hS hL hc hs
    have hH0 := hH
    obtain ⟨hz, hm0, hx00, hP⟩ := hH
    have hE1 : m.length + 1 ≤ nE := by simpa using hE.1
    have hE2 : mj_sl m + x.toNatClampNeg ≤ uE := by simpa [mj_sl_app, mj_sl] using hE.2
    have hc' : n0 + cells = m.length := hc
    have hs' : u0 + slots = mj_sl m := hs
    show W p l e R s mi args below meth c H locs cells slots Q (F0 mi pc als (.int x :: st'.map (mj_cv w)))
    refine va_newa (D := D) (A := fun q : Nat => w.2.1 ≤ q) (a0 := (x.toNatClampNeg, .inl (fun _ => 0))) hx hb (show (Cond.arrayClass (newarray.typeOf .byte)).before args s = true from hts _ hw) rfl hK hP (mj_D w (m, I, RR, J)) hS (fun q hq => by show w.2.1 ≤ q; omega) (fun cA => rfl) hx0 rfl (by show x.toNatClampNeg * 1 ≤ 536870912; omega) (by omega) (by omega) hd (fun q cA H1 hK1 hP1 hD1 hS1 => ?_)
    have hcA := mj_tys_byte C0 hK1
    subst hcA
    exact mj_made C0 (x := (1, x.toNatClampNeg)) rfl (fun b hb => ⟨by simp [mj_row, Nat.ne_of_lt hb], rfl, rfl⟩) hH0 hP1 hD1 (by simp [mj_ce, mj_row]) hS1 hL hc hs kk
theorem mj_s_newq (C : mj_Cx p R s mi args meth c w D L xs own nL cc ini n0 u0 nE uE) {pc idx : Nat} (hd : decode cc pc = .ok (.anewarray idx, 3)) (hw : Cond.classLink (mj_cn own) idx "PointsThrow$Point" ∈ mj_tb) {ls : List (Option Value)} {st : List Value} {m : mjM} {I : mjI} {RR : mjR} {J : mjJ} {o : Option Prop} {cf' : mjC} (hst : mj_newq (pc + 3) ls st m I RR J = some (o, cf')) (ho : mj_ok o) (hE : cf'.2.2.2.1.length ≤ nE ∧ mj_sl cf'.2.2.2.1 ≤ uE) (kk : mj_Sim p l e R s mi args below meth c Q w D L xs nL n0 u0 cf') : mj_Sim p l e R s mi args below meth c Q w D L xs nL n0 u0 (pc, ls, st, m, I, RR, J) := by
  have C0 := C
  obtain ⟨hx, hb, hml, hown, hts, hK, hXW, -, hX, hbB, hsz, hn0, hfr, hlo, hRc, hRs⟩ := C
  unfold mj_newq at hst
  split at hst <;> try (cases hst; done)
  next x st' =>
    simp only [Option.some.injEq, Prod.mk.injEq] at hst
    obtain ⟨rfl, rfl⟩ := hst
    obtain ⟨hx0, hx1⟩ : ¬ x < 0 ∧ x.toNatClampNeg ≤ 1000000 := ho
    intro H locs als cells slots hH hS hL hc hs
    have hH0 := hH
    obtain ⟨hz, hm0, hx00, hP⟩ := hH
    have hE1 : m.length + 1 ≤ nE := by simpa using hE.1
    have hE2 : mj_sl m + x.toNatClampNeg ≤ uE := by simpa [mj_sl_app, mj_sl] using hE.2
    have hc' : n0 + cells = m.length := hc
    have hs' : u0 + slots = mj_sl m := hs
    show W p l e R s mi args below meth c H locs cells slots Q (F0 mi pc als (.int x :: st'.map (mj_cv w)))
    refine va_newq (D := D) (A := fun q : Nat => w.2.1 ≤ q) hx hb hown (hts _ hw) hXW.2.1 hK hP (mj_D w (m, I, RR, J)) hS (fun q hq => by show w.2.1 ≤ q; omega) hx0 rfl (by omega) (by omega) (by omega) hd (fun q cA H1 hK1 hP1 hD1 hS1 => ?_)
    have hcA := mj_tys_pt C0 hK1
    subst hcA
    exact mj_made C0 (x := (3, x.toNatClampNeg)) rfl (fun b hb => ⟨rfl, by simp [mj_rowR, Nat.ne_of_lt hb], rfl⟩) hH0 hP1 hD1 (by simp [mj_ce, mj_rowR]) hS1 hL hc hs kk
def mj_VN (own idx t k : Nat) : Prop := ∃ (ci : Nat) (C : String) (T : u_T) (N : Nat), t = ci + 10 ∧ vwCl[ci]? = some (C, T, N) ∧ k = N ∧ Cond.classLink (mj_cn own) idx C ∈ mj_tb ∧ Cond.instantiable C N ∈ mj_tb ∧ Cond.initialized C ∈ mj_tb
theorem mj_s_new (C : mj_Cx p R s mi args meth c w D L xs own nL cc ini n0 u0 nE uE) {pc idx t k : Nat} (hd : decode cc pc = .ok (.new idx, 3)) (hv : mj_VN own idx t k) {ls : List (Option Value)} {st : List Value} {m : mjM} {I : mjI} {RR : mjR} {J : mjJ} {o : Option Prop} {cf' : mjC} (hst : mj_new (pc + 3) [t, k] ls st m I RR J = some (o, cf')) (hE : cf'.2.2.2.1.length ≤ nE ∧ mj_sl cf'.2.2.2.1 ≤ uE) (kk : mj_Sim p l e R s mi args below meth c Q w D L xs nL n0 u0 cf') : mj_Sim p l e R s mi args below meth c Q w D L xs nL n0 u0 (pc, ls, st, m, I, RR, J) := by
  have C0 := C
  obtain ⟨hx, hb, hml, hown, hts, hK, hXW, -, hX, hbB, hsz, hn0, hfr, hlo, hRc, hRs⟩ := C
  obtain ⟨ci, Cn, T, N, rfl, hcl, rfl, v1, v2, v3⟩ := hv
  simp only [mj_new, Option.some.injEq, Prod.mk.injEq] at hst
  obtain ⟨rfl, rfl⟩ := hst
  intro H locs als cells slots hH hS hL hc hs
  have hH0 := hH
  obtain ⟨hz, hm0, hx00, hP⟩ := hH
  have hE1 : m.length + 1 ≤ nE := by simpa using hE.1
  have hE2 : mj_sl m + k ≤ uE := by simpa [mj_sl_app, mj_sl] using hE.2
  have hc' : n0 + cells = m.length := hc
  have hs' : u0 + slots = mj_sl m := hs
  have hN : k = mj_nf ci := mj_cl_nf hcl
  refine va_new (C := Cn) (T := T) (N := k) (D := D) (A := fun q : Nat => w.2.1 ≤ q) (fs := mj_fs w (mj_row I m.length (fun _ => 0)) (mj_rowR RR m.length (fun _ => none)) (mj_rowJ J m.length (fun _ => 0)) m.length ci) hx hb hts (mj_cl_in hcl) (mj_ty ci) (mj_cl_ty hcl) hown (hts _ v1) (hts _ v2) (hts _ v3) hK hP (mj_D w (m, I, RR, J)) hS (fun q hq => by show w.2.1 ≤ q; omega) hcl (fun j hj => ?_) (by omega) (by omega) hd (fun q H1 hP1 hD1 hS1 => ?_)
  · have hj' : j < mj_nf ci := by omega
    simp only [vp_V, List.getD_eq_getElem?_getD, mj_fs_at _ _ _ _ _ _ hj', Option.getD_some]
    have h9 := mj_ty_ok hcl hj'
    cases hty : mj_ty ci j <;> rw [hty] at h9 <;> simp [mj_tc] at h9 <;> simp [mj_fv, mj_row, mj_rowR, mj_rowJ, defaultValue, va_rf]
  · exact mj_made C0 (x := (ci + 10, k)) rfl (fun b hb => ⟨by simp [mj_row, Nat.ne_of_lt hb], by simp [mj_rowR, Nat.ne_of_lt hb], by simp [mj_rowJ, Nat.ne_of_lt hb]⟩) hH0 hP1 hD1 (by rw [mj_ce_obj]) hS1 hL hc hs kk
end MJ
end
section
theorem mj_x1 : Cond.castable RX1 "PointsThrow$Point" ∈ mj_xn := by decide +kernel
theorem mj_x2 : Cond.castable RX2 "PointsThrow$Point" ∈ mj_xn := by decide +kernel
theorem mj_x8 : Cond.castable RX8 "PointsThrow$Point" ∈ mj_xn := by decide +kernel
theorem mj_t1 : Cond.arrayClass .int ∈ mj_tb := by decide +kernel
theorem mj_t2 : Cond.arrayClass .byte ∈ mj_tb := by decide +kernel
theorem mj_t3 : Cond.native arraycopyName ∈ mj_tb := by decide +kernel
theorem mj_t4 : Cond.static arraycopyName ∈ mj_tb := by decide +kernel
theorem mj_t5 : Cond.initialized "java/lang/System" ∈ mj_tb := by decide +kernel
theorem mj_t6 : Cond.instanceMethod objectInit ∈ mj_tb := by decide +kernel
theorem mj_t7 : Cond.code objectInit ⟨#[0xb1]⟩ 1 none ∈ mj_tb := by decide +kernel
theorem mj_sum_eq (w : mjW) : ∀ st : List Value, ((st.map (mj_cv w)).map fun v => v.category).sum = mj_sum st
  | [] => rfl
  | v :: st => by
    have h := mj_sum_eq w st
    simp only [List.map_cons, List.sum_cons, mj_sum, mj_cv_cat, h]
section MJ
variable {p : Program} {l : Launch} {e : Env} {R : Room} {s : State} {mi : MethodId} {args : Array Value} {below : List Frame} {meth : Method} {c : Code} {Q : State → Prop} {w : mjW} {D : va_G} {L : Nat} {xs : Nat → Int32} {own nL : Nat} {cc : ByteArray} {ini : Bool} {n0 u0 nE uE : Nat}
theorem mj_s_aast (C : mj_Cx p R s mi args meth c w D L xs own nL cc ini n0 u0 nE uE) {pc : Nat} {d : List Nat} (hdd : d = [14, 11, 12, 18]) (hd : decode cc pc = .ok (.aastore, 1)) {ls : List (Option Value)} {st : List Value} {m : mjM} {I : mjI} {RR : mjR} {J : mjJ} {o : Option Prop} {cf' : mjC} (hst : mj_aast (pc + 1) d ls st m I RR J = some (o, cf')) (ho : mj_ok o) (kk : mj_Sim p l e R s mi args below meth c Q w D L xs nL n0 u0 cf') : mj_Sim p l e R s mi args below meth c Q w D L xs nL n0 u0 (pc, ls, st, m, I, RR, J) := by
  have C0 := C
  obtain ⟨hx, hb, hml, hown, hts, hK, hXW, -, hX, hbB, hsz, hn0, -⟩ := C
  unfold mj_aast at hst
  split at hst <;> try (cases hst; done)
  next v i a st' =>
    cases hm : mj_mt a m with
    | none => simp [hm] at hst
    | some tq =>
      obtain ⟨t, q⟩ := tq
      cases hmv : mj_mt v m with
      | none => simp [hm, hmv] at hst
      | some tq2 =>
        obtain ⟨tv, qv⟩ := tq2
        cases hbq : (Nat.beq t 3 && mj_any tv d) with
        | false => simp [hm, hmv, hbq] at hst
        | true =>
          obtain ⟨hb1, hb2⟩ := Bool.and_eq_true _ _ ▸ hbq
          have ht := Nat.eq_of_beq_eq_true hb1
          subst ht
          simp only [hm, hmv, hbq, Option.some.injEq, Prod.mk.injEq] at hst
          obtain ⟨rfl, rfl⟩ := hst
          have hin : vp_in i q := ho
          have htv := mj_any_mem hb2
          rw [hdd] at htv
          intro H locs als cells slots hH hS hL hc hs
          have hH0 := hH
          obtain ⟨hz, hm0, hx0, hP⟩ := hH
          have hm0' : mj_mt 0 m = some (0, L) := hm0
          cases a with
          | zero => rw [hm] at hm0'; cases hm0'
          | succ a =>
          cases v with
          | zero =>
            rw [hmv] at hm0'
            cases hm0'
            simp at htv
          | succ v =>
            have hat := mj_ws_at (w := w) (h := (m, I, RR, J)) hm
            have hav := mj_ws_at (w := w) (h := (m, I, RR, J)) hmv
            have hset : (mj_ws w (m, I, RR, J)).set a (w.2.1 + a, .inl (w.2.2.2.2.2, q, .inr (.inr (.inr (.inr (va_up (fun j => (RR (a + 1) j).map (mj_ad w)) i.toNatClampNeg (some (w.2.1 + v)))))))) = mj_ws w (m, I, mj_ur RR (a + 1) i.toNatClampNeg (some (v + 1)), J) := by
              rw [← mj_ws_set (I := I) (R := RR) (J := J) hm (I' := I) (R' := mj_ur RR (a + 1) i.toNatClampNeg (some (v + 1))) (J' := J) (fun b hb => ⟨rfl, by simp [mj_ur, hb], rfl⟩)]
              have hf : (va_up (fun j => (RR (a + 1) j).map (mj_ad w)) i.toNatClampNeg (some (w.2.1 + v))) = (fun j => (va_up (RR (a + 1)) i.toNatClampNeg (some (v + 1)) j).map (mj_ad w)) := by
                funext j
                by_cases hj : j = i.toNatClampNeg <;> simp [va_up, hj, mj_ad]
              rw [hf]
              simp [mj_ce, mj_ur]
            show W p l e R s mi args below meth c H locs cells slots Q (F0 mi pc als (.ref (w.2.1 + v) :: .int i :: .ref (w.2.1 + a) :: st'.map (mj_cv w)))
            have fin : ∀ (H1 : Heap) (locs1 : List Loc), va_P D vwCl ((mj_ws w (m, I, RR, J)).set a (w.2.1 + a, .inl (w.2.2.2.2.2, q, .inr (.inr (.inr (.inr (va_up (fun j => (RR (a + 1) j).map (mj_ad w)) i.toNatClampNeg (some (w.2.1 + v))))))))) H1 → va_D (fun q : Nat => w.2.1 ≤ q) ((mj_ws w (m, I, RR, J)).set a (w.2.1 + a, .inl (w.2.2.2.2.2, q, .inr (.inr (.inr (.inr (va_up (fun j => (RR (a + 1) j).map (mj_ad w)) i.toNatClampNeg (some (w.2.1 + v))))))))) → va_S (fun q : Nat => w.2.1 ≤ q) s.heap H1 locs1 → W p l e R s mi args below meth c H1 locs1 cells slots Q (F0 mi (pc + 1) als (st'.map (mj_cv w))) := by
              intro H1 locs1 hP1 hD1 hS1
              rw [hset] at hP1
              exact mj_close C0 rfl hH0 hP1 hS1 hL hc hs kk
            have hcase : tv = 4 + 10 ∨ tv = 1 + 10 ∨ tv = 2 + 10 ∨ tv = 8 + 10 := by simpa using htv
            rcases hcase with rfl | rfl | rfl | rfl
            · rw [mj_ce_obj] at hav
              exact va_astq (D := D) (A := fun q : Nat => w.2.1 ≤ q) (r := (RX4, TX4, 1)) hx hb hK hP (mj_D w (m, I, RR, J)) hS a 3 v 4 hat rfl hav rfl hin hd fin
            · rw [mj_ce_obj] at hav
              exact va_astqO (D := D) (A := fun q : Nat => w.2.1 ≤ q) (r := (RX1, TX1, 1)) hx hb hK hP (mj_D w (m, I, RR, J)) hS a 3 v 1 hat rfl (hXW.1 _ mj_x1) hav rfl hin hd fin
            · rw [mj_ce_obj] at hav
              exact va_astqO (D := D) (A := fun q : Nat => w.2.1 ≤ q) (r := (RX2, TX2, 1)) hx hb hK hP (mj_D w (m, I, RR, J)) hS a 3 v 2 hat rfl (hXW.1 _ mj_x2) hav rfl hin hd fin
            · rw [mj_ce_obj] at hav
              exact va_astqO (D := D) (A := fun q : Nat => w.2.1 ≤ q) (r := (RX8, TX8, 1)) hx hb hK hP (mj_D w (m, I, RR, J)) hS a 3 v 8 hat rfl (hXW.1 _ mj_x8) hav rfl hin hd fin
def mj_VI (own idx : Nat) (d : List Nat) : Prop := ∃ nm, Cond.classLink (mj_cn own) idx nm ∈ mj_tb ∧ ∀ t b, mj_sel t d = some b → ∃ (ci : Nat) (C : String) (T : u_T) (N : Nat), t = ci + 10 ∧ vwCl[ci]? = some (C, T, N) ∧ ((b = 1 ∧ (C = nm ∨ Cond.castable C nm ∈ mj_xn)) ∨ (b = 0 ∧ (C, nm) ∈ mj_nc))
theorem mj_s_inst (C : mj_Cx p R s mi args meth c w D L xs own nL cc ini n0 u0 nE uE) {pc idx : Nat} {d : List Nat} (hv : mj_VI own idx d) (hd : decode cc pc = .ok (.instanceof idx, 3)) {ls : List (Option Value)} {st : List Value} {m : mjM} {I : mjI} {RR : mjR} {J : mjJ} {o : Option Prop} {cf' : mjC} (hst : mj_inst (pc + 3) d ls st m I RR J = some (o, cf')) (kk : mj_Sim p l e R s mi args below meth c Q w D L xs nL n0 u0 cf') : mj_Sim p l e R s mi args below meth c Q w D L xs nL n0 u0 (pc, ls, st, m, I, RR, J) := by
  obtain ⟨hx, hb, hml, hown, hts, hK, hXW, -, hX, hbB, hsz, hn0, -⟩ := C
  obtain ⟨nm, hlk, hsel⟩ := hv
  unfold mj_inst at hst
  split at hst <;> try (cases hst; done)
  next a st' =>
    cases hm : mj_mt a m with
    | none => simp [hm] at hst
    | some tq =>
      obtain ⟨t, q⟩ := tq
      cases hs2 : mj_sel t d with
      | none => simp [hm, hs2] at hst
      | some b =>
        obtain ⟨ci, Cn, T, N, rfl, hcl, hcase⟩ := hsel t b hs2
        intro H locs als cells slots hH hS hL hc hs
        have hH0 := hH
        obtain ⟨hz, hm0, hx0, hP⟩ := hH
        cases a with
        | zero =>
          exfalso
          have hm0' : mj_mt 0 m = some (0, L) := hm0
          rw [hm] at hm0'
          cases hm0'
        | succ a =>
          have hat := mj_ws_at (w := w) (h := (m, I, RR, J)) hm
          rw [mj_ce_obj] at hat
          have hrec := va_recv hK hP hcl hat
          show W p l e R s mi args below meth c H locs cells slots Q (F0 mi pc als (.ref (w.2.1 + a) :: st'.map (mj_cv w)))
          rcases hcase with ⟨rfl, h9⟩ | ⟨rfl, h9⟩
          · simp only [hm, hs2, Option.some.injEq, Prod.mk.injEq] at hst
            obtain ⟨-, rfl⟩ := hst
            have kk' := kk H locs als cells slots hH0 hS hL hc hs
            rcases h9 with h9 | h9
            · subst h9
              exact va_instS hx hb hown (hts _ hlk) (hK.1 ci _ hcl).2 hrec hd kk'
            · exact va_instY hx hb hown (hts _ hlk) (hXW.1 _ h9) hrec hd kk'
          · simp only [hm, hs2, Option.some.injEq, Prod.mk.injEq] at hst
            obtain ⟨-, rfl⟩ := hst
            have kk' := kk H locs als cells slots hH0 hS hL hc hs
            exact va_instNo hx hb hown (hts _ hlk) (hXW.2.2.2 _ h9) hrec hd kk'
theorem mj_s_copy (C : mj_Cx p R s mi args meth c w D L xs own nL cc ini n0 u0 nE uE) {pc idx : Nat} (hlk : Cond.methodLink (mj_cn own) idx arraycopyName ∈ mj_tb) (hd : decode cc pc = .ok (.invokestatic idx, 3)) {ls : List (Option Value)} {st : List Value} {m : mjM} {I : mjI} {RR : mjR} {J : mjJ} {o : Option Prop} {cf' : mjC} (hst : mj_copy (pc + 3) ls st m I RR J = some (o, cf')) (ho : mj_ok o) (kk : mj_Sim p l e R s mi args below meth c Q w D L xs nL n0 u0 cf') : mj_Sim p l e R s mi args below meth c Q w D L xs nL n0 u0 (pc, ls, st, m, I, RR, J) := by
  have C0 := C
  obtain ⟨hx, hb, hml, hown, hts, hK, hXW, -, hX, hbB, hsz, hn0, hfr, hlo, -⟩ := C
  unfold mj_copy at hst
  split at hst <;> try (cases hst; done)
  next k dp a sp b st' =>
    split at hst <;> try (cases hst; done)
    next q q0 hm hm2 =>
      split at hst <;> try (cases hst; done)
      next hble =>
        simp only [Option.some.injEq, Prod.mk.injEq] at hst
        obtain ⟨rfl, rfl⟩ := hst
        obtain ⟨h1, h2, h3, h4, h5, h6, h7⟩ : ¬ sp < 0 ∧ ¬ dp < 0 ∧ ¬ k < 0 ∧ sp.toNatClampNeg + k.toNatClampNeg ≤ q0 ∧ dp.toNatClampNeg + k.toNatClampNeg ≤ q ∧ 0 < a ∧ 0 < b := ho
        have hsum : mj_sum st' ≤ 8 := Nat.le_of_ble_eq_true hble
        intro H locs als cells slots hH hS hL hc hs
        have hH0 := hH
        obtain ⟨hz, hm0, hx0, hP⟩ := hH
        cases a with
        | zero => exact absurd h6 (Nat.lt_irrefl 0)
        | succ a =>
        cases b with
        | zero => exact absurd h7 (Nat.lt_irrefl 0)
        | succ b =>
          have hat := mj_ws_at (w := w) (h := (m, I, RR, J)) hm
          have hbt := mj_ws_at (w := w) (h := (m, I, RR, J)) hm2
          have hset : (mj_ws w (m, I, RR, J)).set a (w.2.1 + a, .inl (w.2.2.1, q, .inl (va_cpy (I (b + 1)) (I (a + 1)) sp.toNatClampNeg dp.toNatClampNeg k.toNatClampNeg))) = mj_ws w (m, mj_row I (a + 1) (va_cpy (I (b + 1)) (I (a + 1)) sp.toNatClampNeg dp.toNatClampNeg k.toNatClampNeg), RR, J) := by
            rw [← mj_ws_set (I := I) (R := RR) (J := J) hm (I' := mj_row I (a + 1) (va_cpy (I (b + 1)) (I (a + 1)) sp.toNatClampNeg dp.toNatClampNeg k.toNatClampNeg)) (R' := RR) (J' := J) (fun b hb => ⟨by simp [mj_row, hb], rfl, rfl⟩)]
            simp [mj_ce, mj_row]
          show W p l e R s mi args below meth c H locs cells slots Q (F0 mi pc als (.int k :: .int dp :: .ref (w.2.1 + a) :: .int sp :: .ref (w.2.1 + b) :: st'.map (mj_cv w)))
          refine va_copyi (D := D) (A := fun q : Nat => w.2.1 ≤ q) (ty := .int) hx hb (hml.trans hL.2.1.symm) hown (hts _ hlk) (hts _ mj_t3) (hts _ mj_t4) (hts _ mj_t5) hK hP (mj_D w (m, I, RR, J)) hS b a 0 0 hbt hat rfl rfl rfl h1 h2 h3 h4 h5 (fun _ _ => rfl) hfr ?_ hd (fun H1 locs1 hP1 hD1 hS1 => ?_)
          · rw [mj_sum_eq]
            have h9 : nativeFrameWords "java/lang/System" "arraycopy" 5 = 7 := by decide
            rw [h9]
            omega
          · rw [hset] at hP1
            exact mj_close C0 (by simp [mj_row]) hH0 hP1 hS1 hL hc hs kk
theorem mj_s_obj (C : mj_Cx p R s mi args meth c w D L xs own nL cc ini n0 u0 nE uE) {pc idx a : Nat} (hlk : Cond.methodLink (mj_cn own) idx objectInit ∈ mj_tb) (hd : decode cc pc = .ok (.invokespecial idx, 3)) {ls : List (Option Value)} {st : List Value} {h : mjH} (hsum : mj_sum st ≤ 8) (kk : mj_Sim p l e R s mi args below meth c Q w D L xs nL n0 u0 (pc + 3, ls, st, h)) : mj_Sim p l e R s mi args below meth c Q w D L xs nL n0 u0 (pc, ls, .ref a :: st, h) := by
  obtain ⟨hx, hb, hml, hown, hts, hK, hXW, -, hX, hbB, hsz, hn0, hfr, hlo, -⟩ := C
  intro H locs als cells slots hH hS hL hc hs
  show W p l e R s mi args below meth c H locs cells slots Q (F0 mi pc als (.ref (mj_ad w a) :: st.map (mj_cv w)))
  refine W.objInit hx hb hown (hts _ hlk) (hts _ mj_t6) (hts _ mj_t7) rfl (hL.2.1.trans hml.symm) rfl hd hfr ?_ (kk H locs als cells slots hH hS hL hc hs)
  have h8 := lv_room (m := mi) (pc := pc) (ls := als) (rest := .ref (mj_ad w a) :: st.map (mj_cv w)) (st := st.map (mj_cv w)) (by rw [mj_sum_eq]; exact hsum)
  omega
end MJ
end
section
theorem mj_outer (c : ClassId) (N h0 : Nat) : ∀ i : Nat, Jvm.Free.Multi.outerC c N h0 i = arrV c N (fun j => va_rf (if j < i then some (h0 + 1 + j) else none))
  | 0 => by
    show ({ cls := c, slots := Array.replicate N .null, vm := .none } : Cell) = _
    rw [arrV_new]
    refine congrArg (arrV c N) (funext fun j => ?_)
    simp [va_rf]
  | i + 1 => by
    show (Jvm.Free.Multi.outerC c N h0 i).setSlot i (.ref (h0 + 1 + i)) = _
    rw [mj_outer c N h0 i, arrV_store]
    refine congrArg (arrV c N) (funext fun j => ?_)
    by_cases e : j = i
    · subst e
      simp [updV, va_rf]
    · by_cases h : j < i
      · simp [updV, e, h, Nat.lt_succ_of_lt h]
      · simp [updV, e, h, show ¬ j < i + 1 by omega]
theorem mj_inner (c : ClassId) (k : Nat) : Jvm.Free.Multi.innerC c k (defaultValue .int) = vp_cell c (k, .inl (fun _ => 0)) := by
  rw [vp_cell_i]
  show ({ cls := c, slots := Array.replicate k (defaultValue .int), vm := .none } : Cell) = _
  rw [arrV_new]
  rfl
section MJ
variable {p : Program} {l : Launch} {e : Env} {R : Room} {s : State} {mi : MethodId} {args : Array Value} {below : List Frame} {meth : Method} {c : Code} {Q : State → Prop} {w : mjW} {D : va_G} {L : Nat} {xs : Nat → Int32} {own nL : Nat} {cc : ByteArray} {ini : Bool} {n0 u0 nE uE : Nat}
theorem mj_s_newm (C : mj_Cx p R s mi args meth c w D L xs own nL cc ini n0 u0 nE uE) {pc idx : Nat} (hd : decode cc pc = .ok (.multianewarray idx 2, 4)) (hw : Cond.classLink (mj_cn own) idx "[[I" ∈ mj_tb) {ls : List (Option Value)} {st : List Value} {m : mjM} {I : mjI} {RR : mjR} {J : mjJ} {o : Option Prop} {cf' : mjC} (hst : mj_newm (pc + 4) ls st m I RR J = some (o, cf')) (ho : mj_ok o) (hE : cf'.2.2.2.1.length ≤ nE ∧ mj_sl cf'.2.2.2.1 ≤ uE) (kk : mj_Sim p l e R s mi args below meth c Q w D L xs nL n0 u0 cf') : mj_Sim p l e R s mi args below meth c Q w D L xs nL n0 u0 (pc, ls, st, m, I, RR, J) := by
  have C0 := C
  obtain ⟨hx, hb, hml, hown, hts, hK, hXW, -, hX, hbB, hsz, hn0, hfr, hlo, hRc, hRs⟩ := C
  unfold mj_newm at hst
  split at hst <;> try (cases hst; done)
  next k x st' =>
    simp only [Option.some.injEq, Prod.mk.injEq] at hst
    obtain ⟨rfl, rfl⟩ := hst
    obtain ⟨g1, g2, g3, g4⟩ : ¬ x < 0 ∧ ¬ k < 0 ∧ x.toNatClampNeg ≤ 1000 ∧ k.toNatClampNeg ≤ 1000 := ho
    intro H locs als cells slots hH hS hL hc hs
    obtain ⟨hz, hm0, hx00, hP⟩ := hH
    have hz' : H.size + 1 = w.2.1 + m.length := hz
    have hsl : mj_sl (m ++ (2, x.toNatClampNeg) :: List.replicate x.toNatClampNeg (0, k.toNatClampNeg)) = mj_sl m + (x.toNatClampNeg + x.toNatClampNeg * k.toNatClampNeg) := by
      rw [mj_sl_app]
      simp [mj_sl]
    have hE1 : m.length + (1 + x.toNatClampNeg) ≤ nE := by
      have := hE.1
      simp at this
      omega
    have hE2 : mj_sl m + (x.toNatClampNeg + x.toNatClampNeg * k.toNatClampNeg) ≤ uE := by
      have h9 : mj_sl (m ++ (2, x.toNatClampNeg) :: List.replicate x.toNatClampNeg (0, k.toNatClampNeg)) ≤ uE := hE.2
      omega
    have hc' : n0 + cells = m.length := hc
    have hs' : u0 + slots = mj_sl m := hs
    have hml1 : 1 ≤ m.length := by omega
    show W p l e R s mi args below meth c H locs cells slots Q (F0 mi pc als (.int k :: .int x :: st'.map (mj_cv w)))
    intro T hT Xs
    have hbytes : ∀ n : Nat, n ≤ 1000 → n * 4 ≤ 536870912 := fun n h => by omega
    obtain ⟨vm₁, cA, comp, -, fA, fC, hO, -, X', step⟩ := Xs.multianewarray2F (ty := .int) hx hown (show (Cond.classLink (mj_cn own) idx ("[" ++ (FieldType.array .int).toString)).before args s = true from hts _ hw) (show (Cond.arrayOver (.array .int)).before args s = true from hXW.2.2.1) (hts _ mj_t1) (g := F0 mi pc als (.int k :: .int x :: st'.map (mj_cv w))) rfl (by rw [hb]; exact hd) rfl g1 g2 (by omega) (by show k.toNatClampNeg * 4 ≤ _; omega) (by omega) rfl rfl (by omega) (by omega)
    have ec : comp = w.2.2.1 := by
      have h2 : s.vm.findClass ("[" ++ FieldType.int.toString) = some w.2.2.1 := (hK.2 0 _ rfl).2
      exact Option.some.inj (fC.symm.trans h2)
    have eA : cA = w.2.2.2.2.1 := by
      have h2 : s.vm.findClass ("[" ++ (FieldType.array .int).toString) = some w.2.2.2.2.1 := (hK.2 2 _ rfl).2
      exact Option.some.inj (fA.symm.trans h2)
    subst ec
    subst eA
    generalize hF : Jvm.Free.Multi.fill (T.setVm vm₁) w.2.2.2.2.1 w.2.2.1 x.toNatClampNeg k.toNatClampNeg (defaultValue .int) x.toNatClampNeg = F at X' step
    have hTh : (T.setVm vm₁).heap = H := hT
    obtain ⟨f1, f2, -, -⟩ := Jvm.Free.Multi.fill_facts (T.setVm vm₁) w.2.2.2.2.1 w.2.2.1 x.toNatClampNeg k.toNatClampNeg (defaultValue .int) x.toNatClampNeg
    rw [hF, hTh] at f1 f2
    have hold : ∀ y : Nat, y < H.size → F.heap[y]? = H[y]? := fun y hy => by
      have := Jvm.Free.Multi.fill_old (T.setVm vm₁) w.2.2.2.2.1 w.2.2.1 x.toNatClampNeg k.toNatClampNeg (defaultValue .int) (a := y) (by rw [hTh]; exact hy) x.toNatClampNeg
      rw [hF, hTh] at this
      exact this
    have hrow : ∀ j : Nat, j < x.toNatClampNeg → F.heap[H.size + 1 + j]? = some (vp_cell w.2.2.1 (k.toNatClampNeg, .inl (fun _ => 0))) := fun j hj => by
      have := Jvm.Free.Multi.fill_inner (T.setVm vm₁) w.2.2.2.2.1 w.2.2.1 x.toNatClampNeg k.toNatClampNeg (defaultValue .int) x.toNatClampNeg j hj
      rw [hF, hTh, mj_inner] at this
      exact this
    have hPn : va_P D vwCl (mj_ws w (m ++ (2, x.toNatClampNeg) :: List.replicate x.toNatClampNeg (0, k.toNatClampNeg), mj_rows I (m.length + 1) x.toNatClampNeg, mj_rowR RR m.length (fun j => if j < x.toNatClampNeg then some (m.length + 1 + j) else none), J)) F.heap := by
      rw [mj_ws_push hml1 (I := I) (R := RR) (J := J) (fun b hb => ⟨by simp [mj_rows]; omega, by simp [mj_rowR, Nat.ne_of_lt hb], rfl⟩)]
      refine (hP.kept (fun k9 q hq => hold q.1 ((hP k9 q hq).lt))).app (fun i q hq => ?_)
      rw [mj_wc_at] at hq
      cases i with
      | zero =>
        simp only [List.getElem?_cons_zero, Option.map_some, Option.some.injEq] at hq
        subst hq
        show F.heap[w.2.1 + (m.length - 1 + 0)]? = some _
        rw [show w.2.1 + (m.length - 1 + 0) = H.size by omega, f2, mj_outer]
        rw [show m.length - 1 + 0 + 1 = m.length by omega]
        simp only [mj_rowR, if_true]
        rw [vp_cell_q]
        congr 2
        funext j
        by_cases hj : j < x.toNatClampNeg
        · simp only [hj, if_true, Option.map_some]
          rw [show m.length + 1 + j = (m.length + j) + 1 by omega]
          show va_rf (some (H.size + 1 + j)) = va_rf (some (w.2.1 + (m.length + j)))
          rw [show H.size + 1 + j = w.2.1 + (m.length + j) by omega]
        · simp [hj]
      | succ i =>
        simp only [List.getElem?_cons_succ] at hq
        cases hr : (List.replicate x.toNatClampNeg (0, k.toNatClampNeg) : List (Nat × Nat))[i]? with
        | none => rw [hr] at hq; cases hq
        | some y =>
          rw [hr] at hq
          cases hq
          have hi : i < x.toNatClampNeg := by
            have := (List.getElem?_eq_some_iff.mp hr).1
            simpa using this
          have hy : y = (0, k.toNatClampNeg) := List.eq_of_mem_replicate (List.mem_of_getElem? hr)
          subst hy
          show F.heap[w.2.1 + (m.length - 1 + (i + 1))]? = some _
          rw [show w.2.1 + (m.length - 1 + (i + 1)) = H.size + 1 + i by omega, hrow i hi]
          have h9 : mj_rows I (m.length + 1) x.toNatClampNeg (m.length - 1 + (i + 1) + 1) = fun _ => 0 := by
            simp only [mj_rows]
            rw [if_pos (by omega)]
          rw [h9]
    have kk' := kk F.heap locs als (cells + 1 + x.toNatClampNeg) (slots + x.toNatClampNeg + x.toNatClampNeg * k.toNatClampNeg) ⟨?_, ?_, ?_, hPn⟩ ⟨by rw [f1]; have := hS.1; omega, fun y h1 h2 => (hold y (Nat.lt_of_lt_of_le h1 hS.1)).trans (hS.2.1 y h1 h2), hS.2.2⟩ hL ?_ ?_
    · obtain ⟨t, a1, b1⟩ := kk' F rfl X'
      refine ⟨t, step t ?_, b1⟩
      have e9 : T.heap.size = mj_ad w m.length := by
        rw [hT]
        cases hmm : m.length with
        | zero => omega
        | succ q => show H.size = w.2.1 + q; omega
      rw [e9]
      exact a1
    · show F.heap.size + 1 = w.2.1 + (m ++ (2, x.toNatClampNeg) :: List.replicate x.toNatClampNeg (0, k.toNatClampNeg)).length
      rw [f1]
      simp
      omega
    · have hm0' : mj_mt 0 m = some (0, L) := hm0
      show mj_mt 0 (m ++ (2, x.toNatClampNeg) :: List.replicate x.toNatClampNeg (0, k.toNatClampNeg)) = some (0, L)
      cases m with
      | nil => simp [mj_mt] at hm0'
      | cons z m => simpa [mj_mt] using hm0'
    · show mj_rows I (m.length + 1) x.toNatClampNeg 0 = xs
      simp only [mj_rows]
      rw [if_neg (by omega)]
      exact hx00
    · show n0 + (cells + 1 + x.toNatClampNeg) = (m ++ (2, x.toNatClampNeg) :: List.replicate x.toNatClampNeg (0, k.toNatClampNeg)).length
      simp
      omega
    · show u0 + (slots + x.toNatClampNeg + x.toNatClampNeg * k.toNatClampNeg) = mj_sl (m ++ (2, x.toNatClampNeg) :: List.replicate x.toNatClampNeg (0, k.toNatClampNeg))
      rw [hsl]
      omega
end MJ
end
section
section MJ
variable {p : Program} {l : Launch} {e : Env} {R : Room} {s : State} {mi : MethodId} {args : Array Value} {below : List Frame} {meth : Method} {c : Code} {Q : State → Prop} {w : mjW} {D : va_G} {L : Nat} {xs : Nat → Int32} {own nL : Nat} {cc : ByteArray} {ini : Bool} {n0 u0 nE uE : Nat}
theorem mj_s_st1 (C : mj_Cx p R s mi args meth c w D L xs own nL cc ini n0 u0 nE uE) {pc n i : Nat} {v : Value} {ls : List (Option Value)} {st : List Value} {m : mjM} {I : mjI} {RR : mjR} {J : mjJ} {o : Option Prop} {cf' : mjC} (hst : mj_st1 n i v ls st m I RR J = some (o, cf')) {H : Heap} {locs : List Loc} {als : Array Slot} {cells slots : Nat} {g : JFrame}
    (hrow : i < nL → (∀ als' : Array Slot, lv_has als' nL ((i, mj_cv w v) :: (mj_lv w 0 ls).filter (fun q => !(q.1 == i) && !(q.1 + 1 == i && q.2.category == 2))) → W p l e R s mi args below meth c H locs cells slots Q (F0 mi n als' (st.map (mj_cv w)))) → W p l e R s mi args below meth c H locs cells slots Q g)
    (hH : mj_HR w D L xs (m, I, RR, J) H) (hS : va_S (fun q : Nat => w.2.1 ≤ q) s.heap H locs) (hL : mj_LR w nL ls als) (hc : n0 + cells = m.length) (hs : u0 + slots = mj_sl m) (kk : mj_Sim p l e R s mi args below meth c Q w D L xs nL n0 u0 cf') : W p l e R s mi args below meth c H locs cells slots Q g := by
  unfold mj_st1 at hst
  split at hst <;> try (cases hst; done)
  next hp =>
    obtain ⟨ls', h1, h2, h3, h4, h5⟩ := mj_set_spec _ _ _ _ hst
    simp only [Option.some.injEq, Prod.mk.injEq] at h1
    obtain ⟨-, rfl⟩ := h1
    refine hrow (by rw [← hL.1]; exact h3) (fun als' hal => ?_)
    exact kk H locs als' cells slots hH hS (mj_LR.st1 hL.1 h2 h4 h5 hp hal) hc hs
theorem mj_s_st2 (C : mj_Cx p R s mi args meth c w D L xs own nL cc ini n0 u0 nE uE) {pc n i : Nat} {v : Value} {ls : List (Option Value)} {st : List Value} {m : mjM} {I : mjI} {RR : mjR} {J : mjJ} {o : Option Prop} {cf' : mjC} (hst : mj_st2 n i v ls st m I RR J = some (o, cf')) {H : Heap} {locs : List Loc} {als : Array Slot} {cells slots : Nat} {g : JFrame}
    (hrow : i + 1 < nL → (∀ als' : Array Slot, lv_has als' nL ((i, mj_cv w v) :: (mj_lv w 0 ls).filter (fun q => !(q.1 == i) && (!(q.1 == i + 1) && !(q.1 + 1 == i && q.2.category == 2)))) → W p l e R s mi args below meth c H locs cells slots Q (F0 mi n als' (st.map (mj_cv w)))) → W p l e R s mi args below meth c H locs cells slots Q g)
    (hH : mj_HR w D L xs (m, I, RR, J) H) (hS : va_S (fun q : Nat => w.2.1 ≤ q) s.heap H locs) (hL : mj_LR w nL ls als) (hc : n0 + cells = m.length) (hs : u0 + slots = mj_sl m) (kk : mj_Sim p l e R s mi args below meth c Q w D L xs nL n0 u0 cf') : W p l e R s mi args below meth c H locs cells slots Q g := by
  unfold mj_st2 at hst
  split at hst <;> try (cases hst; done)
  next hp =>
    obtain ⟨l1, h1, h2, h3, h4, h5⟩ := mj_set_spec _ _ _ _ hst
    obtain ⟨ls', k1, k2, k3, k4, k5⟩ := mj_set_spec _ _ _ _ h1
    simp only [Option.some.injEq, Prod.mk.injEq] at k1
    obtain ⟨-, rfl⟩ := k1
    refine hrow (by rw [← hL.1, ← h2]; exact k3) (fun als' hal => ?_)
    exact kk H locs als' cells slots hH hS (mj_LR.st2 hL.1 h2 h4 h5 k2 k4 k5 hp hal) hc hs
end MJ
def mj_lkc (pc : Nat) (df : Int) (t : Nat) : List (Int × Int) → List Nat → Prop
  | [], [] => (pc : Int) + df = t
  | (a, b) :: ps, k :: q :: ts => a = k ∧ k < 2 ^ 31 ∧ (pc : Int) + b = q ∧ mj_lkc pc df t ps ts
  | _, _ => False
def mj_VD (ini : Bool) (own pc n : Nat) (ins : Instr) (d : List Nat) : Prop := match ins with
  | .iconst i => ∀ k, d = [k] → Int32.ofInt i = nI k
  | .bipush i => ∀ k, d = [k] → (Int8.ofInt i).toInt32 = nI k
  | .sipush i => ∀ k, d = [k] → (Int16.ofInt i).toInt32 = nI k
  | .ldc i => ∀ v, d = [v] → Cond.constant (mj_cn own) i (nI v) ∈ mj_tb
  | .ldc_w i => ∀ v, d = [v] → Cond.constant (mj_cn own) i (nI v) ∈ mj_tb
  | .ldc2_w i => ∀ v, d = [v] → Cond.constantLong (mj_cn own) i (lN v) ∈ mj_tb
  | .iinc _ k => ∀ q, d = [q] → Int32.ofInt k = nI q
  | .goto off => ∀ t, d = [t] → (pc : Int) + off = (t : Int)
  | .ifnull off => ∀ t, d = [t] → (pc : Int) + off = (t : Int)
  | .ifnonnull off => ∀ t, d = [t] → (pc : Int) + off = (t : Int)
  | .ifCond _ off => ∀ t, d = [t] → (pc : Int) + off = (t : Int)
  | .if_icmp _ off => ∀ t, d = [t] → (pc : Int) + off = (t : Int)
  | .tableswitch df lo hi offs => ∀ t ts, d = t :: ts → (pc : Int) + df = (t : Int) ∧ ts.length = offs.size ∧ hi = lo + offs.size - 1 ∧ ∀ (j : Nat) (q : Nat), ts[j]? = some q → ∃ off, offs[j]? = some off ∧ (pc : Int) + off = (q : Int)
  | .lookupswitch df ps => ∀ t ts, d = t :: ts → (ps.toList.zip (ps.toList.drop 1)).all (fun (a, next) => a.1 < next.1) = true ∧ mj_lkc pc df t ps.toList ts
  | .getfield i => ∀ k ty cs, d = k :: ty :: cs → mj_VF own i k ty cs
  | .putfield i => ∀ k ty cs, d = k :: ty :: cs → mj_VP ini own i k ty cs
  | .anewarray i => Cond.classLink (mj_cn own) i "PointsThrow$Point" ∈ mj_tb
  | .multianewarray i k => k = 2 ∧ Cond.classLink (mj_cn own) i "[[I" ∈ mj_tb
  | .new i => ∀ t k, d = [t, k] → mj_VN own i t k
  | .instanceof i => mj_VI own i d
  | .aastore => d = [14, 11, 12, 18]
  | .invokespecial i => d = [5] → Cond.methodLink (mj_cn own) i objectInit ∈ mj_tb
  | .invokestatic i => d = [6] → Cond.methodLink (mj_cn own) i arraycopyName ∈ mj_tb
  | _ => True
def mj_isw : Instr → Bool
  | .tableswitch .. => true
  | .lookupswitch .. => true
  | _ => false
def mj_VE (ini : Bool) (own : Nat) (cc : ByteArray) (pc : Nat) (en : mjE) : Prop := (∃ k, decode cc pc = .ok (en.1, k) ∧ (mj_isw en.1 = false → k = mj_ln en.1 ∧ en.2.1 = pc + mj_ln en.1)) ∧ mj_VD ini own pc en.2.1 en.1 en.2.2
end
section
theorem mj_lk_spec {pc : Nat} {df : Int} {t : Nat} {x : Int32} : ∀ {ps : List (Int × Int)} {ts : List Nat}, mj_lkc pc df t ps ts → (pc : Int) + Op.lookupswitch.offset ps df x.toInt = ((mj_lk t ts x : Nat) : Int)
  | [], [], h => h
  | (a, b) :: ps, k :: q :: ts, h => by
    obtain ⟨h1, h2, h3, h4⟩ := h
    have ih := mj_lk_spec (x := x) h4
    simp only [Op.lookupswitch.offset, mj_lk]
    by_cases e : x = nI k
    · rw [if_pos e, if_pos (by rw [e, nI_toInt h2]; exact h1)]
      exact h3
    · rw [if_neg e, if_neg (fun g => e (by
        rw [← Int32.toInt_inj, nI_toInt h2, ← g]
        exact h1))]
      exact ih
  | [], _ :: _, h => by simp [mj_lkc] at h
  | (_, _) :: _, [], h => by simp [mj_lkc] at h
  | (_, _) :: _, [_], h => by simp [mj_lkc] at h
section MJ
variable {p : Program} {l : Launch} {e : Env} {R : Room} {s : State} {mi : MethodId} {args : Array Value} {below : List Frame} {meth : Method} {c : Code} {Q : State → Prop} {w : mjW} {D : va_G} {L : Nat} {xs : Nat → Int32} {own nL : Nat} {cc : ByteArray} {ini : Bool} {n0 u0 nE uE : Nat}
set_option maxHeartbeats 4000000 in
theorem mj_sstep (C : mj_Cx p R s mi args meth c w D L xs own nL cc ini n0 u0 nE uE) {en : mjE} {cf cf' : mjC} {o : Option Prop} (hv : mj_VE ini own cc cf.1 en) (hst : mj_step en cf = some (o, cf')) (ho : mj_ok o) (hE : cf'.2.2.2.1.length ≤ nE ∧ mj_sl cf'.2.2.2.1 ≤ uE) (kk : mj_Sim p l e R s mi args below meth c Q w D L xs nL n0 u0 cf') : mj_Sim p l e R s mi args below meth c Q w D L xs nL n0 u0 cf := by
  obtain ⟨ins, n, d⟩ := en
  obtain ⟨pc, ls, st, m, I, RR, J⟩ := cf
  obtain ⟨⟨k9, hd, hk9⟩, hvd⟩ := hv
  have C0 := C
  obtain ⟨hx, hb, hml, hown, hts, hK, hXW, hini, hX, hbB, hsz, hn0, hfr, hlo, hRc, hRs⟩ := C
  cases ins with
  | iadd =>
    obtain ⟨rfl, hn⟩ := hk9 rfl
    have hn : n = pc + 1 := hn
    subst hn
    simp only [mj_step] at hst
    split at hst <;> try (cases hst; done)
    next y x st' =>
      cases hst
      intro H locs als cells slots hH hS hL hc hs
      show W p l e R s mi args below meth c H locs cells slots Q (F0 mi pc als (.int y :: .int x :: st'.map (mj_cv w)))
      exact lv_iadd hx hb hd (kk H locs als cells slots hH hS hL hc hs)
  | isub =>
    obtain ⟨rfl, hn⟩ := hk9 rfl
    have hn : n = pc + 1 := hn
    subst hn
    simp only [mj_step] at hst
    split at hst <;> try (cases hst; done)
    next y x st' =>
      cases hst
      intro H locs als cells slots hH hS hL hc hs
      show W p l e R s mi args below meth c H locs cells slots Q (F0 mi pc als (.int y :: .int x :: st'.map (mj_cv w)))
      exact lv_isub hx hb hd (kk H locs als cells slots hH hS hL hc hs)
  | imul =>
    obtain ⟨rfl, hn⟩ := hk9 rfl
    have hn : n = pc + 1 := hn
    subst hn
    simp only [mj_step] at hst
    split at hst <;> try (cases hst; done)
    next y x st' =>
      cases hst
      intro H locs als cells slots hH hS hL hc hs
      show W p l e R s mi args below meth c H locs cells slots Q (F0 mi pc als (.int y :: .int x :: st'.map (mj_cv w)))
      exact lv_imul hx hb hd (kk H locs als cells slots hH hS hL hc hs)
  | iand =>
    obtain ⟨rfl, hn⟩ := hk9 rfl
    have hn : n = pc + 1 := hn
    subst hn
    simp only [mj_step] at hst
    split at hst <;> try (cases hst; done)
    next y x st' =>
      cases hst
      intro H locs als cells slots hH hS hL hc hs
      show W p l e R s mi args below meth c H locs cells slots Q (F0 mi pc als (.int y :: .int x :: st'.map (mj_cv w)))
      exact lv_iand hx hb hd (kk H locs als cells slots hH hS hL hc hs)
  | ior =>
    obtain ⟨rfl, hn⟩ := hk9 rfl
    have hn : n = pc + 1 := hn
    subst hn
    simp only [mj_step] at hst
    split at hst <;> try (cases hst; done)
    next y x st' =>
      cases hst
      intro H locs als cells slots hH hS hL hc hs
      show W p l e R s mi args below meth c H locs cells slots Q (F0 mi pc als (.int y :: .int x :: st'.map (mj_cv w)))
      exact lv_ior hx hb hd (kk H locs als cells slots hH hS hL hc hs)
  | ixor =>
    obtain ⟨rfl, hn⟩ := hk9 rfl
    have hn : n = pc + 1 := hn
    subst hn
    simp only [mj_step] at hst
    split at hst <;> try (cases hst; done)
    next y x st' =>
      cases hst
      intro H locs als cells slots hH hS hL hc hs
      show W p l e R s mi args below meth c H locs cells slots Q (F0 mi pc als (.int y :: .int x :: st'.map (mj_cv w)))
      exact lv_ixor hx hb hd (kk H locs als cells slots hH hS hL hc hs)
  | ishl =>
    obtain ⟨rfl, hn⟩ := hk9 rfl
    have hn : n = pc + 1 := hn
    subst hn
    simp only [mj_step] at hst
    split at hst <;> try (cases hst; done)
    next y x st' =>
      cases hst
      intro H locs als cells slots hH hS hL hc hs
      show W p l e R s mi args below meth c H locs cells slots Q (F0 mi pc als (.int y :: .int x :: st'.map (mj_cv w)))
      exact lv_ishl hx hb hd (kk H locs als cells slots hH hS hL hc hs)
  | ishr =>
    obtain ⟨rfl, hn⟩ := hk9 rfl
    have hn : n = pc + 1 := hn
    subst hn
    simp only [mj_step] at hst
    split at hst <;> try (cases hst; done)
    next y x st' =>
      cases hst
      intro H locs als cells slots hH hS hL hc hs
      show W p l e R s mi args below meth c H locs cells slots Q (F0 mi pc als (.int y :: .int x :: st'.map (mj_cv w)))
      exact lv_ishr hx hb hd (kk H locs als cells slots hH hS hL hc hs)
  | iushr =>
    obtain ⟨rfl, hn⟩ := hk9 rfl
    have hn : n = pc + 1 := hn
    subst hn
    simp only [mj_step] at hst
    split at hst <;> try (cases hst; done)
    next y x st' =>
      cases hst
      intro H locs als cells slots hH hS hL hc hs
      show W p l e R s mi args below meth c H locs cells slots Q (F0 mi pc als (.int y :: .int x :: st'.map (mj_cv w)))
      exact lv_iushr hx hb hd rfl (kk H locs als cells slots hH hS hL hc hs)
  | idiv =>
    obtain ⟨rfl, hn⟩ := hk9 rfl
    have hn : n = pc + 1 := hn
    subst hn
    simp only [mj_step] at hst
    split at hst <;> try (cases hst; done)
    next y x st' =>
      cases hst
      intro H locs als cells slots hH hS hL hc hs
      show W p l e R s mi args below meth c H locs cells slots Q (F0 mi pc als (.int y :: .int x :: st'.map (mj_cv w)))
      exact lv_idiv hx hb hd ho (kk H locs als cells slots hH hS hL hc hs)
  | irem =>
    obtain ⟨rfl, hn⟩ := hk9 rfl
    have hn : n = pc + 1 := hn
    subst hn
    simp only [mj_step] at hst
    split at hst <;> try (cases hst; done)
    next y x st' =>
      cases hst
      intro H locs als cells slots hH hS hL hc hs
      show W p l e R s mi args below meth c H locs cells slots Q (F0 mi pc als (.int y :: .int x :: st'.map (mj_cv w)))
      exact lv_irem hx hb hd ho (kk H locs als cells slots hH hS hL hc hs)
  | ineg =>
    obtain ⟨rfl, hn⟩ := hk9 rfl
    have hn : n = pc + 1 := hn
    subst hn
    simp only [mj_step] at hst
    split at hst <;> try (cases hst; done)
    next x st' =>
      cases hst
      intro H locs als cells slots hH hS hL hc hs
      show W p l e R s mi args below meth c H locs cells slots Q (F0 mi pc als (.int x :: st'.map (mj_cv w)))
      exact lv_ineg hx hb hd (kk H locs als cells slots hH hS hL hc hs)
  | ladd =>
    obtain ⟨rfl, hn⟩ := hk9 rfl
    have hn : n = pc + 1 := hn
    subst hn
    simp only [mj_step] at hst
    split at hst <;> try (cases hst; done)
    next y x st' =>
      cases hst
      intro H locs als cells slots hH hS hL hc hs
      show W p l e R s mi args below meth c H locs cells slots Q (F0 mi pc als (.long y :: .long x :: st'.map (mj_cv w)))
      exact lv_ladd hx hb hd (kk H locs als cells slots hH hS hL hc hs)
  | lmul =>
    obtain ⟨rfl, hn⟩ := hk9 rfl
    have hn : n = pc + 1 := hn
    subst hn
    simp only [mj_step] at hst
    split at hst <;> try (cases hst; done)
    next y x st' =>
      cases hst
      intro H locs als cells slots hH hS hL hc hs
      show W p l e R s mi args below meth c H locs cells slots Q (F0 mi pc als (.long y :: .long x :: st'.map (mj_cv w)))
      exact lv_lmul hx hb hd (kk H locs als cells slots hH hS hL hc hs)
  | land =>
    obtain ⟨rfl, hn⟩ := hk9 rfl
    have hn : n = pc + 1 := hn
    subst hn
    simp only [mj_step] at hst
    split at hst <;> try (cases hst; done)
    next y x st' =>
      cases hst
      intro H locs als cells slots hH hS hL hc hs
      show W p l e R s mi args below meth c H locs cells slots Q (F0 mi pc als (.long y :: .long x :: st'.map (mj_cv w)))
      exact lv_land hx hb hd (kk H locs als cells slots hH hS hL hc hs)
  | lor =>
    obtain ⟨rfl, hn⟩ := hk9 rfl
    have hn : n = pc + 1 := hn
    subst hn
    simp only [mj_step] at hst
    split at hst <;> try (cases hst; done)
    next y x st' =>
      cases hst
      intro H locs als cells slots hH hS hL hc hs
      show W p l e R s mi args below meth c H locs cells slots Q (F0 mi pc als (.long y :: .long x :: st'.map (mj_cv w)))
      exact lv_lor hx hb hd (kk H locs als cells slots hH hS hL hc hs)
  | lshl =>
    obtain ⟨rfl, hn⟩ := hk9 rfl
    have hn : n = pc + 1 := hn
    subst hn
    simp only [mj_step] at hst
    split at hst <;> try (cases hst; done)
    next y x st' =>
      cases hst
      intro H locs als cells slots hH hS hL hc hs
      show W p l e R s mi args below meth c H locs cells slots Q (F0 mi pc als (.int y :: .long x :: st'.map (mj_cv w)))
      exact lv_lshl hx hb hd rfl (kk H locs als cells slots hH hS hL hc hs)
  | lushr =>
    obtain ⟨rfl, hn⟩ := hk9 rfl
    have hn : n = pc + 1 := hn
    subst hn
    simp only [mj_step] at hst
    split at hst <;> try (cases hst; done)
    next y x st' =>
      cases hst
      intro H locs als cells slots hH hS hL hc hs
      show W p l e R s mi args below meth c H locs cells slots Q (F0 mi pc als (.int y :: .long x :: st'.map (mj_cv w)))
      exact lv_lushr hx hb hd rfl (kk H locs als cells slots hH hS hL hc hs)
  | lcmp =>
    obtain ⟨rfl, hn⟩ := hk9 rfl
    have hn : n = pc + 1 := hn
    subst hn
    simp only [mj_step] at hst
    split at hst <;> try (cases hst; done)
    next y x st' =>
      cases hst
      intro H locs als cells slots hH hS hL hc hs
      show W p l e R s mi args below meth c H locs cells slots Q (F0 mi pc als (.long y :: .long x :: st'.map (mj_cv w)))
      exact W.lcmp hx hb hd (kk H locs als cells slots hH hS hL hc hs)
  | i2l =>
    obtain ⟨rfl, hn⟩ := hk9 rfl
    have hn : n = pc + 1 := hn
    subst hn
    simp only [mj_step] at hst
    split at hst <;> try (cases hst; done)
    next x st' =>
      cases hst
      intro H locs als cells slots hH hS hL hc hs
      show W p l e R s mi args below meth c H locs cells slots Q (F0 mi pc als (.int x :: st'.map (mj_cv w)))
      exact lv_i2l hx hb hd rfl (kk H locs als cells slots hH hS hL hc hs)
  | l2i =>
    obtain ⟨rfl, hn⟩ := hk9 rfl
    have hn : n = pc + 1 := hn
    subst hn
    simp only [mj_step] at hst
    split at hst <;> try (cases hst; done)
    next x st' =>
      cases hst
      intro H locs als cells slots hH hS hL hc hs
      show W p l e R s mi args below meth c H locs cells slots Q (F0 mi pc als (.long x :: st'.map (mj_cv w)))
      exact lv_l2i hx hb hd rfl (kk H locs als cells slots hH hS hL hc hs)
  | i2b =>
    obtain ⟨rfl, hn⟩ := hk9 rfl
    have hn : n = pc + 1 := hn
    subst hn
    simp only [mj_step] at hst
    split at hst <;> try (cases hst; done)
    next x st' =>
      cases hst
      intro H locs als cells slots hH hS hL hc hs
      show W p l e R s mi args below meth c H locs cells slots Q (F0 mi pc als (.int x :: st'.map (mj_cv w)))
      exact lv_i2b hx hb hd rfl (kk H locs als cells slots hH hS hL hc hs)
  | dup =>
    obtain ⟨rfl, hn⟩ := hk9 rfl
    have hn : n = pc + 1 := hn
    subst hn
    simp only [mj_step] at hst
    split at hst <;> try (cases hst; done)
    next x st' =>
      cases hst
      intro H locs als cells slots hH hS hL hc hs
      show W p l e R s mi args below meth c H locs cells slots Q (F0 mi pc als (.int x :: st'.map (mj_cv w)))
      exact lv_dup hx hb hd rfl (kk H locs als cells slots hH hS hL hc hs)
    next x st' =>
      cases hst
      intro H locs als cells slots hH hS hL hc hs
      show W p l e R s mi args below meth c H locs cells slots Q (F0 mi pc als (.ref (mj_ad w x) :: st'.map (mj_cv w)))
      exact lv_dup hx hb hd rfl (kk H locs als cells slots hH hS hL hc hs)
  | dup2 =>
    obtain ⟨rfl, hn⟩ := hk9 rfl
    have hn : n = pc + 1 := hn
    subst hn
    simp only [mj_step] at hst
    split at hst <;> try (cases hst; done)
    next x y st' =>
      cases hst
      intro H locs als cells slots hH hS hL hc hs
      show W p l e R s mi args below meth c H locs cells slots Q (F0 mi pc als (.int x :: .ref (mj_ad w y) :: st'.map (mj_cv w)))
      exact lv_dup2_11 hx hb hd rfl rfl (kk H locs als cells slots hH hS hL hc hs)
  | pop =>
    obtain ⟨rfl, hn⟩ := hk9 rfl
    have hn : n = pc + 1 := hn
    subst hn
    simp only [mj_step] at hst
    split at hst <;> try (cases hst; done)
    next x st' =>
      cases hst
      intro H locs als cells slots hH hS hL hc hs
      show W p l e R s mi args below meth c H locs cells slots Q (F0 mi pc als (.int x :: st'.map (mj_cv w)))
      exact lv_pop hx hb hd rfl (kk H locs als cells slots hH hS hL hc hs)
    next x st' =>
      cases hst
      intro H locs als cells slots hH hS hL hc hs
      show W p l e R s mi args below meth c H locs cells slots Q (F0 mi pc als (.ref (mj_ad w x) :: st'.map (mj_cv w)))
      exact lv_pop hx hb hd rfl (kk H locs als cells slots hH hS hL hc hs)
  | iconst i =>
    obtain ⟨rfl, hn⟩ := hk9 rfl
    have hn : n = pc + 1 := hn
    subst hn
    simp only [mj_step, mj_cst] at hst
    split at hst
    next k =>
      cases hst
      intro H locs als cells slots hH hS hL hc hs
      show W p l e R s mi args below meth c H locs cells slots Q (F0 mi pc als (st.map (mj_cv w)))
      exact lv_iconst hx hb hd (hvd k rfl) (kk H locs als cells slots hH hS hL hc hs)
    next =>
      cases hst
      intro H locs als cells slots hH hS hL hc hs
      show W p l e R s mi args below meth c H locs cells slots Q (F0 mi pc als (st.map (mj_cv w)))
      exact lv_iconst hx hb hd rfl (kk H locs als cells slots hH hS hL hc hs)
  | bipush i =>
    obtain ⟨rfl, hn⟩ := hk9 rfl
    have hn : n = pc + 2 := hn
    subst hn
    simp only [mj_step, mj_cst] at hst
    split at hst
    next k =>
      cases hst
      intro H locs als cells slots hH hS hL hc hs
      show W p l e R s mi args below meth c H locs cells slots Q (F0 mi pc als (st.map (mj_cv w)))
      exact lv_bipush hx hb hd (hvd k rfl) (kk H locs als cells slots hH hS hL hc hs)
    next =>
      cases hst
      intro H locs als cells slots hH hS hL hc hs
      show W p l e R s mi args below meth c H locs cells slots Q (F0 mi pc als (st.map (mj_cv w)))
      exact lv_bipush hx hb hd rfl (kk H locs als cells slots hH hS hL hc hs)
  | sipush i =>
    obtain ⟨rfl, hn⟩ := hk9 rfl
    have hn : n = pc + 3 := hn
    subst hn
    simp only [mj_step, mj_cst] at hst
    split at hst
    next k =>
      cases hst
      intro H locs als cells slots hH hS hL hc hs
      show W p l e R s mi args below meth c H locs cells slots Q (F0 mi pc als (st.map (mj_cv w)))
      exact lv_sipush hx hb hd (hvd k rfl) (kk H locs als cells slots hH hS hL hc hs)
    next =>
      cases hst
      intro H locs als cells slots hH hS hL hc hs
      show W p l e R s mi args below meth c H locs cells slots Q (F0 mi pc als (st.map (mj_cv w)))
      exact lv_sipush hx hb hd rfl (kk H locs als cells slots hH hS hL hc hs)
  | lconst i =>
    obtain ⟨rfl, hn⟩ := hk9 rfl
    have hn : n = pc + 1 := hn
    subst hn
    simp only [mj_step] at hst
    cases hst
    intro H locs als cells slots hH hS hL hc hs
    show W p l e R s mi args below meth c H locs cells slots Q (F0 mi pc als (st.map (mj_cv w)))
    exact lv_lconst hx hb hd rfl (kk H locs als cells slots hH hS hL hc hs)
  | aconst_null =>
    obtain ⟨rfl, hn⟩ := hk9 rfl
    have hn : n = pc + 1 := hn
    subst hn
    simp only [mj_step] at hst
    cases hst
    intro H locs als cells slots hH hS hL hc hs
    show W p l e R s mi args below meth c H locs cells slots Q (F0 mi pc als (st.map (mj_cv w)))
    exact lv_null hx hb hd (kk H locs als cells slots hH hS hL hc hs)
  | ldc i =>
    obtain ⟨rfl, hn⟩ := hk9 rfl
    have hn : n = pc + 2 := hn
    subst hn
    simp only [mj_step] at hst
    split at hst <;> try (cases hst; done)
    next v =>
      cases hst
      intro H locs als cells slots hH hS hL hc hs
      show W p l e R s mi args below meth c H locs cells slots Q (F0 mi pc als (st.map (mj_cv w)))
      exact lv_ldc hx hb hown (hts _ (hvd v rfl)) hd (kk H locs als cells slots hH hS hL hc hs)
  | ldc_w i =>
    obtain ⟨rfl, hn⟩ := hk9 rfl
    have hn : n = pc + 3 := hn
    subst hn
    simp only [mj_step] at hst
    split at hst <;> try (cases hst; done)
    next v =>
      cases hst
      intro H locs als cells slots hH hS hL hc hs
      show W p l e R s mi args below meth c H locs cells slots Q (F0 mi pc als (st.map (mj_cv w)))
      exact lv_ldcw hx hb hown (hts _ (hvd v rfl)) hd (kk H locs als cells slots hH hS hL hc hs)
  | ldc2_w i =>
    obtain ⟨rfl, hn⟩ := hk9 rfl
    have hn : n = pc + 3 := hn
    subst hn
    simp only [mj_step] at hst
    split at hst <;> try (cases hst; done)
    next v =>
      cases hst
      intro H locs als cells slots hH hS hL hc hs
      show W p l e R s mi args below meth c H locs cells slots Q (F0 mi pc als (st.map (mj_cv w)))
      exact lv_ldc2 hx hb hown (hts _ (hvd v rfl)) hd (kk H locs als cells slots hH hS hL hc hs)
  | iload i =>
    obtain ⟨rfl, hn⟩ := hk9 rfl
    have hn : n = pc + 2 := hn
    subst hn
    simp only [mj_step, mj_ild] at hst
    split at hst <;> try (cases hst; done)
    next x hg =>
      cases hst
      intro H locs als cells slots hH hS hL hc hs
      show W p l e R s mi args below meth c H locs cells slots Q (F0 mi pc als (st.map (mj_cv w)))
      exact lv_iload hx hb hd (hL.2.2.2 _ _ hg) (kk H locs als cells slots hH hS hL hc hs)
  | iload_n i =>
    obtain ⟨rfl, hn⟩ := hk9 rfl
    have hn : n = pc + 1 := hn
    subst hn
    simp only [mj_step, mj_ild] at hst
    split at hst <;> try (cases hst; done)
    next x hg =>
      cases hst
      intro H locs als cells slots hH hS hL hc hs
      show W p l e R s mi args below meth c H locs cells slots Q (F0 mi pc als (st.map (mj_cv w)))
      exact lv_iload_n hx hb hd rfl (hL.2.2.2 _ _ hg) (kk H locs als cells slots hH hS hL hc hs)
  | lload i =>
    obtain ⟨rfl, hn⟩ := hk9 rfl
    have hn : n = pc + 2 := hn
    subst hn
    simp only [mj_step, mj_lld] at hst
    split at hst <;> try (cases hst; done)
    next x hg =>
      cases hst
      intro H locs als cells slots hH hS hL hc hs
      show W p l e R s mi args below meth c H locs cells slots Q (F0 mi pc als (st.map (mj_cv w)))
      exact lv_lload hx hb hd (hL.2.2.2 _ _ hg) (kk H locs als cells slots hH hS hL hc hs)
  | lload_n i =>
    obtain ⟨rfl, hn⟩ := hk9 rfl
    have hn : n = pc + 1 := hn
    subst hn
    simp only [mj_step, mj_lld] at hst
    split at hst <;> try (cases hst; done)
    next x hg =>
      cases hst
      intro H locs als cells slots hH hS hL hc hs
      show W p l e R s mi args below meth c H locs cells slots Q (F0 mi pc als (st.map (mj_cv w)))
      exact lv_lload_n hx hb hd rfl (hL.2.2.2 _ _ hg) (kk H locs als cells slots hH hS hL hc hs)
  | aload i =>
    obtain ⟨rfl, hn⟩ := hk9 rfl
    have hn : n = pc + 2 := hn
    subst hn
    simp only [mj_step, mj_ald] at hst
    split at hst <;> try (cases hst; done)
    next x hg =>
      cases hst
      intro H locs als cells slots hH hS hL hc hs
      show W p l e R s mi args below meth c H locs cells slots Q (F0 mi pc als (st.map (mj_cv w)))
      exact lv_aload hx hb hd (hL.2.2.2 _ _ hg) (kk H locs als cells slots hH hS hL hc hs)
    next hg =>
      cases hst
      intro H locs als cells slots hH hS hL hc hs
      show W p l e R s mi args below meth c H locs cells slots Q (F0 mi pc als (st.map (mj_cv w)))
      exact lv_aloadN hx hb hd (hL.2.2.2 _ _ hg) (kk H locs als cells slots hH hS hL hc hs)
  | aload_n i =>
    obtain ⟨rfl, hn⟩ := hk9 rfl
    have hn : n = pc + 1 := hn
    subst hn
    simp only [mj_step, mj_ald] at hst
    split at hst <;> try (cases hst; done)
    next x hg =>
      cases hst
      intro H locs als cells slots hH hS hL hc hs
      show W p l e R s mi args below meth c H locs cells slots Q (F0 mi pc als (st.map (mj_cv w)))
      exact lv_aload_n hx hb hd rfl (hL.2.2.2 _ _ hg) (kk H locs als cells slots hH hS hL hc hs)
    next hg =>
      cases hst
      intro H locs als cells slots hH hS hL hc hs
      show W p l e R s mi args below meth c H locs cells slots Q (F0 mi pc als (st.map (mj_cv w)))
      exact lv_aload_nN hx hb hd rfl (hL.2.2.2 _ _ hg) (kk H locs als cells slots hH hS hL hc hs)
  | istore i =>
    obtain ⟨rfl, hn⟩ := hk9 rfl
    have hn : n = pc + 2 := hn
    subst hn
    simp only [mj_step, mj_ist] at hst
    split at hst <;> try (cases hst; done)
    next x st' =>
      intro H locs als cells slots hH hS hL hc hs
      show W p l e R s mi args below meth c H locs cells slots Q (F0 mi pc als (.int x :: st'.map (mj_cv w)))
      exact mj_s_st1 C0 (pc := pc) hst (fun hi kk2 => lv_istore hx hb hd hL.has hi rfl kk2) hH hS hL hc hs kk
  | istore_n i =>
    obtain ⟨rfl, hn⟩ := hk9 rfl
    have hn : n = pc + 1 := hn
    subst hn
    simp only [mj_step, mj_ist] at hst
    split at hst <;> try (cases hst; done)
    next x st' =>
      intro H locs als cells slots hH hS hL hc hs
      show W p l e R s mi args below meth c H locs cells slots Q (F0 mi pc als (.int x :: st'.map (mj_cv w)))
      exact mj_s_st1 C0 (pc := pc) hst (fun hi kk2 => lv_istore_n hx hb hd rfl hL.has hi rfl kk2) hH hS hL hc hs kk
  | lstore i =>
    obtain ⟨rfl, hn⟩ := hk9 rfl
    have hn : n = pc + 2 := hn
    subst hn
    simp only [mj_step, mj_lst] at hst
    split at hst <;> try (cases hst; done)
    next x st' =>
      intro H locs als cells slots hH hS hL hc hs
      show W p l e R s mi args below meth c H locs cells slots Q (F0 mi pc als (.long x :: st'.map (mj_cv w)))
      exact mj_s_st2 C0 (pc := pc) hst (fun hi kk2 => lv_lstore hx hb hd hL.has hi rfl kk2) hH hS hL hc hs kk
  | lstore_n i =>
    obtain ⟨rfl, hn⟩ := hk9 rfl
    have hn : n = pc + 1 := hn
    subst hn
    simp only [mj_step, mj_lst] at hst
    split at hst <;> try (cases hst; done)
    next x st' =>
      intro H locs als cells slots hH hS hL hc hs
      show W p l e R s mi args below meth c H locs cells slots Q (F0 mi pc als (.long x :: st'.map (mj_cv w)))
      exact mj_s_st2 C0 (pc := pc) hst (fun hi kk2 => lv_lstore_n hx hb hd rfl hL.has hi rfl kk2) hH hS hL hc hs kk
  | astore i =>
    obtain ⟨rfl, hn⟩ := hk9 rfl
    have hn : n = pc + 2 := hn
    subst hn
    simp only [mj_step, mj_ast] at hst
    split at hst <;> try (cases hst; done)
    next x st' =>
      intro H locs als cells slots hH hS hL hc hs
      show W p l e R s mi args below meth c H locs cells slots Q (F0 mi pc als (.ref (mj_ad w x) :: st'.map (mj_cv w)))
      exact mj_s_st1 C0 (pc := pc) hst (fun hi kk2 => lv_astore hx hb hd hL.has hi rfl kk2) hH hS hL hc hs kk
    next st' =>
      intro H locs als cells slots hH hS hL hc hs
      show W p l e R s mi args below meth c H locs cells slots Q (F0 mi pc als (.null :: st'.map (mj_cv w)))
      exact mj_s_st1 C0 (pc := pc) hst (fun hi kk2 => lv_astoreN hx hb hd hL.has hi rfl kk2) hH hS hL hc hs kk
  | astore_n i =>
    obtain ⟨rfl, hn⟩ := hk9 rfl
    have hn : n = pc + 1 := hn
    subst hn
    simp only [mj_step, mj_ast] at hst
    split at hst <;> try (cases hst; done)
    next x st' =>
      intro H locs als cells slots hH hS hL hc hs
      show W p l e R s mi args below meth c H locs cells slots Q (F0 mi pc als (.ref (mj_ad w x) :: st'.map (mj_cv w)))
      exact mj_s_st1 C0 (pc := pc) hst (fun hi kk2 => lv_astore_n hx hb hd rfl hL.has hi rfl kk2) hH hS hL hc hs kk
    next st' =>
      intro H locs als cells slots hH hS hL hc hs
      show W p l e R s mi args below meth c H locs cells slots Q (F0 mi pc als (.null :: st'.map (mj_cv w)))
      exact mj_s_st1 C0 (pc := pc) hst (fun hi kk2 => lv_astore_nN hx hb hd rfl hL.has hi rfl kk2) hH hS hL hc hs kk
  | iinc i k =>
    obtain ⟨rfl, hn⟩ := hk9 rfl
    have hn : n = pc + 3 := hn
    subst hn
    simp only [mj_step] at hst
    split at hst <;> try (cases hst; done)
    next x hg =>
      have hmem := mj_lv_to w 0 ls i _ hg
      rw [Nat.zero_add] at hmem
      obtain ⟨j, hj⟩ := List.getElem?_of_mem hmem
      split at hst
      next q =>
        intro H locs als cells slots hH hS hL hc hs
        show W p l e R s mi args below meth c H locs cells slots Q (F0 mi pc als (st.map (mj_cv w)))
        exact mj_s_st1 C0 (pc := pc) hst (fun hi kk2 => lv_iinc hx hb hd hL.has hj (by rw [hvd q rfl]) hi rfl kk2) hH hS hL hc hs kk
      next =>
        intro H locs als cells slots hH hS hL hc hs
        show W p l e R s mi args below meth c H locs cells slots Q (F0 mi pc als (st.map (mj_cv w)))
        exact mj_s_st1 C0 (pc := pc) hst (fun hi kk2 => lv_iinc hx hb hd hL.has hj rfl hi rfl kk2) hH hS hL hc hs kk
  | goto off =>
    obtain ⟨rfl, hn⟩ := hk9 rfl
    have hn : n = pc + 3 := hn
    subst hn
    simp only [mj_step] at hst
    split at hst <;> try (cases hst; done)
    next t =>
      cases hst
      intro H locs als cells slots hH hS hL hc hs
      show W p l e R s mi args below meth c H locs cells slots Q (F0 mi pc als (st.map (mj_cv w)))
      exact lv_goto hx hb hd (hvd t rfl) (kk H locs als cells slots hH hS hL hc hs)
  | ifnull off =>
    obtain ⟨rfl, hn⟩ := hk9 rfl
    have hn : n = pc + 3 := hn
    subst hn
    simp only [mj_step] at hst
    split at hst <;> try (cases hst; done)
    next t x st' =>
      cases hst
      intro H locs als cells slots hH hS hL hc hs
      show W p l e R s mi args below meth c H locs cells slots Q (F0 mi pc als (.ref (mj_ad w x) :: st'.map (mj_cv w)))
      exact lv_ifnull hx hb hd (kk H locs als cells slots hH hS hL hc hs)
    next t st' =>
      cases hst
      intro H locs als cells slots hH hS hL hc hs
      show W p l e R s mi args below meth c H locs cells slots Q (F0 mi pc als (.null :: st'.map (mj_cv w)))
      exact lv_ifnullN hx hb hd (hvd t rfl) (kk H locs als cells slots hH hS hL hc hs)
  | ifnonnull off =>
    obtain ⟨rfl, hn⟩ := hk9 rfl
    have hn : n = pc + 3 := hn
    subst hn
    simp only [mj_step] at hst
    split at hst <;> try (cases hst; done)
    next t x st' =>
      cases hst
      intro H locs als cells slots hH hS hL hc hs
      show W p l e R s mi args below meth c H locs cells slots Q (F0 mi pc als (.ref (mj_ad w x) :: st'.map (mj_cv w)))
      exact lv_ifnonnull hx hb hd (hvd t rfl) (kk H locs als cells slots hH hS hL hc hs)
    next t st' =>
      cases hst
      intro H locs als cells slots hH hS hL hc hs
      show W p l e R s mi args below meth c H locs cells slots Q (F0 mi pc als (.null :: st'.map (mj_cv w)))
      exact lv_ifnonnullN hx hb hd (kk H locs als cells slots hH hS hL hc hs)
  | tableswitch df lo hi offs =>
    simp only [mj_step] at hst
    split at hst <;> try (cases hst; done)
    next t ts x st' =>
      cases hst
      obtain ⟨v1, v2, v3, v4⟩ := hvd t ts rfl
      intro H locs als cells slots hH hS hL hc hs
      show W p l e R s mi args below meth c H locs cells slots Q (F0 mi pc als (.int x :: st'.map (mj_cv w)))
      have kk2 := (kk H locs als cells slots hH hS hL hc hs)
      by_cases h1 : x.toInt < lo
      · refine lv_tableOut hx hb hd (Or.inl h1) v1 ?_
        have h9 : mj_sw lo t ts x = t := by simp [mj_sw, h1]
        rw [← h9]
        exact kk2
      · cases h2 : ts[(x.toInt - lo).toNat]? with
        | none =>
          have h3 : ts.length ≤ (x.toInt - lo).toNat := List.getElem?_eq_none_iff.mp h2
          refine lv_tableOut hx hb hd (Or.inr (by omega)) v1 ?_
          have h9 : mj_sw lo t ts x = t := by simp [mj_sw, h1, h2]
          rw [← h9]
          exact kk2
        | some q =>
          obtain ⟨off, h4, h5⟩ := v4 _ _ h2
          have h6 : (x.toInt - lo).toNat < offs.size := (Array.getElem?_eq_some_iff.mp h4).1
          refine lv_tableIn hx hb hd h1 (by omega) h4 h5 ?_
          have h9 : mj_sw lo t ts x = q := by simp [mj_sw, h1, h2]
          rw [← h9]
          exact kk2
  | lookupswitch df ps =>
    simp only [mj_step] at hst
    split at hst <;> try (cases hst; done)
    next t ts x st' =>
      cases hst
      obtain ⟨v1, v2⟩ := hvd t ts rfl
      intro H locs als cells slots hH hS hL hc hs
      show W p l e R s mi args below meth c H locs cells slots Q (F0 mi pc als (.int x :: st'.map (mj_cv w)))
      exact lv_lookup hx hb hd v1 rfl (mj_lk_spec v2) (kk H locs als cells slots hH hS hL hc hs)
  | getfield i =>
    obtain ⟨rfl, hn⟩ := hk9 rfl
    have hn : n = pc + 3 := hn
    subst hn
    simp only [mj_step] at hst
    cases d with
    | nil => simp [mj_gf] at hst
    | cons k d =>
    cases d with
    | nil => simp [mj_gf] at hst
    | cons ty cs => exact mj_s_gf C0 hd (hvd k ty cs rfl) rfl hst kk
  | putfield i =>
    obtain ⟨rfl, hn⟩ := hk9 rfl
    have hn : n = pc + 3 := hn
    subst hn
    simp only [mj_step] at hst
    cases d with
    | nil => simp [mj_pf] at hst
    | cons k d =>
    cases d with
    | nil => simp [mj_pf] at hst
    | cons ty cs => exact mj_s_pf C0 hd (hvd k ty cs rfl) rfl hst ho kk
  | iaload =>
    obtain ⟨rfl, hn⟩ := hk9 rfl
    have hn : n = pc + 1 := hn
    subst hn
    simp only [mj_step] at hst
    exact mj_s_iald C0 hd hst ho kk
  | baload =>
    obtain ⟨rfl, hn⟩ := hk9 rfl
    have hn : n = pc + 1 := hn
    subst hn
    simp only [mj_step] at hst
    exact mj_s_bald C0 hd hst ho kk
  | iastore =>
    obtain ⟨rfl, hn⟩ := hk9 rfl
    have hn : n = pc + 1 := hn
    subst hn
    simp only [mj_step] at hst
    exact mj_s_iast C0 hd hst ho kk
  | aaload =>
    obtain ⟨rfl, hn⟩ := hk9 rfl
    have hn : n = pc + 1 := hn
    subst hn
    simp only [mj_step] at hst
    exact mj_s_aald C0 hd hst ho kk
  | bastore =>
    obtain ⟨rfl, hn⟩ := hk9 rfl
    have hn : n = pc + 1 := hn
    subst hn
    simp only [mj_step] at hst
    split at hst <;> try (cases hst; done)
    next y st' => exact mj_s_bast C0 hd hst ho kk
  | arraylength =>
    obtain ⟨rfl, hn⟩ := hk9 rfl
    have hn : n = pc + 1 := hn
    subst hn
    simp only [mj_step] at hst
    exact mj_s_aln C0 hd hst kk
  | aastore =>
    obtain ⟨rfl, hn⟩ := hk9 rfl
    have hn : n = pc + 1 := hn
    subst hn
    simp only [mj_step] at hst
    exact mj_s_aast C0 hvd hd hst ho kk
  | newarray aty =>
    obtain ⟨rfl, hn⟩ := hk9 rfl
    have hn : n = pc + 2 := hn
    subst hn
    cases aty with
    | int =>
      simp only [mj_step] at hst
      exact mj_s_newI C0 hd mj_t1 hst ho hE kk
    | byte =>
      simp only [mj_step] at hst
      exact mj_s_newB C0 hd mj_t2 hst ho hE kk
    | _ => simp [mj_step] at hst
  | anewarray i =>
    obtain ⟨rfl, hn⟩ := hk9 rfl
    have hn : n = pc + 3 := hn
    subst hn
    simp only [mj_step] at hst
    exact mj_s_newq C0 hd hvd hst ho hE kk
  | multianewarray i k =>
    obtain ⟨rfl, hn⟩ := hk9 rfl
    have hn : n = pc + 4 := hn
    subst hn
    simp only [mj_step] at hst
    obtain ⟨rfl, v2⟩ := hvd
    exact mj_s_newm C0 hd v2 hst ho hE kk
  | new i =>
    obtain ⟨rfl, hn⟩ := hk9 rfl
    have hn : n = pc + 3 := hn
    subst hn
    simp only [mj_step] at hst
    match d, hst, hvd with
    | [t, k], hst, hvd => exact mj_s_new C0 hd (hvd t k rfl) hst hE kk
    | [], hst, _ => simp [mj_new] at hst
    | [_], hst, _ => simp [mj_new] at hst
    | _ :: _ :: _ :: _, hst, _ => simp [mj_new] at hst
  | instanceof i =>
    obtain ⟨rfl, hn⟩ := hk9 rfl
    have hn : n = pc + 3 := hn
    subst hn
    simp only [mj_step] at hst
    exact mj_s_inst C0 hvd hd hst kk
  | invokespecial i =>
    obtain ⟨rfl, hn⟩ := hk9 rfl
    have hn : n = pc + 3 := hn
    subst hn
    simp only [mj_step] at hst
    split at hst <;> try (cases hst; done)
    next a st' =>
      split at hst <;> try (cases hst; done)
      next hble =>
        cases hst
        exact mj_s_obj C0 (hvd rfl) hd (Nat.le_of_ble_eq_true hble) kk
  | invokestatic i =>
    obtain ⟨rfl, hn⟩ := hk9 rfl
    have hn : n = pc + 3 := hn
    subst hn
    simp only [mj_step] at hst
    split at hst <;> try (cases hst; done)
    next => exact mj_s_copy C0 (hvd rfl) hd hst ho kk
  | _ => simp [mj_step] at hst
theorem mj_sbr (C : mj_Cx p R s mi args meth c w D L xs own nL cc ini n0 u0 nE uE) {en : mjE} {cf c1 c2 : mjC} {P : Prop} (hv : mj_VE ini own cc cf.1 en) (hst : mj_br en cf = some (P, c1, c2)) (k1 : P → mj_Sim p l e R s mi args below meth c Q w D L xs nL n0 u0 c1) (k2 : ¬ P → mj_Sim p l e R s mi args below meth c Q w D L xs nL n0 u0 c2) : mj_Sim p l e R s mi args below meth c Q w D L xs nL n0 u0 cf := by
  obtain ⟨ins, n, d⟩ := en
  obtain ⟨pc, ls, st, m, I, RR, J⟩ := cf
  obtain ⟨⟨k9, hd, hk9⟩, hvd⟩ := hv
  have C0 := C
  obtain ⟨hx, hb, hml, hown, hts, hK, hXW, hini, hX, hbB, hsz, hn0, hfr, hlo, hRc, hRs⟩ := C
  cases ins with
  | ifCond cnd off =>
    obtain ⟨rfl, hn⟩ := hk9 rfl
    have hn : n = pc + 3 := hn
    subst hn
    cases cnd <;> simp only [mj_br] at hst <;> split at hst <;> try (cases hst; done)
    · next t x st' =>
        cases hst
        intro H locs als cells slots hH hS hL hc hs
        show W p l e R s mi args below meth c H locs cells slots Q (F0 mi pc als (.int x :: st'.map (mj_cv w)))
        exact lv_if_eq hx hb hd (hvd t rfl) (fun g => k1 g H locs als cells slots hH hS hL hc hs) (fun g => k2 g H locs als cells slots hH hS hL hc hs)
    · next t x st' =>
        cases hst
        intro H locs als cells slots hH hS hL hc hs
        show W p l e R s mi args below meth c H locs cells slots Q (F0 mi pc als (.int x :: st'.map (mj_cv w)))
        exact lv_if_ne hx hb hd (hvd t rfl) (fun g => k1 g H locs als cells slots hH hS hL hc hs) (fun g => k2 (fun q => q g) H locs als cells slots hH hS hL hc hs)
    · next t x st' =>
        cases hst
        intro H locs als cells slots hH hS hL hc hs
        show W p l e R s mi args below meth c H locs cells slots Q (F0 mi pc als (.int x :: st'.map (mj_cv w)))
        exact lv_if_lt hx hb hd (hvd t rfl) (fun g => k1 g H locs als cells slots hH hS hL hc hs) (fun g => k2 g H locs als cells slots hH hS hL hc hs)
    · next t x st' =>
        cases hst
        intro H locs als cells slots hH hS hL hc hs
        show W p l e R s mi args below meth c H locs cells slots Q (F0 mi pc als (.int x :: st'.map (mj_cv w)))
        exact lv_if_ge hx hb hd (hvd t rfl) (fun g => k1 g H locs als cells slots hH hS hL hc hs) (fun g => k2 g H locs als cells slots hH hS hL hc hs)
    · next t x st' =>
        cases hst
        intro H locs als cells slots hH hS hL hc hs
        show W p l e R s mi args below meth c H locs cells slots Q (F0 mi pc als (.int x :: st'.map (mj_cv w)))
        exact lv_if_gt hx hb hd (hvd t rfl) (fun g => k1 g H locs als cells slots hH hS hL hc hs) (fun g => k2 g H locs als cells slots hH hS hL hc hs)
    · next t x st' =>
        cases hst
        intro H locs als cells slots hH hS hL hc hs
        show W p l e R s mi args below meth c H locs cells slots Q (F0 mi pc als (.int x :: st'.map (mj_cv w)))
        exact lv_if_le hx hb hd (hvd t rfl) (fun g => k1 g H locs als cells slots hH hS hL hc hs) (fun g => k2 g H locs als cells slots hH hS hL hc hs)
  | if_icmp cnd off =>
    obtain ⟨rfl, hn⟩ := hk9 rfl
    have hn : n = pc + 3 := hn
    subst hn
    cases cnd <;> simp only [mj_br] at hst <;> split at hst <;> try (cases hst; done)
    · next t y x st' =>
        cases hst
        intro H locs als cells slots hH hS hL hc hs
        show W p l e R s mi args below meth c H locs cells slots Q (F0 mi pc als (.int y :: .int x :: st'.map (mj_cv w)))
        exact lv_icmp_eq hx hb hd (hvd t rfl) (fun g => k1 g H locs als cells slots hH hS hL hc hs) (fun g => k2 g H locs als cells slots hH hS hL hc hs)
    · next t y x st' =>
        cases hst
        intro H locs als cells slots hH hS hL hc hs
        show W p l e R s mi args below meth c H locs cells slots Q (F0 mi pc als (.int y :: .int x :: st'.map (mj_cv w)))
        exact lv_icmp_ne hx hb hd (hvd t rfl) (fun g => k1 g H locs als cells slots hH hS hL hc hs) (fun g => k2 (fun q => q g) H locs als cells slots hH hS hL hc hs)
    · next t y x st' =>
        cases hst
        intro H locs als cells slots hH hS hL hc hs
        show W p l e R s mi args below meth c H locs cells slots Q (F0 mi pc als (.int y :: .int x :: st'.map (mj_cv w)))
        exact lv_icmp_lt hx hb hd (hvd t rfl) (fun g => k1 g H locs als cells slots hH hS hL hc hs) (fun g => k2 g H locs als cells slots hH hS hL hc hs)
    · next t y x st' =>
        cases hst
        intro H locs als cells slots hH hS hL hc hs
        show W p l e R s mi args below meth c H locs cells slots Q (F0 mi pc als (.int y :: .int x :: st'.map (mj_cv w)))
        exact lv_icmp_ge hx hb hd (hvd t rfl) (fun g => k1 g H locs als cells slots hH hS hL hc hs) (fun g => k2 g H locs als cells slots hH hS hL hc hs)
    · next t y x st' =>
        cases hst
        intro H locs als cells slots hH hS hL hc hs
        show W p l e R s mi args below meth c H locs cells slots Q (F0 mi pc als (.int y :: .int x :: st'.map (mj_cv w)))
        exact lv_icmp_gt hx hb hd (hvd t rfl) (fun g => k1 g H locs als cells slots hH hS hL hc hs) (fun g => k2 g H locs als cells slots hH hS hL hc hs)
    · next t y x st' =>
        cases hst
        intro H locs als cells slots hH hS hL hc hs
        show W p l e R s mi args below meth c H locs cells slots Q (F0 mi pc als (.int y :: .int x :: st'.map (mj_cv w)))
        exact lv_icmp_le hx hb hd (hvd t rfl) (fun g => k1 g H locs als cells slots hH hS hL hc hs) (fun g => k2 g H locs als cells slots hH hS hL hc hs)
  | _ => simp [mj_br] at hst
end MJ
end
section
theorem mj_ofW {l : Launch} {y : MethodName} {ws ws' : List Cond} {rm : Room} {Pc : Array Value → State → Prop} {Qc : Array Value → State → Outcome → State → Prop} {mc ms : Nat} {free : Addr → Prop} {cc : ByteArray} {maxL : Nat} {ret : Option FieldType}
    (hy : plainFor y = true) (hw : ws = Cond.code y cc maxL ret :: ws')
    (body : ∀ p e s m args below meth c s₁, BodyLoose p l y (headSpec ws rm) cc maxL ret e s m args below meth c s₁ → c.maxLocals = maxL → Pc args s →
      W p l e (headSpec ws rm).room s m args below meth c s.heap [] 0 0 (MQ below Qc args s mc ms free) (entryFrame m args maxL)) : Met l y ws rm Pc Qc mc ms free := by
  refine MetFree.of_bodySF (code := cc) (maxLocals := maxL) (ret := ret) hy ?_ ?_
  · intro args s m h hn
    obtain ⟨meth, c, h1, h2, h3, h4, h5, h6, -, -⟩ := Cond.code_spec hn (atoms_spec (ws := ws) h _ (by rw [hw]; exact List.mem_cons_self))
    exact ⟨meth, c, h1, h2, h3, h4, h5, h6⟩
  · intro p e s m args below meth c s₁ B hml hP _
    have hh0 : s₁.heap = s.heap := by rw [B.state]; rfl
    obtain ⟨t, a1, o, b1, b2, b3⟩ := body p e s m args below meth c s₁ B hml hP s₁ hh0 (Stand.of_body B)
    exact ⟨t, o, a1, b1, b2, ⟨b3.1, b3.2⟩⟩
theorem mj_bindk (x y : Option Nat) (F : Nat → Option Bool) (h : x = y) (g : y.bind F = some true) : x.bind F = some true := by
  rw [h]
  exact g
theorem mj_AOA {u U : State} (hvm : u.vm.Alike U.vm) (h : (Cond.arrayOver (.array .int)).before #[] u = true) : (Cond.arrayOver (.array .int)).before #[] U = true := by
  have hi := fun comp : ClassId => va_idx_bare U.vm comp
  have hj := fun comp : ClassId => va_idx_bare u.vm comp
  unfold Cond.before Cond.holds at h ⊢
  simp only [Cond.value, beq_iff_eq] at h ⊢
  rw [hvm.findClass]
  rw [Option.bind_eq_some_iff] at h ⊢
  obtain ⟨comp, hc, h⟩ := h
  refine ⟨comp, hc, ?_⟩
  have hi := hi comp
  have hj := hj comp
  first | rw [hvm.bare_eq] at hj | rw [← hvm.bare_eq] at hj
  refine mj_bindk _ _ _ (hi.symm.trans hj) ?_
  rw [Option.bind_eq_some_iff] at h ⊢
  obtain ⟨c, h1, h⟩ := h
  refine ⟨c, h1, ?_⟩
  rw [Option.map_eq_some_iff] at h ⊢
  obtain ⟨k, hk, hb⟩ := h
  obtain ⟨k', hk', he⟩ := hvm.2.2 _ _ hk
  refine ⟨k', hk', ?_⟩
  rw [he, hvm.findClass]
  exact hb
theorem mj_XW.warm {s U : State} (hW : s.WarmedH U.vm) (h : mj_XW s) : mj_XW U := by
  obtain ⟨h1, h2, h3, h4⟩ := h
  refine ⟨fun z hz => ?_, h2.moved hW.alike, mj_AOA hW.alike h3, fun q hq => (h4 q hq).moved hW.alike⟩
  have hx := (List.mem_filter.mp hz).2
  have h9 := h1 z hz
  cases z <;> simp [mj_isx] at hx
  · exact va_Nw.warmM hW h9
  · exact va_Nw.warmC hW h9
theorem mj_XW.same {s U : State} (hv : s.vm = U.vm) (h : mj_XW s) : mj_XW U := by
  obtain ⟨h1, h2, h3, h4⟩ := h
  have hA : s.vm.Alike U.vm := by rw [← hv]; exact Vm.Alike.refl s.vm
  refine ⟨fun z hz => ?_, h2.moved hA, mj_AOA hA h3, fun q hq => (h4 q hq).moved hA⟩
  have hx := (List.mem_filter.mp hz).2
  have h9 := h1 z hz
  cases z <;> simp [mj_isx] at hx
  · exact va_Nw.same rfl hv h9
  · exact va_Nw.same rfl hv h9
/-- the world at a state -/
def mj_Wd (w : mjW) (D : va_G) (L : Nat) (xs : Nat → Int32) (h : mjH) (U : State) : Prop := mj_HR w D L xs h U.heap ∧ va_K D vwCl (mj_tys w) U ∧ mj_XW U ∧ va_X w.1 L xs U U.heap ∧ w.1 < w.2.1 ∧ 1 ≤ h.1.length
def mj_Pc (w : mjW) (D : va_G) (L : Nat) (xs : Nat → Int32) (as : List Value) (h : mjH) : Array Value → State → Prop := va_Pc (as.map (mj_cv w)) (fun U => mj_Wd w D L xs h U)
def mj_Qc (w : mjW) (D : va_G) (L : Nat) (xs : Nat → Int32) (v : Option Value) (h' : mjH) : Array Value → State → Outcome → State → Prop := fun _ st oc t => oc = .returned (v.map (mj_cv w)) ∧ mj_HR w D L xs h' t.heap ∧ st.heap.size ≤ t.heap.size ∧ ∀ q : Nat, q < st.heap.size → ¬ w.2.1 ≤ q → t.heap[q]? = st.heap[q]?
theorem mj_Wd.warm {w : mjW} {D : va_G} {L : Nat} {xs : Nat → Int32} {h : mjH} {s U : State} {H : Heap} (hW : s.WarmedH U.vm) (hU : U.heap = H) (hH : mj_HR w D L xs h H) (hK : va_K D vwCl (mj_tys w) s) (hX : mj_XW s) (hx : va_X w.1 L xs s H) (hb : w.1 < w.2.1) (hl : 1 ≤ h.1.length) : mj_Wd w D L xs h U := by
  subst hU
  exact ⟨hH, va_K.moved hW.alike hK, hX.warm hW, hx.moved hW.alike, hb, hl⟩
theorem mj_blind (w : mjW) (D : va_G) (L : Nat) (xs : Nat → Int32) (as : List Value) (h : mjH) : FrameBlind (mj_Pc w D L xs as h) := by
  intro a U g mk hP
  obtain ⟨h1, hH, hK, hX, hx, hb, hl⟩ := hP
  exact ⟨h1, hH, va_K.moved (u := U) (U := U.calling g mk a) (Vm.Alike.refl U.vm) hK, mj_XW.same (s := U) (U := U.calling g mk a) rfl hX, hx.moved (u := U) (U := U.calling g mk a) (Vm.Alike.refl U.vm), hb, hl⟩
def mj_rm (d mc ms : Nat) : Room := { frames := d, cells := mc, slots := ms, locals := 100 * d }
theorem mj_goodIn {y : MethodName} {cc : ByteArray} {maxL : Nat} {ret : Option FieldType} (h : Cond.code y cc maxL ret ∈ mj_tb) : GoodIn mj_tb (Cond.code y cc maxL ret :: mj_tb) := by
  intro z hz
  have hm : z ∈ mj_tb := by
    rcases List.mem_cons.mp hz with e | e
    · rw [e]; exact h
    · exact e
  exact ⟨hm, good_of_word (List.mem_filter.mp hm).2⟩
end
section
abbrev mjY : Type := List (MethodName × ByteArray × Nat × Option FieldType)
def mj_MF (Y : mjY) (l : Launch) (d : Nat) (K : mjK) : Prop := ∀ (k : Nat) (as : List Value) (h : mjH) (v : Option Value) (h' : mjH), K k as h v h' → ∃ (y : MethodName) (cc : ByteArray) (mL : Nat) (ret : Option FieldType), Y[k]? = some (y, cc, mL, ret) ∧ h.1.length ≤ h'.1.length ∧ mj_sl h.1 ≤ mj_sl h'.1 ∧ ∀ (w : mjW) (D : va_G) (L : Nat) (xs : Nat → Int32), Met l y (Cond.code y cc mL ret :: mj_tb) (mj_rm d (h'.1.length - h.1.length) (mj_sl h'.1 - mj_sl h.1)) (mj_Pc w D L xs as h) (mj_Qc w D L xs v h') (h'.1.length - h.1.length) (mj_sl h'.1 - mj_sl h.1) (fun q : Addr => w.2.1 ≤ q)
abbrev mj_hd (y : MethodName) (n : Nat) : Prop := y.cls ≠ "java/lang/invoke/MethodHandle" ∧ y.cls ≠ "java/lang/invoke/VarHandle" ∧ (parseMethodDescriptor y.desc).map (fun d => d.parameters.length) = some n
def mj_VC (Y : mjY) (own : Nat) (ins : Instr) (d : List Nat) : Prop := match ins with
  | .invokestatic i => ∀ n k, d = [0, n, k] → ∃ (y : MethodName) (cc : ByteArray) (mL : Nat) (ret : Option FieldType), Y[k]? = some (y, cc, mL, ret) ∧ Cond.code y cc mL ret ∈ mj_tb ∧ mL ≤ 70 ∧ (Cond.methodLink (mj_cn own) i y ∈ mj_tb ∨ ∃ host, Cond.methodLinkNest (mj_cn own) i y host ∈ mj_xn) ∧ Cond.static y ∈ mj_tb ∧ Cond.initialized y.cls ∈ mj_tb ∧ mj_hd y n
  | .invokespecial i => ∀ n k, d = [2, n, k] → ∃ (y : MethodName) (cc : ByteArray) (mL : Nat), Y[k]? = some (y, cc, mL, none) ∧ Cond.code y cc mL none ∈ mj_tb ∧ mL ≤ 70 ∧ (Cond.methodLink (mj_cn own) i y ∈ mj_tb ∨ ∃ host, Cond.methodLinkNest (mj_cn own) i y host ∈ mj_xn) ∧ Cond.instanceMethod y ∈ mj_tb ∧ Cond.initialized y.cls ∈ mj_tb ∧ mj_hd y n ∧ y.name = "<init>"
  | .invokevirtual i => ∀ n ts, d = 1 :: n :: ts → ∀ t k, mj_sel t ts = some k → ∃ (ci : Nat) (C : String) (T : u_T) (N : Nat) (y : MethodName) (cc : ByteArray) (mL : Nat) (ret : Option FieldType), t = ci + 10 ∧ vwCl[ci]? = some (C, T, N) ∧ Y[k]? = some (y, cc, mL, ret) ∧ Cond.code y cc mL ret ∈ mj_tb ∧ mL ≤ 70 ∧ Cond.instanceMethod y ∈ mj_tb ∧ Cond.initialized y.cls ∈ mj_tb ∧ ((Cond.methodLink (mj_cn own) i y ∈ mj_tb ∧ Cond.selects C y y ∈ mj_tb ∧ mj_hd y n) ∨ ∃ (x : MethodName) (b0 : ByteArray) (m0 : Nat) (r0 : Option FieldType), Cond.methodLink (mj_cn own) i x ∈ mj_tb ∧ Cond.sameMethod x.cls x.cls x.name x.desc ∈ mj_tb ∧ Cond.instanceMethod x ∈ mj_tb ∧ Cond.code x b0 m0 r0 ∈ mj_tb ∧ Cond.selects C x y ∈ mj_tb ∧ mj_hd x n)
  | _ => True
theorem mj_pop_spec {α : Type} : ∀ (n : Nat) (st acc : List Value) (f : List Value → List Value → Option α) (r : α), mj_pop n st acc f = some r → ∃ ys st', st = ys ++ st' ∧ ys.length = n ∧ f (ys.reverse ++ acc) st' = some r
  | 0, st, acc, f, r, h => ⟨[], st, rfl, rfl, h⟩
  | n + 1, [], acc, f, r, h => by simp [mj_pop] at h
  | n + 1, v :: st, acc, f, r, h => by
    obtain ⟨ys, st', h1, h2, h3⟩ := mj_pop_spec n st (v :: acc) f r h
    exact ⟨v :: ys, st', by rw [h1]; rfl, by simp [h2], by simpa using h3⟩
theorem mj_psh_map (w : mjW) (v : Option Value) (st : List Value) : (mj_psh v st).map (mj_cv w) = (v.map (mj_cv w)).toList ++ st.map (mj_cv w) := by cases v <;> rfl
section MJ
variable {p : Program} {l : Launch} {e : Env} {R : Room} {s : State} {mi : MethodId} {args : Array Value} {below : List Frame} {meth : Method} {c : Code} {Q : State → Prop} {w : mjW} {D : va_G} {L : Nat} {xs : Nat → Int32} {own nL : Nat} {cc : ByteArray} {ini : Bool} {n0 u0 nE uE : Nat}
theorem mj_goon {H : Heap} {locs : List Loc} {cells slots mc ms pc : Nat} {ls : Array Slot} {st0 rest : List Value} {v : Option Value} {h' : mjH} {a : Array Value} (hr : va_Run p l e R s mi args below meth c H locs cells slots mc ms (F0 mi pc ls st0) rest (mj_Qc w D L xs v h' a) (fun q : Addr => w.2.1 ≤ q)) (hS : va_S (fun q : Nat => w.2.1 ≤ q) s.heap H locs)
    (kk : ∀ (H1 : Heap) (locs1 : List Loc), mj_HR w D L xs h' H1 → va_S (fun q : Nat => w.2.1 ≤ q) s.heap H1 locs1 → W p l e R s mi args below meth c H1 locs1 (cells + mc) (slots + ms) Q (F0 mi (pc + 3) ls ((v.map (mj_cv w)).toList ++ rest))) : W p l e R s mi args below meth c H locs cells slots Q (F0 mi pc ls st0) := by
  intro T hT X
  obtain ⟨v1, st₀, t, T', L1, h0, X', hL, e1, e2, ⟨hv, hH, hz, hk⟩, st⟩ := hr T hT X
  cases hv
  rw [h0] at hz hk
  obtain ⟨t2, a1, b1⟩ := kk T'.heap (locs ++ L1) (by rw [e1]; exact hH) ⟨Nat.le_trans hS.1 (by rw [e1]; exact hz), fun q h1 h2 => by rw [e1, hk q (Nat.lt_of_lt_of_le h1 hS.1) h2]; exact hS.2.1 q h1 h2, fun q hq => by
    rcases List.mem_append.mp hq with h | h
    · exact hS.2.2 q h
    · exact hL q h⟩ T' rfl X'
  exact ⟨t2, st t2 a1, b1⟩
theorem mj_scall {Y : mjY} {d : Nat} {K : mjK} (C : mj_Cx p R s mi args meth c w D L xs own nL cc ini n0 u0 nE uE) (hMF : mj_MF Y l d K) (hRd : d + 1 ≤ R.frames ∧ 100 * d + 100 ≤ R.locals) {en : mjE} {cf : mjC} {k : Nat} {as st : List Value} {v : Option Value} {h1 : mjH} (hv : mj_VE ini own cc cf.1 en) (hvc : mj_VC Y own en.1 en.2.2) (hinv : mj_inv en cf = some (k, as, st)) (hKc : K k as cf.2.2.2 v h1) (hE : h1.1.length ≤ nE ∧ mj_sl h1.1 ≤ uE) (kk : mj_Sim p l e R s mi args below meth c Q w D L xs nL n0 u0 (en.2.1, cf.2.1, mj_psh v st, h1)) : mj_Sim p l e R s mi args below meth c Q w D L xs nL n0 u0 cf := by
  obtain ⟨ins, n, d9⟩ := en
  obtain ⟨pc, ls, st0, h⟩ := cf
  obtain ⟨⟨k9, hd, hk9⟩, -⟩ := hv
  obtain ⟨y, cy, mL, ret, hY, hl1, hl2, hMet⟩ := hMF _ _ _ _ _ hKc
  have hl1' : h.1.length ≤ h1.1.length := hl1
  have hl2' : mj_sl h.1 ≤ mj_sl h1.1 := hl2
  have C0 := C
  obtain ⟨hx, hb, hml, hown, hts, hK, hXW, hini, hX, hbB, hsz, hn0, hfr, hlo, hRc, hRs⟩ := C
  intro H locs als cells slots hH hS hL hc hs
  have hc' : n0 + cells = h.1.length := hc
  have hs' : u0 + slots = mj_sl h.1 := hs
  have hf : cells + (h1.1.length - h.1.length) ≤ R.cells ∧ slots + (mj_sl h1.1 - mj_sl h.1) ≤ R.slots := by omega
  have hXh : va_X w.1 L xs s H := hX.kept (hS.2.1 w.1 (by omega) (by omega))
  have hpre : ∀ U : State, U.heap = H → s.WarmedH U.vm → mj_Wd w D L xs h U := fun U hU hW => mj_Wd.warm hW hU hH hK hXW hXh hbB (by omega)
  have fin : ∀ (H1 : Heap) (locs1 : List Loc), mj_HR w D L xs h1 H1 → va_S (fun q : Nat => w.2.1 ≤ q) s.heap H1 locs1 → n = pc + 3 → W p l e R s mi args below meth c H1 locs1 (cells + (h1.1.length - h.1.length)) (slots + (mj_sl h1.1 - mj_sl h.1)) Q (F0 mi (pc + 3) als ((v.map (mj_cv w)).toList ++ st.map (mj_cv w))) := by
    intro H1 locs1 hH1 hS1 hn
    subst hn
    rw [← mj_psh_map]
    exact kk H1 locs1 als _ _ hH1 hS1 hL (by show n0 + _ = h1.1.length; omega) (by show u0 + _ = mj_sl h1.1; omega)
  have hrm : ∀ mL : Nat, mL ≤ 70 → (mj_rm d (h1.1.length - h.1.length) (mj_sl h1.1 - mj_sl h.1)).frames + 1 ≤ R.frames ∧ 8 + (mL + 11) + (mj_rm d (h1.1.length - h.1.length) (mj_sl h1.1 - mj_sl h.1)).locals ≤ R.locals := fun mL hm => ⟨hRd.1, by show 8 + (mL + 11) + 100 * d ≤ R.locals; omega⟩
  obtain ⟨h, hheq⟩ : ∃ g, g = h := ⟨h, rfl⟩
  subst hheq
  cases ins with
  | invokestatic i =>
    obtain ⟨rfl, hn⟩ := hk9 rfl
    obtain ⟨mm, II, RR, JJ⟩ := h
    simp only [mj_inv] at hinv
    split at hinv <;> try (cases hinv; done)
    next n9 k9 =>
      obtain ⟨ys, st', e1, e2, e3⟩ := mj_pop_spec _ _ _ _ _ hinv
      split at e3 <;> try (cases e3; done)
      next hble =>
        simp only [Option.some.injEq, Prod.mk.injEq] at e3
        obtain ⟨rfl, rfl, rfl⟩ := e3
        obtain ⟨y', cy', mL', ret', hY', w1, w2, w3, w4, w5, w6⟩ := hvc n9 k9 rfl
        rw [hY] at hY'
        cases hY'
        have hst : (st0.map (mj_cv w)) = (((ys.reverse ++ []).map (mj_cv w)).reverse ++ st'.map (mj_cv w)) := by rw [e1]; simp
        have hW : 2 * (F0 mi pc als (st0.map (mj_cv w))).monitorRoom + ((st'.map (mj_cv w)).map fun v => v.category).sum ≤ 8 := lv_room (by rw [mj_sum_eq]; exact Nat.le_of_ble_eq_true hble)
        have hlen : ((ys.reverse ++ []).map (mj_cv w)).length = n9 := by simp [e2]
        show W p l e R s mi args below meth c H locs cells slots Q (F0 mi pc als (st0.map (mj_cv w)))
        rcases w3 with w3 | ⟨host, w3⟩
        · exact mj_goon (va_runS ⟨hx, hb, hml, hown, hts⟩ (hMet w D L xs) ⟨callB_of n9 hts (mj_goodIn w1) rfl rfl rfl (hts _ w5) (hts _ w3) w6 (hrm _ w2), hts _ w4⟩ ⟨mj_blind w D L xs _ _, fun U hU hW9 => ⟨rfl, hpre U hU hW9⟩⟩ rfl hlen hL.2.1 hst hW hd hf) hS (fun H1 locs1 a b => fin H1 locs1 a b hn)
        · exact mj_goon (va_runSN ⟨hx, hb, hml, hown, hts⟩ (hMet w D L xs) ⟨va_cnB n9 hts (mj_goodIn w1) rfl rfl rfl (hXW.1 _ w3) (hts _ w5) w6 (hrm _ w2), hts _ w4, trivial⟩ ⟨mj_blind w D L xs _ _, fun U hU hW9 => ⟨rfl, hpre U hU hW9⟩⟩ rfl hlen hL.2.1 hst hW hd hf) hS (fun H1 locs1 a b => fin H1 locs1 a b hn)
  | invokespecial i =>
    obtain ⟨rfl, hn⟩ := hk9 rfl
    obtain ⟨mm, II, RR, JJ⟩ := h
    simp only [mj_inv] at hinv
    split at hinv <;> try (cases hinv; done)
    next n9 k9 =>
      obtain ⟨ys, st2, e1, e2, e3⟩ := mj_pop_spec _ _ _ _ _ hinv
      split at e3 <;> try (cases e3; done)
      next a st' =>
        split at e3 <;> try (cases e3; done)
        next hble =>
          simp only [Option.some.injEq, Prod.mk.injEq] at e3
          obtain ⟨rfl, rfl, rfl⟩ := e3
          obtain ⟨y', cy', mL', hY', w1, w2, w3, w4, w5, w6, w7⟩ := hvc n9 k9 rfl
          rw [hY] at hY'
          cases hY'
          have hst : (st0.map (mj_cv w)) = (((ys.reverse ++ []).map (mj_cv w)).reverse ++ .ref (mj_ad w a) :: st'.map (mj_cv w)) := by rw [e1]; simp [mj_cv]
          have hW : 2 * (F0 mi pc als (st0.map (mj_cv w))).monitorRoom + ((st'.map (mj_cv w)).map fun v => v.category).sum ≤ 8 := lv_room (by rw [mj_sum_eq]; exact Nat.le_of_ble_eq_true hble)
          have hlen : ((ys.reverse ++ []).map (mj_cv w)).length = n9 := by simp [e2]
          show W p l e R s mi args below meth c H locs cells slots Q (F0 mi pc als (st0.map (mj_cv w)))
          rcases w3 with w3 | ⟨host, w3⟩
          · exact mj_goon (va_runI ⟨hx, hb, hml, hown, hts⟩ (hMet w D L xs) ⟨callB_of n9 hts (mj_goodIn w1) rfl rfl rfl (hts _ w5) (hts _ w3) w6 (hrm _ w2), w7, hts _ w4⟩ ⟨mj_blind w D L xs _ _, fun U hU hW9 => ⟨rfl, hpre U hU hW9⟩⟩ rfl hlen hL.2.1 hst hW hd hf) hS (fun H1 locs1 a b => fin H1 locs1 a b hn)
          · exact mj_goon (va_runIN ⟨hx, hb, hml, hown, hts⟩ (hMet w D L xs) ⟨va_cnB n9 hts (mj_goodIn w1) rfl rfl rfl (hXW.1 _ w3) (hts _ w5) w6 (hrm _ w2), w7, hts _ w4⟩ ⟨mj_blind w D L xs _ _, fun U hU hW9 => ⟨rfl, hpre U hU hW9⟩⟩ rfl hlen hL.2.1 hst hW hd hf) hS (fun H1 locs1 a b => fin H1 locs1 a b hn)
  | invokevirtual i =>
    obtain ⟨rfl, hn⟩ := hk9 rfl
    obtain ⟨mm, II, RR, JJ⟩ := h
    simp only [mj_inv] at hinv
    split at hinv <;> try (cases hinv; done)
    next n9 ts =>
      obtain ⟨ys, st2, e1, e2, e3⟩ := mj_pop_spec _ _ _ _ _ hinv
      split at e3 <;> try (cases e3; done)
      next a st' =>
        cases hm : mj_mt a mm with
        | none => simp [hm] at e3
        | some tq =>
          obtain ⟨t, q⟩ := tq
          simp only [hm] at e3
          split at e3 <;> try (cases e3; done)
          next k8 hsel hble =>
            simp only [Option.some.injEq, Prod.mk.injEq] at e3
            obtain ⟨rfl, rfl, rfl⟩ := e3
            obtain ⟨ci, Cn, T, N, y', cy', mL', ret', rfl, hcl, hY', w1, w2, w4, w5, w6⟩ := hvc n9 ts rfl t k8 hsel
            rw [hY] at hY'
            cases hY'
            cases a with
            | zero =>
              exfalso
              have hm0' : mj_mt 0 mm = some (0, L) := hH.2.1
              rw [hm] at hm0'
              cases hm0'
            | succ a =>
              have hat := mj_ws_at (w := w) (h := (mm, II, RR, JJ)) hm
              rw [mj_ce_obj] at hat
              have hrec := va_recv hK hH.2.2.2 hcl hat
              have hst : (st0.map (mj_cv w)) = (((ys.reverse ++ []).map (mj_cv w)).reverse ++ .ref (w.2.1 + a) :: st'.map (mj_cv w)) := by rw [e1]; simp [mj_cv, mj_ad]
              have hW : 2 * (F0 mi pc als (st0.map (mj_cv w))).monitorRoom + ((st'.map (mj_cv w)).map fun v => v.category).sum ≤ 8 := lv_room (by rw [mj_sum_eq]; exact Nat.le_of_ble_eq_true hble)
              have hlen : ((ys.reverse ++ []).map (mj_cv w)).length = n9 := by simp [e2]
              show W p l e R s mi args below meth c H locs cells slots Q (F0 mi pc als (st0.map (mj_cv w)))
              rcases w6 with ⟨w6, w7, w8⟩ | ⟨x, b0, m0, r0, w6, w7, w8, w9, w10, w11⟩
              · exact mj_goon (va_runV (C := Cn) ⟨hx, hb, hml, hown, hts⟩ (hMet w D L xs) ⟨callB_of n9 hts (mj_goodIn w1) rfl rfl rfl (hts _ w5) (hts _ w6) w8 (hrm _ w2), hts _ w4, hts _ w7⟩ ⟨mj_blind w D L xs _ _, hrec, fun U hU hW9 => ⟨rfl, hpre U hU hW9⟩⟩ rfl hlen hL.2.1 hst hW hd hf) hS (fun H1 locs1 a b => fin H1 locs1 a b hn)
              · have hCU : va_CU R s args (mj_cn own) Cn x.cls i x y cy mL ret (Cond.code y cy mL ret :: mj_tb) (mj_rm d (h1.1.length - mm.length) (mj_sl h1.1 - mj_sl mm)) (h1.1.length - mm.length) (mj_sl h1.1 - mj_sl mm) n9 := by
                  refine ⟨⟨rfl, rfl, (hrm _ w2).1, (hrm _ w2).2, pay_in hts (mj_goodIn w1), List.mem_cons_self⟩, hts _ w1, hts _ w5, ⟨w11.1, w11.2.1⟩, fun sig h9 => ?_, hts _ w6, hts _ w7, va_Decl.of (hts _ w8) (hts _ w9), hts _ w10, hts _ w4⟩
                  have h8 := w11.2.2
                  rw [h9] at h8
                  exact (Option.some.inj h8).symm
                exact mj_goon (va_runU (C := Cn) ⟨hx, hb, hml, hown, hts⟩ (hMet w D L xs) hCU ⟨mj_blind w D L xs _ _, hrec, fun U hU hW9 => ⟨rfl, hpre U hU hW9⟩⟩ rfl hlen hL.2.1 hst hW hd hf) hS (fun H1 locs1 a b => fin H1 locs1 a b hn)
  | _ => simp [mj_inv] at hinv
end MJ
end
section
theorem mj_mono_nil (m : mjM) : ∃ ys, m = m ++ ys := ⟨[], by simp⟩
theorem mj_st1_heap {n i : Nat} {v : Value} {ls : List (Option Value)} {st : List Value} {m : mjM} {I : mjI} {R : mjR} {J : mjJ} {o : Option Prop} {cf' : mjC} (h : mj_st1 n i v ls st m I R J = some (o, cf')) : cf'.2.2.2.1 = m := by
  unfold mj_st1 at h
  split at h <;> try (cases h; done)
  obtain ⟨ls', h1, -⟩ := mj_set_spec _ _ _ _ h
  cases h1
  rfl
theorem mj_st2_heap {n i : Nat} {v : Value} {ls : List (Option Value)} {st : List Value} {m : mjM} {I : mjI} {R : mjR} {J : mjJ} {o : Option Prop} {cf' : mjC} (h : mj_st2 n i v ls st m I R J = some (o, cf')) : cf'.2.2.2.1 = m := by
  unfold mj_st2 at h
  split at h <;> try (cases h; done)
  obtain ⟨ls', h1, -⟩ := mj_set_spec _ _ _ _ h
  obtain ⟨ls2, h2, -⟩ := mj_set_spec _ _ _ _ h1
  cases h2
  rfl
set_option maxHeartbeats 4000000 in
theorem mj_step_mono {en : mjE} {cf cf' : mjC} {o : Option Prop} (h : mj_step en cf = some (o, cf')) : ∃ ys, cf'.2.2.2.1 = cf.2.2.2.1 ++ ys := by
  obtain ⟨ins, n, d⟩ := en
  obtain ⟨pc, ls, st, m, I, R, J⟩ := cf
  have hs : ∀ {x : mjM}, x = m → ∃ ys, x = m ++ ys := fun e => ⟨[], by rw [e]; simp⟩
  cases ins <;> simp only [mj_step, mj_cst, mj_ild, mj_lld, mj_ald, mj_ist, mj_lst, mj_ast, mj_gf, mj_pf, mj_xld, mj_xst, mj_aald, mj_aast, mj_aln, mj_newa, mj_newq, mj_newm, mj_new, mj_inst, mj_copy, reduceCtorEq] at h
  all_goals (repeat' split at h)
  all_goals (first | (cases h; done) | (cases h; exact hs rfl) | exact hs (mj_st1_heap h) | exact hs (mj_st2_heap h) | (cases h; exact ⟨_, rfl⟩) | skip)
theorem mj_br_heap {en : mjE} {cf c1 c2 : mjC} {P : Prop} (h : mj_br en cf = some (P, c1, c2)) : c1.2.2.2 = cf.2.2.2 ∧ c2.2.2.2 = cf.2.2.2 := by
  obtain ⟨ins, n, d⟩ := en
  obtain ⟨pc, ls, st, m, I, R, J⟩ := cf
  cases ins <;> simp only [mj_br, reduceCtorEq] at h
  all_goals (split at h)
  all_goals (try (cases h; done))
  all_goals (split at h)
  all_goals (first | (cases h; done) | (cases h; exact ⟨rfl, rfl⟩))
theorem mj_ret_heap {rt : Nat} {en : mjE} {cf : mjC} {o : Option Prop} {v : Option Value} {h' : mjH} (h : mj_ret rt en cf = some (o, v, h')) : h' = cf.2.2.2 := by
  obtain ⟨ins, n, d⟩ := en
  obtain ⟨pc, ls, st, hh⟩ := cf
  simp only [mj_ret] at h
  split at h <;> first | (cases h; rfl) | (cases h; done)
theorem mj_mono {K : mjK} {cd : List (Option mjE)} {rt : Nat} (hK : ∀ k as h v h', K k as h v h' → h.1.length ≤ h'.1.length ∧ mj_sl h.1 ≤ mj_sl h'.1) : ∀ (n : Nat) (cf : mjC) (v : Option Value) (h' : mjH), mj_go K cd rt n cf v h' → cf.2.2.2.1.length ≤ h'.1.length ∧ mj_sl cf.2.2.2.1 ≤ mj_sl h'.1
  | 0, _, _, _, h => by cases h
  | n + 1, cf, v, h', h => by
    obtain ⟨en, -, h | h | h | h⟩ := h
    · obtain ⟨o, c', h1, -, h3⟩ := h
      obtain ⟨ys, hy⟩ := mj_step_mono h1
      have ih := mj_mono hK n c' v h' h3
      rw [hy] at ih
      rw [mj_sl_app, List.length_append] at ih
      omega
    · obtain ⟨P, c1, c2, h1, h2, h3⟩ := h
      obtain ⟨e1, e2⟩ := mj_br_heap h1
      by_cases hP : P
      · have ih := mj_mono hK n c1 v h' (h2 hP)
        rw [e1] at ih
        exact ih
      · have ih := mj_mono hK n c2 v h' (h3 hP)
        rw [e2] at ih
        exact ih
    · obtain ⟨k, as, st, w, h1, -, h3, h4⟩ := h
      have ih := mj_mono hK n _ v h' h4
      have h9 := hK _ _ _ _ _ h3
      have ih' : h1.1.length ≤ h'.1.length ∧ mj_sl h1.1 ≤ mj_sl h'.1 := ih
      omega
    · obtain ⟨o, h1, -⟩ := h
      rw [mj_ret_heap h1]
      exact ⟨Nat.le_refl _, Nat.le_refl _⟩
section MJ
variable {p : Program} {l : Launch} {e : Env} {R : Room} {s : State} {mi : MethodId} {args : Array Value} {below : List Frame} {meth : Method} {c : Code} {Q : State → Prop} {w : mjW} {D : va_G} {L : Nat} {xs : Nat → Int32} {own nL : Nat} {cc : ByteArray} {ini : Bool} {n0 u0 nE uE : Nat}
theorem mj_sgo {Y : mjY} {d : Nat} {K : mjK} {cd : List (Option mjE)} {rt : Nat} (C : mj_Cx p R s mi args meth c w D L xs own nL cc ini n0 u0 nE uE) (hMF : mj_MF Y l d K) (hRd : d + 1 ≤ R.frames ∧ 100 * d + 100 ≤ R.locals) (hcd : ∀ pc en, mj_at pc cd = some en → mj_VE ini own cc pc en ∧ mj_VC Y own en.1 en.2.2) {v : Option Value} {h' : mjH} (hE : h'.1.length ≤ nE ∧ mj_sl h'.1 ≤ uE)
    (hret : ∀ pc ls st en o, mj_at pc cd = some en → mj_ret rt en (pc, ls, st, h') = some (o, v, h') → mj_ok o → mj_Sim p l e R s mi args below meth c Q w D L xs nL n0 u0 (pc, ls, st, h')) : ∀ (n : Nat) (cf : mjC), mj_go K cd rt n cf v h' → mj_Sim p l e R s mi args below meth c Q w D L xs nL n0 u0 cf
  | 0, _, h => by cases h
  | n + 1, cf, h => by
    have hK : ∀ k as h v h', K k as h v h' → h.1.length ≤ h'.1.length ∧ mj_sl h.1 ≤ mj_sl h'.1 := fun k as h v h' hk => by
      obtain ⟨_, _, _, _, _, h1, h2, _⟩ := hMF _ _ _ _ _ hk
      exact ⟨h1, h2⟩
    obtain ⟨en, hat, h | h | h | h⟩ := h
    · obtain ⟨o, c', h1, h2, h3⟩ := h
      have hm := mj_mono hK n c' v h' h3
      exact mj_sstep C (hcd _ _ hat).1 h1 h2 (by omega) (mj_sgo C hMF hRd hcd hE hret n c' h3)
    · obtain ⟨P, c1, c2, h1, h2, h3⟩ := h
      exact mj_sbr C (hcd _ _ hat).1 h1 (fun g => mj_sgo C hMF hRd hcd hE hret n c1 (h2 g)) (fun g => mj_sgo C hMF hRd hcd hE hret n c2 (h3 g))
    · obtain ⟨k, as, st, u, h1, g1, g2, g3⟩ := h
      have hm := mj_mono hK n _ v h' g3
      have hm' : h1.1.length ≤ h'.1.length ∧ mj_sl h1.1 ≤ mj_sl h'.1 := hm
      exact mj_scall C hMF hRd (hcd _ _ hat).1 (hcd _ _ hat).2 g1 g2 (by omega) (mj_sgo C hMF hRd hcd hE hret n _ g3)
    · obtain ⟨o, h1, h2⟩ := h
      obtain ⟨pc, ls, st, hh⟩ := cf
      have e9 := mj_ret_heap h1
      have e9' : h' = hh := e9
      subst e9'
      exact hret pc ls st en o hat h1 h2
end MJ
end
section
def mj_rok : Nat → Option FieldType → Bool
  | 0, none => true
  | 1, some .int => true
  | 2, some .boolean => true
  | 3, some .long => true
  | 4, some (.object _) => true
  | 4, some (.array _) => true
  | _, _ => false
/-- the tables of the program are right -/
def mj_VPg (P : List mjT) (Y : mjY) : Prop := ∀ (k : Nat) (t : mjT), P[k]? = some t → ∃ (y : MethodName) (cc : ByteArray) (ret : Option FieldType), Y[k]? = some (y, cc, t.2.1, ret) ∧ plainFor y = true ∧ y.cls = mj_cn t.1 ∧ mj_rok t.2.2.1 ret = true ∧ ∀ pc en, mj_at pc t.2.2.2 = some en → mj_VE (y.name == "<init>") t.1 cc pc en ∧ mj_VC Y t.1 en.1 en.2.2
theorem mj_pad_len : ∀ (n : Nat) (ls : List (Option Value)), (mj_pad n ls).length = n
  | 0, _ => rfl
  | n + 1, [] => by simp [mj_pad, mj_pad_len n []]
  | n + 1, x :: xs => by simp [mj_pad, mj_pad_len n xs]
theorem mj_pad_get : ∀ (n : Nat) (ls : List (Option Value)) (i : Nat) (v : Value), mj_get i (mj_pad n ls) = some v → mj_get i ls = some v
  | 0, _, i, v, h => by simp [mj_pad, mj_get] at h
  | n + 1, [], 0, v, h => by simp [mj_pad, mj_get] at h
  | n + 1, [], i + 1, v, h => by
    have := mj_pad_get n [] i v h
    simp [mj_get] at this
  | n + 1, x :: xs, 0, v, h => h
  | n + 1, x :: xs, i + 1, v, h => mj_pad_get n xs i v h
theorem mj_ent_get (w : mjW) : ∀ (as : List Value) (j i : Nat) (v : Value), mj_get i (mj_ent as) = some v → (j + i, mj_cv w v) ∈ lv_args j (as.map (mj_cv w))
  | [], j, i, v, h => by simp [mj_ent, mj_get] at h
  | a :: as, j, i, v, h => by
    by_cases hc : a.category = 2
    · have he : mj_ent (a :: as) = some a :: none :: mj_ent as := by cases a <;> simp [Value.category] at hc <;> rfl
      rw [he] at h
      simp only [List.map_cons, lv_args, mj_cv_cat, hc, if_true]
      match i, h with
      | 0, h =>
        have e : a = v := by simpa [mj_get] using h
        subst e
        exact List.mem_cons_self
      | 1, h => simp [mj_get] at h
      | i + 2, h =>
        have := mj_ent_get w as (j + 2) i v h
        rw [show j + 2 + i = j + (i + 2) by omega] at this
        exact List.mem_cons_of_mem _ this
    · have he : mj_ent (a :: as) = some a :: mj_ent as := by cases a <;> simp [Value.category] at hc <;> rfl
      rw [he] at h
      simp only [List.map_cons, lv_args, mj_cv_cat, hc, if_false]
      match i, h with
      | 0, h =>
        have e : a = v := by simpa [mj_get] using h
        subst e
        exact List.mem_cons_self
      | i + 1, h =>
        have := mj_ent_get w as (j + 1) i v h
        rw [show j + 1 + i = j + (i + 1) by omega] at this
        exact List.mem_cons_of_mem _ this
theorem mj_ent_len (w : mjW) : ∀ (as : List Value), (lg_sl (as.map (mj_cv w))).length = (mj_ent as).length
  | [] => rfl
  | a :: as => by
    have ih := mj_ent_len w as
    by_cases hc : a.category = 2
    · have he : mj_ent (a :: as) = some a :: none :: mj_ent as := by cases a <;> simp [Value.category] at hc <;> rfl
      rw [he]
      simp only [lg_sl, List.map_cons, List.flatMap_cons, mj_cv_cat, hc, if_true] at ih ⊢
      simp [ih]
    · have he : mj_ent (a :: as) = some a :: mj_ent as := by cases a <;> simp [Value.category] at hc <;> rfl
      rw [he]
      simp only [lg_sl, List.map_cons, List.flatMap_cons, mj_cv_cat, hc, if_false] at ih ⊢
      simp [ih]
theorem mj_LR.entry (w : mjW) {nL : Nat} {as : List Value} (h : (mj_ent as).length ≤ nL) {ls : Array Slot} (hl : lv_has ls nL (lv_args 0 (as.map (mj_cv w)))) : mj_LR w nL (mj_pad nL (mj_ent as)) ls := by
  refine mj_LR.of (mj_pad_len _ _) hl (fun i v g => ?_)
  have := mj_ent_get w as 0 i v (mj_pad_get _ _ _ _ g)
  rwa [Nat.zero_add] at this
set_option maxHeartbeats 4000000 in
theorem mj_meth {P : List mjT} {Y : mjY} (hV : mj_VPg P Y) (l : Launch) : ∀ d : Nat, mj_MF Y l d (mj_call P d)
  | 0 => fun _ _ _ _ _ h => by cases h
  | d + 1 => by
    intro k as h v h' hc
    obtain ⟨t, hP, hent, n, hgo⟩ := hc
    obtain ⟨y, cc, ret, hY, hpl, hcls, hrok, hcd⟩ := hV k t hP
    have hMF := mj_meth hV l d
    have hK : ∀ k as h v h', mj_call P d k as h v h' → h.1.length ≤ h'.1.length ∧ mj_sl h.1 ≤ mj_sl h'.1 := fun k as h v h' hk => by
      obtain ⟨_, _, _, _, _, h1, h2, _⟩ := hMF _ _ _ _ _ hk
      exact ⟨h1, h2⟩
    have hm := mj_mono hK n _ v h' hgo
    have hm' : h.1.length ≤ h'.1.length ∧ mj_sl h.1 ≤ mj_sl h'.1 := hm
    refine ⟨y, cc, t.2.1, ret, hY, hm'.1, hm'.2, fun w D L xs => ?_⟩
    refine mj_ofW (cc := cc) (maxL := t.2.1) (ret := ret) hpl rfl ?_
    intro p e s m args below meth c s₁ B hml hv
    obtain ⟨rfl, hH, hKv, hXW, hX, hbB, hl1⟩ := hv
    have hx := B.exec
    have hb := B.bytes
    have hr := B.returns
    have hlocks := B.notSynchronized
    have hts := atoms_spec (ws := Cond.code y cc t.2.1 ret :: mj_tb) B.pre
    have hown : s.vm.findClass (mj_cn t.1) = some m.cls := by rw [← hcls]; exact findClass_of_methodNamed B.named
    have hnm : meth.name = y.name := (name_of_methodNamed B.named B.method).1
    have C : mj_Cx p (headSpec (Cond.code y cc t.2.1 ret :: mj_tb) (mj_rm (d + 1) (h'.1.length - h.1.length) (mj_sl h'.1 - mj_sl h.1))).room s m (as.map (mj_cv w)).toArray meth c w D L xs t.1 t.2.1 cc (y.name == "<init>") h.1.length (mj_sl h.1) h'.1.length (mj_sl h'.1) := by
      refine ⟨hx, hb, hml, hown, fun z hz => hts z (List.mem_cons_of_mem _ hz), hKv, hXW, fun hi => ?_, hX, hbB, hH.1, hl1, ?_, ?_, ?_, ?_⟩
      · rw [hnm]; exact eq_of_beq hi
      · show 1 ≤ d + 1
        omega
      · show 100 ≤ 100 * (d + 1)
        omega
      · show h'.1.length ≤ h.1.length + (h'.1.length - h.1.length)
        omega
      · show mj_sl h'.1 ≤ mj_sl h.1 + (mj_sl h'.1 - mj_sl h.1)
        omega
    have hle : (lg_sl (as.map (mj_cv w))).length ≤ t.2.1 := by rw [mj_ent_len]; exact hent
    have hl := lv_entry (as.map (mj_cv w)) hle
    rw [lg_entry_eq]
    generalize (lg_sl (as.map (mj_cv w)) ++ List.replicate (t.2.1 - (lg_sl (as.map (mj_cv w))).length) Slot.unset).toArray = ls at hl ⊢
    have hLR := mj_LR.entry w hent hl
    have S := mj_sgo (l := l) (e := e) (below := below) (Q := MQ below (mj_Qc w D L xs v h') (as.map (mj_cv w)).toArray s (h'.1.length - h.1.length) (mj_sl h'.1 - mj_sl h.1) (fun q : Addr => w.2.1 ≤ q)) C hMF (by show d + 1 ≤ d + 1 ∧ 100 * d + 100 ≤ 100 * (d + 1); omega) hcd (v := v) (h' := h') ⟨Nat.le_refl _, Nat.le_refl _⟩ ?_ n _ hgo
    · exact S s.heap [] ls 0 0 hH va_S.rf hLR rfl rfl
    · intro pc ls2 st en o hat hret ho
      obtain ⟨⟨⟨k9, hd, hk9⟩, -⟩, -⟩ := hcd pc en hat
      obtain ⟨ins, nx, dd⟩ := en
      intro H locs als cells slots hH2 hS hL hc hs
      have hc' : h.1.length + cells = h'.1.length := hc
      have hs' : mj_sl h.1 + slots = mj_sl h'.1 := hs
      obtain rfl : cells = h'.1.length - h.1.length := by omega
      obtain rfl : slots = mj_sl h'.1 - mj_sl h.1 := by omega
      have hq : ∀ (u : Option Value), u = v → ∀ t9 : State, t9.heap = H → mj_Qc w D L xs v h' (as.map (mj_cv w)).toArray s (.returned (u.map (mj_cv w))) t9 := by
        intro u hu t9 ht9
        refine ⟨by rw [hu], by rw [ht9]; exact hH2, by rw [ht9]; exact hS.1, fun q h1 h2 => by rw [ht9]; exact hS.2.1 q h1 h2⟩
      have hd' : decode cc pc = .ok (ins, k9) := hd
      simp only [mj_ret] at hret
      split at hret <;> try (cases hret; done)
      · next hrt =>
        cases hret
        have e1 : ret = none := by
          cases ret with
          | none => rfl
          | some r => rw [hrt] at hrok; cases r <;> simp [mj_rok] at hrok
        obtain ⟨rfl, -⟩ := hk9 rfl
        exact W.vret hx hb (hr.trans e1) (fun t9 ht9 _ => hq none rfl t9 ht9) hS.2.2 hd'
      · next x hrt =>
        cases hret
        have e1 : ret = some .int := by
          cases ret with
          | none => rw [hrt] at hrok; simp [mj_rok] at hrok
          | some r => rw [hrt] at hrok; cases r <;> simp [mj_rok] at hrok <;> rfl
        obtain ⟨rfl, -⟩ := hk9 rfl
        exact W.iret hx hb (hr.trans e1) (fun t9 ht9 _ => hq (some (.int x)) rfl t9 ht9) hS.2.2 hd'
      · next x hrt =>
        cases hret
        have e1 : ret = some .boolean := by
          cases ret with
          | none => rw [hrt] at hrok; simp [mj_rok] at hrok
          | some r => rw [hrt] at hrok; cases r <;> simp [mj_rok] at hrok <;> rfl
        obtain ⟨rfl, -⟩ := hk9 rfl
        have hx01 : x = 0 ∨ x = 1 := ho
        exact W.zret (ty := .boolean) hx hb (hr.trans e1) (by rcases hx01 with h0 | h0 <;> rw [h0] <;> rfl) (fun t9 ht9 _ => hq (some (.int x)) rfl t9 ht9) hS.2.2 hd'
      · next x hrt =>
        cases hret
        have e1 : ret = some .long := by
          cases ret with
          | none => rw [hrt] at hrok; simp [mj_rok] at hrok
          | some r => rw [hrt] at hrok; cases r <;> simp [mj_rok] at hrok <;> rfl
        obtain ⟨rfl, -⟩ := hk9 rfl
        exact W.lret hx hb (hr.trans e1) (fun t9 ht9 _ => hq (some (.long x)) rfl t9 ht9) hS.2.2 hd'
      · next x hrt =>
        cases hret
        obtain ⟨rfl, -⟩ := hk9 rfl
        cases ret with
        | none => rw [hrt] at hrok; simp [mj_rok] at hrok
        | some r =>
          have e1 : (∃ n, r = .object n) ∨ ∃ t, r = .array t := by
            rw [hrt] at hrok
            cases r <;> simp [mj_rok] at hrok
            · exact Or.inl ⟨_, rfl⟩
            · exact Or.inr ⟨_, rfl⟩
          exact W.aret hx hb hr e1 (Or.inr ⟨_, rfl⟩) (fun t9 ht9 _ => hq (some (.ref x)) rfl t9 ht9) hS.2.2 hd'
      · next hrt =>
        cases hret
        obtain ⟨rfl, -⟩ := hk9 rfl
        cases ret with
        | none => rw [hrt] at hrok; simp [mj_rok] at hrok
        | some r =>
          have e1 : (∃ n, r = .object n) ∨ ∃ t, r = .array t := by
            rw [hrt] at hrok
            cases r <;> simp [mj_rok] at hrok
            · exact Or.inl ⟨_, rfl⟩
            · exact Or.inr ⟨_, rfl⟩
          exact W.aret hx hb hr e1 (Or.inl rfl) (fun t9 ht9 _ => hq (some .null) rfl t9 ht9) hS.2.2 hd'
end
section
/-! the tables' check, by places of words in lw_tbl -/
def mj_wd (pos : Nat) (z : Cond) : Bool := match lw_tbl[pos]? with
  | some z' => decide (z' = z) && goodWord z
  | none => false
def mj_wx (pos : Nat) (z : Cond) : Bool := match lw_tbl[pos]? with
  | some z' => decide (z' = z) && mj_isx z
  | none => false
theorem mj_wd_in {pos : Nat} {z : Cond} (h : mj_wd pos z = true) : z ∈ mj_tb := by
  unfold mj_wd at h
  split at h <;> try (cases h; done)
  next z' hz =>
    obtain ⟨h1, h2⟩ := Bool.and_eq_true _ _ ▸ h
    have e := of_decide_eq_true h1
    subst e
    exact List.mem_filter.mpr ⟨List.mem_of_getElem? hz, h2⟩
theorem mj_wx_in {pos : Nat} {z : Cond} (h : mj_wx pos z = true) : z ∈ mj_xn := by
  unfold mj_wx at h
  split at h <;> try (cases h; done)
  next z' hz =>
    obtain ⟨h1, h2⟩ := Bool.and_eq_true _ _ ▸ h
    have e := of_decide_eq_true h1
    subst e
    exact List.mem_filter.mpr ⟨List.mem_of_getElem? hz, h2⟩
/-- a field's tag -/
def mj_cf (ps : Nat) (ref nm ds : String) (k ty t : Nat) : Bool := match vwCl[t - 10]? with
  | some (_, T, N) => Nat.ble 10 t && decide (k < N) && decide ((T k).2.1 = nm) && decide ((T k).2.2.1 = ds) && (decide ((T k).1 = ref) || mj_wd ps (.sameField ref (T k).1 nm ds)) && decide (mj_tc (mj_ty (t - 10) k) = ty)
  | none => false
/-- a link: own's number, index, places, data -/
def mj_lf (own idx : Nat) (ps d : List Nat) : Bool := match d, ps with
  | k :: ty :: cs, [p0, p1] => match lw_tbl[p0]? with
    | some (.fieldLink o i ref nm ds) => decide (o = mj_cn own) && decide (i = idx) && cs.all (mj_cf p1 ref nm ds k ty)
    | _ => false
  | _, _ => false
theorem mj_lf_ok {own idx k ty : Nat} {ps cs : List Nat} (h : mj_lf own idx ps (k :: ty :: cs) = true) : mj_VF own idx k ty cs := by
  unfold mj_lf at h
  split at h <;> try (cases h; done)
  next k' ty' cs' p0 p1 heq =>
    cases heq
    split at h <;> try (cases h; done)
    next o i ref nm ds hz =>
      simp only [Bool.and_eq_true, decide_eq_true_eq] at h
      obtain ⟨⟨h1, h2⟩, h3⟩ := h
      subst h1
      subst h2
      refine ⟨ref, nm, ds, List.mem_filter.mpr ⟨List.mem_of_getElem? hz, rfl⟩, fun t ht => ?_⟩
      have h4 := List.all_eq_true.mp h3 t ht
      unfold mj_cf at h4
      split at h4 <;> try (cases h4; done)
      next C T N hv =>
        simp only [Bool.and_eq_true, Bool.or_eq_true, decide_eq_true_eq] at h4
        obtain ⟨⟨⟨⟨⟨g1, g2⟩, g3⟩, g4⟩, g5⟩, g6⟩ := h4
        have g1 := Nat.le_of_ble_eq_true g1
        exact ⟨t - 10, C, T, N, by omega, hv, g2, g3, g4, g5.imp_right mj_wd_in, g6⟩
def mj_lp (ini : Bool) (own : Nat) (d : List Nat) : Bool := match d with
  | k :: _ :: cs => cs.all (fun t => match vwCl[t - 10]? with
    | some q => !(q.2.1 k).2.2.2 || (ini && (q.2.1 k).2.2.2 && decide ((q.2.1 k).1 = mj_cn own))
    | none => true)
  | _ => false
theorem mj_lp_ok {ini : Bool} {own idx k ty : Nat} {ps cs : List Nat} (h : mj_lf own idx ps (k :: ty :: cs) = true) (h2 : mj_lp ini own (k :: ty :: cs) = true) : mj_VP ini own idx k ty cs := by
  refine ⟨mj_lf_ok h, fun t ht ci q e hq => ?_⟩
  have h3 := List.all_eq_true.mp h2 t ht
  subst e
  simp only [Nat.add_sub_cancel, hq] at h3
  cases hf : (q.2.1 k).2.2.2 with
  | false => exact Or.inl rfl
  | true =>
    simp only [hf, Bool.not_true, Bool.false_or, Bool.and_true, Bool.and_eq_true, decide_eq_true_eq] at h3
    exact Or.inr ⟨h3.1, rfl, h3.2⟩
def mj_lc (own idx : Nat) (ps d : List Nat) : Bool := match ps with
  | [p0] => match lw_tbl[p0]? with
    | some (.constant o i v) => decide (o = mj_cn own) && decide (i = idx) && (match d with
      | [q] => decide (v = nI q)
      | _ => false)
    | _ => false
  | _ => false
theorem mj_lc_ok {own idx q : Nat} {ps : List Nat} (h : mj_lc own idx ps [q] = true) : Cond.constant (mj_cn own) idx (nI q) ∈ mj_tb := by
  unfold mj_lc at h
  split at h <;> try (cases h; done)
  split at h <;> try (cases h; done)
  next o i v hz =>
    simp only [Bool.and_eq_true, decide_eq_true_eq] at h
    obtain ⟨⟨h1, h2⟩, h3⟩ := h
    subst h1
    subst h2
    subst h3
    exact List.mem_filter.mpr ⟨List.mem_of_getElem? hz, rfl⟩
def mj_lj (own idx : Nat) (ps d : List Nat) : Bool := match ps with
  | [p0] => match lw_tbl[p0]? with
    | some (.constantLong o i v) => decide (o = mj_cn own) && decide (i = idx) && (match d with
      | [q] => decide (v = lN q)
      | _ => false)
    | _ => false
  | _ => false
theorem mj_lj_ok {own idx q : Nat} {ps : List Nat} (h : mj_lj own idx ps [q] = true) : Cond.constantLong (mj_cn own) idx (lN q) ∈ mj_tb := by
  unfold mj_lj at h
  split at h <;> try (cases h; done)
  split at h <;> try (cases h; done)
  next o i v hz =>
    simp only [Bool.and_eq_true, decide_eq_true_eq] at h
    obtain ⟨⟨h1, h2⟩, h3⟩ := h
    subst h1
    subst h2
    subst h3
    exact List.mem_filter.mpr ⟨List.mem_of_getElem? hz, rfl⟩
/-- new: [class link, instantiable, initialized], [tag, fields] -/
def mj_ln1 (own idx : Nat) (ps d : List Nat) : Bool := match d, ps with
  | [t, k], [p0, p1, p2] => match vwCl[t - 10]? with
    | some (C, _, N) => Nat.ble 10 t && decide (k = N) && mj_wd p0 (.classLink (mj_cn own) idx C) && mj_wd p1 (.instantiable C N) && mj_wd p2 (.initialized C)
    | none => false
  | _, _ => false
theorem mj_ln1_ok {own idx t k : Nat} {ps : List Nat} (h : mj_ln1 own idx ps [t, k] = true) : mj_VN own idx t k := by
  unfold mj_ln1 at h
  split at h <;> try (cases h; done)
  next t' k' p0 p1 p2 heq =>
    cases heq
    split at h <;> try (cases h; done)
    next C T N hv =>
      simp only [Bool.and_eq_true, decide_eq_true_eq] at h
      obtain ⟨⟨⟨⟨h1, h2⟩, h3⟩, h4⟩, h5⟩ := h
      have h1 := Nat.le_of_ble_eq_true h1
      exact ⟨t - 10, C, T, N, by omega, hv, h2, mj_wd_in h3, mj_wd_in h4, mj_wd_in h5⟩
/-- instanceof: the link's place, then a place for each tag (of the castable word, if there is one) -/
def mj_li1 (nm : String) : List Nat → List Nat → Bool
  | t :: b :: d, p :: ps => (match vwCl[t - 10]? with
    | some (C, _, _) => Nat.ble 10 t && ((decide (b = 1) && (decide (C = nm) || mj_wx p (.castable C nm))) || (decide (b = 0) && decide ((C, nm) ∈ mj_nc)))
    | none => false) && mj_li1 nm d ps
  | [], [] => true
  | _, _ => false
def mj_li (own idx : Nat) (ps d : List Nat) : Bool := match ps with
  | p0 :: ps => match lw_tbl[p0]? with
    | some (.classLink o i nm) => decide (o = mj_cn own) && decide (i = idx) && mj_li1 nm d ps
    | _ => false
  | _ => false
theorem mj_li1_ok {nm : String} : ∀ {d ps : List Nat}, mj_li1 nm d ps = true → ∀ t b, mj_sel t d = some b → ∃ (ci : Nat) (C : String) (T : u_T) (N : Nat), t = ci + 10 ∧ vwCl[ci]? = some (C, T, N) ∧ ((b = 1 ∧ (C = nm ∨ Cond.castable C nm ∈ mj_xn)) ∨ (b = 0 ∧ (C, nm) ∈ mj_nc))
  | t' :: b' :: d, p :: ps, h, t, b, hs => by
    unfold mj_li1 at h
    obtain ⟨h1, h2⟩ := Bool.and_eq_true _ _ ▸ h
    unfold mj_sel at hs
    split at hs
    next hb =>
      cases hs
      have e := Nat.eq_of_beq_eq_true hb
      subst e
      split at h1 <;> try (cases h1; done)
      next C T N hv =>
        simp only [Bool.and_eq_true, Bool.or_eq_true, decide_eq_true_eq] at h1
        obtain ⟨g1, g2⟩ := h1
        have g1 := Nat.le_of_ble_eq_true g1
        refine ⟨t' - 10, C, T, N, by omega, hv, ?_⟩
        rcases g2 with ⟨g2, g3⟩ | ⟨g2, g3⟩
        · exact Or.inl ⟨g2, g3.imp_right mj_wx_in⟩
        · exact Or.inr ⟨g2, g3⟩
    next => exact mj_li1_ok h2 t b hs
  | [], _, _, t, b, hs => by simp [mj_sel] at hs
  | [_], _, _, t, b, hs => by simp [mj_sel] at hs
  | _ :: _ :: _, [], h, t, b, hs => by simp [mj_li1] at h
theorem mj_li_ok {own idx : Nat} {ps d : List Nat} (h : mj_li own idx ps d = true) : mj_VI own idx d := by
  unfold mj_li at h
  split at h <;> try (cases h; done)
  split at h <;> try (cases h; done)
  next o i nm hz =>
    simp only [Bool.and_eq_true, decide_eq_true_eq] at h
    obtain ⟨⟨h1, h2⟩, h3⟩ := h
    subst h1
    subst h2
    exact ⟨nm, List.mem_filter.mpr ⟨List.mem_of_getElem? hz, rfl⟩, mj_li1_ok h3⟩
/-- calls: static [link, static, initialized], a constructor [link, instance, initialized] -/
def mj_lnk (own idx p0 : Nat) (y : MethodName) : Bool := mj_wd p0 (.methodLink (mj_cn own) idx y) || (match lw_tbl[p0]? with
  | some (.methodLinkNest o i y' _) => decide (o = mj_cn own) && decide (i = idx) && decide (y' = y)
  | _ => false)
theorem mj_lnk_ok {own idx p0 : Nat} {y : MethodName} (h : mj_lnk own idx p0 y = true) : Cond.methodLink (mj_cn own) idx y ∈ mj_tb ∨ ∃ host, Cond.methodLinkNest (mj_cn own) idx y host ∈ mj_xn := by
  unfold mj_lnk at h
  rcases Bool.or_eq_true _ _ ▸ h with h | h
  · exact Or.inl (mj_wd_in h)
  · right
    split at h <;> try (cases h; done)
    next o i y' host hz =>
      simp only [Bool.and_eq_true, decide_eq_true_eq] at h
      obtain ⟨⟨h1, h2⟩, h3⟩ := h
      subst h1
      subst h2
      subst h3
      exact ⟨host, List.mem_filter.mpr ⟨List.mem_of_getElem? hz, rfl⟩⟩
def mj_YOK (Y : mjY) : Prop := ∀ (k : Nat) (y : MethodName) (cc : ByteArray) (mL : Nat) (ret : Option FieldType), Y[k]? = some (y, cc, mL, ret) → y.name ≠ "law" → Cond.code y cc mL ret ∈ mj_tb ∧ mL ≤ 70
def mj_ls (Y : mjY) (own idx : Nat) (ps d : List Nat) : Bool := match d, ps with
  | [0, n, k], [p0, p1, p2] => match Y[k]? with
    | some (y, _, _, _) => decide (y.name ≠ "law") && mj_lnk own idx p0 y && mj_wd p1 (.static y) && mj_wd p2 (.initialized y.cls) && decide (mj_hd y n)
    | none => false
  | [6], [p0] => mj_wd p0 (.methodLink (mj_cn own) idx arraycopyName)
  | _, _ => false
def mj_lo (Y : mjY) (own idx : Nat) (ps d : List Nat) : Bool := match d, ps with
  | [2, n, k], [p0, p1, p2] => match Y[k]? with
    | some (y, _, _, none) => decide (y.name = "<init>") && mj_lnk own idx p0 y && mj_wd p1 (.instanceMethod y) && mj_wd p2 (.initialized y.cls) && decide (mj_hd y n)
    | _ => false
  | [5], [p0] => mj_wd p0 (.methodLink (mj_cn own) idx objectInit)
  | _, _ => false
theorem mj_ls_ok {Y : mjY} (hY : mj_YOK Y) {own idx : Nat} {ps d : List Nat} (h : mj_ls Y own idx ps d = true) : mj_VC Y own (.invokestatic idx) d ∧ (d = [6] → Cond.methodLink (mj_cn own) idx arraycopyName ∈ mj_tb) := by
  unfold mj_ls at h
  split at h <;> try (cases h; done)
  next n k p0 p1 p2 =>
    refine ⟨fun n' k' e => ?_, fun e => by cases e⟩
    cases e
    split at h <;> try (cases h; done)
    next y cc mL ret hy =>
      simp only [Bool.and_eq_true, decide_eq_true_eq] at h
      obtain ⟨⟨⟨⟨h0, h1⟩, h2⟩, h3⟩, h4⟩ := h
      obtain ⟨g1, g2⟩ := hY k y cc mL ret hy h0
      exact ⟨y, cc, mL, ret, hy, g1, g2, mj_lnk_ok h1, mj_wd_in h2, mj_wd_in h3, h4⟩
  next p0 =>
    exact ⟨fun n' k' e => by (cases e), fun _ => mj_wd_in h⟩
theorem mj_lo_ok {Y : mjY} (hY : mj_YOK Y) {own idx : Nat} {ps d : List Nat} (h : mj_lo Y own idx ps d = true) : mj_VC Y own (.invokespecial idx) d ∧ (d = [5] → Cond.methodLink (mj_cn own) idx objectInit ∈ mj_tb) := by
  unfold mj_lo at h
  split at h <;> try (cases h; done)
  next n k p0 p1 p2 =>
    refine ⟨fun n' k' e => ?_, fun e => by cases e⟩
    cases e
    split at h <;> try (cases h; done)
    next y cc mL hy =>
      simp only [Bool.and_eq_true, decide_eq_true_eq] at h
      obtain ⟨⟨⟨⟨h0, h1⟩, h2⟩, h3⟩, h4⟩ := h
      obtain ⟨g1, g2⟩ := hY k y cc mL none hy (by rw [h0]; decide)
      exact ⟨y, cc, mL, hy, g1, g2, mj_lnk_ok h1, mj_wd_in h2, mj_wd_in h3, h4, h0⟩
  next p0 =>
    exact ⟨fun n' k' e => by (cases e), fun _ => mj_wd_in h⟩
/-- a virtual call: the link's place, then for each tag seven places: instance, initialized, selects, same, instance of the named, code of the named -/
def mj_lv1 (Y : mjY) (x : MethodName) (n : Nat) : List Nat → List Nat → Bool
  | t :: k :: d, p1 :: p2 :: p3 :: p4 :: p5 :: p6 :: ps => (match vwCl[t - 10]?, Y[k]? with
    | some (C, _, _), some (y, _, _, _) => Nat.ble 10 t && decide (y.name ≠ "law") && mj_wd p1 (.instanceMethod y) && mj_wd p2 (.initialized y.cls) && mj_wd p3 (.selects C x y) && (decide (x = y) || (mj_wd p4 (.sameMethod x.cls x.cls x.name x.desc) && mj_wd p5 (.instanceMethod x) && (match lw_tbl[p6]? with
      | some (.code x' _ _ _) => decide (x' = x)
      | _ => false)))
    | _, _ => false) && mj_lv1 Y x n d ps
  | [], [] => true
  | _, _ => false
def mj_lvt (Y : mjY) (own idx : Nat) (ps d : List Nat) : Bool := match d, ps with
  | 1 :: n :: ts, p0 :: ps => match lw_tbl[p0]? with
    | some (.methodLink o i x) => decide (o = mj_cn own) && decide (i = idx) && decide (mj_hd x n) && mj_lv1 Y x n ts ps
    | _ => false
  | _, _ => false
theorem mj_lv1_ok {Y : mjY} (hY : mj_YOK Y) {x : MethodName} {n own i : Nat} (hx : Cond.methodLink (mj_cn own) i x ∈ mj_tb) (hn : mj_hd x n) : ∀ {d ps : List Nat}, mj_lv1 Y x n d ps = true → ∀ t k, mj_sel t d = some k → ∃ (ci : Nat) (C : String) (T : u_T) (N : Nat) (y : MethodName) (cc : ByteArray) (mL : Nat) (ret : Option FieldType), t = ci + 10 ∧ vwCl[ci]? = some (C, T, N) ∧ Y[k]? = some (y, cc, mL, ret) ∧ Cond.code y cc mL ret ∈ mj_tb ∧ mL ≤ 70 ∧ Cond.instanceMethod y ∈ mj_tb ∧ Cond.initialized y.cls ∈ mj_tb ∧ ((Cond.methodLink (mj_cn own) i y ∈ mj_tb ∧ Cond.selects C y y ∈ mj_tb ∧ mj_hd y n) ∨ ∃ (x : MethodName) (b0 : ByteArray) (m0 : Nat) (r0 : Option FieldType), Cond.methodLink (mj_cn own) i x ∈ mj_tb ∧ Cond.sameMethod x.cls x.cls x.name x.desc ∈ mj_tb ∧ Cond.instanceMethod x ∈ mj_tb ∧ Cond.code x b0 m0 r0 ∈ mj_tb ∧ Cond.selects C x y ∈ mj_tb ∧ mj_hd x n)
  | t' :: k' :: d, p1 :: p2 :: p3 :: p4 :: p5 :: p6 :: ps, h, t, k, hs => by
    unfold mj_lv1 at h
    obtain ⟨h1, h2⟩ := Bool.and_eq_true _ _ ▸ h
    unfold mj_sel at hs
    split at hs
    next hb =>
      cases hs
      have e := Nat.eq_of_beq_eq_true hb
      subst e
      split at h1 <;> try (cases h1; done)
      next C T N y cc mL ret hv hy =>
        simp only [Bool.and_eq_true, Bool.or_eq_true, decide_eq_true_eq] at h1
        obtain ⟨⟨⟨⟨⟨g1, g2⟩, g3⟩, g4⟩, g5⟩, g6⟩ := h1
        have g1 := Nat.le_of_ble_eq_true g1
        obtain ⟨q1, q2⟩ := hY _ y cc mL ret hy g2
        refine ⟨t' - 10, C, T, N, y, cc, mL, ret, by omega, hv, hy, q1, q2, mj_wd_in g3, mj_wd_in g4, ?_⟩
        rcases g6 with g6 | ⟨⟨g6, g7⟩, g8⟩
        · subst g6
          exact Or.inl ⟨hx, mj_wd_in g5, hn⟩
        · split at g8 <;> try (cases g8; done)
          next x' b0 m0 r0 hz =>
            have e9 := of_decide_eq_true g8
            subst e9
            exact Or.inr ⟨x', b0, m0, r0, hx, mj_wd_in g6, mj_wd_in g7, List.mem_filter.mpr ⟨List.mem_of_getElem? hz, rfl⟩, mj_wd_in g5, hn⟩
    next => exact mj_lv1_ok hY hx hn h2 t k hs
  | [], _, _, t, b, hs => by simp [mj_sel] at hs
  | [_], _, _, t, b, hs => by simp [mj_sel] at hs
  | _ :: _ :: _, [], h, t, b, hs => by simp [mj_lv1] at h
  | _ :: _ :: _, [_], h, t, b, hs => by simp [mj_lv1] at h
  | _ :: _ :: _, [_, _], h, t, b, hs => by simp [mj_lv1] at h
  | _ :: _ :: _, [_, _, _], h, t, b, hs => by simp [mj_lv1] at h
  | _ :: _ :: _, [_, _, _, _], h, t, b, hs => by simp [mj_lv1] at h
  | _ :: _ :: _, [_, _, _, _, _], h, t, b, hs => by simp [mj_lv1] at h
theorem mj_lvt_ok {Y : mjY} (hY : mj_YOK Y) {own idx : Nat} {ps d : List Nat} (h : mj_lvt Y own idx ps d = true) : mj_VC Y own (.invokevirtual idx) d := by
  unfold mj_lvt at h
  split at h <;> try (cases h; done)
  next n ts p0 ps' =>
    split at h <;> try (cases h; done)
    next o i x hz =>
      simp only [Bool.and_eq_true, decide_eq_true_eq] at h
      obtain ⟨⟨⟨h1, h2⟩, h3⟩, h4⟩ := h
      subst h1
      subst h2
      intro n' ts' e
      cases e
      exact mj_lv1_ok hY (List.mem_filter.mpr ⟨List.mem_of_getElem? hz, rfl⟩) h3 h4
end
section
abbrev mjX : Type := List (Nat × Nat × List Nat × List Nat)
def mj_lchk (Y : mjY) (own : Nat) : Nat × Nat × List Nat × List Nat → Bool
  | (0, idx, ps, d) => mj_lf own idx ps d
  | (1, idx, ps, d) => mj_lc own idx ps d
  | (2, idx, ps, d) => mj_lj own idx ps d
  | (3, idx, ps, d) => mj_ln1 own idx ps d
  | (4, idx, ps, d) => mj_li own idx ps d
  | (5, idx, ps, d) => mj_ls Y own idx ps d
  | (6, idx, ps, d) => mj_lo Y own idx ps d
  | (7, idx, ps, d) => mj_lvt Y own idx ps d
  | (8, idx, ps, _) => (match ps with
    | [p0] => mj_wd p0 (.classLink (mj_cn own) idx "PointsThrow$Point")
    | _ => false)
  | (9, idx, ps, _) => (match ps with
    | [p0] => mj_wd p0 (.classLink (mj_cn own) idx "[[I")
    | _ => false)
  | _ => false
def mj_has (X : Nat → mjX) (own kind idx : Nat) (d : List Nat) : Bool := (X own).any (fun x => x.1 == kind && x.2.1 == idx && x.2.2.2 == d)
theorem mj_has_ok {Y : mjY} {X : Nat → mjX} (hX : ∀ own, (X own).all (mj_lchk Y own) = true) {own kind idx : Nat} {d : List Nat} (h : mj_has X own kind idx d = true) : ∃ ps, mj_lchk Y own (kind, idx, ps, d) = true := by
  obtain ⟨x, hx, h1⟩ := List.any_eq_true.mp h
  simp only [Bool.and_eq_true, beq_iff_eq] at h1
  obtain ⟨⟨h1, h2⟩, h3⟩ := h1
  have h4 := List.all_eq_true.mp (hX own) x hx
  obtain ⟨a, b, ps, q⟩ := x
  simp only at h1 h2 h3
  subst h1
  subst h2
  subst h3
  exact ⟨ps, h4⟩
def mj_lkb (pc : Nat) (df : Int) (t : Nat) : List (Int × Int) → List Nat → Bool
  | [], [] => decide ((pc : Int) + df = t)
  | (a, b) :: ps, k :: q :: ts => decide (a = k) && decide (k < 2 ^ 31) && decide ((pc : Int) + b = q) && mj_lkb pc df t ps ts
  | _, _ => false
theorem mj_lkb_ok {pc : Nat} {df : Int} {t : Nat} : ∀ {ps : List (Int × Int)} {ts : List Nat}, mj_lkb pc df t ps ts = true → mj_lkc pc df t ps ts
  | [], [], h => by
    have h9 : (pc : Int) + df = t := of_decide_eq_true (show decide ((pc : Int) + df = t) = true from h)
    exact h9
  | (a, b) :: ps, k :: q :: ts, h => by
    simp only [mj_lkb, Bool.and_eq_true, decide_eq_true_eq] at h
    obtain ⟨⟨⟨h1, h2⟩, h3⟩, h4⟩ := h
    exact ⟨h1, h2, h3, mj_lkb_ok h4⟩
  | [], _ :: _, h => by simp [mj_lkb] at h
  | (_, _) :: _, [], h => by simp [mj_lkb] at h
  | (_, _) :: _, [_], h => by simp [mj_lkb] at h
def mj_c1 (d : List Nat) (v : Int32) : Bool := match d with
  | [k] => decide (v = nI k)
  | _ => true
def mj_c2 (pc : Nat) (off : Int) (d : List Nat) : Bool := match d with
  | [t] => decide ((pc : Int) + off = (t : Int))
  | _ => false
theorem mj_c1_ok {d : List Nat} {v : Int32} (h : mj_c1 d v = true) : ∀ k, d = [k] → v = nI k := fun k e => by
  subst e
  exact of_decide_eq_true h
theorem mj_c2_ok {pc : Nat} {off : Int} {d : List Nat} (h : mj_c2 pc off d = true) : ∀ t, d = [t] → (pc : Int) + off = (t : Int) := fun k e => by
  subst e
  exact of_decide_eq_true h
def mj_vd (X : Nat → mjX) (ini : Bool) (own pc : Nat) (ins : Instr) (d : List Nat) : Bool := match ins with
  | .iconst i => mj_c1 d (Int32.ofInt i)
  | .bipush i => mj_c1 d (Int8.ofInt i).toInt32
  | .sipush i => mj_c1 d (Int16.ofInt i).toInt32
  | .ldc i => mj_has X own 1 i d
  | .ldc_w i => mj_has X own 1 i d
  | .ldc2_w i => mj_has X own 2 i d
  | .iinc _ k => mj_c1 d (Int32.ofInt k)
  | .goto off => mj_c2 pc off d
  | .ifnull off => mj_c2 pc off d
  | .ifnonnull off => mj_c2 pc off d
  | .ifCond _ off => mj_c2 pc off d
  | .if_icmp _ off => mj_c2 pc off d
  | .tableswitch df lo hi offs => (match d with
    | t :: ts => decide ((pc : Int) + df = (t : Int)) && decide (ts.length = offs.size) && decide (hi = lo + offs.size - 1) && (ts.zip offs.toList).all (fun q => decide ((pc : Int) + q.2 = (q.1 : Int)))
    | _ => false)
  | .lookupswitch df ps => (match d with
    | t :: ts => (ps.toList.zip (ps.toList.drop 1)).all (fun (a, next) => a.1 < next.1) && mj_lkb pc df t ps.toList ts
    | _ => false)
  | .getfield i => mj_has X own 0 i d
  | .putfield i => mj_has X own 0 i d && mj_lp ini own d
  | .anewarray i => mj_has X own 8 i d
  | .multianewarray i k => decide (k = 2) && mj_has X own 9 i d
  | .new i => mj_has X own 3 i d
  | .instanceof i => mj_has X own 4 i d
  | .aastore => decide (d = [14, 11, 12, 18])
  | .invokestatic i => mj_has X own 5 i d
  | .invokespecial i => mj_has X own 6 i d
  | .invokevirtual i => mj_has X own 7 i d
  | _ => true
theorem mj_vd_ok {Y : mjY} {X : Nat → mjX} (hY : mj_YOK Y) (hX : ∀ own, (X own).all (mj_lchk Y own) = true) {ini : Bool} {own pc n : Nat} {ins : Instr} {d : List Nat} (h : mj_vd X ini own pc ins d = true) : mj_VD ini own pc n ins d ∧ mj_VC Y own ins d := by
  cases ins with
  | iconst i => exact ⟨mj_c1_ok h, trivial⟩
  | bipush i => exact ⟨mj_c1_ok h, trivial⟩
  | sipush i => exact ⟨mj_c1_ok h, trivial⟩
  | ldc i =>
    obtain ⟨ps, h1⟩ := mj_has_ok hX h
    exact ⟨fun v e => by subst e; exact mj_lc_ok h1, trivial⟩
  | ldc_w i =>
    obtain ⟨ps, h1⟩ := mj_has_ok hX h
    exact ⟨fun v e => by subst e; exact mj_lc_ok h1, trivial⟩
  | ldc2_w i =>
    obtain ⟨ps, h1⟩ := mj_has_ok hX h
    exact ⟨fun v e => by subst e; exact mj_lj_ok h1, trivial⟩
  | iinc i k => exact ⟨mj_c1_ok h, trivial⟩
  | goto off => exact ⟨mj_c2_ok h, trivial⟩
  | ifnull off => exact ⟨mj_c2_ok h, trivial⟩
  | ifnonnull off => exact ⟨mj_c2_ok h, trivial⟩
  | ifCond cn off => exact ⟨mj_c2_ok h, trivial⟩
  | if_icmp cn off => exact ⟨mj_c2_ok h, trivial⟩
  | tableswitch df lo hi offs =>
    refine ⟨fun t ts e => ?_, trivial⟩
    subst e
    simp only [mj_vd, Bool.and_eq_true, decide_eq_true_eq] at h
    obtain ⟨⟨⟨h1, h2⟩, h3⟩, h4⟩ := h
    refine ⟨h1, h2, h3, fun j q hj => ?_⟩
    have hlt : j < offs.size := by rw [← h2]; exact (List.getElem?_eq_some_iff.mp hj).1
    refine ⟨offs[j], by simp [hlt], ?_⟩
    have hz : (ts.zip offs.toList)[j]? = some (q, offs[j]) := by
      rw [List.getElem?_zip_eq_some]
      exact ⟨hj, by simp [hlt]⟩
    have h9 := List.all_eq_true.mp h4 _ (List.mem_of_getElem? hz)
    simpa using h9
  | lookupswitch df ps =>
    refine ⟨fun t ts e => ?_, trivial⟩
    subst e
    simp only [mj_vd, Bool.and_eq_true] at h
    exact ⟨h.1, mj_lkb_ok h.2⟩
  | getfield i =>
    obtain ⟨ps, h1⟩ := mj_has_ok hX h
    exact ⟨fun k ty cs e => by subst e; exact mj_lf_ok h1, trivial⟩
  | putfield i =>
    simp only [mj_vd, Bool.and_eq_true] at h
    obtain ⟨ps, h1⟩ := mj_has_ok hX h.1
    exact ⟨fun k ty cs e => by subst e; exact mj_lp_ok h1 h.2, trivial⟩
  | anewarray i =>
    obtain ⟨ps, h1⟩ := mj_has_ok hX h
    simp only [mj_lchk] at h1
    split at h1 <;> try (cases h1; done)
    exact ⟨mj_wd_in h1, trivial⟩
  | multianewarray i k =>
    simp only [mj_vd, Bool.and_eq_true, decide_eq_true_eq] at h
    obtain ⟨ps, h1⟩ := mj_has_ok hX h.2
    simp only [mj_lchk] at h1
    split at h1 <;> try (cases h1; done)
    exact ⟨⟨h.1, mj_wd_in h1⟩, trivial⟩
  | new i =>
    obtain ⟨ps, h1⟩ := mj_has_ok hX h
    exact ⟨fun t k e => by subst e; exact mj_ln1_ok h1, trivial⟩
  | instanceof i =>
    obtain ⟨ps, h1⟩ := mj_has_ok hX h
    exact ⟨mj_li_ok h1, trivial⟩
  | aastore =>
    have h9 : d = [14, 11, 12, 18] := of_decide_eq_true (show decide (d = [14, 11, 12, 18]) = true from h)
    exact ⟨h9, trivial⟩
  | invokestatic i =>
    obtain ⟨ps, h1⟩ := mj_has_ok hX h
    obtain ⟨g1, g2⟩ := mj_ls_ok hY h1
    exact ⟨g2, g1⟩
  | invokespecial i =>
    obtain ⟨ps, h1⟩ := mj_has_ok hX h
    obtain ⟨g1, g2⟩ := mj_lo_ok hY h1
    exact ⟨g2, g1⟩
  | invokevirtual i =>
    obtain ⟨ps, h1⟩ := mj_has_ok hX h
    exact ⟨trivial, mj_lvt_ok hY h1⟩
  | _ => exact ⟨trivial, trivial⟩
def mj_ve (X : Nat → mjX) (ini : Bool) (own : Nat) (cc : ByteArray) (pc : Nat) (en : mjE) : Bool := (match decode cc pc with
  | .ok (i, k) => decide (i = en.1) && (mj_isw en.1 || (decide (k = mj_ln en.1) && decide (en.2.1 = pc + mj_ln en.1)))
  | _ => false) && mj_vd X ini own pc en.1 en.2.2
def mj_vc (X : Nat → mjX) (ini : Bool) (own : Nat) (cc : ByteArray) : Nat → List (Option mjE) → Bool
  | _, [] => true
  | pc, none :: xs => mj_vc X ini own cc (pc + 1) xs
  | pc, some e :: xs => mj_ve X ini own cc pc e && mj_vc X ini own cc (pc + 1) xs
theorem mj_ve_ok {Y : mjY} {X : Nat → mjX} (hY : mj_YOK Y) (hX : ∀ own, (X own).all (mj_lchk Y own) = true) {ini : Bool} {own : Nat} {cc : ByteArray} {pc : Nat} {en : mjE} (h : mj_ve X ini own cc pc en = true) : mj_VE ini own cc pc en ∧ mj_VC Y own en.1 en.2.2 := by
  obtain ⟨h1, h2⟩ := Bool.and_eq_true _ _ ▸ h
  obtain ⟨g1, g2⟩ := mj_vd_ok hY hX (n := en.2.1) h2
  refine ⟨⟨?_, g1⟩, g2⟩
  split at h1 <;> try (cases h1; done)
  next i k hd =>
    simp only [Bool.and_eq_true, Bool.or_eq_true, decide_eq_true_eq] at h1
    obtain ⟨e1, e2⟩ := h1
    subst e1
    refine ⟨k, hd, fun hw => ?_⟩
    rcases e2 with e2 | e2
    · rw [hw] at e2; cases e2
    · exact e2
theorem mj_vc_ok {Y : mjY} {X : Nat → mjX} (hY : mj_YOK Y) (hX : ∀ own, (X own).all (mj_lchk Y own) = true) {ini : Bool} {own : Nat} {cc : ByteArray} : ∀ (pc : Nat) (cd : List (Option mjE)), mj_vc X ini own cc pc cd = true → ∀ i en, mj_at i cd = some en → mj_VE ini own cc (pc + i) en ∧ mj_VC Y own en.1 en.2.2
  | _, [], _, i, en, h => by simp [mj_at] at h
  | pc, none :: xs, hv, i, en, h => by
    cases i with
    | zero => simp [mj_at] at h
    | succ i =>
      have := mj_vc_ok hY hX (pc + 1) xs hv i en h
      rwa [show pc + 1 + i = pc + (i + 1) by omega] at this
  | pc, some e :: xs, hv, i, en, h => by
    obtain ⟨h1, h2⟩ := Bool.and_eq_true _ _ ▸ hv
    cases i with
    | zero =>
      have e9 : e = en := by simpa [mj_at] using h
      subst e9
      exact mj_ve_ok hY hX h1
    | succ i =>
      have := mj_vc_ok hY hX (pc + 1) xs h2 i en h
      rwa [show pc + 1 + i = pc + (i + 1) by omega] at this
/-- one method -/
def mj_vm (X : Nat → mjX) (P : List mjT) (Y : mjY) (k : Nat) : Bool := match P[k]?, Y[k]? with
  | some (own, mL, rt, cd), some (y, cc, mL', ret) => plainFor y && decide (y.cls = mj_cn own) && decide (mL = mL') && mj_rok rt ret && mj_vc X (y.name == "<init>") own cc 0 cd
  | none, _ => true
  | _, _ => false
theorem mj_vm_ok {Y : mjY} {X : Nat → mjX} {P : List mjT} (hY : mj_YOK Y) (hX : ∀ own, (X own).all (mj_lchk Y own) = true) (h : ∀ k, k < P.length → mj_vm X P Y k = true) : mj_VPg P Y := by
  intro k t ht
  have hk := h k (List.getElem?_eq_some_iff.mp ht).1
  unfold mj_vm at hk
  rw [ht] at hk
  obtain ⟨own, mL, rt, cd⟩ := t
  split at hk
  · next own' mL' rt' cd' y cc mL2 ret e1 e2 =>
      cases e1
      simp only [Bool.and_eq_true, decide_eq_true_eq] at hk
      obtain ⟨⟨⟨⟨h1, h2⟩, h3⟩, h4⟩, h5⟩ := hk
      subst h3
      refine ⟨y, cc, ret, e2, h1, h2, h4, fun pc en hat => ?_⟩
      have := mj_vc_ok hY hX 0 cd h5 pc en hat
      rwa [Nat.zero_add] at this
  · next e1 => cases e1
  · cases hk
end
section
def mj_Y : mjY := [(yX0_init, cX0_init, 1, none), (yX0_search, cX0_search, 5, some .boolean), (yX0_follow, cX0_follow, 12, none), (yX0_choose, cX0_choose, 11, none), (yX0_keepIfBetter, cX0_keepIfBetter, 2, none), (yX0_isChosenFirst, cX0_isChosenFirst, 2, some .boolean), (yX1_init, cX1_init, 2, none), (yX1_kind, cX1_kind, 1, some .int), (yX1_period, cX1_period, 1, some .int), (yX2_init, cX2_init, 2, none), (yX2_kind, cX2_kind, 1, some .int), (yX2_standCount, cX2_standCount, 1, some .int), (yX2_wayAt, cX2_wayAt, 2, some .int), (yX2_firstStandAt, cX2_firstStandAt, 2, some .int), (yX2_period, cX2_period, 1, some .int), (yX3_init, cX3_init, 1, none), (yX3_append, cX3_append, 5, some .int), (yX3_wipe, cX3_wipe, 2, some .int), (yX3_faultPlace, cX3_faultPlace, 6, some .int), (yX3_read, cX3_read, 6, some (.object "PointsThrow$Yard")), (yX3_switchCount, cX3_switchCount, 3, some .int), (yX3_endFrom, cX3_endFrom, 3, some .int), (yX3_pointIn, cX3_pointIn, 7, some (.object "PointsThrow$Point")), (yX3_codeIn, cX3_codeIn, 3, some .int), (yX3_lettersIn, cX3_lettersIn, 5, some .int), (yX3_kindOf, cX3_kindOf, 1, some .int), (yX3_placeOf, cX3_placeOf, 1, some .int), (yX4_init, cX4_init, 2, none), (yX4_kind, cX4_kind, 1, some .int), (yX4_standCount, cX4_standCount, 1, some .int), (yX4_wayAt, cX4_wayAt, 2, some .int), (yX4_firstStandAt, cX4_firstStandAt, 2, some .int), (yX4_period, cX4_period, 1, some .int), (yX4_turned, cX4_turned, 4, some .int), (yX4_placeBy, cX4_placeBy, 2, some .int), (yX4_canTurn, cX4_canTurn, 1, some .boolean), (yX5_init, cX5_init, 1, none), (yX5_send, cX5_send, 5, some .int), (yX5_roundOf, cX5_roundOf, 6, some .int), (yX5_roll, cX5_roll, 5, some .int), (yX5_isAsAhead, cX5_isAsAhead, 3, some .boolean), (yX6_init, cX6_init, 1, none), (yX6_reset, cX6_reset, 1, none), (yX6_copyFrom, cX6_copyFrom, 2, none), (yX6_put, cX6_put, 2, none), (yX6_trucksIn, cX6_trucksIn, 4, some .int), (yX6_truckIn, cX6_truckIn, 5, some .int), (yX7_init, cX7_init, 2, none), (yX7_watch, cX7_watch, 7, none), (yX7_trucksToNotice, cX7_trucksToNotice, 3, some .int), (yX7_trucksToTellApart, cX7_trucksToTellApart, 4, some .int), (yX7_orNone, cX7_orNone, 2, some .int), (yX7_fillStops, cX7_fillStops, 6, none), (yX7_firstDifference, cX7_firstDifference, 3, some .int), (yX8_init, cX8_init, 2, none), (yX8_kind, cX8_kind, 1, some .int), (yX8_standCount, cX8_standCount, 1, some .int), (yX8_wayAt, cX8_wayAt, 2, some .int), (yX9_init, cX9_init, 1, none), (yX9_fewest, cX9_fewest, 9, some .int), (yX9_encode, cX9_encode, 5, some .int), (yX9_makeRoom, cX9_makeRoom, 2, none), (yX9_leave, cX9_leave, 12, none), (yX9_goOn, cX9_goOn, 8, none), (yX9_offer, cX9_offer, 5, none), (yX9_startNext, cX9_startNext, 3, none), (yX10_init, cX10_init, 4, none), (yX10_pass, cX10_pass, 5, some .int), (yX10_placeFrom, cX10_placeFrom, 4, some .int), (yX10_standAfter, cX10_standAfter, 4, some .int), (yX10_canLead, cX10_canLead, 3, some .boolean), (yX10_tellStands, cX10_tellStands, 5, none), (yX10_tellSidings, cX10_tellSidings, 8, none), (yX10_countOn, cX10_countOn, 5, none), (yX10_countBack, cX10_countBack, 5, none), (yX10_startCount, cX10_startCount, 2, none), (yX10_share, cX10_share, 7, none), (yX10_nextOf, cX10_nextOf, 8, some .int), (yX10_reachedFrom, cX10_reachedFrom, 4, some .int), (yX10_hasLoop, cX10_hasLoop, 3, some .boolean), (yX10_ordered, cX10_ordered, 6, some (.array .int)), (yX11_init, cX11_init, 1, none), (yX11_letters, cX11_letters, 3, some .int), (yX11_blank, cX11_blank, 1, some .int), (yX11_fault, cX11_fault, 1, some .int), (yX11_yard, cX11_yard, 2, some .int), (yX11_about, cX11_about, 5, some .int), (yX11_as, cX11_as, 3, some .int), (yX11_lever, cX11_lever, 5, some .int), (yX11_anew, cX11_anew, 2, some .int), (yX11_down, cX11_down, 2, some .int), (yX11_many, cX11_many, 2, some .int), (yX11_truck, cX11_truck, 3, some .int), (yX11_moves, cX11_moves, 1, some .int), (yX11_round, cX11_round, 1, some .int), (yX11_straight, cX11_straight, 1, some .int), (yX11_nth, cX11_nth, 3, some .int), (yX11_behind, cX11_behind, 4, some .int), (yX11_ago, cX11_ago, 4, some .int), (yX11_want, cX11_want, 2, some .int), (yX11_clear, cX11_clear, 2, some .int), (yX11_begin, cX11_begin, 2, some .int), (yX11_hands, cX11_hands, 1, some .int), (yX11_empty, cX11_empty, 2, some .int), (yX11_which, cX11_which, 3, some .int), (yX11_noticed, cX11_noticed, 1, some .int), (yX11_apart, cX11_apart, 1, some .int), (yX11_image, cX11_image, 1, some .int), (yX11_restore, cX11_restore, 1, some .int), (yX11_count, cX11_count, 2, some .int), (yX11_digest, cX11_digest, 4, some .long), (yX11_digestOfSwitches, cX11_digestOfSwitches, 8, some .long), (yX11_digestOfSidings, cX11_digestOfSidings, 8, some .long), (yX11_digestOfTrials, cX11_digestOfTrials, 6, some .long), (yX11_isPoint, cX11_isPoint, 2, some .boolean), (yX11_isStraightYard, cX11_isStraightYard, 1, some .boolean), (yX11_mayPlan, cX11_mayPlan, 1, some .boolean), (yX11_spareStands, cX11_spareStands, 1, some (.array .int)), (yX11_findEmptyAhead, cX11_findEmptyAhead, 4, none), (yX11_isExplainedBy, cX11_isExplainedBy, 4, some .boolean), (yX11_isSiding, cX11_isSiding, 1, some .boolean), (yX11_canBeTakenAs, cX11_canBeTakenAs, 2, some .boolean), (yX12_init, cX12_init, 1, none), (yX12_in, cX12_in, 6, some .boolean), (yX12_letters, cX12_letters, 9, some .int), (yX12_blank, cX12_blank, 2, some .int), (yX12_signOf, cX12_signOf, 1, some .int), (yX12_go, cX12_go, 4, some .boolean), (yX12_faultOf, cX12_faultOf, 2, some .int), (yX12_fault, cX12_fault, 1, some .int), (yX12_yard, cX12_yard, 3, some .int), (yX12_isPoint, cX12_isPoint, 2, some .boolean), (yX12_lacks, cX12_lacks, 1, some .boolean), (yX12_standMany, cX12_standMany, 3, some .int), (yX12_wayAt, cX12_wayAt, 4, some .int), (yX12_turned, cX12_turned, 3, some .int), (yX12_aboutOf, cX12_aboutOf, 3, some .int), (yX12_about, cX12_about, 3, some .int), (yX12_as, cX12_as, 4, some .int), (yX12_leastStand, cX12_leastStand, 4, some .int), (yX12_lever, cX12_lever, 4, some .int), (yX12_anew, cX12_anew, 3, some .int), (yX12_layTried, cX12_layTried, 2, none), (yX12_move, cX12_move, 3, none), (yX12_goTruck, cX12_goTruck, 3, some .int), (yX12_down, cX12_down, 3, some .int), (yX12_manyIn, cX12_manyIn, 4, some .int), (yX12_many, cX12_many, 2, some .int), (yX12_truck, cX12_truck, 5, some .int), (yX12_movesOf, cX12_movesOf, 2, some .int), (yX12_moves, cX12_moves, 1, some .int), (yX12_round, cX12_round, 5, some .int), (yX12_reach, cX12_reach, 7, some .int), (yX12_isStraight, cX12_isStraight, 4, some .boolean), (yX12_straight, cX12_straight, 1, some .int), (yX12_isReady, cX12_isReady, 6, some .boolean), (yX12_send, cX12_send, 9, none), (yX12_layBehind, cX12_layBehind, 8, none), (yX12_nth, cX12_nth, 2, some .int), (yX12_behind, cX12_behind, 3, some .int), (yX12_ago, cX12_ago, 3, some .int), (yX12_want, cX12_want, 2, some .int), (yX12_clear, cX12_clear, 2, some .int), (yX12_isTrue, cX12_isTrue, 4, some .boolean), (yX12_standsInAll, cX12_standsInAll, 3, some .int), (yX12_layStands, cX12_layStands, 4, none), (yX12_codeOf, cX12_codeOf, 3, some .int), (yX12_begin, cX12_begin, 8, some .int), (yX12_throwAll, cX12_throwAll, 9, none), (yX12_hands, cX12_hands, 5, some .int), (yX12_emptyOf, cX12_emptyOf, 3, some .int), (yX12_empty, cX12_empty, 2, some .int), (yX12_which, cX12_which, 3, some .int), (yX12_doesTurn, cX12_doesTurn, 3, some .boolean), (yX12_layGoes, cX12_layGoes, 3, none), (yX12_unlike, cX12_unlike, 4, some .int), (yX12_noticedOf, cX12_noticedOf, 7, some .int), (yX12_noticed, cX12_noticed, 1, some .int), (yX12_apart, cX12_apart, 1, some .int), (yX12_image, cX12_image, 2, some .int), (yX12_restore, cX12_restore, 2, some .int), (yX12_countOf, cX12_countOf, 2, some .int), (yX12_count, cX12_count, 2, some .int), (yX12_say, cX12_say, 3, none), (yX12_sayYard, cX12_sayYard, 2, none), (yX12_digest, cX12_digest, 3, some .long), (yJ6_bitCount_0f7a4, cJ6_bitCount_0f7a4, 1, some .int), (yJ9_floorMod_7cf53, cJ9_floorMod_7cf53, 3, some .int), (yJ9_max_7cf53, cJ9_max_7cf53, 2, some .int), (yJ9_min_7cf53, cJ9_min_7cf53, 2, some .int), (yJ7_fill_53178, cJ7_fill_53178, 4, none), (yJ7_fill_031fb, cJ7_fill_031fb, 4, none), (yL_law, cL_law, 4, some .boolean)]
def mj_Yp : List Nat := [143, 684, 689, 705, 693, 697, 332, 522, 450, 360, 525, 410, 423, 554, 453, 95, 273, 287, 295, 309, 314, 320, 324, 279, 276, 301, 298, 335, 529, 415, 427, 556, 456, 443, 435, 785, 129, 568, 617, 575, 621, 111, 504, 821, 583, 592, 600, 201, 777, 796, 812, 804, 789, 799, 352, 528, 413, 426, 178, 715, 719, 724, 736, 740, 732, 751, 372, 579, 652, 745, 701, 402, 464, 638, 664, 642, 647, 384, 380, 388, 392, 87, 269, 283, 291, 305, 511, 536, 546, 560, 564, 587, 596, 604, 613, 625, 629, 656, 660, 668, 672, 676, 711, 756, 765, 773, 808, 817, 826, 830, 834, 839, 846, 850, 515, 633, 680, 608, 760, 769, 467, 539, 858, 992, 967, 972, 987, 984, 980, 976, 998, 1006, 1039, 1014, 1018, 1059, 1010, 1002, 1022, 1031, 1027, 1035, 1047, 1055, 1051, 1043, 1068, 1063, 1072, 1081, 1077, 1085, 1097, 1093, 1089, 1110, 1114, 1106, 1101, 1118, 1122, 1126, 1130, 1148, 1140, 1144, 1157, 1134, 1161, 1152, 1169, 1165, 1173, 1189, 1185, 1193, 1181, 1177, 1197, 1201, 1205, 1213, 1209, 1222, 1227, 1217, 395, 460, 327, 376, 507, 728, 0]
def mj_X0 : mjX := [(6, 3, [144], [5]), (9, 9, [145], []), (0, 11, [147, 0], [0, 2, 10]), (0, 16, [148, 0], [1, 2, 10]), (0, 20, [149, 0], [2, 2, 10]), (0, 23, [153, 0], [4, 2, 10]), (0, 27, [154, 0], [5, 2, 10]), (0, 30, [155, 0], [6, 2, 10]), (0, 33, [156, 0], [7, 0, 10]), (0, 37, [151, 0], [3, 0, 10]), (5, 40, [685], [6]), (7, 46, [686, 688, 70, 17, 0, 0, 0], [1, 6, 10, 2]), (7, 50, [690, 692, 70, 18, 0, 0, 0], [1, 1, 10, 4]), (7, 54, [698, 699, 79, 700, 0, 0, 0], [1, 2, 20, 70]), (7, 60, [702, 704, 70, 20, 0, 0, 0], [1, 6, 10, 3]), (7, 63, [707, 577, 79, 578, 0, 0, 0], [1, 3, 20, 67]), (0, 67, [471, 0], [0, 2, 20]), (7, 71, [706, 404, 75, 407, 0, 0, 0, 409, 78, 408, 406, 404, 415, 404, 75, 405, 0, 0, 0, 412, 77, 411, 406, 404, 415], [1, 0, 11, 29, 12, 11, 14, 29, 18, 56]), (7, 77, [694, 696, 70, 19, 0, 0, 0], [1, 0, 10, 5])]
def mj_X1 : mjX := [(6, 3, [333, 334, 75], [2, 1, 27])]
def mj_X2 : mjX := [(6, 3, [361, 331, 76], [2, 1, 6]), (0, 9, [338, 339], [0, 2, 11, 12, 14, 18]), (7, 15, [454, 409, 78, 1229, 0, 0, 0], [1, 0, 12, 11])]
def mj_X3 : mjX := [(6, 3, [96], [5]), (0, 9, [97, 0], [0, 2, 13]), (5, 15, [274, 275, 67], [0, 1, 24]), (0, 19, [99, 0], [1, 0, 13]), (5, 23, [277, 278, 67], [0, 2, 23]), (5, 27, [296, 297, 67], [0, 1, 26]), (5, 31, [299, 300, 67], [0, 1, 25]), (7, 34, [310, 293, 67, 294, 0, 0, 0], [1, 0, 13, 18]), (7, 38, [311, 313, 67, 0, 0, 0, 0], [1, 0, 13, 20]), (8, 41, [315], []), (7, 43, [317, 319, 67, 1, 0, 0, 0], [1, 1, 13, 21]), (7, 46, [321, 323, 67, 2, 0, 0, 0], [1, 2, 13, 22]), (3, 50, [368, 369, 79], [20, 8]), (6, 52, [370, 371, 79], [2, 1, 66]), (5, 55, [325, 326, 74], [0, 2, 188]), (3, 61, [328, 329, 76], [11, 1]), (6, 63, [330, 331, 76], [2, 1, 6]), (3, 66, [348, 349, 77], [18, 1]), (6, 68, [350, 351, 77], [2, 1, 54]), (3, 69, [356, 357, 78], [12, 1]), (6, 71, [358, 359, 78], [2, 1, 9]), (3, 41, [315, 364, 75], [14, 1]), (6, 72, [365, 334, 75], [2, 1, 27])]
def mj_X4 : mjX := [(6, 3, [336], [5]), (0, 9, [337, 0], [0, 2, 11, 12, 14, 18]), (7, 15, [457, 404, 75, 407, 0, 0, 0, 409, 78, 408, 406, 404, 415, 404, 75, 405, 0, 0, 0, 412, 77, 411, 406, 404, 415], [1, 0, 11, 29, 12, 11, 14, 29, 18, 56]), (7, 19, [444, 449, 76, 448, 447, 445, 456, 452, 78, 451, 447, 445, 456, 445, 75, 446, 0, 0, 0, 445, 75, 455, 0, 0, 0], [1, 0, 11, 8, 12, 14, 14, 32, 18, 32]), (5, 22, [458, 459, 74], [0, 2, 187])]
def mj_X5 : mjX := [(6, 3, [130], [5]), (0, 9, [131, 0], [0, 2, 15]), (5, 15, [569], [6]), (7, 21, [572, 574, 69, 10, 0, 0, 0], [1, 3, 15, 39]), (7, 25, [576, 577, 79, 578, 0, 0, 0], [1, 3, 20, 67]), (7, 31, [618, 620, 69, 12, 0, 0, 0], [1, 1, 15, 40]), (0, 35, [132, 0], [1, 0, 15])]
def mj_X6 : mjX := [(6, 3, [112], [5]), (0, 9, [113, 0], [0, 2, 16]), (0, 15, [115, 0], [1, 2, 16]), (5, 18, [505, 506, 81], [0, 2, 190]), (0, 24, [116, 0], [2, 0, 16]), (5, 28, [822], [6])]
def mj_X7 : mjX := [(6, 3, [202], [5]), (9, 9, [203], []), (0, 11, [205, 0], [1, 2, 17]), (0, 16, [206, 0], [2, 2, 17]), (0, 20, [207, 0], [3, 2, 17]), (0, 23, [204, 0], [0, 2, 17]), (0, 27, [208, 0], [4, 0, 17]), (0, 31, [478, 0], [3, 2, 20]), (0, 36, [469, 0], [0, 2, 20]), (7, 40, [778, 779, 75, 782, 0, 0, 0, 779, 75, 783, 0, 0, 0, 779, 75, 780, 0, 0, 0, 779, 75, 784, 0, 0, 0], [1, 0, 11, 35, 12, 35, 14, 35, 18, 35]), (7, 46, [786, 788, 72, 29, 0, 0, 0], [1, 4, 17, 52]), (5, 50, [797, 798, 72], [0, 2, 53]), (5, 54, [800, 326, 74], [0, 2, 188]), (5, 60, [790], [6]), (5, 66, [791, 506, 81], [0, 2, 190]), (7, 72, [792, 566, 69, 567, 0, 0, 0], [1, 3, 15, 37])]
def mj_X8 : mjX := [(6, 3, [353, 334, 75], [2, 1, 27]), (0, 9, [340, 341], [0, 2, 11, 12, 14, 18]), (5, 15, [414, 326, 74], [0, 2, 188])]
def mj_X9 : mjX := [(6, 3, [179], [5]), (0, 9, [180, 0], [0, 2, 19]), (0, 15, [181, 0], [1, 2, 19]), (0, 19, [182, 0], [2, 2, 19]), (0, 22, [183, 0], [3, 2, 19]), (7, 26, [716, 718, 71, 21, 0, 0, 0], [1, 1, 19, 60]), (0, 30, [479, 0], [3, 2, 20]), (0, 35, [184, 0], [4, 0, 19]), (7, 39, [721, 723, 71, 22, 0, 0, 0], [1, 1, 19, 61]), (5, 43, [726, 727, 81], [0, 2, 191]), (7, 49, [729, 731, 71, 23, 0, 0, 0], [1, 3, 19, 64]), (7, 53, [733, 735, 71, 24, 0, 0, 0], [1, 2, 19, 62]), (7, 57, [748, 750, 71, 26, 0, 0, 0], [1, 1, 19, 65]), (5, 60, [752, 375, 74], [0, 2, 189]), (0, 66, [470, 0], [0, 2, 20]), (7, 70, [720, 404, 75, 407, 0, 0, 0, 409, 78, 408, 406, 404, 415, 404, 75, 405, 0, 0, 0, 412, 77, 411, 406, 404, 415], [1, 0, 11, 29, 12, 11, 14, 29, 18, 56]), (5, 76, [725, 326, 74], [0, 2, 188]), (7, 79, [737, 739, 71, 25, 0, 0, 0], [1, 5, 19, 63]), (0, 83, [342, 0], [0, 2, 11, 12, 14, 18]), (7, 86, [747, 548, 75, 551, 0, 0, 0, 553, 78, 552, 550, 548, 556, 548, 75, 549, 0, 0, 0, 548, 75, 555, 0, 0, 0], [1, 1, 11, 31, 12, 13, 14, 31, 18, 31]), (7, 90, [741, 650, 79, 651, 0, 0, 0], [1, 2, 20, 68]), (7, 93, [742, 743, 79, 744, 0, 0, 0], [1, 2, 20, 69]), (7, 96, [746, 699, 79, 700, 0, 0, 0], [1, 2, 20, 70])]
def mj_X10 : mjX := [(6, 3, [373], [5]), (0, 9, [480, 0], [4, 2, 20]), (0, 15, [481, 0], [5, 2, 20]), (0, 18, [482, 0], [6, 2, 20]), (0, 21, [483, 0], [7, 2, 20]), (0, 24, [468, 0], [0, 2, 20]), (5, 28, [374, 375, 74], [0, 2, 189]), (0, 34, [473, 0], [1, 0, 20]), (7, 38, [377, 379, 79, 3, 0, 0, 0], [1, 1, 20, 78]), (7, 42, [385, 387, 79, 5, 0, 0, 0], [1, 1, 20, 79]), (0, 46, [475, 0], [2, 1, 20]), (7, 50, [389, 391, 79, 6, 0, 0, 0], [1, 1, 20, 80]), (0, 54, [477, 0], [3, 2, 20]), (7, 57, [399, 401, 79, 7, 0, 0, 0], [1, 1, 20, 71]), (7, 61, [461, 463, 79, 8, 0, 0, 0], [1, 1, 20, 72]), (7, 64, [403, 404, 75, 407, 0, 0, 0, 409, 78, 408, 406, 404, 415, 404, 75, 405, 0, 0, 0, 412, 77, 411, 406, 404, 415], [1, 0, 11, 29, 12, 11, 14, 29, 18, 56]), (7, 70, [416, 417, 75, 420, 0, 0, 0, 422, 78, 421, 419, 417, 427, 417, 75, 418, 0, 0, 0, 425, 77, 424, 419, 417, 427], [1, 1, 11, 30, 12, 12, 14, 30, 18, 57]), (7, 73, [428, 429, 75, 432, 0, 0, 0, 429, 75, 433, 0, 0, 0, 429, 75, 430, 0, 0, 0, 429, 75, 434, 0, 0, 0], [1, 1, 11, 34, 12, 34, 14, 34, 18, 34]), (7, 76, [436, 437, 75, 440, 0, 0, 0, 437, 75, 441, 0, 0, 0, 437, 75, 438, 0, 0, 0, 437, 75, 442, 0, 0, 0], [1, 2, 11, 33, 12, 33, 14, 33, 18, 33]), (0, 79, [344, 0], [0, 2, 11, 12, 14, 18]), (5, 82, [465, 466, 66], [0, 1, 120]), (7, 85, [639, 641, 79, 14, 0, 0, 0], [1, 1, 20, 75]), (7, 88, [644, 646, 79, 15, 0, 0, 0], [1, 2, 20, 76]), (5, 92, [643, 506, 81], [0, 2, 190]), (7, 98, [648, 449, 76, 448, 447, 445, 456, 452, 78, 451, 447, 445, 456, 445, 75, 446, 0, 0, 0, 445, 75, 455, 0, 0, 0], [1, 0, 11, 8, 12, 14, 14, 32, 18, 32]), (7, 101, [649, 650, 79, 651, 0, 0, 0], [1, 2, 20, 68]), (7, 104, [381, 383, 79, 4, 0, 0, 0], [1, 1, 20, 77]), (5, 107, [393, 394, 80], [0, 1, 186])]
def mj_X11 : mjX := [(6, 3, [88], [5]), (3, 9, [91, 92, 67], [13, 2]), (6, 11, [93, 94, 67], [2, 0, 15]), (0, 12, [220, 0], [0, 2, 21]), (3, 16, [107, 108, 68], [16, 3]), (6, 18, [109, 110, 68], [2, 0, 41]), (0, 19, [221, 0], [1, 2, 21]), (0, 23, [222, 0], [2, 2, 21]), (3, 26, [125, 126, 69], [15, 2]), (6, 28, [127, 128, 69], [2, 0, 36]), (0, 29, [223, 0], [3, 2, 21]), (3, 33, [139, 140, 70], [10, 8]), (6, 35, [141, 142, 70], [2, 0, 0]), (0, 36, [224, 0], [4, 2, 21]), (3, 40, [174, 175, 71], [19, 5]), (6, 42, [176, 177, 71], [2, 0, 58]), (0, 43, [225, 0], [5, 2, 21]), (3, 47, [197, 198, 72], [17, 5]), (6, 49, [199, 200, 72], [2, 1, 47]), (0, 52, [226, 0], [6, 2, 21]), (0, 56, [227, 0], [7, 2, 21]), (0, 60, [228, 0], [8, 2, 21]), (0, 63, [229, 0], [9, 2, 21]), (7, 66, [270, 271, 67, 272, 0, 0, 0], [1, 1, 13, 16]), (7, 70, [284, 285, 67, 286, 0, 0, 0], [1, 0, 13, 17]), (7, 74, [292, 293, 67, 294, 0, 0, 0], [1, 0, 13, 18]), (7, 77, [306, 307, 67, 308, 0, 0, 0], [1, 0, 13, 19]), (0, 81, [230, 0], [10, 2, 21]), (7, 85, [501, 502, 68, 503, 0, 0, 0], [1, 0, 16, 42]), (0, 88, [231, 0], [11, 1, 21]), (0, 92, [233, 0], [13, 0, 21]), (0, 96, [474, 0], [1, 0, 20]), (7, 101, [512, 514, 66, 9, 0, 0, 0], [1, 1, 21, 114]), (0, 105, [472, 0], [0, 2, 20]), (0, 109, [114, 0], [0, 2, 16]), (7, 112, [516, 521, 76, 520, 519, 517, 529, 524, 78, 523, 519, 517, 529, 517, 75, 518, 0, 0, 0, 527, 77, 526, 519, 517, 529], [1, 0, 11, 7, 12, 10, 14, 28, 18, 55]), (0, 117, [343, 0], [0, 2, 11, 12, 14, 18]), (7, 120, [530, 404, 75, 407, 0, 0, 0, 409, 78, 408, 406, 404, 415, 404, 75, 405, 0, 0, 0, 412, 77, 411, 406, 404, 415], [1, 0, 11, 29, 12, 11, 14, 29, 18, 56]), (7, 123, [531, 417, 75, 420, 0, 0, 0, 422, 78, 421, 419, 417, 427, 417, 75, 418, 0, 0, 0, 425, 77, 424, 419, 417, 427], [1, 1, 11, 30, 12, 12, 14, 30, 18, 57]), (7, 127, [532, 429, 75, 432, 0, 0, 0, 429, 75, 433, 0, 0, 0, 429, 75, 430, 0, 0, 0, 429, 75, 434, 0, 0, 0], [1, 1, 11, 34, 12, 34, 14, 34, 18, 34]), (5, 130, [537, 538, 66], [0, 2, 121]), (7, 134, [547, 548, 75, 551, 0, 0, 0, 553, 78, 552, 550, 548, 556, 548, 75, 549, 0, 0, 0, 548, 75, 555, 0, 0, 0], [1, 1, 11, 31, 12, 13, 14, 31, 18, 31]), (0, 137, [117, 0], [2, 0, 16]), (7, 140, [565, 566, 69, 567, 0, 0, 0], [1, 3, 15, 37]), (7, 144, [580, 581, 68, 582, 0, 0, 0], [1, 1, 16, 44]), (5, 148, [588, 466, 66], [0, 1, 120]), (7, 151, [589, 590, 68, 591, 0, 0, 0], [1, 1, 16, 45]), (7, 154, [597, 598, 68, 599, 0, 0, 0], [1, 2, 16, 46]), (7, 158, [605, 607, 66, 11, 0, 0, 0], [1, 0, 21, 117]), (0, 162, [133, 0], [1, 0, 15]), (7, 165, [614, 615, 69, 616, 0, 0, 0], [1, 2, 15, 38]), (0, 169, [476, 0], [2, 1, 20]), (7, 172, [630, 632, 66, 13, 0, 0, 0], [1, 0, 21, 115]), (1, 176, [634], [1000000]), (7, 177, [635, 636, 79, 637, 0, 0, 0], [1, 2, 20, 73]), (7, 181, [661, 662, 79, 663, 0, 0, 0], [1, 2, 20, 74]), (0, 184, [232, 0], [12, 0, 21]), (7, 187, [677, 679, 66, 16, 0, 0, 0], [1, 0, 21, 116]), (0, 190, [234, 0], [14, 0, 21]), (7, 193, [681, 682, 70, 683, 0, 0, 0], [1, 4, 10, 1]), (0, 197, [152, 0], [3, 0, 10]), (0, 200, [150, 0], [2, 2, 10]), (7, 203, [712, 713, 71, 714, 0, 0, 0], [1, 4, 19, 59]), (7, 206, [757, 759, 66, 27, 0, 0, 0], [1, 0, 21, 118]), (7, 209, [766, 768, 66, 28, 0, 0, 0], [1, 1, 21, 119]), (7, 212, [774, 775, 72, 776, 0, 0, 0], [1, 2, 17, 48]), (7, 216, [793, 794, 72, 795, 0, 0, 0], [1, 0, 17, 49]), (7, 219, [801, 802, 72, 803, 0, 0, 0], [1, 1, 17, 51]), (7, 222, [809, 810, 72, 811, 0, 0, 0], [1, 0, 17, 50]), (5, 225, [813, 326, 74], [0, 2, 188]), (7, 230, [818, 819, 68, 820, 0, 0, 0], [1, 1, 16, 43]), (0, 234, [100, 0], [1, 0, 13]), (2, 235, [835], [521]), (7, 237, [836, 838, 66, 30, 0, 0, 0], [1, 1, 21, 111]), (7, 241, [843, 845, 66, 31, 0, 0, 0], [1, 1, 21, 112]), (7, 244, [847, 849, 66, 32, 0, 0, 0], [1, 1, 21, 113]), (2, 247, [841], [31]), (7, 249, [853, 771, 66, 772, 0, 0, 0], [1, 0, 21, 105]), (0, 252, [98, 0], [0, 2, 13]), (7, 255, [840, 828, 66, 829, 0, 0, 0], [1, 1, 21, 109]), (7, 258, [842, 509, 66, 510, 0, 0, 0], [1, 2, 21, 86]), (7, 261, [851, 602, 66, 603, 0, 0, 0], [1, 0, 21, 93]), (7, 264, [852, 623, 66, 624, 0, 0, 0], [1, 0, 21, 95]), (5, 267, [609], [6]), (5, 273, [761, 506, 81], [0, 2, 190]), (4, 279, [540, 0, 0, 1230, 0], [14, 0, 11, 1, 12, 1, 18, 0]), (4, 281, [541, 0, 0, 0, 0], [14, 0, 11, 0, 12, 0, 18, 1]), (4, 283, [542, 0, 0, 0, 0], [14, 0, 11, 0, 12, 1, 18, 0])]
def mj_X12 : mjX := [(6, 1, [859], [5]), (0, 7, [861, 0], [0, 2, 22]), (0, 13, [867, 0], [6, 2, 22]), (0, 16, [868, 0], [7, 2, 22]), (0, 19, [869, 0], [8, 2, 22]), (0, 22, [872, 0], [11, 2, 22]), (0, 25, [873, 0], [12, 2, 22]), (0, 28, [874, 0], [13, 2, 22]), (0, 31, [875, 0], [14, 2, 22]), (0, 34, [877, 0], [16, 2, 22]), (0, 37, [878, 0], [17, 2, 22]), (0, 40, [879, 0], [18, 2, 22]), (0, 43, [882, 0], [21, 2, 22]), (0, 46, [884, 0], [23, 2, 22]), (0, 49, [886, 0], [25, 2, 22]), (1, 52, [860], [46656]), (0, 53, [887, 0], [26, 2, 22]), (0, 56, [888, 0], [27, 2, 22]), (0, 59, [889, 0], [28, 2, 22]), (0, 62, [892, 0], [31, 2, 22]), (0, 65, [893, 0], [32, 2, 22]), (0, 68, [890, 0], [29, 0, 22]), (2, 72, [968], [255]), (0, 74, [862, 0], [1, 0, 22]), (5, 77, [985, 986, 73], [0, 1, 126]), (0, 81, [864, 0], [3, 0, 22]), (0, 84, [865, 0], [4, 1, 22]), (0, 88, [863, 0], [2, 0, 22]), (2, 91, [988], [48]), (2, 93, [989], [57]), (5, 95, [990, 991, 73], [0, 3, 123]), (2, 99, [993], [97]), (2, 101, [994], [106]), (0, 103, [866, 0], [5, 0, 22]), (7, 106, [981, 983, 73, 34, 0, 0, 0], [1, 1, 22, 127]), (7, 110, [977, 979, 73, 33, 0, 0, 0], [1, 0, 22, 128]), (0, 114, [870, 0], [9, 0, 22]), (0, 117, [876, 0], [15, 0, 22]), (0, 120, [871, 0], [10, 0, 22]), (7, 123, [1011, 1013, 73, 37, 0, 0, 0], [1, 1, 22, 133]), (7, 126, [1015, 1017, 73, 38, 0, 0, 0], [1, 2, 22, 134]), (7, 130, [1003, 1005, 73, 35, 0, 0, 0], [1, 1, 22, 131]), (7, 133, [1007, 1009, 73, 36, 0, 0, 0], [1, 2, 22, 136]), (2, 136, [1023], [3]), (7, 138, [1028, 1030, 73, 39, 0, 0, 0], [1, 2, 22, 139]), (7, 141, [1036, 1038, 73, 40, 0, 0, 0], [1, 0, 22, 132]), (0, 145, [880, 0], [19, 0, 22]), (7, 148, [1056, 1058, 73, 44, 0, 0, 0], [1, 2, 22, 135]), (0, 151, [881, 0], [20, 0, 22]), (7, 154, [1052, 1054, 73, 43, 0, 0, 0], [1, 1, 22, 143]), (7, 158, [1044, 1046, 73, 41, 0, 0, 0], [1, 0, 22, 142]), (7, 161, [1048, 1050, 73, 42, 0, 0, 0], [1, 1, 22, 144]), (2, 164, [1064], [9]), (7, 166, [1065, 1067, 73, 45, 0, 0, 0], [1, 1, 22, 146]), (2, 169, [1073], [59]), (7, 171, [1078, 1080, 73, 46, 0, 0, 0], [1, 0, 22, 149]), (7, 174, [1094, 1096, 73, 48, 0, 0, 0], [1, 1, 22, 152]), (7, 177, [1090, 1092, 73, 47, 0, 0, 0], [1, 0, 22, 153]), (7, 180, [1107, 1109, 73, 50, 0, 0, 0], [1, 2, 22, 155]), (7, 184, [1111, 1113, 73, 51, 0, 0, 0], [1, 2, 22, 156]), (2, 188, [1102], [1000000]), (7, 190, [1103, 1105, 73, 49, 0, 0, 0], [1, 1, 22, 157]), (0, 193, [883, 0], [22, 0, 22]), (2, 196, [1135], [10]), (2, 198, [1136], [15]), (0, 200, [885, 0], [24, 0, 22]), (7, 203, [1137, 1139, 73, 52, 0, 0, 0], [1, 0, 22, 164]), (7, 206, [1141, 1143, 73, 53, 0, 0, 0], [1, 1, 22, 165]), (7, 209, [1145, 1147, 73, 54, 0, 0, 0], [1, 1, 22, 163]), (1, 212, [1153], [1000000]), (7, 213, [1154, 1156, 73, 55, 0, 0, 0], [1, 0, 22, 166]), (7, 216, [1158, 1160, 73, 56, 0, 0, 0], [1, 1, 22, 168]), (7, 219, [1166, 1168, 73, 57, 0, 0, 0], [1, 1, 22, 170]), (7, 222, [1182, 1184, 73, 59, 0, 0, 0], [1, 0, 22, 174]), (7, 225, [1186, 1188, 73, 60, 0, 0, 0], [1, 1, 22, 173]), (7, 228, [1190, 1192, 73, 61, 0, 0, 0], [1, 2, 22, 175]), (7, 231, [1178, 1180, 73, 58, 0, 0, 0], [1, 1, 22, 176]), (0, 235, [891, 0], [30, 0, 22]), (7, 238, [1210, 1212, 73, 62, 0, 0, 0], [1, 1, 22, 181]), (2, 241, [1223], [31]), (0, 243, [894, 0], [33, 3, 22]), (7, 247, [1219, 1221, 73, 63, 0, 0, 0], [1, 1, 22, 183]), (2, 251, [1218], [521]), (7, 253, [1224, 1226, 73, 64, 0, 0, 0], [1, 0, 22, 184])]
def mj_X13 : mjX := [(1, 265, [396], [1431655765]), (1, 266, [397], [858993459]), (1, 267, [398], [252645135])]
def mj_X14 : mjX := []
def mj_X15 : mjX := []
def mj_X16 : mjX := [(3, 7, [83, 84, 66], [21, 15]), (6, 9, [85, 86, 66], [2, 0, 81]), (3, 10, [854, 855, 73], [22, 34]), (6, 12, [856, 857, 73], [2, 0, 122]), (2, 13, [1228], [4294967295]), (7, 15, [266, 267, 66, 268, 0, 0, 0], [1, 1, 21, 82]), (7, 19, [964, 965, 73, 966, 0, 0, 0], [1, 1, 22, 124]), (7, 20, [280, 281, 66, 282, 0, 0, 0], [1, 0, 21, 83]), (7, 24, [969, 970, 73, 971, 0, 0, 0], [1, 0, 22, 125]), (7, 25, [288, 289, 66, 290, 0, 0, 0], [1, 0, 21, 84]), (7, 28, [973, 974, 73, 975, 0, 0, 0], [1, 0, 22, 129]), (7, 29, [302, 303, 66, 304, 0, 0, 0], [1, 0, 21, 85]), (7, 32, [995, 996, 73, 997, 0, 0, 0], [1, 0, 22, 130]), (7, 33, [508, 509, 66, 510, 0, 0, 0], [1, 2, 21, 86]), (7, 37, [999, 1000, 73, 1001, 0, 0, 0], [1, 2, 22, 137]), (7, 38, [533, 534, 66, 535, 0, 0, 0], [1, 2, 21, 87]), (7, 41, [1019, 1020, 73, 1021, 0, 0, 0], [1, 2, 22, 138]), (7, 42, [543, 544, 66, 545, 0, 0, 0], [1, 2, 21, 88]), (7, 45, [1024, 1025, 73, 1026, 0, 0, 0], [1, 2, 22, 140]), (7, 46, [557, 558, 66, 559, 0, 0, 0], [1, 0, 21, 89]), (7, 49, [1032, 1033, 73, 1034, 0, 0, 0], [1, 0, 22, 141]), (7, 50, [561, 562, 66, 563, 0, 0, 0], [1, 0, 21, 90]), (7, 53, [1040, 1041, 73, 1042, 0, 0, 0], [1, 0, 22, 145]), (7, 54, [584, 585, 66, 586, 0, 0, 0], [1, 1, 21, 91]), (7, 58, [1060, 1061, 73, 1062, 0, 0, 0], [1, 1, 22, 147]), (7, 59, [593, 594, 66, 595, 0, 0, 0], [1, 2, 21, 92]), (7, 62, [1069, 1070, 73, 1071, 0, 0, 0], [1, 2, 22, 148]), (7, 63, [601, 602, 66, 603, 0, 0, 0], [1, 0, 21, 93]), (7, 66, [1074, 1075, 73, 1076, 0, 0, 0], [1, 0, 22, 150]), (7, 67, [610, 611, 66, 612, 0, 0, 0], [1, 0, 21, 94]), (7, 70, [1082, 1083, 73, 1084, 0, 0, 0], [1, 0, 22, 151]), (7, 71, [622, 623, 66, 624, 0, 0, 0], [1, 0, 21, 95]), (7, 74, [1086, 1087, 73, 1088, 0, 0, 0], [1, 0, 22, 154]), (7, 75, [626, 627, 66, 628, 0, 0, 0], [1, 1, 21, 96]), (7, 78, [1098, 1099, 73, 1100, 0, 0, 0], [1, 1, 22, 158]), (7, 79, [653, 654, 66, 655, 0, 0, 0], [1, 2, 21, 97]), (7, 82, [1115, 1116, 73, 1117, 0, 0, 0], [1, 2, 22, 159]), (7, 83, [657, 658, 66, 659, 0, 0, 0], [1, 2, 21, 98]), (7, 86, [1119, 1120, 73, 1121, 0, 0, 0], [1, 2, 22, 160]), (7, 87, [665, 666, 66, 667, 0, 0, 0], [1, 1, 21, 99]), (7, 90, [1123, 1124, 73, 1125, 0, 0, 0], [1, 1, 22, 161]), (7, 91, [669, 670, 66, 671, 0, 0, 0], [1, 0, 21, 100]), (7, 94, [1127, 1128, 73, 1129, 0, 0, 0], [1, 0, 22, 162]), (7, 95, [673, 674, 66, 675, 0, 0, 0], [1, 1, 21, 101]), (7, 98, [1131, 1132, 73, 1133, 0, 0, 0], [1, 1, 22, 167]), (7, 99, [708, 709, 66, 710, 0, 0, 0], [1, 0, 21, 102]), (7, 102, [1149, 1150, 73, 1151, 0, 0, 0], [1, 0, 22, 169]), (7, 103, [753, 754, 66, 755, 0, 0, 0], [1, 1, 21, 103]), (7, 106, [1162, 1163, 73, 1164, 0, 0, 0], [1, 1, 22, 171]), (7, 107, [762, 763, 66, 764, 0, 0, 0], [1, 0, 21, 104]), (7, 110, [1170, 1171, 73, 1172, 0, 0, 0], [1, 0, 22, 172]), (7, 111, [770, 771, 66, 772, 0, 0, 0], [1, 0, 21, 105]), (7, 114, [1174, 1175, 73, 1176, 0, 0, 0], [1, 0, 22, 177]), (7, 115, [805, 806, 66, 807, 0, 0, 0], [1, 0, 21, 106]), (7, 118, [1194, 1195, 73, 1196, 0, 0, 0], [1, 0, 22, 178]), (7, 119, [814, 815, 66, 816, 0, 0, 0], [1, 0, 21, 107]), (7, 122, [1198, 1199, 73, 1200, 0, 0, 0], [1, 0, 22, 179]), (7, 123, [823, 824, 66, 825, 0, 0, 0], [1, 0, 21, 108]), (7, 126, [1202, 1203, 73, 1204, 0, 0, 0], [1, 0, 22, 180]), (7, 127, [827, 828, 66, 829, 0, 0, 0], [1, 1, 21, 109]), (7, 130, [1206, 1207, 73, 1208, 0, 0, 0], [1, 1, 22, 182]), (7, 131, [831, 832, 66, 833, 0, 0, 0], [1, 0, 21, 110]), (7, 135, [1214, 1215, 73, 1216, 0, 0, 0], [1, 0, 22, 185])]
def mj_X : Nat → mjX
  | 0 => mj_X0
  | 1 => mj_X1
  | 2 => mj_X2
  | 3 => mj_X3
  | 4 => mj_X4
  | 5 => mj_X5
  | 6 => mj_X6
  | 7 => mj_X7
  | 8 => mj_X8
  | 9 => mj_X9
  | 10 => mj_X10
  | 11 => mj_X11
  | 12 => mj_X12
  | 13 => mj_X13
  | 14 => mj_X14
  | 15 => mj_X15
  | 16 => mj_X16
  | _ => []
end
section
set_option maxRecDepth 100000 in
theorem mj_yk0 : lw_tbl[143]? = some (.code yX0_init cX0_init 1 (none)) := rfl
set_option maxRecDepth 100000 in
theorem mj_yk1 : lw_tbl[684]? = some (.code yX0_search cX0_search 5 (some .boolean)) := rfl
set_option maxRecDepth 100000 in
theorem mj_yk2 : lw_tbl[689]? = some (.code yX0_follow cX0_follow 12 (none)) := rfl
set_option maxRecDepth 100000 in
theorem mj_yk3 : lw_tbl[705]? = some (.code yX0_choose cX0_choose 11 (none)) := rfl
set_option maxRecDepth 100000 in
theorem mj_yk4 : lw_tbl[693]? = some (.code yX0_keepIfBetter cX0_keepIfBetter 2 (none)) := rfl
set_option maxRecDepth 100000 in
theorem mj_yk5 : lw_tbl[697]? = some (.code yX0_isChosenFirst cX0_isChosenFirst 2 (some .boolean)) := rfl
set_option maxRecDepth 100000 in
theorem mj_yk6 : lw_tbl[332]? = some (.code yX1_init cX1_init 2 (none)) := rfl
set_option maxRecDepth 100000 in
theorem mj_yk7 : lw_tbl[522]? = some (.code yX1_kind cX1_kind 1 (some .int)) := rfl
set_option maxRecDepth 100000 in
theorem mj_yk8 : lw_tbl[450]? = some (.code yX1_period cX1_period 1 (some .int)) := rfl
set_option maxRecDepth 100000 in
theorem mj_yk9 : lw_tbl[360]? = some (.code yX2_init cX2_init 2 (none)) := rfl
set_option maxRecDepth 100000 in
theorem mj_yk10 : lw_tbl[525]? = some (.code yX2_kind cX2_kind 1 (some .int)) := rfl
set_option maxRecDepth 100000 in
theorem mj_yk11 : lw_tbl[410]? = some (.code yX2_standCount cX2_standCount 1 (some .int)) := rfl
set_option maxRecDepth 100000 in
theorem mj_yk12 : lw_tbl[423]? = some (.code yX2_wayAt cX2_wayAt 2 (some .int)) := rfl
set_option maxRecDepth 100000 in
theorem mj_yk13 : lw_tbl[554]? = some (.code yX2_firstStandAt cX2_firstStandAt 2 (some .int)) := rfl
set_option maxRecDepth 100000 in
theorem mj_yk14 : lw_tbl[453]? = some (.code yX2_period cX2_period 1 (some .int)) := rfl
set_option maxRecDepth 100000 in
theorem mj_yk15 : lw_tbl[95]? = some (.code yX3_init cX3_init 1 (none)) := rfl
set_option maxRecDepth 100000 in
theorem mj_yk16 : lw_tbl[273]? = some (.code yX3_append cX3_append 5 (some .int)) := rfl
set_option maxRecDepth 100000 in
theorem mj_yk17 : lw_tbl[287]? = some (.code yX3_wipe cX3_wipe 2 (some .int)) := rfl
set_option maxRecDepth 100000 in
theorem mj_yk18 : lw_tbl[295]? = some (.code yX3_faultPlace cX3_faultPlace 6 (some .int)) := rfl
set_option maxRecDepth 100000 in
theorem mj_yk19 : lw_tbl[309]? = some (.code yX3_read cX3_read 6 (some (.object "PointsThrow$Yard"))) := rfl
set_option maxRecDepth 100000 in
theorem mj_yk20 : lw_tbl[314]? = some (.code yX3_switchCount cX3_switchCount 3 (some .int)) := rfl
set_option maxRecDepth 100000 in
theorem mj_yk21 : lw_tbl[320]? = some (.code yX3_endFrom cX3_endFrom 3 (some .int)) := rfl
set_option maxRecDepth 100000 in
theorem mj_yk22 : lw_tbl[324]? = some (.code yX3_pointIn cX3_pointIn 7 (some (.object "PointsThrow$Point"))) := rfl
set_option maxRecDepth 100000 in
theorem mj_yk23 : lw_tbl[279]? = some (.code yX3_codeIn cX3_codeIn 3 (some .int)) := rfl
set_option maxRecDepth 100000 in
theorem mj_yk24 : lw_tbl[276]? = some (.code yX3_lettersIn cX3_lettersIn 5 (some .int)) := rfl
set_option maxRecDepth 100000 in
theorem mj_yk25 : lw_tbl[301]? = some (.code yX3_kindOf cX3_kindOf 1 (some .int)) := rfl
set_option maxRecDepth 100000 in
theorem mj_yk26 : lw_tbl[298]? = some (.code yX3_placeOf cX3_placeOf 1 (some .int)) := rfl
set_option maxRecDepth 100000 in
theorem mj_yk27 : lw_tbl[335]? = some (.code yX4_init cX4_init 2 (none)) := rfl
set_option maxRecDepth 100000 in
theorem mj_yk28 : lw_tbl[529]? = some (.code yX4_kind cX4_kind 1 (some .int)) := rfl
set_option maxRecDepth 100000 in
theorem mj_yk29 : lw_tbl[415]? = some (.code yX4_standCount cX4_standCount 1 (some .int)) := rfl
set_option maxRecDepth 100000 in
theorem mj_yk30 : lw_tbl[427]? = some (.code yX4_wayAt cX4_wayAt 2 (some .int)) := rfl
set_option maxRecDepth 100000 in
theorem mj_yk31 : lw_tbl[556]? = some (.code yX4_firstStandAt cX4_firstStandAt 2 (some .int)) := rfl
set_option maxRecDepth 100000 in
theorem mj_yk32 : lw_tbl[456]? = some (.code yX4_period cX4_period 1 (some .int)) := rfl
set_option maxRecDepth 100000 in
theorem mj_yk33 : lw_tbl[443]? = some (.code yX4_turned cX4_turned 4 (some .int)) := rfl
set_option maxRecDepth 100000 in
theorem mj_yk34 : lw_tbl[435]? = some (.code yX4_placeBy cX4_placeBy 2 (some .int)) := rfl
set_option maxRecDepth 100000 in
theorem mj_yk35 : lw_tbl[785]? = some (.code yX4_canTurn cX4_canTurn 1 (some .boolean)) := rfl
set_option maxRecDepth 100000 in
theorem mj_yk36 : lw_tbl[129]? = some (.code yX5_init cX5_init 1 (none)) := rfl
set_option maxRecDepth 100000 in
theorem mj_yk37 : lw_tbl[568]? = some (.code yX5_send cX5_send 5 (some .int)) := rfl
set_option maxRecDepth 100000 in
theorem mj_yk38 : lw_tbl[617]? = some (.code yX5_roundOf cX5_roundOf 6 (some .int)) := rfl
set_option maxRecDepth 100000 in
theorem mj_yk39 : lw_tbl[575]? = some (.code yX5_roll cX5_roll 5 (some .int)) := rfl
set_option maxRecDepth 100000 in
theorem mj_yk40 : lw_tbl[621]? = some (.code yX5_isAsAhead cX5_isAsAhead 3 (some .boolean)) := rfl
set_option maxRecDepth 100000 in
theorem mj_yk41 : lw_tbl[111]? = some (.code yX6_init cX6_init 1 (none)) := rfl
set_option maxRecDepth 100000 in
theorem mj_yk42 : lw_tbl[504]? = some (.code yX6_reset cX6_reset 1 (none)) := rfl
set_option maxRecDepth 100000 in
theorem mj_yk43 : lw_tbl[821]? = some (.code yX6_copyFrom cX6_copyFrom 2 (none)) := rfl
set_option maxRecDepth 100000 in
theorem mj_yk44 : lw_tbl[583]? = some (.code yX6_put cX6_put 2 (none)) := rfl
set_option maxRecDepth 100000 in
theorem mj_yk45 : lw_tbl[592]? = some (.code yX6_trucksIn cX6_trucksIn 4 (some .int)) := rfl
set_option maxRecDepth 100000 in
theorem mj_yk46 : lw_tbl[600]? = some (.code yX6_truckIn cX6_truckIn 5 (some .int)) := rfl
set_option maxRecDepth 100000 in
theorem mj_yk47 : lw_tbl[201]? = some (.code yX7_init cX7_init 2 (none)) := rfl
set_option maxRecDepth 100000 in
theorem mj_yk48 : lw_tbl[777]? = some (.code yX7_watch cX7_watch 7 (none)) := rfl
set_option maxRecDepth 100000 in
theorem mj_yk49 : lw_tbl[796]? = some (.code yX7_trucksToNotice cX7_trucksToNotice 3 (some .int)) := rfl
set_option maxRecDepth 100000 in
theorem mj_yk50 : lw_tbl[812]? = some (.code yX7_trucksToTellApart cX7_trucksToTellApart 4 (some .int)) := rfl
set_option maxRecDepth 100000 in
theorem mj_yk51 : lw_tbl[804]? = some (.code yX7_orNone cX7_orNone 2 (some .int)) := rfl
set_option maxRecDepth 100000 in
theorem mj_yk52 : lw_tbl[789]? = some (.code yX7_fillStops cX7_fillStops 6 (none)) := rfl
set_option maxRecDepth 100000 in
theorem mj_yk53 : lw_tbl[799]? = some (.code yX7_firstDifference cX7_firstDifference 3 (some .int)) := rfl
set_option maxRecDepth 100000 in
theorem mj_yk54 : lw_tbl[352]? = some (.code yX8_init cX8_init 2 (none)) := rfl
set_option maxRecDepth 100000 in
theorem mj_yk55 : lw_tbl[528]? = some (.code yX8_kind cX8_kind 1 (some .int)) := rfl
set_option maxRecDepth 100000 in
theorem mj_yk56 : lw_tbl[413]? = some (.code yX8_standCount cX8_standCount 1 (some .int)) := rfl
set_option maxRecDepth 100000 in
theorem mj_yk57 : lw_tbl[426]? = some (.code yX8_wayAt cX8_wayAt 2 (some .int)) := rfl
set_option maxRecDepth 100000 in
theorem mj_yk58 : lw_tbl[178]? = some (.code yX9_init cX9_init 1 (none)) := rfl
set_option maxRecDepth 100000 in
theorem mj_yk59 : lw_tbl[715]? = some (.code yX9_fewest cX9_fewest 9 (some .int)) := rfl
set_option maxRecDepth 100000 in
theorem mj_yk60 : lw_tbl[719]? = some (.code yX9_encode cX9_encode 5 (some .int)) := rfl
set_option maxRecDepth 100000 in
theorem mj_yk61 : lw_tbl[724]? = some (.code yX9_makeRoom cX9_makeRoom 2 (none)) := rfl
set_option maxRecDepth 100000 in
theorem mj_yk62 : lw_tbl[736]? = some (.code yX9_leave cX9_leave 12 (none)) := rfl
set_option maxRecDepth 100000 in
theorem mj_yk63 : lw_tbl[740]? = some (.code yX9_goOn cX9_goOn 8 (none)) := rfl
set_option maxRecDepth 100000 in
theorem mj_yk64 : lw_tbl[732]? = some (.code yX9_offer cX9_offer 5 (none)) := rfl
set_option maxRecDepth 100000 in
theorem mj_yk65 : lw_tbl[751]? = some (.code yX9_startNext cX9_startNext 3 (none)) := rfl
set_option maxRecDepth 100000 in
theorem mj_yk66 : lw_tbl[372]? = some (.code yX10_init cX10_init 4 (none)) := rfl
set_option maxRecDepth 100000 in
theorem mj_yk67 : lw_tbl[579]? = some (.code yX10_pass cX10_pass 5 (some .int)) := rfl
set_option maxRecDepth 100000 in
theorem mj_yk68 : lw_tbl[652]? = some (.code yX10_placeFrom cX10_placeFrom 4 (some .int)) := rfl
set_option maxRecDepth 100000 in
theorem mj_yk69 : lw_tbl[745]? = some (.code yX10_standAfter cX10_standAfter 4 (some .int)) := rfl
set_option maxRecDepth 100000 in
theorem mj_yk70 : lw_tbl[701]? = some (.code yX10_canLead cX10_canLead 3 (some .boolean)) := rfl
set_option maxRecDepth 100000 in
theorem mj_yk71 : lw_tbl[402]? = some (.code yX10_tellStands cX10_tellStands 5 (none)) := rfl
set_option maxRecDepth 100000 in
theorem mj_yk72 : lw_tbl[464]? = some (.code yX10_tellSidings cX10_tellSidings 8 (none)) := rfl
set_option maxRecDepth 100000 in
theorem mj_yk73 : lw_tbl[638]? = some (.code yX10_countOn cX10_countOn 5 (none)) := rfl
set_option maxRecDepth 100000 in
theorem mj_yk74 : lw_tbl[664]? = some (.code yX10_countBack cX10_countBack 5 (none)) := rfl
set_option maxRecDepth 100000 in
theorem mj_yk75 : lw_tbl[642]? = some (.code yX10_startCount cX10_startCount 2 (none)) := rfl
set_option maxRecDepth 100000 in
theorem mj_yk76 : lw_tbl[647]? = some (.code yX10_share cX10_share 7 (none)) := rfl
set_option maxRecDepth 100000 in
theorem mj_yk77 : lw_tbl[384]? = some (.code yX10_nextOf cX10_nextOf 8 (some .int)) := rfl
set_option maxRecDepth 100000 in
theorem mj_yk78 : lw_tbl[380]? = some (.code yX10_reachedFrom cX10_reachedFrom 4 (some .int)) := rfl
set_option maxRecDepth 100000 in
theorem mj_yk79 : lw_tbl[388]? = some (.code yX10_hasLoop cX10_hasLoop 3 (some .boolean)) := rfl
set_option maxRecDepth 100000 in
theorem mj_yk80 : lw_tbl[392]? = some (.code yX10_ordered cX10_ordered 6 (some (.array .int))) := rfl
set_option maxRecDepth 100000 in
theorem mj_yk81 : lw_tbl[87]? = some (.code yX11_init cX11_init 1 (none)) := rfl
set_option maxRecDepth 100000 in
theorem mj_yk82 : lw_tbl[269]? = some (.code yX11_letters cX11_letters 3 (some .int)) := rfl
set_option maxRecDepth 100000 in
theorem mj_yk83 : lw_tbl[283]? = some (.code yX11_blank cX11_blank 1 (some .int)) := rfl
set_option maxRecDepth 100000 in
theorem mj_yk84 : lw_tbl[291]? = some (.code yX11_fault cX11_fault 1 (some .int)) := rfl
set_option maxRecDepth 100000 in
theorem mj_yk85 : lw_tbl[305]? = some (.code yX11_yard cX11_yard 2 (some .int)) := rfl
set_option maxRecDepth 100000 in
theorem mj_yk86 : lw_tbl[511]? = some (.code yX11_about cX11_about 5 (some .int)) := rfl
set_option maxRecDepth 100000 in
theorem mj_yk87 : lw_tbl[536]? = some (.code yX11_as cX11_as 3 (some .int)) := rfl
set_option maxRecDepth 100000 in
theorem mj_yk88 : lw_tbl[546]? = some (.code yX11_lever cX11_lever 5 (some .int)) := rfl
set_option maxRecDepth 100000 in
theorem mj_yk89 : lw_tbl[560]? = some (.code yX11_anew cX11_anew 2 (some .int)) := rfl
set_option maxRecDepth 100000 in
theorem mj_yk90 : lw_tbl[564]? = some (.code yX11_down cX11_down 2 (some .int)) := rfl
set_option maxRecDepth 100000 in
theorem mj_yk91 : lw_tbl[587]? = some (.code yX11_many cX11_many 2 (some .int)) := rfl
set_option maxRecDepth 100000 in
theorem mj_yk92 : lw_tbl[596]? = some (.code yX11_truck cX11_truck 3 (some .int)) := rfl
set_option maxRecDepth 100000 in
theorem mj_yk93 : lw_tbl[604]? = some (.code yX11_moves cX11_moves 1 (some .int)) := rfl
set_option maxRecDepth 100000 in
theorem mj_yk94 : lw_tbl[613]? = some (.code yX11_round cX11_round 1 (some .int)) := rfl
set_option maxRecDepth 100000 in
theorem mj_yk95 : lw_tbl[625]? = some (.code yX11_straight cX11_straight 1 (some .int)) := rfl
set_option maxRecDepth 100000 in
theorem mj_yk96 : lw_tbl[629]? = some (.code yX11_nth cX11_nth 3 (some .int)) := rfl
set_option maxRecDepth 100000 in
theorem mj_yk97 : lw_tbl[656]? = some (.code yX11_behind cX11_behind 4 (some .int)) := rfl
set_option maxRecDepth 100000 in
theorem mj_yk98 : lw_tbl[660]? = some (.code yX11_ago cX11_ago 4 (some .int)) := rfl
set_option maxRecDepth 100000 in
theorem mj_yk99 : lw_tbl[668]? = some (.code yX11_want cX11_want 2 (some .int)) := rfl
set_option maxRecDepth 100000 in
theorem mj_yk100 : lw_tbl[672]? = some (.code yX11_clear cX11_clear 2 (some .int)) := rfl
set_option maxRecDepth 100000 in
theorem mj_yk101 : lw_tbl[676]? = some (.code yX11_begin cX11_begin 2 (some .int)) := rfl
set_option maxRecDepth 100000 in
theorem mj_yk102 : lw_tbl[711]? = some (.code yX11_hands cX11_hands 1 (some .int)) := rfl
set_option maxRecDepth 100000 in
theorem mj_yk103 : lw_tbl[756]? = some (.code yX11_empty cX11_empty 2 (some .int)) := rfl
set_option maxRecDepth 100000 in
theorem mj_yk104 : lw_tbl[765]? = some (.code yX11_which cX11_which 3 (some .int)) := rfl
set_option maxRecDepth 100000 in
theorem mj_yk105 : lw_tbl[773]? = some (.code yX11_noticed cX11_noticed 1 (some .int)) := rfl
set_option maxRecDepth 100000 in
theorem mj_yk106 : lw_tbl[808]? = some (.code yX11_apart cX11_apart 1 (some .int)) := rfl
set_option maxRecDepth 100000 in
theorem mj_yk107 : lw_tbl[817]? = some (.code yX11_image cX11_image 1 (some .int)) := rfl
set_option maxRecDepth 100000 in
theorem mj_yk108 : lw_tbl[826]? = some (.code yX11_restore cX11_restore 1 (some .int)) := rfl
set_option maxRecDepth 100000 in
theorem mj_yk109 : lw_tbl[830]? = some (.code yX11_count cX11_count 2 (some .int)) := rfl
set_option maxRecDepth 100000 in
theorem mj_yk110 : lw_tbl[834]? = some (.code yX11_digest cX11_digest 4 (some .long)) := rfl
set_option maxRecDepth 100000 in
theorem mj_yk111 : lw_tbl[839]? = some (.code yX11_digestOfSwitches cX11_digestOfSwitches 8 (some .long)) := rfl
set_option maxRecDepth 100000 in
theorem mj_yk112 : lw_tbl[846]? = some (.code yX11_digestOfSidings cX11_digestOfSidings 8 (some .long)) := rfl
set_option maxRecDepth 100000 in
theorem mj_yk113 : lw_tbl[850]? = some (.code yX11_digestOfTrials cX11_digestOfTrials 6 (some .long)) := rfl
set_option maxRecDepth 100000 in
theorem mj_yk114 : lw_tbl[515]? = some (.code yX11_isPoint cX11_isPoint 2 (some .boolean)) := rfl
set_option maxRecDepth 100000 in
theorem mj_yk115 : lw_tbl[633]? = some (.code yX11_isStraightYard cX11_isStraightYard 1 (some .boolean)) := rfl
set_option maxRecDepth 100000 in
theorem mj_yk116 : lw_tbl[680]? = some (.code yX11_mayPlan cX11_mayPlan 1 (some .boolean)) := rfl
set_option maxRecDepth 100000 in
theorem mj_yk117 : lw_tbl[608]? = some (.code yX11_spareStands cX11_spareStands 1 (some (.array .int))) := rfl
set_option maxRecDepth 100000 in
theorem mj_yk118 : lw_tbl[760]? = some (.code yX11_findEmptyAhead cX11_findEmptyAhead 4 (none)) := rfl
set_option maxRecDepth 100000 in
theorem mj_yk119 : lw_tbl[769]? = some (.code yX11_isExplainedBy cX11_isExplainedBy 4 (some .boolean)) := rfl
set_option maxRecDepth 100000 in
theorem mj_yk120 : lw_tbl[467]? = some (.code yX11_isSiding cX11_isSiding 1 (some .boolean)) := rfl
set_option maxRecDepth 100000 in
theorem mj_yk121 : lw_tbl[539]? = some (.code yX11_canBeTakenAs cX11_canBeTakenAs 2 (some .boolean)) := rfl
set_option maxRecDepth 100000 in
theorem mj_yk122 : lw_tbl[858]? = some (.code yX12_init cX12_init 1 (none)) := rfl
set_option maxRecDepth 100000 in
theorem mj_yk123 : lw_tbl[992]? = some (.code yX12_in cX12_in 6 (some .boolean)) := rfl
set_option maxRecDepth 100000 in
theorem mj_yk124 : lw_tbl[967]? = some (.code yX12_letters cX12_letters 9 (some .int)) := rfl
set_option maxRecDepth 100000 in
theorem mj_yk125 : lw_tbl[972]? = some (.code yX12_blank cX12_blank 2 (some .int)) := rfl
set_option maxRecDepth 100000 in
theorem mj_yk126 : lw_tbl[987]? = some (.code yX12_signOf cX12_signOf 1 (some .int)) := rfl
set_option maxRecDepth 100000 in
theorem mj_yk127 : lw_tbl[984]? = some (.code yX12_go cX12_go 4 (some .boolean)) := rfl
set_option maxRecDepth 100000 in
theorem mj_yk128 : lw_tbl[980]? = some (.code yX12_faultOf cX12_faultOf 2 (some .int)) := rfl
set_option maxRecDepth 100000 in
theorem mj_yk129 : lw_tbl[976]? = some (.code yX12_fault cX12_fault 1 (some .int)) := rfl
set_option maxRecDepth 100000 in
theorem mj_yk130 : lw_tbl[998]? = some (.code yX12_yard cX12_yard 3 (some .int)) := rfl
set_option maxRecDepth 100000 in
theorem mj_yk131 : lw_tbl[1006]? = some (.code yX12_isPoint cX12_isPoint 2 (some .boolean)) := rfl
set_option maxRecDepth 100000 in
theorem mj_yk132 : lw_tbl[1039]? = some (.code yX12_lacks cX12_lacks 1 (some .boolean)) := rfl
set_option maxRecDepth 100000 in
theorem mj_yk133 : lw_tbl[1014]? = some (.code yX12_standMany cX12_standMany 3 (some .int)) := rfl
set_option maxRecDepth 100000 in
theorem mj_yk134 : lw_tbl[1018]? = some (.code yX12_wayAt cX12_wayAt 4 (some .int)) := rfl
set_option maxRecDepth 100000 in
theorem mj_yk135 : lw_tbl[1059]? = some (.code yX12_turned cX12_turned 3 (some .int)) := rfl
set_option maxRecDepth 100000 in
theorem mj_yk136 : lw_tbl[1010]? = some (.code yX12_aboutOf cX12_aboutOf 3 (some .int)) := rfl
set_option maxRecDepth 100000 in
theorem mj_yk137 : lw_tbl[1002]? = some (.code yX12_about cX12_about 3 (some .int)) := rfl
set_option maxRecDepth 100000 in
theorem mj_yk138 : lw_tbl[1022]? = some (.code yX12_as cX12_as 4 (some .int)) := rfl
set_option maxRecDepth 100000 in
theorem mj_yk139 : lw_tbl[1031]? = some (.code yX12_leastStand cX12_leastStand 4 (some .int)) := rfl
set_option maxRecDepth 100000 in
theorem mj_yk140 : lw_tbl[1027]? = some (.code yX12_lever cX12_lever 4 (some .int)) := rfl
set_option maxRecDepth 100000 in
theorem mj_yk141 : lw_tbl[1035]? = some (.code yX12_anew cX12_anew 3 (some .int)) := rfl
set_option maxRecDepth 100000 in
theorem mj_yk142 : lw_tbl[1047]? = some (.code yX12_layTried cX12_layTried 2 (none)) := rfl
set_option maxRecDepth 100000 in
theorem mj_yk143 : lw_tbl[1055]? = some (.code yX12_move cX12_move 3 (none)) := rfl
set_option maxRecDepth 100000 in
theorem mj_yk144 : lw_tbl[1051]? = some (.code yX12_goTruck cX12_goTruck 3 (some .int)) := rfl
set_option maxRecDepth 100000 in
theorem mj_yk145 : lw_tbl[1043]? = some (.code yX12_down cX12_down 3 (some .int)) := rfl
set_option maxRecDepth 100000 in
theorem mj_yk146 : lw_tbl[1068]? = some (.code yX12_manyIn cX12_manyIn 4 (some .int)) := rfl
set_option maxRecDepth 100000 in
theorem mj_yk147 : lw_tbl[1063]? = some (.code yX12_many cX12_many 2 (some .int)) := rfl
set_option maxRecDepth 100000 in
theorem mj_yk148 : lw_tbl[1072]? = some (.code yX12_truck cX12_truck 5 (some .int)) := rfl
set_option maxRecDepth 100000 in
theorem mj_yk149 : lw_tbl[1081]? = some (.code yX12_movesOf cX12_movesOf 2 (some .int)) := rfl
set_option maxRecDepth 100000 in
theorem mj_yk150 : lw_tbl[1077]? = some (.code yX12_moves cX12_moves 1 (some .int)) := rfl
set_option maxRecDepth 100000 in
theorem mj_yk151 : lw_tbl[1085]? = some (.code yX12_round cX12_round 5 (some .int)) := rfl
set_option maxRecDepth 100000 in
theorem mj_yk152 : lw_tbl[1097]? = some (.code yX12_reach cX12_reach 7 (some .int)) := rfl
set_option maxRecDepth 100000 in
theorem mj_yk153 : lw_tbl[1093]? = some (.code yX12_isStraight cX12_isStraight 4 (some .boolean)) := rfl
set_option maxRecDepth 100000 in
theorem mj_yk154 : lw_tbl[1089]? = some (.code yX12_straight cX12_straight 1 (some .int)) := rfl
set_option maxRecDepth 100000 in
theorem mj_yk155 : lw_tbl[1110]? = some (.code yX12_isReady cX12_isReady 6 (some .boolean)) := rfl
set_option maxRecDepth 100000 in
theorem mj_yk156 : lw_tbl[1114]? = some (.code yX12_send cX12_send 9 (none)) := rfl
set_option maxRecDepth 100000 in
theorem mj_yk157 : lw_tbl[1106]? = some (.code yX12_layBehind cX12_layBehind 8 (none)) := rfl
set_option maxRecDepth 100000 in
theorem mj_yk158 : lw_tbl[1101]? = some (.code yX12_nth cX12_nth 2 (some .int)) := rfl
set_option maxRecDepth 100000 in
theorem mj_yk159 : lw_tbl[1118]? = some (.code yX12_behind cX12_behind 3 (some .int)) := rfl
set_option maxRecDepth 100000 in
theorem mj_yk160 : lw_tbl[1122]? = some (.code yX12_ago cX12_ago 3 (some .int)) := rfl
set_option maxRecDepth 100000 in
theorem mj_yk161 : lw_tbl[1126]? = some (.code yX12_want cX12_want 2 (some .int)) := rfl
set_option maxRecDepth 100000 in
theorem mj_yk162 : lw_tbl[1130]? = some (.code yX12_clear cX12_clear 2 (some .int)) := rfl
set_option maxRecDepth 100000 in
theorem mj_yk163 : lw_tbl[1148]? = some (.code yX12_isTrue cX12_isTrue 4 (some .boolean)) := rfl
set_option maxRecDepth 100000 in
theorem mj_yk164 : lw_tbl[1140]? = some (.code yX12_standsInAll cX12_standsInAll 3 (some .int)) := rfl
set_option maxRecDepth 100000 in
theorem mj_yk165 : lw_tbl[1144]? = some (.code yX12_layStands cX12_layStands 4 (none)) := rfl
set_option maxRecDepth 100000 in
theorem mj_yk166 : lw_tbl[1157]? = some (.code yX12_codeOf cX12_codeOf 3 (some .int)) := rfl
set_option maxRecDepth 100000 in
theorem mj_yk167 : lw_tbl[1134]? = some (.code yX12_begin cX12_begin 8 (some .int)) := rfl
set_option maxRecDepth 100000 in
theorem mj_yk168 : lw_tbl[1161]? = some (.code yX12_throwAll cX12_throwAll 9 (none)) := rfl
set_option maxRecDepth 100000 in
theorem mj_yk169 : lw_tbl[1152]? = some (.code yX12_hands cX12_hands 5 (some .int)) := rfl
set_option maxRecDepth 100000 in
theorem mj_yk170 : lw_tbl[1169]? = some (.code yX12_emptyOf cX12_emptyOf 3 (some .int)) := rfl
set_option maxRecDepth 100000 in
theorem mj_yk171 : lw_tbl[1165]? = some (.code yX12_empty cX12_empty 2 (some .int)) := rfl
set_option maxRecDepth 100000 in
theorem mj_yk172 : lw_tbl[1173]? = some (.code yX12_which cX12_which 3 (some .int)) := rfl
set_option maxRecDepth 100000 in
theorem mj_yk173 : lw_tbl[1189]? = some (.code yX12_doesTurn cX12_doesTurn 3 (some .boolean)) := rfl
set_option maxRecDepth 100000 in
theorem mj_yk174 : lw_tbl[1185]? = some (.code yX12_layGoes cX12_layGoes 3 (none)) := rfl
set_option maxRecDepth 100000 in
theorem mj_yk175 : lw_tbl[1193]? = some (.code yX12_unlike cX12_unlike 4 (some .int)) := rfl
set_option maxRecDepth 100000 in
theorem mj_yk176 : lw_tbl[1181]? = some (.code yX12_noticedOf cX12_noticedOf 7 (some .int)) := rfl
set_option maxRecDepth 100000 in
theorem mj_yk177 : lw_tbl[1177]? = some (.code yX12_noticed cX12_noticed 1 (some .int)) := rfl
set_option maxRecDepth 100000 in
theorem mj_yk178 : lw_tbl[1197]? = some (.code yX12_apart cX12_apart 1 (some .int)) := rfl
set_option maxRecDepth 100000 in
theorem mj_yk179 : lw_tbl[1201]? = some (.code yX12_image cX12_image 2 (some .int)) := rfl
set_option maxRecDepth 100000 in
theorem mj_yk180 : lw_tbl[1205]? = some (.code yX12_restore cX12_restore 2 (some .int)) := rfl
set_option maxRecDepth 100000 in
theorem mj_yk181 : lw_tbl[1213]? = some (.code yX12_countOf cX12_countOf 2 (some .int)) := rfl
set_option maxRecDepth 100000 in
theorem mj_yk182 : lw_tbl[1209]? = some (.code yX12_count cX12_count 2 (some .int)) := rfl
set_option maxRecDepth 100000 in
theorem mj_yk183 : lw_tbl[1222]? = some (.code yX12_say cX12_say 3 (none)) := rfl
set_option maxRecDepth 100000 in
theorem mj_yk184 : lw_tbl[1227]? = some (.code yX12_sayYard cX12_sayYard 2 (none)) := rfl
set_option maxRecDepth 100000 in
theorem mj_yk185 : lw_tbl[1217]? = some (.code yX12_digest cX12_digest 3 (some .long)) := rfl
set_option maxRecDepth 100000 in
theorem mj_yk186 : lw_tbl[395]? = some (.code yJ6_bitCount_0f7a4 cJ6_bitCount_0f7a4 1 (some .int)) := rfl
set_option maxRecDepth 100000 in
theorem mj_yk187 : lw_tbl[460]? = some (.code yJ9_floorMod_7cf53 cJ9_floorMod_7cf53 3 (some .int)) := rfl
set_option maxRecDepth 100000 in
theorem mj_yk188 : lw_tbl[327]? = some (.code yJ9_max_7cf53 cJ9_max_7cf53 2 (some .int)) := rfl
set_option maxRecDepth 100000 in
theorem mj_yk189 : lw_tbl[376]? = some (.code yJ9_min_7cf53 cJ9_min_7cf53 2 (some .int)) := rfl
set_option maxRecDepth 100000 in
theorem mj_yk190 : lw_tbl[507]? = some (.code yJ7_fill_53178 cJ7_fill_53178 4 (none)) := rfl
set_option maxRecDepth 100000 in
theorem mj_yk191 : lw_tbl[728]? = some (.code yJ7_fill_031fb cJ7_fill_031fb 4 (none)) := rfl
set_option maxRecDepth 100000 in
set_option maxHeartbeats 4000000 in
theorem mj_YOK_Y : mj_YOK mj_Y := by
  intro k y cc mL ret h hn
  match k, h with
  | 0, h => cases h; exact ⟨List.mem_filter.mpr ⟨List.mem_of_getElem? mj_yk0, rfl⟩, by decide⟩
  | 1, h => cases h; exact ⟨List.mem_filter.mpr ⟨List.mem_of_getElem? mj_yk1, rfl⟩, by decide⟩
  | 2, h => cases h; exact ⟨List.mem_filter.mpr ⟨List.mem_of_getElem? mj_yk2, rfl⟩, by decide⟩
  | 3, h => cases h; exact ⟨List.mem_filter.mpr ⟨List.mem_of_getElem? mj_yk3, rfl⟩, by decide⟩
  | 4, h => cases h; exact ⟨List.mem_filter.mpr ⟨List.mem_of_getElem? mj_yk4, rfl⟩, by decide⟩
  | 5, h => cases h; exact ⟨List.mem_filter.mpr ⟨List.mem_of_getElem? mj_yk5, rfl⟩, by decide⟩
  | 6, h => cases h; exact ⟨List.mem_filter.mpr ⟨List.mem_of_getElem? mj_yk6, rfl⟩, by decide⟩
  | 7, h => cases h; exact ⟨List.mem_filter.mpr ⟨List.mem_of_getElem? mj_yk7, rfl⟩, by decide⟩
  | 8, h => cases h; exact ⟨List.mem_filter.mpr ⟨List.mem_of_getElem? mj_yk8, rfl⟩, by decide⟩
  | 9, h => cases h; exact ⟨List.mem_filter.mpr ⟨List.mem_of_getElem? mj_yk9, rfl⟩, by decide⟩
  | 10, h => cases h; exact ⟨List.mem_filter.mpr ⟨List.mem_of_getElem? mj_yk10, rfl⟩, by decide⟩
  | 11, h => cases h; exact ⟨List.mem_filter.mpr ⟨List.mem_of_getElem? mj_yk11, rfl⟩, by decide⟩
  | 12, h => cases h; exact ⟨List.mem_filter.mpr ⟨List.mem_of_getElem? mj_yk12, rfl⟩, by decide⟩
  | 13, h => cases h; exact ⟨List.mem_filter.mpr ⟨List.mem_of_getElem? mj_yk13, rfl⟩, by decide⟩
  | 14, h => cases h; exact ⟨List.mem_filter.mpr ⟨List.mem_of_getElem? mj_yk14, rfl⟩, by decide⟩
  | 15, h => cases h; exact ⟨List.mem_filter.mpr ⟨List.mem_of_getElem? mj_yk15, rfl⟩, by decide⟩
  | 16, h => cases h; exact ⟨List.mem_filter.mpr ⟨List.mem_of_getElem? mj_yk16, rfl⟩, by decide⟩
  | 17, h => cases h; exact ⟨List.mem_filter.mpr ⟨List.mem_of_getElem? mj_yk17, rfl⟩, by decide⟩
  | 18, h => cases h; exact ⟨List.mem_filter.mpr ⟨List.mem_of_getElem? mj_yk18, rfl⟩, by decide⟩
  | 19, h => cases h; exact ⟨List.mem_filter.mpr ⟨List.mem_of_getElem? mj_yk19, rfl⟩, by decide⟩
  | 20, h => cases h; exact ⟨List.mem_filter.mpr ⟨List.mem_of_getElem? mj_yk20, rfl⟩, by decide⟩
  | 21, h => cases h; exact ⟨List.mem_filter.mpr ⟨List.mem_of_getElem? mj_yk21, rfl⟩, by decide⟩
  | 22, h => cases h; exact ⟨List.mem_filter.mpr ⟨List.mem_of_getElem? mj_yk22, rfl⟩, by decide⟩
  | 23, h => cases h; exact ⟨List.mem_filter.mpr ⟨List.mem_of_getElem? mj_yk23, rfl⟩, by decide⟩
  | 24, h => cases h; exact ⟨List.mem_filter.mpr ⟨List.mem_of_getElem? mj_yk24, rfl⟩, by decide⟩
  | 25, h => cases h; exact ⟨List.mem_filter.mpr ⟨List.mem_of_getElem? mj_yk25, rfl⟩, by decide⟩
  | 26, h => cases h; exact ⟨List.mem_filter.mpr ⟨List.mem_of_getElem? mj_yk26, rfl⟩, by decide⟩
  | 27, h => cases h; exact ⟨List.mem_filter.mpr ⟨List.mem_of_getElem? mj_yk27, rfl⟩, by decide⟩
  | 28, h => cases h; exact ⟨List.mem_filter.mpr ⟨List.mem_of_getElem? mj_yk28, rfl⟩, by decide⟩
  | 29, h => cases h; exact ⟨List.mem_filter.mpr ⟨List.mem_of_getElem? mj_yk29, rfl⟩, by decide⟩
  | 30, h => cases h; exact ⟨List.mem_filter.mpr ⟨List.mem_of_getElem? mj_yk30, rfl⟩, by decide⟩
  | 31, h => cases h; exact ⟨List.mem_filter.mpr ⟨List.mem_of_getElem? mj_yk31, rfl⟩, by decide⟩
  | 32, h => cases h; exact ⟨List.mem_filter.mpr ⟨List.mem_of_getElem? mj_yk32, rfl⟩, by decide⟩
  | 33, h => cases h; exact ⟨List.mem_filter.mpr ⟨List.mem_of_getElem? mj_yk33, rfl⟩, by decide⟩
  | 34, h => cases h; exact ⟨List.mem_filter.mpr ⟨List.mem_of_getElem? mj_yk34, rfl⟩, by decide⟩
  | 35, h => cases h; exact ⟨List.mem_filter.mpr ⟨List.mem_of_getElem? mj_yk35, rfl⟩, by decide⟩
  | 36, h => cases h; exact ⟨List.mem_filter.mpr ⟨List.mem_of_getElem? mj_yk36, rfl⟩, by decide⟩
  | 37, h => cases h; exact ⟨List.mem_filter.mpr ⟨List.mem_of_getElem? mj_yk37, rfl⟩, by decide⟩
  | 38, h => cases h; exact ⟨List.mem_filter.mpr ⟨List.mem_of_getElem? mj_yk38, rfl⟩, by decide⟩
  | 39, h => cases h; exact ⟨List.mem_filter.mpr ⟨List.mem_of_getElem? mj_yk39, rfl⟩, by decide⟩
  | 40, h => cases h; exact ⟨List.mem_filter.mpr ⟨List.mem_of_getElem? mj_yk40, rfl⟩, by decide⟩
  | 41, h => cases h; exact ⟨List.mem_filter.mpr ⟨List.mem_of_getElem? mj_yk41, rfl⟩, by decide⟩
  | 42, h => cases h; exact ⟨List.mem_filter.mpr ⟨List.mem_of_getElem? mj_yk42, rfl⟩, by decide⟩
  | 43, h => cases h; exact ⟨List.mem_filter.mpr ⟨List.mem_of_getElem? mj_yk43, rfl⟩, by decide⟩
  | 44, h => cases h; exact ⟨List.mem_filter.mpr ⟨List.mem_of_getElem? mj_yk44, rfl⟩, by decide⟩
  | 45, h => cases h; exact ⟨List.mem_filter.mpr ⟨List.mem_of_getElem? mj_yk45, rfl⟩, by decide⟩
  | 46, h => cases h; exact ⟨List.mem_filter.mpr ⟨List.mem_of_getElem? mj_yk46, rfl⟩, by decide⟩
  | 47, h => cases h; exact ⟨List.mem_filter.mpr ⟨List.mem_of_getElem? mj_yk47, rfl⟩, by decide⟩
  | 48, h => cases h; exact ⟨List.mem_filter.mpr ⟨List.mem_of_getElem? mj_yk48, rfl⟩, by decide⟩
  | 49, h => cases h; exact ⟨List.mem_filter.mpr ⟨List.mem_of_getElem? mj_yk49, rfl⟩, by decide⟩
  | 50, h => cases h; exact ⟨List.mem_filter.mpr ⟨List.mem_of_getElem? mj_yk50, rfl⟩, by decide⟩
  | 51, h => cases h; exact ⟨List.mem_filter.mpr ⟨List.mem_of_getElem? mj_yk51, rfl⟩, by decide⟩
  | 52, h => cases h; exact ⟨List.mem_filter.mpr ⟨List.mem_of_getElem? mj_yk52, rfl⟩, by decide⟩
  | 53, h => cases h; exact ⟨List.mem_filter.mpr ⟨List.mem_of_getElem? mj_yk53, rfl⟩, by decide⟩
  | 54, h => cases h; exact ⟨List.mem_filter.mpr ⟨List.mem_of_getElem? mj_yk54, rfl⟩, by decide⟩
  | 55, h => cases h; exact ⟨List.mem_filter.mpr ⟨List.mem_of_getElem? mj_yk55, rfl⟩, by decide⟩
  | 56, h => cases h; exact ⟨List.mem_filter.mpr ⟨List.mem_of_getElem? mj_yk56, rfl⟩, by decide⟩
  | 57, h => cases h; exact ⟨List.mem_filter.mpr ⟨List.mem_of_getElem? mj_yk57, rfl⟩, by decide⟩
  | 58, h => cases h; exact ⟨List.mem_filter.mpr ⟨List.mem_of_getElem? mj_yk58, rfl⟩, by decide⟩
  | 59, h => cases h; exact ⟨List.mem_filter.mpr ⟨List.mem_of_getElem? mj_yk59, rfl⟩, by decide⟩
  | 60, h => cases h; exact ⟨List.mem_filter.mpr ⟨List.mem_of_getElem? mj_yk60, rfl⟩, by decide⟩
  | 61, h => cases h; exact ⟨List.mem_filter.mpr ⟨List.mem_of_getElem? mj_yk61, rfl⟩, by decide⟩
  | 62, h => cases h; exact ⟨List.mem_filter.mpr ⟨List.mem_of_getElem? mj_yk62, rfl⟩, by decide⟩
  | 63, h => cases h; exact ⟨List.mem_filter.mpr ⟨List.mem_of_getElem? mj_yk63, rfl⟩, by decide⟩
  | 64, h => cases h; exact ⟨List.mem_filter.mpr ⟨List.mem_of_getElem? mj_yk64, rfl⟩, by decide⟩
  | 65, h => cases h; exact ⟨List.mem_filter.mpr ⟨List.mem_of_getElem? mj_yk65, rfl⟩, by decide⟩
  | 66, h => cases h; exact ⟨List.mem_filter.mpr ⟨List.mem_of_getElem? mj_yk66, rfl⟩, by decide⟩
  | 67, h => cases h; exact ⟨List.mem_filter.mpr ⟨List.mem_of_getElem? mj_yk67, rfl⟩, by decide⟩
  | 68, h => cases h; exact ⟨List.mem_filter.mpr ⟨List.mem_of_getElem? mj_yk68, rfl⟩, by decide⟩
  | 69, h => cases h; exact ⟨List.mem_filter.mpr ⟨List.mem_of_getElem? mj_yk69, rfl⟩, by decide⟩
  | 70, h => cases h; exact ⟨List.mem_filter.mpr ⟨List.mem_of_getElem? mj_yk70, rfl⟩, by decide⟩
  | 71, h => cases h; exact ⟨List.mem_filter.mpr ⟨List.mem_of_getElem? mj_yk71, rfl⟩, by decide⟩
  | 72, h => cases h; exact ⟨List.mem_filter.mpr ⟨List.mem_of_getElem? mj_yk72, rfl⟩, by decide⟩
  | 73, h => cases h; exact ⟨List.mem_filter.mpr ⟨List.mem_of_getElem? mj_yk73, rfl⟩, by decide⟩
  | 74, h => cases h; exact ⟨List.mem_filter.mpr ⟨List.mem_of_getElem? mj_yk74, rfl⟩, by decide⟩
  | 75, h => cases h; exact ⟨List.mem_filter.mpr ⟨List.mem_of_getElem? mj_yk75, rfl⟩, by decide⟩
  | 76, h => cases h; exact ⟨List.mem_filter.mpr ⟨List.mem_of_getElem? mj_yk76, rfl⟩, by decide⟩
  | 77, h => cases h; exact ⟨List.mem_filter.mpr ⟨List.mem_of_getElem? mj_yk77, rfl⟩, by decide⟩
  | 78, h => cases h; exact ⟨List.mem_filter.mpr ⟨List.mem_of_getElem? mj_yk78, rfl⟩, by decide⟩
  | 79, h => cases h; exact ⟨List.mem_filter.mpr ⟨List.mem_of_getElem? mj_yk79, rfl⟩, by decide⟩
  | 80, h => cases h; exact ⟨List.mem_filter.mpr ⟨List.mem_of_getElem? mj_yk80, rfl⟩, by decide⟩
  | 81, h => cases h; exact ⟨List.mem_filter.mpr ⟨List.mem_of_getElem? mj_yk81, rfl⟩, by decide⟩
  | 82, h => cases h; exact ⟨List.mem_filter.mpr ⟨List.mem_of_getElem? mj_yk82, rfl⟩, by decide⟩
  | 83, h => cases h; exact ⟨List.mem_filter.mpr ⟨List.mem_of_getElem? mj_yk83, rfl⟩, by decide⟩
  | 84, h => cases h; exact ⟨List.mem_filter.mpr ⟨List.mem_of_getElem? mj_yk84, rfl⟩, by decide⟩
  | 85, h => cases h; exact ⟨List.mem_filter.mpr ⟨List.mem_of_getElem? mj_yk85, rfl⟩, by decide⟩
  | 86, h => cases h; exact ⟨List.mem_filter.mpr ⟨List.mem_of_getElem? mj_yk86, rfl⟩, by decide⟩
  | 87, h => cases h; exact ⟨List.mem_filter.mpr ⟨List.mem_of_getElem? mj_yk87, rfl⟩, by decide⟩
  | 88, h => cases h; exact ⟨List.mem_filter.mpr ⟨List.mem_of_getElem? mj_yk88, rfl⟩, by decide⟩
  | 89, h => cases h; exact ⟨List.mem_filter.mpr ⟨List.mem_of_getElem? mj_yk89, rfl⟩, by decide⟩
  | 90, h => cases h; exact ⟨List.mem_filter.mpr ⟨List.mem_of_getElem? mj_yk90, rfl⟩, by decide⟩
  | 91, h => cases h; exact ⟨List.mem_filter.mpr ⟨List.mem_of_getElem? mj_yk91, rfl⟩, by decide⟩
  | 92, h => cases h; exact ⟨List.mem_filter.mpr ⟨List.mem_of_getElem? mj_yk92, rfl⟩, by decide⟩
  | 93, h => cases h; exact ⟨List.mem_filter.mpr ⟨List.mem_of_getElem? mj_yk93, rfl⟩, by decide⟩
  | 94, h => cases h; exact ⟨List.mem_filter.mpr ⟨List.mem_of_getElem? mj_yk94, rfl⟩, by decide⟩
  | 95, h => cases h; exact ⟨List.mem_filter.mpr ⟨List.mem_of_getElem? mj_yk95, rfl⟩, by decide⟩
  | 96, h => cases h; exact ⟨List.mem_filter.mpr ⟨List.mem_of_getElem? mj_yk96, rfl⟩, by decide⟩
  | 97, h => cases h; exact ⟨List.mem_filter.mpr ⟨List.mem_of_getElem? mj_yk97, rfl⟩, by decide⟩
  | 98, h => cases h; exact ⟨List.mem_filter.mpr ⟨List.mem_of_getElem? mj_yk98, rfl⟩, by decide⟩
  | 99, h => cases h; exact ⟨List.mem_filter.mpr ⟨List.mem_of_getElem? mj_yk99, rfl⟩, by decide⟩
  | 100, h => cases h; exact ⟨List.mem_filter.mpr ⟨List.mem_of_getElem? mj_yk100, rfl⟩, by decide⟩
  | 101, h => cases h; exact ⟨List.mem_filter.mpr ⟨List.mem_of_getElem? mj_yk101, rfl⟩, by decide⟩
  | 102, h => cases h; exact ⟨List.mem_filter.mpr ⟨List.mem_of_getElem? mj_yk102, rfl⟩, by decide⟩
  | 103, h => cases h; exact ⟨List.mem_filter.mpr ⟨List.mem_of_getElem? mj_yk103, rfl⟩, by decide⟩
  | 104, h => cases h; exact ⟨List.mem_filter.mpr ⟨List.mem_of_getElem? mj_yk104, rfl⟩, by decide⟩
  | 105, h => cases h; exact ⟨List.mem_filter.mpr ⟨List.mem_of_getElem? mj_yk105, rfl⟩, by decide⟩
  | 106, h => cases h; exact ⟨List.mem_filter.mpr ⟨List.mem_of_getElem? mj_yk106, rfl⟩, by decide⟩
  | 107, h => cases h; exact ⟨List.mem_filter.mpr ⟨List.mem_of_getElem? mj_yk107, rfl⟩, by decide⟩
  | 108, h => cases h; exact ⟨List.mem_filter.mpr ⟨List.mem_of_getElem? mj_yk108, rfl⟩, by decide⟩
  | 109, h => cases h; exact ⟨List.mem_filter.mpr ⟨List.mem_of_getElem? mj_yk109, rfl⟩, by decide⟩
  | 110, h => cases h; exact ⟨List.mem_filter.mpr ⟨List.mem_of_getElem? mj_yk110, rfl⟩, by decide⟩
  | 111, h => cases h; exact ⟨List.mem_filter.mpr ⟨List.mem_of_getElem? mj_yk111, rfl⟩, by decide⟩
  | 112, h => cases h; exact ⟨List.mem_filter.mpr ⟨List.mem_of_getElem? mj_yk112, rfl⟩, by decide⟩
  | 113, h => cases h; exact ⟨List.mem_filter.mpr ⟨List.mem_of_getElem? mj_yk113, rfl⟩, by decide⟩
  | 114, h => cases h; exact ⟨List.mem_filter.mpr ⟨List.mem_of_getElem? mj_yk114, rfl⟩, by decide⟩
  | 115, h => cases h; exact ⟨List.mem_filter.mpr ⟨List.mem_of_getElem? mj_yk115, rfl⟩, by decide⟩
  | 116, h => cases h; exact ⟨List.mem_filter.mpr ⟨List.mem_of_getElem? mj_yk116, rfl⟩, by decide⟩
  | 117, h => cases h; exact ⟨List.mem_filter.mpr ⟨List.mem_of_getElem? mj_yk117, rfl⟩, by decide⟩
  | 118, h => cases h; exact ⟨List.mem_filter.mpr ⟨List.mem_of_getElem? mj_yk118, rfl⟩, by decide⟩
  | 119, h => cases h; exact ⟨List.mem_filter.mpr ⟨List.mem_of_getElem? mj_yk119, rfl⟩, by decide⟩
  | 120, h => cases h; exact ⟨List.mem_filter.mpr ⟨List.mem_of_getElem? mj_yk120, rfl⟩, by decide⟩
  | 121, h => cases h; exact ⟨List.mem_filter.mpr ⟨List.mem_of_getElem? mj_yk121, rfl⟩, by decide⟩
  | 122, h => cases h; exact ⟨List.mem_filter.mpr ⟨List.mem_of_getElem? mj_yk122, rfl⟩, by decide⟩
  | 123, h => cases h; exact ⟨List.mem_filter.mpr ⟨List.mem_of_getElem? mj_yk123, rfl⟩, by decide⟩
  | 124, h => cases h; exact ⟨List.mem_filter.mpr ⟨List.mem_of_getElem? mj_yk124, rfl⟩, by decide⟩
  | 125, h => cases h; exact ⟨List.mem_filter.mpr ⟨List.mem_of_getElem? mj_yk125, rfl⟩, by decide⟩
  | 126, h => cases h; exact ⟨List.mem_filter.mpr ⟨List.mem_of_getElem? mj_yk126, rfl⟩, by decide⟩
  | 127, h => cases h; exact ⟨List.mem_filter.mpr ⟨List.mem_of_getElem? mj_yk127, rfl⟩, by decide⟩
  | 128, h => cases h; exact ⟨List.mem_filter.mpr ⟨List.mem_of_getElem? mj_yk128, rfl⟩, by decide⟩
  | 129, h => cases h; exact ⟨List.mem_filter.mpr ⟨List.mem_of_getElem? mj_yk129, rfl⟩, by decide⟩
  | 130, h => cases h; exact ⟨List.mem_filter.mpr ⟨List.mem_of_getElem? mj_yk130, rfl⟩, by decide⟩
  | 131, h => cases h; exact ⟨List.mem_filter.mpr ⟨List.mem_of_getElem? mj_yk131, rfl⟩, by decide⟩
  | 132, h => cases h; exact ⟨List.mem_filter.mpr ⟨List.mem_of_getElem? mj_yk132, rfl⟩, by decide⟩
  | 133, h => cases h; exact ⟨List.mem_filter.mpr ⟨List.mem_of_getElem? mj_yk133, rfl⟩, by decide⟩
  | 134, h => cases h; exact ⟨List.mem_filter.mpr ⟨List.mem_of_getElem? mj_yk134, rfl⟩, by decide⟩
  | 135, h => cases h; exact ⟨List.mem_filter.mpr ⟨List.mem_of_getElem? mj_yk135, rfl⟩, by decide⟩
  | 136, h => cases h; exact ⟨List.mem_filter.mpr ⟨List.mem_of_getElem? mj_yk136, rfl⟩, by decide⟩
  | 137, h => cases h; exact ⟨List.mem_filter.mpr ⟨List.mem_of_getElem? mj_yk137, rfl⟩, by decide⟩
  | 138, h => cases h; exact ⟨List.mem_filter.mpr ⟨List.mem_of_getElem? mj_yk138, rfl⟩, by decide⟩
  | 139, h => cases h; exact ⟨List.mem_filter.mpr ⟨List.mem_of_getElem? mj_yk139, rfl⟩, by decide⟩
  | 140, h => cases h; exact ⟨List.mem_filter.mpr ⟨List.mem_of_getElem? mj_yk140, rfl⟩, by decide⟩
  | 141, h => cases h; exact ⟨List.mem_filter.mpr ⟨List.mem_of_getElem? mj_yk141, rfl⟩, by decide⟩
  | 142, h => cases h; exact ⟨List.mem_filter.mpr ⟨List.mem_of_getElem? mj_yk142, rfl⟩, by decide⟩
  | 143, h => cases h; exact ⟨List.mem_filter.mpr ⟨List.mem_of_getElem? mj_yk143, rfl⟩, by decide⟩
  | 144, h => cases h; exact ⟨List.mem_filter.mpr ⟨List.mem_of_getElem? mj_yk144, rfl⟩, by decide⟩
  | 145, h => cases h; exact ⟨List.mem_filter.mpr ⟨List.mem_of_getElem? mj_yk145, rfl⟩, by decide⟩
  | 146, h => cases h; exact ⟨List.mem_filter.mpr ⟨List.mem_of_getElem? mj_yk146, rfl⟩, by decide⟩
  | 147, h => cases h; exact ⟨List.mem_filter.mpr ⟨List.mem_of_getElem? mj_yk147, rfl⟩, by decide⟩
  | 148, h => cases h; exact ⟨List.mem_filter.mpr ⟨List.mem_of_getElem? mj_yk148, rfl⟩, by decide⟩
  | 149, h => cases h; exact ⟨List.mem_filter.mpr ⟨List.mem_of_getElem? mj_yk149, rfl⟩, by decide⟩
  | 150, h => cases h; exact ⟨List.mem_filter.mpr ⟨List.mem_of_getElem? mj_yk150, rfl⟩, by decide⟩
  | 151, h => cases h; exact ⟨List.mem_filter.mpr ⟨List.mem_of_getElem? mj_yk151, rfl⟩, by decide⟩
  | 152, h => cases h; exact ⟨List.mem_filter.mpr ⟨List.mem_of_getElem? mj_yk152, rfl⟩, by decide⟩
  | 153, h => cases h; exact ⟨List.mem_filter.mpr ⟨List.mem_of_getElem? mj_yk153, rfl⟩, by decide⟩
  | 154, h => cases h; exact ⟨List.mem_filter.mpr ⟨List.mem_of_getElem? mj_yk154, rfl⟩, by decide⟩
  | 155, h => cases h; exact ⟨List.mem_filter.mpr ⟨List.mem_of_getElem? mj_yk155, rfl⟩, by decide⟩
  | 156, h => cases h; exact ⟨List.mem_filter.mpr ⟨List.mem_of_getElem? mj_yk156, rfl⟩, by decide⟩
  | 157, h => cases h; exact ⟨List.mem_filter.mpr ⟨List.mem_of_getElem? mj_yk157, rfl⟩, by decide⟩
  | 158, h => cases h; exact ⟨List.mem_filter.mpr ⟨List.mem_of_getElem? mj_yk158, rfl⟩, by decide⟩
  | 159, h => cases h; exact ⟨List.mem_filter.mpr ⟨List.mem_of_getElem? mj_yk159, rfl⟩, by decide⟩
  | 160, h => cases h; exact ⟨List.mem_filter.mpr ⟨List.mem_of_getElem? mj_yk160, rfl⟩, by decide⟩
  | 161, h => cases h; exact ⟨List.mem_filter.mpr ⟨List.mem_of_getElem? mj_yk161, rfl⟩, by decide⟩
  | 162, h => cases h; exact ⟨List.mem_filter.mpr ⟨List.mem_of_getElem? mj_yk162, rfl⟩, by decide⟩
  | 163, h => cases h; exact ⟨List.mem_filter.mpr ⟨List.mem_of_getElem? mj_yk163, rfl⟩, by decide⟩
  | 164, h => cases h; exact ⟨List.mem_filter.mpr ⟨List.mem_of_getElem? mj_yk164, rfl⟩, by decide⟩
  | 165, h => cases h; exact ⟨List.mem_filter.mpr ⟨List.mem_of_getElem? mj_yk165, rfl⟩, by decide⟩
  | 166, h => cases h; exact ⟨List.mem_filter.mpr ⟨List.mem_of_getElem? mj_yk166, rfl⟩, by decide⟩
  | 167, h => cases h; exact ⟨List.mem_filter.mpr ⟨List.mem_of_getElem? mj_yk167, rfl⟩, by decide⟩
  | 168, h => cases h; exact ⟨List.mem_filter.mpr ⟨List.mem_of_getElem? mj_yk168, rfl⟩, by decide⟩
  | 169, h => cases h; exact ⟨List.mem_filter.mpr ⟨List.mem_of_getElem? mj_yk169, rfl⟩, by decide⟩
  | 170, h => cases h; exact ⟨List.mem_filter.mpr ⟨List.mem_of_getElem? mj_yk170, rfl⟩, by decide⟩
  | 171, h => cases h; exact ⟨List.mem_filter.mpr ⟨List.mem_of_getElem? mj_yk171, rfl⟩, by decide⟩
  | 172, h => cases h; exact ⟨List.mem_filter.mpr ⟨List.mem_of_getElem? mj_yk172, rfl⟩, by decide⟩
  | 173, h => cases h; exact ⟨List.mem_filter.mpr ⟨List.mem_of_getElem? mj_yk173, rfl⟩, by decide⟩
  | 174, h => cases h; exact ⟨List.mem_filter.mpr ⟨List.mem_of_getElem? mj_yk174, rfl⟩, by decide⟩
  | 175, h => cases h; exact ⟨List.mem_filter.mpr ⟨List.mem_of_getElem? mj_yk175, rfl⟩, by decide⟩
  | 176, h => cases h; exact ⟨List.mem_filter.mpr ⟨List.mem_of_getElem? mj_yk176, rfl⟩, by decide⟩
  | 177, h => cases h; exact ⟨List.mem_filter.mpr ⟨List.mem_of_getElem? mj_yk177, rfl⟩, by decide⟩
  | 178, h => cases h; exact ⟨List.mem_filter.mpr ⟨List.mem_of_getElem? mj_yk178, rfl⟩, by decide⟩
  | 179, h => cases h; exact ⟨List.mem_filter.mpr ⟨List.mem_of_getElem? mj_yk179, rfl⟩, by decide⟩
  | 180, h => cases h; exact ⟨List.mem_filter.mpr ⟨List.mem_of_getElem? mj_yk180, rfl⟩, by decide⟩
  | 181, h => cases h; exact ⟨List.mem_filter.mpr ⟨List.mem_of_getElem? mj_yk181, rfl⟩, by decide⟩
  | 182, h => cases h; exact ⟨List.mem_filter.mpr ⟨List.mem_of_getElem? mj_yk182, rfl⟩, by decide⟩
  | 183, h => cases h; exact ⟨List.mem_filter.mpr ⟨List.mem_of_getElem? mj_yk183, rfl⟩, by decide⟩
  | 184, h => cases h; exact ⟨List.mem_filter.mpr ⟨List.mem_of_getElem? mj_yk184, rfl⟩, by decide⟩
  | 185, h => cases h; exact ⟨List.mem_filter.mpr ⟨List.mem_of_getElem? mj_yk185, rfl⟩, by decide⟩
  | 186, h => cases h; exact ⟨List.mem_filter.mpr ⟨List.mem_of_getElem? mj_yk186, rfl⟩, by decide⟩
  | 187, h => cases h; exact ⟨List.mem_filter.mpr ⟨List.mem_of_getElem? mj_yk187, rfl⟩, by decide⟩
  | 188, h => cases h; exact ⟨List.mem_filter.mpr ⟨List.mem_of_getElem? mj_yk188, rfl⟩, by decide⟩
  | 189, h => cases h; exact ⟨List.mem_filter.mpr ⟨List.mem_of_getElem? mj_yk189, rfl⟩, by decide⟩
  | 190, h => cases h; exact ⟨List.mem_filter.mpr ⟨List.mem_of_getElem? mj_yk190, rfl⟩, by decide⟩
  | 191, h => cases h; exact ⟨List.mem_filter.mpr ⟨List.mem_of_getElem? mj_yk191, rfl⟩, by decide⟩
  | 192, h => cases h; exact absurd rfl hn
  | n + 193, h => simp [mj_Y] at h
end
section
set_option maxRecDepth 100000 in
theorem mj_xc0 : (mj_X 0).all (mj_lchk mj_Y 0) = true := by decide +kernel
set_option maxRecDepth 100000 in
theorem mj_xc1 : (mj_X 1).all (mj_lchk mj_Y 1) = true := by decide +kernel
set_option maxRecDepth 100000 in
theorem mj_xc2 : (mj_X 2).all (mj_lchk mj_Y 2) = true := by decide +kernel
set_option maxRecDepth 100000 in
theorem mj_xc3 : (mj_X 3).all (mj_lchk mj_Y 3) = true := by decide +kernel
set_option maxRecDepth 100000 in
theorem mj_xc4 : (mj_X 4).all (mj_lchk mj_Y 4) = true := by decide +kernel
set_option maxRecDepth 100000 in
theorem mj_xc5 : (mj_X 5).all (mj_lchk mj_Y 5) = true := by decide +kernel
set_option maxRecDepth 100000 in
theorem mj_xc6 : (mj_X 6).all (mj_lchk mj_Y 6) = true := by decide +kernel
set_option maxRecDepth 100000 in
theorem mj_xc7 : (mj_X 7).all (mj_lchk mj_Y 7) = true := by decide +kernel
set_option maxRecDepth 100000 in
theorem mj_xc8 : (mj_X 8).all (mj_lchk mj_Y 8) = true := by decide +kernel
set_option maxRecDepth 100000 in
theorem mj_xc9 : (mj_X 9).all (mj_lchk mj_Y 9) = true := by decide +kernel
set_option maxRecDepth 100000 in
theorem mj_xc10 : (mj_X 10).all (mj_lchk mj_Y 10) = true := by decide +kernel
set_option maxRecDepth 100000 in
theorem mj_xc11 : (mj_X 11).all (mj_lchk mj_Y 11) = true := by decide +kernel
set_option maxRecDepth 100000 in
theorem mj_xc12 : (mj_X 12).all (mj_lchk mj_Y 12) = true := by decide +kernel
set_option maxRecDepth 100000 in
theorem mj_xc13 : (mj_X 13).all (mj_lchk mj_Y 13) = true := by decide +kernel
set_option maxRecDepth 100000 in
theorem mj_xc14 : (mj_X 14).all (mj_lchk mj_Y 14) = true := by decide +kernel
set_option maxRecDepth 100000 in
theorem mj_xc15 : (mj_X 15).all (mj_lchk mj_Y 15) = true := by decide +kernel
set_option maxRecDepth 100000 in
theorem mj_xc16 : (mj_X 16).all (mj_lchk mj_Y 16) = true := by decide +kernel
theorem mj_xc : ∀ own, (mj_X own).all (mj_lchk mj_Y own) = true
  | 0 => mj_xc0
  | 1 => mj_xc1
  | 2 => mj_xc2
  | 3 => mj_xc3
  | 4 => mj_xc4
  | 5 => mj_xc5
  | 6 => mj_xc6
  | 7 => mj_xc7
  | 8 => mj_xc8
  | 9 => mj_xc9
  | 10 => mj_xc10
  | 11 => mj_xc11
  | 12 => mj_xc12
  | 13 => mj_xc13
  | 14 => mj_xc14
  | 15 => mj_xc15
  | 16 => mj_xc16
  | _ + 17 => rfl
end
section
set_option maxRecDepth 100000 in
theorem mj_mc0 : (List.range' 0 8).all (mj_vm mj_X mj_P mj_Y) = true := by decide +kernel
set_option maxRecDepth 100000 in
theorem mj_mc8 : (List.range' 8 8).all (mj_vm mj_X mj_P mj_Y) = true := by decide +kernel
set_option maxRecDepth 100000 in
theorem mj_mc16 : (List.range' 16 8).all (mj_vm mj_X mj_P mj_Y) = true := by decide +kernel
set_option maxRecDepth 100000 in
theorem mj_mc24 : (List.range' 24 8).all (mj_vm mj_X mj_P mj_Y) = true := by decide +kernel
set_option maxRecDepth 100000 in
theorem mj_mc32 : (List.range' 32 8).all (mj_vm mj_X mj_P mj_Y) = true := by decide +kernel
set_option maxRecDepth 100000 in
theorem mj_mc40 : (List.range' 40 8).all (mj_vm mj_X mj_P mj_Y) = true := by decide +kernel
set_option maxRecDepth 100000 in
theorem mj_mc48 : (List.range' 48 8).all (mj_vm mj_X mj_P mj_Y) = true := by decide +kernel
set_option maxRecDepth 100000 in
theorem mj_mc56 : (List.range' 56 8).all (mj_vm mj_X mj_P mj_Y) = true := by decide +kernel
set_option maxRecDepth 100000 in
theorem mj_mc64 : (List.range' 64 8).all (mj_vm mj_X mj_P mj_Y) = true := by decide +kernel
set_option maxRecDepth 100000 in
theorem mj_mc72 : (List.range' 72 8).all (mj_vm mj_X mj_P mj_Y) = true := by decide +kernel
set_option maxRecDepth 100000 in
theorem mj_mc80 : (List.range' 80 8).all (mj_vm mj_X mj_P mj_Y) = true := by decide +kernel
set_option maxRecDepth 100000 in
theorem mj_mc88 : (List.range' 88 8).all (mj_vm mj_X mj_P mj_Y) = true := by decide +kernel
set_option maxRecDepth 100000 in
theorem mj_mc96 : (List.range' 96 8).all (mj_vm mj_X mj_P mj_Y) = true := by decide +kernel
set_option maxRecDepth 100000 in
theorem mj_mc104 : (List.range' 104 8).all (mj_vm mj_X mj_P mj_Y) = true := by decide +kernel
set_option maxRecDepth 100000 in
theorem mj_mc112 : (List.range' 112 8).all (mj_vm mj_X mj_P mj_Y) = true := by decide +kernel
set_option maxRecDepth 100000 in
theorem mj_mc120 : (List.range' 120 8).all (mj_vm mj_X mj_P mj_Y) = true := by decide +kernel
set_option maxRecDepth 100000 in
theorem mj_mc128 : (List.range' 128 8).all (mj_vm mj_X mj_P mj_Y) = true := by decide +kernel
set_option maxRecDepth 100000 in
theorem mj_mc136 : (List.range' 136 8).all (mj_vm mj_X mj_P mj_Y) = true := by decide +kernel
set_option maxRecDepth 100000 in
theorem mj_mc144 : (List.range' 144 8).all (mj_vm mj_X mj_P mj_Y) = true := by decide +kernel
set_option maxRecDepth 100000 in
theorem mj_mc152 : (List.range' 152 8).all (mj_vm mj_X mj_P mj_Y) = true := by decide +kernel
set_option maxRecDepth 100000 in
theorem mj_mc160 : (List.range' 160 8).all (mj_vm mj_X mj_P mj_Y) = true := by decide +kernel
set_option maxRecDepth 100000 in
theorem mj_mc168 : (List.range' 168 8).all (mj_vm mj_X mj_P mj_Y) = true := by decide +kernel
set_option maxRecDepth 100000 in
theorem mj_mc176 : (List.range' 176 8).all (mj_vm mj_X mj_P mj_Y) = true := by decide +kernel
set_option maxRecDepth 100000 in
theorem mj_mc184 : (List.range' 184 8).all (mj_vm mj_X mj_P mj_Y) = true := by decide +kernel
set_option maxRecDepth 100000 in
theorem mj_mc192 : (List.range' 192 1).all (mj_vm mj_X mj_P mj_Y) = true := by decide +kernel
theorem mj_mc : ∀ k, k < mj_P.length → mj_vm mj_X mj_P mj_Y k = true := by
  intro k hk
  have hk : k < 193 := hk
  by_cases h0 : k < 8
  · exact List.all_eq_true.mp mj_mc0 k (List.mem_range'_1.mpr ⟨by omega, by omega⟩)
  by_cases h8 : k < 16
  · exact List.all_eq_true.mp mj_mc8 k (List.mem_range'_1.mpr ⟨by omega, by omega⟩)
  by_cases h16 : k < 24
  · exact List.all_eq_true.mp mj_mc16 k (List.mem_range'_1.mpr ⟨by omega, by omega⟩)
  by_cases h24 : k < 32
  · exact List.all_eq_true.mp mj_mc24 k (List.mem_range'_1.mpr ⟨by omega, by omega⟩)
  by_cases h32 : k < 40
  · exact List.all_eq_true.mp mj_mc32 k (List.mem_range'_1.mpr ⟨by omega, by omega⟩)
  by_cases h40 : k < 48
  · exact List.all_eq_true.mp mj_mc40 k (List.mem_range'_1.mpr ⟨by omega, by omega⟩)
  by_cases h48 : k < 56
  · exact List.all_eq_true.mp mj_mc48 k (List.mem_range'_1.mpr ⟨by omega, by omega⟩)
  by_cases h56 : k < 64
  · exact List.all_eq_true.mp mj_mc56 k (List.mem_range'_1.mpr ⟨by omega, by omega⟩)
  by_cases h64 : k < 72
  · exact List.all_eq_true.mp mj_mc64 k (List.mem_range'_1.mpr ⟨by omega, by omega⟩)
  by_cases h72 : k < 80
  · exact List.all_eq_true.mp mj_mc72 k (List.mem_range'_1.mpr ⟨by omega, by omega⟩)
  by_cases h80 : k < 88
  · exact List.all_eq_true.mp mj_mc80 k (List.mem_range'_1.mpr ⟨by omega, by omega⟩)
  by_cases h88 : k < 96
  · exact List.all_eq_true.mp mj_mc88 k (List.mem_range'_1.mpr ⟨by omega, by omega⟩)
  by_cases h96 : k < 104
  · exact List.all_eq_true.mp mj_mc96 k (List.mem_range'_1.mpr ⟨by omega, by omega⟩)
  by_cases h104 : k < 112
  · exact List.all_eq_true.mp mj_mc104 k (List.mem_range'_1.mpr ⟨by omega, by omega⟩)
  by_cases h112 : k < 120
  · exact List.all_eq_true.mp mj_mc112 k (List.mem_range'_1.mpr ⟨by omega, by omega⟩)
  by_cases h120 : k < 128
  · exact List.all_eq_true.mp mj_mc120 k (List.mem_range'_1.mpr ⟨by omega, by omega⟩)
  by_cases h128 : k < 136
  · exact List.all_eq_true.mp mj_mc128 k (List.mem_range'_1.mpr ⟨by omega, by omega⟩)
  by_cases h136 : k < 144
  · exact List.all_eq_true.mp mj_mc136 k (List.mem_range'_1.mpr ⟨by omega, by omega⟩)
  by_cases h144 : k < 152
  · exact List.all_eq_true.mp mj_mc144 k (List.mem_range'_1.mpr ⟨by omega, by omega⟩)
  by_cases h152 : k < 160
  · exact List.all_eq_true.mp mj_mc152 k (List.mem_range'_1.mpr ⟨by omega, by omega⟩)
  by_cases h160 : k < 168
  · exact List.all_eq_true.mp mj_mc160 k (List.mem_range'_1.mpr ⟨by omega, by omega⟩)
  by_cases h168 : k < 176
  · exact List.all_eq_true.mp mj_mc168 k (List.mem_range'_1.mpr ⟨by omega, by omega⟩)
  by_cases h176 : k < 184
  · exact List.all_eq_true.mp mj_mc176 k (List.mem_range'_1.mpr ⟨by omega, by omega⟩)
  by_cases h184 : k < 192
  · exact List.all_eq_true.mp mj_mc184 k (List.mem_range'_1.mpr ⟨by omega, by omega⟩)
  by_cases h192 : k < 193
  · exact List.all_eq_true.mp mj_mc192 k (List.mem_range'_1.mpr ⟨by omega, by omega⟩)
  omega
theorem mj_ok_P : mj_VPg mj_P mj_Y := mj_vm_ok mj_YOK_Y mj_xc mj_mc
end
section
/-! ===== THE SMALL MACHINE AT WORK: rules ===== -/
def mj_x (cd : List (Option mjE)) : Nat → mjC → Option (Option Prop × mjC)
  | 0, c => some (none, c)
  | n + 1, c => match mj_at c.1 cd with
    | some e => match mj_step e c with
      | some (none, c') => mj_x cd n c'
      | some (some p, c') => match mj_x cd n c' with
        | some (none, c2) => some (some p, c2)
        | some (some q, c2) => some (some (p ∧ q), c2)
        | none => none
      | none => none
    | none => none
def mj_Rd (K : mjK) (cd : List (Option mjE)) (rt : Nat) (c : mjC) (v : Option Value) (h : mjH) : Prop := ∃ n, mj_go K cd rt n c v h
section RULES
variable {K : mjK} {cd : List (Option mjE)} {rt : Nat} {v : Option Value} {h : mjH}
theorem mj_one {c c' : mjC} {e : mjE} {o : Option Prop} (he : mj_at c.1 cd = some e) (hs : mj_step e c = some (o, c')) (ho : mj_ok o) (k : mj_Rd K cd rt c' v h) : mj_Rd K cd rt c v h := by
  obtain ⟨n, hn⟩ := k
  exact ⟨n + 1, e, he, Or.inl ⟨o, c', hs, ho, hn⟩⟩
theorem mj_run : ∀ (n : Nat) {c c' : mjC} {o : Option Prop}, mj_x cd n c = some (o, c') → mj_ok o → mj_Rd K cd rt c' v h → mj_Rd K cd rt c v h
  | 0, c, c', o, hx, ho, k => by
    simp only [mj_x, Option.some.injEq, Prod.mk.injEq] at hx
    rw [hx.2]
    exact k
  | n + 1, c, c', o, hx, ho, k => by
    simp only [mj_x] at hx
    split at hx <;> try (cases hx; done)
    next e he =>
      split at hx <;> try (cases hx; done)
      next c1 hs => exact mj_one he hs trivial (mj_run n hx ho k)
      next p c1 hs =>
        split at hx <;> try (cases hx; done)
        next c2 h2 =>
          cases hx
          exact mj_one he hs ho (mj_run n h2 trivial k)
        next q c2 h2 =>
          cases hx
          have ho' : p ∧ q := ho
          exact mj_one he hs ho'.1 (mj_run n h2 ho'.2 k)
theorem mj_bra {c c1 c2 : mjC} {e : mjE} {P : Prop} (he : mj_at c.1 cd = some e) (hb : mj_br e c = some (P, c1, c2)) (h1 : P → mj_Rd K cd rt c1 v h) (h2 : ¬ P → mj_Rd K cd rt c2 v h) : mj_Rd K cd rt c v h := by
  by_cases hP : P
  · obtain ⟨n, hn⟩ := h1 hP
    exact ⟨n + 1, e, he, Or.inr (Or.inl ⟨P, c1, c2, hb, fun _ => hn, fun q => absurd hP q⟩)⟩
  · obtain ⟨n, hn⟩ := h2 hP
    exact ⟨n + 1, e, he, Or.inr (Or.inl ⟨P, c1, c2, hb, fun q => absurd q hP, fun _ => hn⟩)⟩
/-- a branch whose side is known -/
theorem mj_brt {c c1 c2 : mjC} {e : mjE} {P : Prop} (he : mj_at c.1 cd = some e) (hb : mj_br e c = some (P, c1, c2)) (hP : P) (h1 : mj_Rd K cd rt c1 v h) : mj_Rd K cd rt c v h := mj_bra he hb (fun _ => h1) (fun q => absurd hP q)
theorem mj_brf {c c1 c2 : mjC} {e : mjE} {P : Prop} (he : mj_at c.1 cd = some e) (hb : mj_br e c = some (P, c1, c2)) (hP : ¬ P) (h2 : mj_Rd K cd rt c2 v h) : mj_Rd K cd rt c v h := mj_bra he hb (fun q => absurd q hP) (fun _ => h2)
theorem mj_cal {c : mjC} {n m : Nat} {ins : Instr} {d : List Nat} {as st : List Value} {u : Option Value} {h1 : mjH} (he : mj_at c.1 cd = some (ins, n, d)) (hi : mj_inv (ins, n, d) c = some (m, as, st)) (hk : K m as c.2.2.2 u h1) (k : mj_Rd K cd rt (n, c.2.1, mj_psh u st, h1) v h) : mj_Rd K cd rt c v h := by
  obtain ⟨q, hq⟩ := k
  exact ⟨q + 1, (ins, n, d), he, Or.inr (Or.inr (Or.inl ⟨m, as, st, u, h1, hi, hk, hq⟩))⟩
theorem mj_end {c : mjC} {e : mjE} {o : Option Prop} (he : mj_at c.1 cd = some e) (hr : mj_ret rt e c = some (o, v, h)) (ho : mj_ok o) : mj_Rd K cd rt c v h := ⟨1, e, he, Or.inr (Or.inr (Or.inr ⟨o, hr, ho⟩))⟩
end RULES
theorem mj_ci {P : List mjT} {d k own mL rt : Nat} {cd : List (Option mjE)} {as : List Value} {h h' : mjH} {v : Option Value} (hP : P[k]? = some (own, mL, rt, cd)) (hl : (mj_ent as).length ≤ mL) (hR : mj_Rd (mj_call P d) cd rt (0, mj_pad mL (mj_ent as), [], h) v h') : mj_call P (d + 1) k as h v h' := by
  obtain ⟨n, hn⟩ := hR
  exact ⟨_, hP, hl, n, hn⟩
def FM (L : Nat) (d : mjM) : mjM := (0, L) :: (21, 15) :: (13, 2) :: (0, 50) :: (16, 3) :: (0, 10) :: (0, 60) :: (16, 3) :: (0, 10) :: (0, 60) :: (15, 2) :: (0, 10) :: (10, 8) :: (2, 7) :: (0, 10) :: (0, 10) :: (0, 10) :: (0, 10) :: (0, 10) :: (0, 10) :: (0, 10) :: (0, 10) :: (0, 10) :: (19, 5) :: (1, 0) :: (0, 10) :: (0, 10) :: (17, 5) :: (2, 11) :: (0, 40) :: (0, 40) :: (0, 40) :: (0, 40) :: (0, 40) :: (0, 40) :: (0, 40) :: (0, 40) :: (0, 40) :: (0, 40) :: (0, 40) :: (0, 10) :: (0, 10) :: (0, 8) :: (0, 10) :: (0, 10) :: (22, 34) :: (0, 50) :: (0, 10) :: (0, 10) :: (0, 30) :: (0, 10) :: (0, 10) :: (0, 30) :: (0, 10) :: (0, 60) :: (0, 10) :: (0, 10) :: (0, 10) :: (0, 8) :: (0, 10) :: (0, 46656) :: (0, 46656) :: (0, 440) :: (0, 10) :: (0, 60) :: d
def mj_n1 : Nat → List (Option (Option Nat)) → Option (Option Nat)
  | _, [] => none
  | 0, x :: _ => x
  | i + 1, _ :: xs => mj_n1 i xs
def mj_n2 (k : Nat) : Nat → List (List (Option (Option Nat))) → Option (Option Nat)
  | _, [] => none
  | 0, x :: _ => mj_n1 k x
  | i + 1, _ :: xs => mj_n2 k i xs
def FR (y y1 n1 w1 c y2 : Option Nat) (d : mjR) : mjR := fun a k => match mj_n2 k a [[], [some (some 2), some (some 4), some (some 7), some (some 10), some (some 12), some (some 23), some (some 27), some (some 42), some (some 43), some (some 44), some y], [some (some 3)], [], [some (some 5), some (some 6)], [], [], [some (some 8), some (some 9)], [], [], [some (some 11)], [], [some (some 13), some (some 21), some (some 22), none, some y1, some n1, some w1], [some (some 14), some (some 15), some (some 16), some (some 17), some (some 18), some (some 19), some (some 20)], [], [], [], [], [], [], [], [], [], [some c, some (some 25), some (some 26), some y2], [], [], [], [some (some 10), some (some 28), some (some 40), some (some 41)], [some (some 29), some (some 30), some (some 31), some (some 32), some (some 33), some (some 34), some (some 35), some (some 36), some (some 37), some (some 38), some (some 39)], [], [], [], [], [], [], [], [], [], [], [], [], [], [], [], [], [some (some 46), none, none, none, none, none, some (some 47), some (some 48), some (some 49), none, none, some (some 50), some (some 51), some (some 52), some (some 53), none, some (some 54), some (some 55), some (some 56), none, none, some (some 57), none, some (some 58), none, some (some 59), some (some 60), some (some 61), some (some 62), none, none, some (some 63), some (some 64)], [], [], [], [], [], [], [], [], [], [], [], [], [], [], [], [], [], [], []] with
  | some r => r
  | none => d a k
abbrev HP (L : Nat) (d : mjM) (I : mjI) (y y1 n1 w1 c y2 : Option Nat) (R : mjR) (J : mjJ) : mjH := (FM L d, I, FR y y1 n1 w1 c y2 R, J)
end
section
theorem ii_lt {a b : Int32} : a < b ↔ a.toInt < b.toInt := Int32.lt_iff_toInt_lt
theorem ii_le {a b : Int32} : a ≤ b ↔ a.toInt ≤ b.toInt := Int32.le_iff_toInt_le
theorem ii_nlt {a b : Int32} : ¬ a < b ↔ b ≤ a := Int32.not_lt
theorem ii_nle {a b : Int32} : ¬ a ≤ b ↔ b < a := Int32.not_le
theorem c_M_in (d : Nat) (h : mjH) (a b c : Int64) : mj_call mj_P (d + 1) kn_M_in [.long a, .long b, .long c] h (some (.int (nI (if b ≤ a ∧ a ≤ c then 1 else 0)))) h := by
  refine mj_ci rfl (Nat.le_of_ble_eq_true rfl) ?_
  refine mj_run 3 rfl trivial ?_
  refine mj_bra rfl rfl (fun g => ?_) (fun g => ?_)
  · rw [if_neg (fun q => absurd ((lg_cmp_ge a b).mpr q.1) (ii_nle.mpr g))]
    refine mj_run 1 rfl trivial ?_
    exact mj_end rfl rfl (Or.inl rfl)
  · refine mj_run 3 rfl trivial ?_
    refine mj_bra rfl rfl (fun g2 => ?_) (fun g2 => ?_)
    · rw [if_neg (fun q => absurd ((lg_cmp_le a c).mpr q.2) (ii_nle.mpr g2))]
      refine mj_run 1 rfl trivial ?_
      exact mj_end rfl rfl (Or.inl rfl)
    · rw [if_pos ⟨(lg_cmp_ge a b).mp (ii_nlt.mp g), (lg_cmp_le a c).mp (ii_nlt.mp g2)⟩]
      refine mj_run 2 rfl trivial ?_
      exact mj_end rfl rfl (Or.inr rfl)
section MM
variable (d : Nat) (L : Nat) (dy : mjM) (I : mjI) (y y1 n1 w1 c y2 : Option Nat) (R : mjR) (J : mjJ)
theorem c_M_lacks : mj_call mj_P (d + 1) kn_M_lacks [.ref 45] (HP L dy I y y1 n1 w1 c y2 R J) (some (.int (nI (if I 45 9 = 0 then 1 else 0)))) (HP L dy I y y1 n1 w1 c y2 R J) := by
  refine mj_ci rfl (Nat.le_of_ble_eq_true rfl) ?_
  refine mj_run 2 rfl trivial ?_
  refine mj_bra rfl rfl (fun g => ?_) (fun g => ?_)
  · rw [if_neg g]
    refine mj_run 1 rfl trivial ?_
    exact mj_end rfl rfl (Or.inl rfl)
  · rw [if_pos (Classical.not_not.mp g)]
    refine mj_run 2 rfl trivial ?_
    exact mj_end rfl rfl (Or.inr rfl)
theorem c_M_standMany {p : Int32} (hp : vp_in p 10) : mj_call mj_P (d + 1) kn_M_standMany [.ref 45, .int p] (HP L dy I y y1 n1 w1 c y2 R J) (some (.int (if I 50 p.toNatClampNeg = nI 2 then (if I 51 p.toNatClampNeg = nI 1 then nI 1 else nI 2 * I 51 p.toNatClampNeg - nI 2) else if I 50 p.toNatClampNeg = nI 3 then nI 2 * I 51 p.toNatClampNeg else I 51 p.toNatClampNeg))) (HP L dy I y y1 n1 w1 c y2 R J) := by
  refine mj_ci rfl (Nat.le_of_ble_eq_true rfl) ?_
  refine mj_run 10 rfl ⟨hp, hp⟩ ?_
  refine mj_bra rfl rfl (fun g => ?_) (fun g => ?_)
  · rw [if_neg g]
    refine mj_run 5 rfl hp ?_
    refine mj_bra rfl rfl (fun g2 => ?_) (fun g2 => ?_)
    · rw [if_neg g2]
      refine mj_run 1 rfl trivial ?_
      exact mj_end rfl rfl trivial
    · rw [if_pos (Classical.not_not.mp g2)]
      refine mj_run 4 rfl trivial ?_
      exact mj_end rfl rfl trivial
  · rw [if_pos (Classical.not_not.mp g)]
    refine mj_run 2 rfl trivial ?_
    refine mj_bra rfl rfl (fun g2 => ?_) (fun g2 => ?_)
    · rw [if_neg g2]
      refine mj_run 6 rfl trivial ?_
      exact mj_end rfl rfl trivial
    · rw [if_pos (Classical.not_not.mp g2)]
      refine mj_run 2 rfl trivial ?_
      exact mj_end rfl rfl trivial
end MM
end
section
/-! numbers -/
theorem nI_nc {n : Nat} (h : n < 2147483648) : (nI n).toNatClampNeg = n := nI_clamp h
theorem nI_e {a b : Nat} (ha : a < 2147483648) (hb : b < 2147483648) : nI a = nI b ↔ a = b := nI_eq ha hb
theorem nI_vi {n N : Nat} (h : n < N) (hN : N < 2147483648) : vp_in (nI n) N := vp_in_nI h hN
theorem nI_z {n : Nat} (hn : n < 2147483648) : nI n = 0 ↔ n = 0 := by
  rw [← nI_0]
  exact nI_eq hn (by decide)
/-! a yard: kinds, numbers of ways, where they lead -/
abbrev Yd : Type := (Nat → Nat) × (Nat → Nat) × (Nat → Nat → Nat)
def sm (Y : Yd) (p : Nat) : Nat := if Y.1 p = 2 then (if Y.2.1 p = 1 then 1 else 2 * Y.2.1 p - 2) else if Y.1 p = 3 then 2 * Y.2.1 p else Y.2.1 p
def wa (Y : Yd) (p s : Nat) : Nat := if Y.1 p = 2 then (if s < Y.2.1 p then s else 2 * Y.2.1 p - 2 - s) else if Y.1 p = 3 then s / 2 else s
def tn (Y : Yd) (p s : Nat) : Nat := if Y.1 p = 1 then s else (s + 1) % sm Y p
def pl (Y : Yd) (p s : Nat) : Nat := Y.2.2 p (wa Y p s)
def YOK (n : Nat) (Y : Yd) : Prop := n ≤ 10 ∧ ∀ p, p < n → Y.1 p < 4 ∧ 1 ≤ Y.2.1 p ∧ Y.2.1 p ≤ 3 ∧ ∀ w, w < Y.2.1 p → Y.2.2 p w < 10 + n
theorem sm_in {n : Nat} {Y : Yd} (h : YOK n Y) {p : Nat} (hp : p < n) : 1 ≤ sm Y p ∧ sm Y p ≤ 6 := by
  obtain ⟨h1, h2, h3, -⟩ := h.2 p hp
  unfold sm
  split
  · split <;> omega
  · split <;> omega
theorem wa_in {n : Nat} {Y : Yd} (h : YOK n Y) {p s : Nat} (hp : p < n) (hs : s < sm Y p) : wa Y p s < Y.2.1 p := by
  obtain ⟨h1, h2, h3, -⟩ := h.2 p hp
  unfold sm at hs
  unfold wa
  split
  · rename_i hk
    rw [if_pos hk] at hs
    split
    · assumption
    · split at hs <;> omega
  · rename_i hk
    rw [if_neg hk] at hs
    split
    · rename_i h3k
      rw [if_pos h3k] at hs
      omega
    · rename_i h3k
      rw [if_neg h3k] at hs
      exact hs
theorem pl_in {n : Nat} {Y : Yd} (h : YOK n Y) {p s : Nat} (hp : p < n) (hs : s < sm Y p) : pl Y p s < 10 + n := (h.2 p hp).2.2.2 _ (wa_in h hp hs)
theorem tn_in {n : Nat} {Y : Yd} (h : YOK n Y) {p s : Nat} (hp : p < n) (hs : s < sm Y p) : tn Y p s < sm Y p := by
  have h1 := (sm_in h hp).1
  unfold tn
  split
  · exact hs
  · exact Nat.mod_lt _ (by omega)
/-- the reference's yard -/
def MY (I : mjI) (n : Nat) (Y : Yd) : Prop := I 45 9 = nI n ∧ YOK n Y ∧ ∀ p, p < n → I 50 p = nI (Y.1 p) ∧ I 51 p = nI (Y.2.1 p) ∧ ∀ w, w < 3 → I 52 (3 * p + w) = if w < Y.2.1 p then nI (Y.2.2 p w) else Int32.ofInt (-1)
theorem M_in_t {d : Nat} {h : mjH} {a b c : Int64} (g : b ≤ a ∧ a ≤ c) : mj_call mj_P (d + 1) kn_M_in [.long a, .long b, .long c] h (some (.int (nI 1))) h := by
  have := c_M_in d h a b c
  rw [if_pos g] at this
  exact this
theorem M_in_f {d : Nat} {h : mjH} {a b c : Int64} (g : ¬ (b ≤ a ∧ a ≤ c)) : mj_call mj_P (d + 1) kn_M_in [.long a, .long b, .long c] h (some (.int (nI 0))) h := by
  have := c_M_in d h a b c
  rw [if_neg g] at this
  exact this
section MM
variable {d L : Nat} {dy : mjM} {I : mjI} {y y1 n1 w1 c y2 : Option Nat} {R : mjR} {J : mjJ} {n : Nat} {Y : Yd}
theorem M_lacks (hY : MY I n Y) : mj_call mj_P (d + 1) kn_M_lacks [.ref 45] (HP L dy I y y1 n1 w1 c y2 R J) (some (.int (nI (if n = 0 then 1 else 0)))) (HP L dy I y y1 n1 w1 c y2 R J) := by
  have h := c_M_lacks d L dy I y y1 n1 w1 c y2 R J
  have hn : n ≤ 10 := hY.2.1.1
  have hz : (nI n = 0) ↔ n = 0 := nI_z (by omega)
  simp only [hY.1, hz] at h
  exact h
theorem M_isPoint (hY : MY I n Y) (p : Int32) : mj_call mj_P (d + 2) kn_M_isPoint [.ref 45, .int p] (HP L dy I y y1 n1 w1 c y2 R J) (some (.int (nI (if 0 ≤ p.toInt ∧ p.toInt < n then 1 else 0)))) (HP L dy I y y1 n1 w1 c y2 R J) := by
  have hn : n ≤ 10 := hY.2.1.1
  refine mj_ci rfl (Nat.le_of_ble_eq_true rfl) ?_
  refine mj_run 8 rfl trivial ?_
  have e : (lN 0 ≤ p.toInt64 ∧ p.toInt64 ≤ (I 45 9 - nI 1).toInt64) ↔ (0 ≤ p.toInt ∧ p.toInt < n) := by
    rw [hY.1, Int64.le_iff_toInt_le, Int64.le_iff_toInt_le, Int32.toInt_toInt64, Int32.toInt_toInt64, pk_sub_toInt (by omega) (by decide)]
    have : (lN 0).toInt = 0 := rfl
    rw [this]
    omega
  by_cases g : 0 ≤ p.toInt ∧ p.toInt < n
  · rw [if_pos g]
    refine mj_cal rfl rfl (M_in_t (e.mpr g)) ?_
    exact mj_end rfl rfl (Or.inr rfl)
  · rw [if_neg g]
    refine mj_cal rfl rfl (M_in_f (fun q => g (e.mp q))) ?_
    exact mj_end rfl rfl (Or.inl rfl)
theorem M_standMany (hY : MY I n Y) {p : Nat} (hp : p < n) : mj_call mj_P (d + 1) kn_M_standMany [.ref 45, .int (nI p)] (HP L dy I y y1 n1 w1 c y2 R J) (some (.int (nI (sm Y p)))) (HP L dy I y y1 n1 w1 c y2 R J) := by
  obtain ⟨h1, h2, h3⟩ := hY
  have hn : n ≤ 10 := h2.1
  obtain ⟨k1, k2, k3, -⟩ := h2.2 p hp
  obtain ⟨e1, e2, -⟩ := h3 p hp
  have h := c_M_standMany d L dy I y y1 n1 w1 c y2 R J (p := nI p) (nI_vi (by omega) (by decide))
  have q2 : (nI (Y.1 p) = nI 2) ↔ Y.1 p = 2 := nI_e (by omega) (by decide)
  have q3 : (nI (Y.1 p) = nI 3) ↔ Y.1 p = 3 := nI_e (by omega) (by decide)
  have q1 : (nI (Y.2.1 p) = nI 1) ↔ Y.2.1 p = 1 := nI_e (by omega) (by decide)
  simp only [nI_nc (show p < 2147483648 by omega), e1, e2, q1, q2, q3] at h
  have e : (if Y.1 p = 2 then (if Y.2.1 p = 1 then nI 1 else nI 2 * nI (Y.2.1 p) - nI 2) else if Y.1 p = 3 then nI 2 * nI (Y.2.1 p) else nI (Y.2.1 p)) = nI (sm Y p) := by
    unfold sm
    split
    · split
      · rfl
      · rw [pk_mul, pk_sub (by omega)]
    · split
      · rw [pk_mul]
      · rfl
  rw [e] at h
  exact h
theorem M_wayAt (hY : MY I n Y) {p s : Nat} (hp : p < n) (hs : s < sm Y p) : mj_call mj_P (d + 1) kn_M_wayAt [.ref 45, .int (nI p), .int (nI s)] (HP L dy I y y1 n1 w1 c y2 R J) (some (.int (nI (wa Y p s)))) (HP L dy I y y1 n1 w1 c y2 R J) := by
  obtain ⟨h1, h2, h3⟩ := hY
  have hn : n ≤ 10 := h2.1
  have hsm := sm_in h2 hp
  obtain ⟨k1, k2, k3, -⟩ := h2.2 p hp
  obtain ⟨e1, e2, -⟩ := h3 p hp
  have vi : vp_in (nI p) 10 := nI_vi (by omega) (by decide)
  have hc : (nI p).toNatClampNeg = p := nI_nc (by omega)
  unfold sm at hs hsm
  unfold wa
  refine mj_ci rfl (Nat.le_of_ble_eq_true rfl) ?_
  refine mj_run 10 rfl ⟨vi, vi⟩ ?_
  simp only [hc, e1, e2]
  refine mj_bra rfl rfl (fun g => ?_) (fun g => ?_)
  · rw [nI_e (by omega) (by decide)] at g
    rw [if_neg g] at hs hsm ⊢
    refine mj_run 5 rfl vi ?_
    simp only [hc, e1]
    refine mj_bra rfl rfl (fun g2 => ?_) (fun g2 => ?_)
    · rw [nI_e (by omega) (by decide)] at g2
      rw [if_neg g2]
      refine mj_run 1 rfl trivial ?_
      exact mj_end rfl rfl trivial
    · rw [nI_e (by omega) (by decide)] at g2
      rw [if_pos (Classical.not_not.mp g2)]
      refine mj_run 4 rfl (show ¬ nI 2 = 0 by decide) ?_
      rw [pk_div (by omega) (by decide) (by decide)]
      exact mj_end rfl rfl trivial
  · rw [nI_e (by omega) (by decide)] at g
    have g := Classical.not_not.mp g
    rw [if_pos g] at hs hsm ⊢
    refine mj_run 2 rfl trivial ?_
    refine mj_bra rfl rfl (fun g2 => ?_) (fun g2 => ?_)
    · rw [nI_leI (by omega) (by omega)] at g2
      rw [if_neg (by omega)]
      refine mj_run 8 rfl trivial ?_
      rw [pk_mul, pk_sub (by omega), pk_sub (by split at hs <;> omega)]
      exact mj_end rfl rfl trivial
    · rw [nI_leI (by omega) (by omega)] at g2
      rw [if_pos (by omega)]
      refine mj_run 2 rfl trivial ?_
      exact mj_end rfl rfl trivial
theorem M_turned (hY : MY I n Y) {p s : Nat} (hp : p < n) (hs : s < sm Y p) : mj_call mj_P (d + 2) kn_M_turned [.ref 45, .int (nI p), .int (nI s)] (HP L dy I y y1 n1 w1 c y2 R J) (some (.int (nI (tn Y p s)))) (HP L dy I y y1 n1 w1 c y2 R J) := by
  have hY0 := hY
  obtain ⟨h1, h2, h3⟩ := hY
  have hn : n ≤ 10 := h2.1
  have hsm := sm_in h2 hp
  obtain ⟨k1, k2, k3, -⟩ := h2.2 p hp
  obtain ⟨e1, e2, -⟩ := h3 p hp
  have vi : vp_in (nI p) 10 := nI_vi (by omega) (by decide)
  have hc : (nI p).toNatClampNeg = p := nI_nc (by omega)
  unfold tn
  refine mj_ci rfl (Nat.le_of_ble_eq_true rfl) ?_
  refine mj_run 5 rfl vi ?_
  simp only [hc, e1]
  refine mj_bra rfl rfl (fun g => ?_) (fun g => ?_)
  · rw [nI_e (by omega) (by decide)] at g
    rw [if_neg g]
    refine mj_run 5 rfl trivial ?_
    refine mj_cal rfl rfl (M_standMany hY0 hp) ?_
    refine mj_run 1 rfl (show ¬ nI (sm Y p) = 0 by rw [nI_z (by omega)]; omega) ?_
    rw [nI_add, pk_rem (by omega) (by omega) (by omega)]
    exact mj_end rfl rfl trivial
  · rw [nI_e (by omega) (by decide)] at g
    rw [if_pos (Classical.not_not.mp g)]
    refine mj_run 2 rfl trivial ?_
    exact mj_end rfl rfl trivial
end MM
end
section
theorem mj_endI {K : mjK} {cd : List (Option mjE)} {rt : Nat} {v v' : Option Value} {c : mjC} {e : mjE} {o : Option Prop} {m : mjM} {I I' : mjI} {R : mjR} {J : mjJ} (he : mj_at c.1 cd = some e) (hr : mj_ret rt e c = some (o, v', m, I', R, J)) (ho : mj_ok o) (hv : v' = v) (hI : I' = I) : mj_Rd K cd rt c v (m, I, R, J) := by
  subst hv
  subst hI
  exact mj_end he hr ho
theorem dn_ind (N : Nat) (P : Nat → Prop) (h0 : P N) (hs : ∀ p, p < N → P (p + 1) → P p) : ∀ p, p ≤ N → P p := by
  intro p hp
  obtain ⟨k, hk⟩ : ∃ k, p + k = N := ⟨N - p, by omega⟩
  induction k generalizing p with
  | zero =>
    have e : p = N := by omega
    subst e
    exact h0
  | succ k ih => exact hs p (by omega) (ih (p + 1) (by omega) (by omega))
/-- row 'dst' has become row 'src' up to k -/
def cpI (I : mjI) (dst src k : Nat) : mjI := fun a => if a = dst then (fun i => if i < k then I src i else I dst i) else I a
theorem cpI_0 (I : mjI) (dst src : Nat) : cpI I dst src 0 = I := by
  funext a
  by_cases h : a = dst
  · subst h
    simp [cpI]
  · simp [cpI, h]
theorem cpI_s {I : mjI} {dst src k : Nat} (hne : src ≠ dst) : mj_ui (cpI I dst src k) dst k (cpI I dst src k src k) = cpI I dst src (k + 1) := by
  funext a
  by_cases h : a = dst
  · subst h
    funext i
    simp only [mj_ui, cpI, upd, if_true, hne, if_false]
    by_cases h2 : i = k
    · subst h2
      simp
    · by_cases h3 : i < k
      · simp [h2, h3, Nat.lt_succ_of_lt h3]
      · simp [h2, h3, show ¬ i < k + 1 by omega]
  · simp [mj_ui, cpI, h]
theorem cpI_ne {I : mjI} {dst src k a : Nat} (h : a ≠ dst) : cpI I dst src k a = I a := by simp [cpI, h]
theorem cpI_at {I : mjI} {dst src k i : Nat} (h : i < k) : cpI I dst src k dst i = I src i := by simp [cpI, h]
/-- a row holds f -/
def RI (I : mjI) (a n : Nat) (f : Nat → Nat) : Prop := ∀ i, i < n → I a i = nI (f i)
def fu (f : Nat → Nat) (k x : Nat) : Nat → Nat := fun j => if j = k then x else f j
def TOK (n : Nat) (Y : Yd) (T : Nat → Nat) : Prop := ∀ p, p < n → T p < sm Y p
/-! rolling: place, stands, moves -/
abbrev Rs : Type := Nat × (Nat → Nat) × Nat
def mv (Y : Yd) (q : Option Nat) (s : Rs) : Rs := (pl Y (s.1 - 10) (s.2.1 (s.1 - 10)), fu s.2.1 (s.1 - 10) (if q = some (s.1 - 10) then s.2.1 (s.1 - 10) else tn Y (s.1 - 10) (s.2.1 (s.1 - 10))), s.2.2 + 1)
def ro (Y : Yd) (q : Option Nat) : Nat → Rs → Rs
  | 0, s => s
  | k + 1, s => if s.1 < 10 then s else ro Y q k (mv Y q s)
def gt (Y : Yd) (q : Option Nat) (T : Nat → Nat) : Option Nat × (Nat → Nat) × Nat := if (ro Y q 500 (10, T, 0)).1 < 10 then (some (ro Y q 500 (10, T, 0)).1, (ro Y q 500 (10, T, 0)).2) else (none, T, (ro Y q 500 (10, T, 0)).2.2)
def gv : Option Nat → Int32
  | some s => nI s
  | none => Int32.ofInt (-1)
theorem TOK.fu {n : Nat} {Y : Yd} {T : Nat → Nat} (h : TOK n Y T) {p x : Nat} (hx : p < n → x < sm Y p) : TOK n Y (fu T p x) := by
  intro i hi
  unfold _root_.Jvm.Pilot.CPointsThrowLaw_law_r6263_94e852.fu
  split
  · rename_i e
    subst e
    exact hx hi
  · exact h i hi
theorem mv_ok {n : Nat} {Y : Yd} {q : Option Nat} {s : Rs} (h : YOK n Y) (h1 : ¬ s.1 < 10) (h2 : s.1 < 10 + n) (hT : TOK n Y s.2.1) : (mv Y q s).1 < 10 + n ∧ TOK n Y (mv Y q s).2.1 := by
  have hp : s.1 - 10 < n := by omega
  have hs := hT _ hp
  refine ⟨pl_in h hp hs, hT.fu (fun _ => ?_)⟩
  split
  · exact hs
  · exact tn_in h hp hs
theorem ro_ok {n : Nat} {Y : Yd} {q : Option Nat} (h : YOK n Y) : ∀ (k : Nat) (s : Rs), s.1 < 10 + n → TOK n Y s.2.1 → (ro Y q k s).1 < 10 + n ∧ TOK n Y (ro Y q k s).2.1 ∧ (ro Y q k s).2.2 ≤ s.2.2 + k
  | 0, s, h1, h2 => ⟨h1, h2, by simp [ro]⟩
  | k + 1, s, h1, h2 => by
    unfold ro
    split
    · exact ⟨h1, h2, by omega⟩
    · rename_i hs
      obtain ⟨a, b⟩ := mv_ok (q := q) h hs h1 h2
      obtain ⟨c, d, e⟩ := ro_ok h k (mv Y q s) a b
      refine ⟨c, d, ?_⟩
      have : (mv Y q s).2.2 = s.2.2 + 1 := rfl
      omega
theorem gt_ok {n : Nat} {Y : Yd} {q : Option Nat} {T : Nat → Nat} (h : YOK n Y) (hn : 1 ≤ n) (hT : TOK n Y T) : (∀ s, (gt Y q T).1 = some s → s < 10) ∧ TOK n Y (gt Y q T).2.1 ∧ (gt Y q T).2.2 ≤ 500 := by
  obtain ⟨a, b, c⟩ := ro_ok (q := q) h 500 (10, T, 0) (by show 10 < 10 + n; omega) hT
  unfold gt
  split
  · refine ⟨fun s e => ?_, b, by simpa using c⟩
    cases e
    assumption
  · exact ⟨fun s e => (by cases e), hT, by simpa using c⟩
/-- who is stuck, as an int -/
def sq (q : Option Nat) (x : Int32) : Prop := ∀ p, p < 10 → (nI p = x ↔ q = some p)
theorem sq_none : sq none (Int32.ofInt (-1)) := by
  intro p hp
  refine ⟨fun h => ?_, fun h => by cases h⟩
  have := congrArg Int32.toInt h
  rw [nI_toInt (by omega)] at this
  exact absurd this (by have : (Int32.ofInt (-1)).toInt = -1 := rfl; rw [this]; omega)
theorem sq_some {k : Nat} (hk : k < 10) : sq (some k) (nI k) := by
  intro p hp
  rw [nI_e (by omega) (by omega)]
  refine ⟨fun h => by rw [h], fun h => by cases h; rfl⟩
section MM
variable {d L : Nat} {dy : mjM} {I : mjI} {y y1 n1 w1 c y2 : Option Nat} {R : mjR} {J : mjJ} {n : Nat} {Y : Yd}
theorem MY.kept {I I' : mjI} (h : MY I n Y) (h9 : I' 45 9 = I 45 9) (h50 : I' 50 = I 50) (h51 : I' 51 = I 51) (h52 : I' 52 = I 52) : MY I' n Y := by
  obtain ⟨a, b, e⟩ := h
  refine ⟨h9.trans a, b, fun p hp => ?_⟩
  rw [h50, h51, h52]
  exact e p hp
theorem M_layTried : mj_call mj_P (d + 1) kn_M_layTried [.ref 45] (HP L dy I y y1 n1 w1 c y2 R J) none (HP L dy (cpI I 55 53 10) y y1 n1 w1 c y2 R J) := by
  refine mj_ci rfl (Nat.le_of_ble_eq_true rfl) ?_
  refine mj_run 2 rfl trivial ?_
  have key := dn_ind 10 (fun p => mj_Rd (mj_call mj_P d) kc_M_layTried 0 (2, [some (.ref 45), some (.int (nI p))], [], HP L dy (cpI I 55 53 p) y y1 n1 w1 c y2 R J) none (HP L dy (cpI I 55 53 10) y y1 n1 w1 c y2 R J)) ?_ ?_ 0 (by omega)
  · rw [cpI_0] at key
    exact key
  · refine mj_run 2 rfl trivial ?_
    refine mj_brt rfl rfl (by decide) ?_
    exact mj_end rfl rfl trivial
  · intro p hp ih
    refine mj_run 2 rfl trivial ?_
    refine mj_brf rfl rfl (by rw [nI_leI (by decide) (by omega)]; omega) ?_
    refine mj_run 10 rfl ⟨nI_vi (by omega) (by decide), nI_vi (by omega) (by decide), by decide⟩ ?_
    rw [nI_nc (by omega), cpI_s (by decide), nI_add]
    exact ih
theorem M_move {a m : Nat} {T : Nat → Nat} {q : Option Nat} {x : Int32} (hY : MY I n Y) (hp : I 45 19 = nI (10 + a)) (ha : a < n) (hT : RI I 55 n T) (hTK : TOK n Y T) (hq : sq q x) (hm : I 45 20 = nI m) : mj_call mj_P (d + 3) kn_M_move [.ref 45, .int x] (HP L dy I y y1 n1 w1 c y2 R J) none (HP L dy (mj_ui (mj_ui (mj_ui I 45 19 (nI (mv Y q (10 + a, T, m)).1)) 55 a (nI ((mv Y q (10 + a, T, m)).2.1 a))) 45 20 (nI (m + 1))) y y1 n1 w1 c y2 R J) := by
  have hY0 := hY
  obtain ⟨h1, h2, h3⟩ := hY
  have hn : n ≤ 10 := h2.1
  have hsm := sm_in h2 ha
  have hTa := hTK a ha
  have hw := wa_in h2 ha hTa
  obtain ⟨k1, k2, k3, -⟩ := h2.2 a ha
  obtain ⟨e1, e2, e3⟩ := h3 a ha
  have vi : vp_in (nI a) 10 := nI_vi (by omega) (by decide)
  have hc : (nI a).toNatClampNeg = a := nI_nc (by omega)
  have e4 : nI (10 + a) - nI 10 = nI a := by rw [pk_sub (by omega)]; congr 1; omega
  have e9 : (10 + a : Nat) - 10 = a := by omega
  refine mj_ci rfl (Nat.le_of_ble_eq_true rfl) ?_
  refine mj_run 17 rfl (by rw [hp, e4]; exact vi) ?_
  rw [hp, e4, hc, hT a ha]
  refine mj_cal rfl rfl (M_wayAt hY0 ha hTa) ?_
  have e5 : nI 3 * nI a + nI (wa Y a (T a)) = nI (3 * a + wa Y a (T a)) := by rw [pk_mul, nI_add]
  refine mj_run 8 rfl (by rw [e5]; exact nI_vi (by omega) (by decide)) ?_
  rw [e5, nI_nc (by omega), e3 _ (by omega), if_pos hw]
  refine mj_bra rfl rfl (fun g => ?_) (fun g => ?_)
  · refine mj_run 6 rfl vi ?_
    have e6 : mj_ui I 45 19 (nI (Y.2.2 a (wa Y a (T a)))) 55 (nI a).toNatClampNeg = nI (T a) := by
      rw [hc]
      simp [mj_ui, hT a ha]
    rw [e6]
    refine mj_cal rfl rfl (M_turned (I := mj_ui I 45 19 (nI (Y.2.2 a (wa Y a (T a))))) (hY0.kept (by simp [mj_ui, upd]) (by simp [mj_ui]) (by simp [mj_ui]) (by simp [mj_ui])) ha hTa) ?_
    refine mj_run 7 rfl ⟨vi, by decide⟩ ?_
    have g' : ¬ q = some a := fun z => g ((hq a (by omega)).mpr z)
    refine mj_endI rfl rfl trivial rfl ?_
    simp [mv, fu, pl, g', hc, mj_ui, upd, hm, nI_add]
  · have g' : q = some a := (hq a (by omega)).mp (Classical.not_not.mp g)
    refine mj_run 5 rfl vi ?_
    have e6 : mj_ui I 45 19 (nI (Y.2.2 a (wa Y a (T a)))) 55 (nI a).toNatClampNeg = nI (T a) := by
      rw [hc]
      simp [mj_ui, hT a ha]
    rw [e6]
    refine mj_run 7 rfl ⟨vi, by decide⟩ ?_
    refine mj_endI rfl rfl trivial rfl ?_
    simp [mv, fu, pl, g', hc, mj_ui, upd, hm, nI_add]
end MM
end
section
def rsI (I : mjI) (n : Nat) (s : Rs) : mjI := fun b => if b = 45 then upd (upd (I 45) 19 (nI s.1)) 20 (nI s.2.2) else if b = 55 then (fun i => if i < n then nI (s.2.1 i) else I 55 i) else I b
theorem rsI_mv {I : mjI} {n a : Nat} {Y : Yd} {q : Option Nat} {T : Nat → Nat} {m : Nat} (ha : a < n) : mj_ui (mj_ui (mj_ui (rsI I n (10 + a, T, m)) 45 19 (nI (mv Y q (10 + a, T, m)).1)) 55 a (nI ((mv Y q (10 + a, T, m)).2.1 a))) 45 20 (nI (m + 1)) = rsI I n (mv Y q (10 + a, T, m)) := by
  funext b
  by_cases h : b = 45
  · subst h
    funext i
    simp only [mj_ui, rsI, upd, if_true]
    by_cases h1 : i = 20
    · simp [h1, mv]
    · by_cases h2 : i = 19
      · simp [h2, upd]
      · simp [h1, h2, upd]
  · by_cases h5 : b = 55
    · subst h5
      funext i
      simp only [mj_ui, rsI, upd]
      by_cases h1 : i = a
      · subst h1
        simp [ha, upd]
      · have e : (mv Y q (10 + a, T, m)).2.1 i = T i := by simp [mv, fu, h1]
        simp [h1, e, upd]
    · simp [mj_ui, rsI, h, h5]
theorem rsI_0 {I : mjI} {n : Nat} {T : Nat → Nat} (hT : RI I 55 n T) : mj_ui (mj_ui I 45 19 (nI 10)) 45 20 (nI 0) = rsI I n (10, T, 0) := by
  funext b
  by_cases h : b = 45
  · subst h
    simp [mj_ui, rsI]
  · by_cases h5 : b = 55
    · subst h5
      funext i
      by_cases hi : i < n
      · simp [mj_ui, rsI, hi, hT i hi]
      · simp [mj_ui, rsI, hi]
    · simp [mj_ui, rsI, h, h5]
def GF (I I' : mjI) : Prop := (∀ a, a ≠ 45 → a ≠ 55 → a ≠ 56 → I' a = I a) ∧ ∀ k, k ≠ 19 → k ≠ 20 → I' 45 k = I 45 k
theorem MY.gf {I I' : mjI} {n : Nat} {Y : Yd} (h : MY I n Y) (g : GF I I') : MY I' n Y := h.kept (g.2 9 (by decide) (by decide)) (g.1 50 (by decide) (by decide) (by decide)) (g.1 51 (by decide) (by decide) (by decide)) (g.1 52 (by decide) (by decide) (by decide))
theorem GF.rf (I : mjI) : GF I I := ⟨fun _ _ _ _ => rfl, fun _ _ _ => rfl⟩
theorem GF.tr {I I' I'' : mjI} (g : GF I I') (g2 : GF I' I'') : GF I I'' := ⟨fun a h1 h2 h3 => (g2.1 a h1 h2 h3).trans (g.1 a h1 h2 h3), fun k h1 h2 => (g2.2 k h1 h2).trans (g.2 k h1 h2)⟩
section MM
variable {d L : Nat} {dy : mjM} {I : mjI} {y y1 n1 w1 c y2 : Option Nat} {R : mjR} {J : mjJ} {n : Nat} {Y : Yd}
theorem M_roll {x : Int32} {q : Option Nat} {v : Option Value} {h' : mjH} {p : Int32} (hY : MY I n Y) (hq : sq q x) : ∀ (k : Nat) (s : Rs), s.2.2 + k = 500 → s.1 < 10 + n → TOK n Y s.2.1 →
    mj_Rd (mj_call mj_P (d + 3)) kc_M_goTruck 1 (64, [some (.ref 45), some (.int x), some (.int p)], [], HP L dy (rsI I n (ro Y q k s)) y y1 n1 w1 c y2 R J) v h' → mj_Rd (mj_call mj_P (d + 3)) kc_M_goTruck 1 (37, [some (.ref 45), some (.int x), some (.int p)], [], HP L dy (rsI I n s) y y1 n1 w1 c y2 R J) v h'
  | k, (a, T, m), hm, ha, hT, hx => by
    have hn : n ≤ 10 := hY.2.1.1
    have hm' : m + k = 500 := hm
    have ha' : a < 10 + n := ha
    have e19 : rsI I n (a, T, m) 45 19 = nI a := by simp [rsI, upd]
    have e20 : rsI I n (a, T, m) 45 20 = nI m := by simp [rsI, upd]
    refine mj_run 3 rfl trivial ?_
    rw [e19]
    refine mj_bra rfl rfl (fun g => ?_) (fun g => ?_)
    · rw [nI_ltI (by omega) (by decide)] at g
      have e : ro Y q k (a, T, m) = (a, T, m) := by
        cases k with
        | zero => rfl
        | succ k => simp [ro, g]
      rw [e] at hx
      exact hx
    · rw [nI_ltI (by omega) (by decide)] at g
      refine mj_run 3 rfl trivial ?_
      rw [e20]
      cases k with
      | zero =>
        refine mj_brt rfl rfl (by rw [nI_leI (by decide) (by omega)]; omega) ?_
        exact hx
      | succ k =>
        refine mj_brf rfl rfl (by rw [nI_leI (by decide) (by omega)]; omega) ?_
        refine mj_run 2 rfl trivial ?_
        obtain ⟨b, hb⟩ : ∃ b, a = 10 + b := ⟨a - 10, by omega⟩
        subst hb
        have hYr : MY (rsI I n (10 + b, T, m)) n Y := hY.kept (by simp [rsI, upd]) (by simp [rsI]) (by simp [rsI]) (by simp [rsI])
        refine mj_cal rfl rfl (M_move (a := b) (m := m) (T := T) hYr e19 (by omega) (fun i hi => by simp [rsI, hi]) hT hq e20) ?_
        rw [rsI_mv (by omega)]
        refine mj_run 1 rfl trivial ?_
        obtain ⟨g1, g2⟩ := mv_ok (q := q) hY.2.1 g ha hT
        have e : ro Y q (k + 1) (10 + b, T, m) = ro Y q k (mv Y q (10 + b, T, m)) := by
          show (if 10 + b < 10 then _ else _) = _
          rw [if_neg g]
        rw [e] at hx
        exact M_roll hY hq k _ (by show m + 1 + k = 500; omega) g1 g2 hx
theorem M_goTruck {T : Nat → Nat} {q : Option Nat} {x : Int32} (hY : MY I n Y) (hn1 : 1 ≤ n) (hT : RI I 55 n T) (hTK : TOK n Y T) (hq : sq q x) : ∃ I', mj_call mj_P (d + 4) kn_M_goTruck [.ref 45, .int x] (HP L dy I y y1 n1 w1 c y2 R J) (some (.int (gv (gt Y q T).1))) (HP L dy I' y y1 n1 w1 c y2 R J) ∧ GF I I' ∧ RI I' 55 n (gt Y q T).2.1 ∧ I' 45 20 = nI (gt Y q T).2.2 := by
  have hn : n ≤ 10 := hY.2.1.1
  have hYc : MY (cpI I 56 55 10) n Y := hY.kept (by simp [cpI]) (by simp [cpI]) (by simp [cpI]) (by simp [cpI])
  have hTc : RI (cpI I 56 55 10) 55 n T := fun i hi => by rw [cpI_ne (by decide)]; exact hT i hi
  obtain ⟨hf1, hf2, hf3⟩ := ro_ok (q := q) hY.2.1 500 (10, T, 0) (by show 10 < 10 + n; omega) hTK
  generalize hf : ro Y q 500 (10, T, 0) = f at hf1 hf2 hf3
  have hgt : gt Y q T = if f.1 < 10 then (some f.1, f.2) else (none, T, f.2.2) := by unfold gt; rw [hf]
  have main : ∀ (v : Option Value) (h' : mjH), mj_Rd (mj_call mj_P (d + 3)) kc_M_goTruck 1 (64, [some (.ref 45), some (.int x), some (.int (nI 10))], [], HP L dy (rsI (cpI I 56 55 10) n f) y y1 n1 w1 c y2 R J) v h' → mj_call mj_P (d + 4) kn_M_goTruck [.ref 45, .int x] (HP L dy I y y1 n1 w1 c y2 R J) v h' := by
    intro v h' hx
    refine mj_ci rfl (Nat.le_of_ble_eq_true rfl) ?_
    refine mj_run 2 rfl trivial ?_
    have key := dn_ind 10 (fun p => mj_Rd (mj_call mj_P (d + 3)) kc_M_goTruck 1 (2, [some (.ref 45), some (.int x), some (.int (nI p))], [], HP L dy (cpI I 56 55 p) y y1 n1 w1 c y2 R J) v h') ?_ ?_ 0 (by omega)
    · rw [cpI_0] at key
      exact key
    · refine mj_run 2 rfl trivial ?_
      refine mj_brt rfl rfl (by decide) ?_
      refine mj_run 6 rfl trivial ?_
      rw [rsI_0 hTc]
      refine M_roll hYc hq 500 _ rfl (by show 10 < 10 + n; omega) hTK ?_
      rw [hf]
      exact hx
    · intro p hp ih
      refine mj_run 2 rfl trivial ?_
      refine mj_brf rfl rfl (by rw [nI_leI (by decide) (by omega)]; omega) ?_
      refine mj_run 10 rfl ⟨nI_vi (by omega) (by decide), nI_vi (by omega) (by decide), by decide⟩ ?_
      rw [nI_nc (by omega), cpI_s (by decide), nI_add]
      exact ih
  have e19 : rsI (cpI I 56 55 10) n f 45 19 = nI f.1 := by simp [rsI, upd]
  by_cases hfl : f.1 < 10
  · rw [hgt, if_pos hfl]
    refine ⟨rsI (cpI I 56 55 10) n f, main _ _ ?_, ⟨fun a h1 h2 h3 => by simp [rsI, cpI, h1, h2, h3], fun k h1 h2 => by simp [rsI, cpI, upd, h1, h2]⟩, fun i hi => by simp [rsI, hi], by simp [rsI, upd]⟩
    refine mj_run 3 rfl trivial ?_
    rw [e19]
    refine mj_brf rfl rfl (by rw [nI_leI (by decide) (by omega)]; omega) ?_
    refine mj_run 2 rfl trivial ?_
    rw [e19]
    exact mj_end rfl rfl trivial
  · rw [hgt, if_neg hfl]
    refine ⟨cpI (rsI (cpI I 56 55 10) n f) 55 56 10, main _ _ ?_, ⟨fun a h1 h2 h3 => by simp [rsI, cpI, h1, h2, h3], fun k h1 h2 => by simp [rsI, cpI, upd, h1, h2]⟩, fun i hi => ?_, by simp [rsI, cpI, upd]⟩
    · refine mj_run 3 rfl trivial ?_
      rw [e19]
      refine mj_brt rfl rfl (by rw [nI_leI (by decide) (by omega)]; omega) ?_
      refine mj_run 2 rfl trivial ?_
      have key := dn_ind 10 (fun p => mj_Rd (mj_call mj_P (d + 3)) kc_M_goTruck 1 (80, [some (.ref 45), some (.int x), some (.int (nI p))], [], HP L dy (cpI (rsI (cpI I 56 55 10) n f) 55 56 p) y y1 n1 w1 c y2 R J) (some (.int (gv none))) (HP L dy (cpI (rsI (cpI I 56 55 10) n f) 55 56 10) y y1 n1 w1 c y2 R J)) ?_ ?_ 0 (by omega)
      · rw [cpI_0] at key
        exact key
      · refine mj_run 2 rfl trivial ?_
        refine mj_brt rfl rfl (by decide) ?_
        refine mj_run 1 rfl trivial ?_
        exact mj_end rfl rfl trivial
      · intro p hp ih
        refine mj_run 2 rfl trivial ?_
        refine mj_brf rfl rfl (by rw [nI_leI (by decide) (by omega)]; omega) ?_
        refine mj_run 10 rfl ⟨nI_vi (by omega) (by decide), nI_vi (by omega) (by decide), by decide⟩ ?_
        rw [nI_nc (by omega), cpI_s (by decide), nI_add]
        exact ih
    · rw [cpI_at (by omega)]
      have : rsI (cpI I 56 55 10) n f 56 i = I 55 i := by simp [rsI, cpI]; omega
      rw [this]
      exact hT i hi
end MM
end
section
/-- what may have changed of the reference: places ks of its own cell, rows as -/
def Fr (ks as : List Nat) (I I' : mjI) : Prop := (∀ a, a ∉ as → a ≠ 45 → I' a = I a) ∧ ∀ k, k ∉ ks → I' 45 k = I 45 k
theorem Fr.rf (I : mjI) : Fr [] [] I I := ⟨fun _ _ _ => rfl, fun _ _ => rfl⟩
theorem Fr.tr {ks as ks' as' : List Nat} {I I' I'' : mjI} (f : Fr ks as I I') (g : Fr ks' as' I' I'') : Fr (ks ++ ks') (as ++ as') I I'' := ⟨fun a h1 h2 => (g.1 a (fun q => h1 (List.mem_append_right _ q)) h2).trans (f.1 a (fun q => h1 (List.mem_append_left _ q)) h2), fun k h => (g.2 k (fun q => h (List.mem_append_right _ q))).trans (f.2 k (fun q => h (List.mem_append_left _ q)))⟩
theorem Fr.u (I : mjI) (k : Nat) (x : Int32) : Fr [k] [] I (mj_ui I 45 k x) := ⟨fun a _ h => by simp [mj_ui, h], fun j h => by simp at h; simp [mj_ui, upd, h]⟩
theorem Fr.a (I : mjI) {a : Nat} (ha : a ≠ 45) (i : Nat) (x : Int32) : Fr [] [a] I (mj_ui I a i x) := ⟨fun b h _ => by simp at h; simp [mj_ui, h], fun j h => by simp [mj_ui, ha.symm]⟩
theorem Fr.c (I : mjI) {dst : Nat} (ha : dst ≠ 45) (src k : Nat) : Fr [] [dst] I (cpI I dst src k) := ⟨fun b h _ => by simp at h; simp [cpI, h], fun j h => by simp [cpI, ha.symm]⟩
theorem GF.fr {I I' : mjI} (g : GF I I') : Fr [19, 20] [55, 56] I I' := ⟨fun a h1 h2 => by simp at h1; exact g.1 a h2 h1.1 h1.2, fun k h => by simp at h; exact g.2 k h.1 h.2⟩
theorem Fr.w {ks as ks' as' : List Nat} {I I' : mjI} (f : Fr ks as I I') (h1 : ∀ k, k ∈ ks → k ∈ ks') (h2 : ∀ k, k ∈ as → k ∈ as') : Fr ks' as' I I' := ⟨fun a h => f.1 a (fun q => h (h2 a q)), fun k h => f.2 k (fun q => h (h1 k q))⟩
def Mpg (I : mjI) (pn : Nat) (pg : Nat → Nat) : Prop := I 45 1 = nI pn ∧ pn ≤ 50 ∧ ∀ i, i < pn → I 46 i = nI (pg i) ∧ 1 ≤ pg i ∧ pg i ≤ 126
def Mst (I : mjI) (n : Nat) (Y : Yd) (T : Nat → Nat) : Prop := RI I 53 n T ∧ TOK n Y T
def Mtr (I : mjI) (t : Nat) (tr : Nat → Nat) : Prop := I 45 15 = nI t ∧ t ≤ 60 ∧ ∀ i, i < t → I 54 i = nI (tr i) ∧ tr i < 10
abbrev Kp : Type := Option (Nat × (Nat → Nat) × (Nat → Nat))
def Mkp (I : mjI) (n : Nat) (Y : Yd) (yr : Nat) : Kp → Prop
  | none => I 45 29 = Int32.ofInt (-1) ∨ ∃ ky, I 45 30 = nI ky ∧ ky < yr
  | some (t, tr, T) => I 45 29 = nI t ∧ t ≤ 60 ∧ I 45 30 = nI yr ∧ (∀ i, i < t → I 64 i = nI (tr i) ∧ tr i < 10) ∧ RI I 63 n T ∧ TOK n Y T
def Mwt (I : mjI) (wn : Nat) (wt : Nat → Nat) : Prop := I 45 22 = nI wn ∧ wn ≤ 8 ∧ ∀ i, i < wn → I 58 i = nI (wt i) ∧ wt i < 10
def Mct (I : mjI) (yr dn : Nat) : Prop := I 45 10 = nI yr ∧ yr ≤ 1000 ∧ I 45 24 = nI dn ∧ dn ≤ 20
theorem Mpg.fr {I I' : mjI} {pn : Nat} {pg : Nat → Nat} {ks as : List Nat} (h : Mpg I pn pg) (f : Fr ks as I I') (hk : 1 ∉ ks ∧ 46 ∉ as) : Mpg I' pn pg := by
  unfold Mpg
  rw [f.2 1 hk.1, f.1 46 hk.2 (by decide)]
  exact h
theorem MY.fr {I I' : mjI} {n : Nat} {Y : Yd} {ks as : List Nat} (h : MY I n Y) (f : Fr ks as I I') (hk : 9 ∉ ks ∧ 50 ∉ as ∧ 51 ∉ as ∧ 52 ∉ as) : MY I' n Y := h.kept (f.2 9 hk.1) (f.1 50 hk.2.1 (by decide)) (f.1 51 hk.2.2.1 (by decide)) (f.1 52 hk.2.2.2 (by decide))
theorem RI.fr {I I' : mjI} {a n : Nat} {T : Nat → Nat} {ks as : List Nat} (h : RI I a n T) (f : Fr ks as I I') (ha : a ≠ 45) (hk : a ∉ as) : RI I' a n T := fun i hi => by
  rw [f.1 a hk ha]
  exact h i hi
theorem Mst.fr {I I' : mjI} {n : Nat} {Y : Yd} {T : Nat → Nat} {ks as : List Nat} (h : Mst I n Y T) (f : Fr ks as I I') (hk : 53 ∉ as) : Mst I' n Y T := ⟨h.1.fr f (by decide) hk, h.2⟩
theorem Mtr.fr {I I' : mjI} {t : Nat} {tr : Nat → Nat} {ks as : List Nat} (h : Mtr I t tr) (f : Fr ks as I I') (hk : 15 ∉ ks ∧ 54 ∉ as) : Mtr I' t tr := by
  unfold Mtr
  rw [f.2 15 hk.1, f.1 54 hk.2 (by decide)]
  exact h
theorem Mkp.fr {I I' : mjI} {n : Nat} {Y : Yd} {yr : Nat} {kp : Kp} {ks as : List Nat} (h : Mkp I n Y yr kp) (f : Fr ks as I I') (hk : 29 ∉ ks ∧ 30 ∉ ks ∧ 63 ∉ as ∧ 64 ∉ as) : Mkp I' n Y yr kp := by
  cases kp with
  | none =>
    unfold Mkp
    rw [f.2 29 hk.1, f.2 30 hk.2.1]
    exact h
  | some q =>
    obtain ⟨t, tr, T⟩ := q
    obtain ⟨h1, h2, h3, h4, h5, h6⟩ := h
    refine ⟨(f.2 29 hk.1).trans h1, h2, (f.2 30 hk.2.1).trans h3, ?_, h5.fr f (by decide) hk.2.2.1, h6⟩
    rw [f.1 64 hk.2.2.2 (by decide)]
    exact h4
theorem Mwt.fr {I I' : mjI} {wn : Nat} {wt : Nat → Nat} {ks as : List Nat} (h : Mwt I wn wt) (f : Fr ks as I I') (hk : 22 ∉ ks ∧ 58 ∉ as) : Mwt I' wn wt := by
  unfold Mwt
  rw [f.2 22 hk.1, f.1 58 hk.2 (by decide)]
  exact h
theorem Mct.fr {I I' : mjI} {yr dn : Nat} {ks as : List Nat} (h : Mct I yr dn) (f : Fr ks as I I') (hk : 10 ∉ ks ∧ 24 ∉ ks) : Mct I' yr dn := by
  unfold Mct
  rw [f.2 10 hk.1, f.2 24 hk.2]
  exact h
def MI (I : mjI) (pn : Nat) (pg : Nat → Nat) (n : Nat) (Y : Yd) (T : Nat → Nat) (t : Nat) (tr : Nat → Nat) (kp : Kp) (wn : Nat) (wt : Nat → Nat) (yr dn : Nat) : Prop := Mpg I pn pg ∧ MY I n Y ∧ Mst I n Y T ∧ Mtr I t tr ∧ Mkp I n Y yr kp ∧ Mwt I wn wt ∧ Mct I yr dn
/-- working places alone have changed -/
abbrev wk : List Nat := [2, 3, 4, 5, 19, 20]
abbrev wa' : List Nat := [47, 48, 49, 55, 56, 57, 59, 60, 61, 62]
theorem MI.work {I I' : mjI} {pn : Nat} {pg : Nat → Nat} {n : Nat} {Y : Yd} {T : Nat → Nat} {t : Nat} {tr : Nat → Nat} {kp : Kp} {wn : Nat} {wt : Nat → Nat} {yr dn : Nat} (h : MI I pn pg n Y T t tr kp wn wt yr dn) (f : Fr wk wa' I I') : MI I' pn pg n Y T t tr kp wn wt yr dn := by
  obtain ⟨h1, h2, h3, h4, h5, h6, h7⟩ := h
  exact ⟨h1.fr f (by decide), h2.fr f (by decide), h3.fr f (by decide), h4.fr f (by decide), h5.fr f (by decide), h6.fr f (by decide), h7.fr f (by decide)⟩
/-- how many trucks are in a siding -/
def cn (tr : Nat → Nat) (s : Nat) : Nat → Nat
  | 0 => 0
  | k + 1 => cn tr s k + if tr k = s then 1 else 0
theorem cn_le (tr : Nat → Nat) (s : Nat) : ∀ k, cn tr s k ≤ k
  | 0 => Nat.le_refl 0
  | k + 1 => by
    have := cn_le tr s k
    unfold cn
    split <;> omega
/-- the i-th truck of a siding, from k on, 'seen' seen already -/
def nx (tr : Nat → Nat) (s i : Nat) : Nat → Nat → Nat → Int32
  | 0, _, _ => Int32.ofInt (-1)
  | f + 1, k, e => if tr k = s then (if e = i then nI k else nx tr s i f (k + 1) (e + 1)) else nx tr s i f (k + 1) e
section MM
variable {d L : Nat} {dy : mjM} {I : mjI} {y y1 n1 w1 c y2 : Option Nat} {R : mjR} {J : mjJ} {pn : Nat} {pg : Nat → Nat} {n : Nat} {Y : Yd} {T : Nat → Nat} {t : Nat} {tr : Nat → Nat} {kp : Kp} {wn : Nat} {wt : Nat → Nat} {yr dn : Nat}
theorem MO_blank (h : MI I pn pg n Y T t tr kp wn wt yr dn) : ∃ I', mj_call mj_P (d + 1) kn_M_blank [.ref 45] (HP L dy I y y1 n1 w1 c y2 R J) (some (.int (nI pn))) (HP L dy I' y y1 n1 w1 c y2 R J) ∧ MI I' 0 pg n Y T t tr kp wn wt yr dn ∧ Fr [1] [] I I' := by
  obtain ⟨h1, h2, h3, h4, h5, h6, h7⟩ := h
  have f := Fr.u I 1 (nI 0)
  refine ⟨mj_ui I 45 1 (nI 0), ?_, ⟨⟨by simp [mj_ui, upd], by omega, fun i hi => by omega⟩, h2.fr f (by decide), h3.fr f (by decide), h4.fr f (by decide), h5.fr f (by decide), h6.fr f (by decide), h7.fr f (by decide)⟩, f⟩
  refine mj_ci rfl (Nat.le_of_ble_eq_true rfl) ?_
  refine mj_run 7 rfl trivial ?_
  rw [h1.1]
  exact mj_end rfl rfl trivial
theorem MO_clear (h : MI I pn pg n Y T t tr kp wn wt yr dn) : ∃ I', mj_call mj_P (d + 1) kn_M_clear [.ref 45] (HP L dy I y y1 n1 w1 c y2 R J) (some (.int (nI wn))) (HP L dy I' y y1 n1 w1 c y2 R J) ∧ MI I' pn pg n Y T t tr kp 0 wt yr dn ∧ Fr [22] [] I I' := by
  obtain ⟨h1, h2, h3, h4, h5, h6, h7⟩ := h
  have f := Fr.u I 22 (nI 0)
  refine ⟨mj_ui I 45 22 (nI 0), ?_, ⟨h1.fr f (by decide), h2.fr f (by decide), h3.fr f (by decide), h4.fr f (by decide), h5.fr f (by decide), ⟨by simp [mj_ui, upd], by omega, fun i hi => by omega⟩, h7.fr f (by decide)⟩, f⟩
  refine mj_ci rfl (Nat.le_of_ble_eq_true rfl) ?_
  refine mj_run 7 rfl trivial ?_
  rw [h6.1]
  exact mj_end rfl rfl trivial
theorem lN9 (x : Int32) : (lN 0 ≤ x.toInt64 ∧ x.toInt64 ≤ lN 9) ↔ (0 ≤ x.toInt ∧ x.toInt < 10) := by
  rw [Int64.le_iff_toInt_le, Int64.le_iff_toInt_le, Int32.toInt_toInt64]
  have e1 : (lN 0).toInt = 0 := rfl
  have e2 : (lN 9).toInt = 9 := rfl
  rw [e1, e2]
  omega
theorem i_nI {x : Int32} {N : Nat} (h : 0 ≤ x.toInt ∧ x.toInt < N) : ∃ j, j < N ∧ x = nI j := by
  refine ⟨x.toInt.toNat, by omega, ?_⟩
  rw [← Int32.toInt_inj, nI_toInt]
  · omega
  · have := Int32.toInt_lt x
    omega
theorem M_manyIn {s : Nat} (hs : s < 10) (h : Mtr I t tr) : mj_call mj_P (d + 1) kn_M_manyIn [.ref 45, .int (nI s)] (HP L dy I y y1 n1 w1 c y2 R J) (some (.int (nI (cn tr s t)))) (HP L dy I y y1 n1 w1 c y2 R J) := by
  obtain ⟨h1, h2, h3⟩ := h
  refine mj_ci rfl (Nat.le_of_ble_eq_true rfl) ?_
  refine mj_run 4 rfl trivial ?_
  refine dn_ind t (fun p => mj_Rd (mj_call mj_P d) kc_M_manyIn 1 (4, [some (.ref 45), some (.int (nI s)), some (.int (nI (cn tr s p))), some (.int (nI p))], [], HP L dy I y y1 n1 w1 c y2 R J) (some (.int (nI (cn tr s t)))) (HP L dy I y y1 n1 w1 c y2 R J)) ?_ ?_ 0 (by omega)
  · refine mj_run 3 rfl trivial ?_
    rw [h1]
    refine mj_brt rfl rfl (by rw [nI_leI (by omega) (by omega)]; omega) ?_
    refine mj_run 1 rfl trivial ?_
    exact mj_end rfl rfl trivial
  · intro p hp ih
    obtain ⟨g1, g2⟩ := h3 p hp
    refine mj_run 3 rfl trivial ?_
    rw [h1]
    refine mj_brf rfl rfl (by rw [nI_leI (by omega) (by omega)]; omega) ?_
    refine mj_run 6 rfl (nI_vi (by omega) (by decide)) ?_
    rw [nI_nc (by omega), g1]
    refine mj_bra rfl rfl (fun g => ?_) (fun g => ?_)
    · rw [nI_e (by omega) (by omega)] at g
      rw [show cn tr s (p + 1) = cn tr s p + 0 by simp [cn, g]] at ih
      refine mj_run 1 rfl trivial ?_
      refine mj_run 4 rfl trivial ?_
      rw [nI_add, nI_add]
      exact ih
    · rw [nI_e (by omega) (by omega)] at g
      rw [show cn tr s (p + 1) = cn tr s p + 1 by simp [cn, Classical.not_not.mp g]] at ih
      refine mj_run 2 rfl trivial ?_
      refine mj_run 4 rfl trivial ?_
      rw [nI_add, nI_add]
      exact ih
theorem MO_many (h : MI I pn pg n Y T t tr kp wn wt yr dn) (x : Int32) : mj_call mj_P (d + 2) kn_M_many [.ref 45, .int x] (HP L dy I y y1 n1 w1 c y2 R J) (some (.int (if 0 ≤ x.toInt ∧ x.toInt < 10 then nI (cn tr x.toNatClampNeg t) else Int32.ofInt (-101)))) (HP L dy I y y1 n1 w1 c y2 R J) := by
  refine mj_ci rfl (Nat.le_of_ble_eq_true rfl) ?_
  refine mj_run 4 rfl trivial ?_
  by_cases g : 0 ≤ x.toInt ∧ x.toInt < 10
  · rw [if_pos g]
    refine mj_cal rfl rfl (M_in_t ((lN9 x).mpr g)) ?_
    refine mj_brf rfl rfl (by decide) ?_
    refine mj_run 2 rfl trivial ?_
    obtain ⟨s, hs, rfl⟩ := i_nI (N := 10) g
    refine mj_cal rfl rfl (M_manyIn hs h.2.2.2.1) ?_
    rw [nI_nc (show s < 2147483648 by omega)]
    refine mj_run 1 rfl trivial ?_
    exact mj_end rfl rfl trivial
  · rw [if_neg g]
    refine mj_cal rfl rfl (M_in_f (fun q => g ((lN9 x).mp q))) ?_
    refine mj_brt rfl rfl (by decide) ?_
    refine mj_run 1 rfl trivial ?_
    exact mj_end rfl rfl trivial
end MM
end
section
section MM
variable {d L : Nat} {dy : mjM} {I : mjI} {y y1 n1 w1 c y2 : Option Nat} {R : mjR} {J : mjJ} {pn : Nat} {pg : Nat → Nat} {n : Nat} {Y : Yd} {T : Nat → Nat} {t : Nat} {tr : Nat → Nat} {kp : Kp} {wn : Nat} {wt : Nat → Nat} {yr dn : Nat}
theorem MO_truck (h : MI I pn pg n Y T t tr kp wn wt yr dn) (x i : Int32) : mj_call mj_P (d + 2) kn_M_truck [.ref 45, .int x, .int i] (HP L dy I y y1 n1 w1 c y2 R J) (some (.int (if 0 ≤ x.toInt ∧ x.toInt < 10 then (if 0 ≤ i.toInt ∧ i.toInt < 60 then nx tr x.toNatClampNeg i.toNatClampNeg t 0 0 else Int32.ofInt (-102)) else Int32.ofInt (-101)))) (HP L dy I y y1 n1 w1 c y2 R J) := by
  obtain ⟨h1, h2, h3⟩ := h.2.2.2.1
  refine mj_ci rfl (Nat.le_of_ble_eq_true rfl) ?_
  refine mj_run 4 rfl trivial ?_
  by_cases g : 0 ≤ x.toInt ∧ x.toInt < 10
  · rw [if_pos g]
    refine mj_cal rfl rfl (M_in_t ((lN9 x).mpr g)) ?_
    refine mj_brt rfl rfl (by decide) ?_
    refine mj_run 4 rfl trivial ?_
    have e59 : (lN 0 ≤ i.toInt64 ∧ i.toInt64 ≤ lN 59) ↔ (0 ≤ i.toInt ∧ i.toInt < 60) := by
      rw [Int64.le_iff_toInt_le, Int64.le_iff_toInt_le, Int32.toInt_toInt64]
      have e1 : (lN 0).toInt = 0 := rfl
      have e2 : (lN 59).toInt = 59 := rfl
      rw [e1, e2]
      omega
    by_cases g2 : 0 ≤ i.toInt ∧ i.toInt < 60
    · rw [if_pos g2]
      refine mj_cal rfl rfl (M_in_t (e59.mpr g2)) ?_
      refine mj_brt rfl rfl (by decide) ?_
      refine mj_run 4 rfl trivial ?_
      obtain ⟨s, hs, rfl⟩ := i_nI (N := 10) g
      obtain ⟨j, hj, rfl⟩ := i_nI (N := 60) g2
      rw [nI_nc (show s < 2147483648 by omega), nI_nc (show j < 2147483648 by omega)]
      have key : ∀ (f k e : Nat), k + f = t → e ≤ k → mj_Rd (mj_call mj_P (d + 1)) kc_M_truck 1 (35, [some (.ref 45), some (.int (nI s)), some (.int (nI j)), some (.int (nI e)), some (.int (nI k))], [], HP L dy I y y1 n1 w1 c y2 R J) (some (.int (nx tr s j f k e))) (HP L dy I y y1 n1 w1 c y2 R J) := by
        intro f
        induction f with
        | zero =>
          intro k e hk he
          refine mj_run 3 rfl trivial ?_
          rw [h1]
          refine mj_brt rfl rfl (by rw [nI_leI (by omega) (by omega)]; omega) ?_
          refine mj_run 1 rfl trivial ?_
          exact mj_end rfl rfl trivial
        | succ f ih =>
          intro k e hk he
          obtain ⟨q1, q2⟩ := h3 k (by omega)
          refine mj_run 3 rfl trivial ?_
          rw [h1]
          refine mj_brf rfl rfl (by rw [nI_leI (by omega) (by omega)]; omega) ?_
          refine mj_run 5 rfl (nI_vi (by omega) (by decide)) ?_
          rw [nI_nc (by omega), q1]
          unfold nx
          refine mj_bra rfl rfl (fun g => ?_) (fun g => ?_)
          · rw [nI_e (by omega) (by omega)] at g
            rw [if_neg g]
            refine mj_run 2 rfl trivial ?_
            rw [nI_add]
            exact ih (k + 1) e (by omega) (by omega)
          · rw [nI_e (by omega) (by omega)] at g
            rw [if_pos (Classical.not_not.mp g)]
            refine mj_run 2 rfl trivial ?_
            refine mj_bra rfl rfl (fun g3 => ?_) (fun g3 => ?_)
            · rw [nI_e (by omega) (by omega)] at g3
              rw [if_neg g3]
              refine mj_run 1 rfl trivial ?_
              refine mj_run 2 rfl trivial ?_
              rw [nI_add, nI_add]
              exact ih (k + 1) (e + 1) (by omega) (by omega)
            · rw [nI_e (by omega) (by omega)] at g3
              rw [if_pos (Classical.not_not.mp g3)]
              refine mj_run 1 rfl trivial ?_
              exact mj_end rfl rfl trivial
      exact key t 0 0 (by omega) (by omega)
    · rw [if_neg g2]
      refine mj_cal rfl rfl (M_in_f (fun q => g2 (e59.mp q))) ?_
      refine mj_brf rfl rfl (by decide) ?_
      refine mj_run 1 rfl trivial ?_
      exact mj_end rfl rfl trivial
  · rw [if_neg g]
    refine mj_cal rfl rfl (M_in_f (fun q => g ((lN9 x).mp q))) ?_
    refine mj_brf rfl rfl (by decide) ?_
    refine mj_run 1 rfl trivial ?_
    exact mj_end rfl rfl trivial
theorem MO_want (h : MI I pn pg n Y T t tr kp wn wt yr dn) (x : Int32) : ∃ I', mj_call mj_P (d + 2) kn_M_want [.ref 45, .int x] (HP L dy I y y1 n1 w1 c y2 R J) (some (.int (if 0 ≤ x.toInt ∧ x.toInt < 10 then (if wn = 8 then Int32.ofInt (-104) else nI (wn + 1)) else Int32.ofInt (-101)))) (HP L dy I' y y1 n1 w1 c y2 R J) ∧ (if (0 ≤ x.toInt ∧ x.toInt < 10) ∧ ¬ wn = 8 then MI I' pn pg n Y T t tr kp (wn + 1) (fu wt wn x.toNatClampNeg) yr dn else MI I' pn pg n Y T t tr kp wn wt yr dn) ∧ Fr [22] [58] I I' := by
  have h0 := h
  obtain ⟨h1, h2, h3, h4, h5, h6, h7⟩ := h
  obtain ⟨k1, k2, k3⟩ := h6
  by_cases g : 0 ≤ x.toInt ∧ x.toInt < 10
  · rw [if_pos g]
    by_cases g2 : wn = 8
    · rw [if_pos g2]
      have hA : ¬ ((0 ≤ x.toInt ∧ x.toInt < 10) ∧ ¬ wn = 8) := fun q => q.2 g2
      simp only [hA, if_false]
      refine ⟨I, ?_, h0, (Fr.rf I).w (by simp) (by simp)⟩
      refine mj_ci rfl (Nat.le_of_ble_eq_true rfl) ?_
      refine mj_run 4 rfl trivial ?_
      refine mj_cal rfl rfl (M_in_t ((lN9 x).mpr g)) ?_
      refine mj_brt rfl rfl (by decide) ?_
      refine mj_run 3 rfl trivial ?_
      rw [k1, g2]
      refine mj_brf rfl rfl (by decide) ?_
      refine mj_run 1 rfl trivial ?_
      exact mj_end rfl rfl trivial
    · rw [if_neg g2]
      have hA : (0 ≤ x.toInt ∧ x.toInt < 10) ∧ ¬ wn = 8 := ⟨g, g2⟩
      simp only [if_pos hA]
      obtain ⟨s, hs, rfl⟩ := i_nI (N := 10) g
      have f := (Fr.a I (a := 58) (by decide) wn (nI s)).tr (Fr.u (mj_ui I 58 wn (nI s)) 22 (nI (wn + 1)))
      refine ⟨mj_ui (mj_ui I 58 wn (nI s)) 45 22 (nI (wn + 1)), ?_, ⟨h1.fr f (by decide), h2.fr f (by decide), h3.fr f (by decide), h4.fr f (by decide), h5.fr f (by decide), ⟨by simp [mj_ui, upd], by omega, fun i hi => ?_⟩, h7.fr f (by decide)⟩, f⟩
      · refine mj_ci rfl (Nat.le_of_ble_eq_true rfl) ?_
        refine mj_run 4 rfl trivial ?_
        refine mj_cal rfl rfl (M_in_t ((lN9 _).mpr g)) ?_
        refine mj_brt rfl rfl (by decide) ?_
        refine mj_run 3 rfl trivial ?_
        rw [k1]
        refine mj_brt rfl rfl (by rw [nI_e (by omega) (by decide)]; exact g2) ?_
        refine mj_run 14 rfl ⟨by rw [k1]; exact nI_vi (by omega) (by decide), by decide⟩ ?_
        have e1 : mj_ui I 58 (I 45 22).toNatClampNeg (nI s) = mj_ui I 58 wn (nI s) := by rw [k1, nI_nc (by omega)]
        have e2 : mj_ui I 58 wn (nI s) 45 22 = nI wn := by simp [mj_ui, k1]
        rw [e1, e2, nI_add]
        refine mj_endI rfl rfl trivial ?_ rfl
        simp [mj_ui, upd]
      · rw [nI_nc (show s < 2147483648 by omega)]
        by_cases hi2 : i = wn
        · subst hi2
          simp [mj_ui, upd, fu, hs]
        · have := k3 i (by omega)
          simp [mj_ui, upd, fu, hi2, this]
  · rw [if_neg g]
    have hA : ¬ ((0 ≤ x.toInt ∧ x.toInt < 10) ∧ ¬ wn = 8) := fun q => g q.1
    simp only [hA, if_false]
    refine ⟨I, ?_, h0, (Fr.rf I).w (by simp) (by simp)⟩
    refine mj_ci rfl (Nat.le_of_ble_eq_true rfl) ?_
    refine mj_run 4 rfl trivial ?_
    refine mj_cal rfl rfl (M_in_f (fun q => g ((lN9 x).mp q))) ?_
    refine mj_brf rfl rfl (by decide) ?_
    refine mj_run 1 rfl trivial ?_
    exact mj_end rfl rfl trivial
theorem cp_loop {cd : List (Option mjE)} {rt : Nat} {v : Option Value} {h' : mjH} {K : mjK} {dst src N pc : Nat} {a : mjI} (hne : src ≠ dst) (P : Nat → mjI → Prop) (hx : P N (cpI a dst src N)) (hs : ∀ p, p < N → P (p + 1) (mj_ui (cpI a dst src p) dst p (cpI a dst src p src p)) → P p (cpI a dst src p)) : P 0 a := by
  have := dn_ind N (fun p => P p (cpI a dst src p)) hx (fun p hp ih => hs p hp (by rw [cpI_s hne]; exact ih)) 0 (by omega)
  rwa [cpI_0] at this
theorem MO_down (h : MI I pn pg n Y T t tr kp wn wt yr dn) : ∃ I', mj_call mj_P (d + 5) kn_M_down [.ref 45] (HP L dy I y y1 n1 w1 c y2 R J) (some (.int (if n = 0 then Int32.ofInt (-103) else if t = 60 then Int32.ofInt (-104) else gv (gt Y none T).1))) (HP L dy I' y y1 n1 w1 c y2 R J) ∧ (match (if n = 0 ∨ t = 60 then none else (gt Y none T).1) with
    | none => MI I' pn pg n Y T t tr kp wn wt yr dn
    | some s => MI I' pn pg n Y (gt Y none T).2.1 (t + 1) (fu tr t s) kp wn wt yr dn) ∧ Fr [15, 19, 20] [53, 54, 55, 56] I I' := by
  have h0 := h
  obtain ⟨h1, h2, h3, h4, h5, h6, h7⟩ := h
  have hn10 : n ≤ 10 := h2.2.1.1
  by_cases hn : n = 0
  · rw [if_pos hn, if_pos (Or.inl hn)]
    refine ⟨I, ?_, h0, (Fr.rf I).w (by simp) (by simp)⟩
    refine mj_ci rfl (Nat.le_of_ble_eq_true rfl) ?_
    refine mj_run 1 rfl trivial ?_
    refine mj_cal rfl rfl (M_lacks h2) ?_
    rw [if_pos hn]
    refine mj_brf rfl rfl (by decide) ?_
    refine mj_run 1 rfl trivial ?_
    exact mj_end rfl rfl trivial
  · rw [if_neg hn]
    obtain ⟨k1, k2, k3⟩ := id h4
    by_cases ht : t = 60
    · rw [if_pos ht, if_pos (Or.inr ht)]
      refine ⟨I, ?_, h0, (Fr.rf I).w (by simp) (by simp)⟩
      refine mj_ci rfl (Nat.le_of_ble_eq_true rfl) ?_
      refine mj_run 1 rfl trivial ?_
      refine mj_cal rfl rfl (M_lacks h2) ?_
      rw [if_neg hn]
      refine mj_brt rfl rfl (by decide) ?_
      refine mj_run 3 rfl trivial ?_
      rw [k1, ht]
      refine mj_brf rfl rfl (by decide) ?_
      refine mj_run 1 rfl trivial ?_
      exact mj_end rfl rfl trivial
    · rw [if_neg ht, if_neg (by omega)]
      have fc := Fr.c I (dst := 55) (by decide) 53 10
      have hYc : MY (cpI I 55 53 10) n Y := h2.fr fc (by decide)
      have hTc : RI (cpI I 55 53 10) 55 n T := fun i hi => by rw [cpI_at (by omega)]; exact h3.1 i hi
      obtain ⟨I1, hc1, hg1, hr1, hm1⟩ := M_goTruck (d := d) (L := L) (dy := dy) (y := y) (y1 := y1) (n1 := n1) (w1 := w1) (c := c) (y2 := y2) (R := R) (J := J) hYc (by omega) hTc h3.2 sq_none
      have f1 := fc.tr hg1.fr
      obtain ⟨q1, q2, q3⟩ := gt_ok (q := none) h2.2.1 (by omega) h3.2
      have pre : ∀ (v : Option Value) (h' : mjH), mj_Rd (mj_call mj_P (d + 4)) kc_M_down 1 (31, [some (.ref 45), none, none], [.int (gv (gt Y none T).1)], HP L dy I1 y y1 n1 w1 c y2 R J) v h' → mj_call mj_P (d + 5) kn_M_down [.ref 45] (HP L dy I y y1 n1 w1 c y2 R J) v h' := by
        intro v h' hx
        refine mj_ci rfl (Nat.le_of_ble_eq_true rfl) ?_
        refine mj_run 1 rfl trivial ?_
        refine mj_cal rfl rfl (M_lacks h2) ?_
        rw [if_neg hn]
        refine mj_brt rfl rfl (by decide) ?_
        refine mj_run 3 rfl trivial ?_
        rw [k1]
        refine mj_brt rfl rfl (by rw [nI_e (by omega) (by decide)]; exact ht) ?_
        refine mj_run 1 rfl trivial ?_
        refine mj_cal rfl rfl M_layTried ?_
        refine mj_run 2 rfl trivial ?_
        exact mj_cal rfl rfl hc1 hx
      cases hg : (gt Y none T).1 with
      | none =>
        rw [hg] at pre
        refine ⟨I1, pre _ _ ?_, h0.work (f1.w (by decide) (by decide)), f1.w (by decide) (by decide)⟩
        refine mj_run 3 rfl trivial ?_
        refine mj_brf rfl rfl (fun q => q rfl) ?_
        refine mj_run 1 rfl trivial ?_
        exact mj_end rfl rfl trivial
      | some s =>
        have hs := q1 s hg
        rw [hg] at pre
        have e15 : I1 45 15 = nI t := (f1.2 15 (by decide)).trans k1
        have f2 := (f1.tr (Fr.c I1 (dst := 53) (by decide) 55 10)).tr ((Fr.a (cpI I1 53 55 10) (a := 54) (by decide) t (nI s)).tr (Fr.u (mj_ui (cpI I1 53 55 10) 54 t (nI s)) 15 (nI (t + 1))))
        refine ⟨mj_ui (mj_ui (cpI I1 53 55 10) 54 t (nI s)) 45 15 (nI (t + 1)), pre _ _ ?_, ⟨h1.fr f2 (by decide), h2.fr f2 (by decide), ⟨fun i hi => ?_, q2⟩, ⟨by simp [mj_ui, upd], by omega, fun i hi => ?_⟩, h5.fr f2 (by decide), h6.fr f2 (by decide), h7.fr f2 (by decide)⟩, f2.w (by decide) (by decide)⟩
        · refine mj_run 3 rfl trivial ?_
          refine mj_brt rfl rfl (fun q => ?_) ?_
          · exact absurd ((sq_none s hs).mp q) (by simp)
          refine mj_run 2 rfl trivial ?_
          refine cp_loop (cd := kc_M_down) (rt := 1) (v := none) (h' := HP L dy I y y1 n1 w1 c y2 R J) (K := mj_call mj_P d) (pc := 0) (dst := 53) (src := 55) (N := 10) (a := I1) (by decide) (fun p X => mj_Rd (mj_call mj_P (d + 4)) kc_M_down 1 (41, [some (.ref 45), some (.int (gv (some s))), some (.int (nI p))], [], HP L dy X y y1 n1 w1 c y2 R J) (some (.int (gv (some s)))) (HP L dy (mj_ui (mj_ui (cpI I1 53 55 10) 54 t (nI s)) 45 15 (nI (t + 1))) y y1 n1 w1 c y2 R J)) ?_ ?_
          · refine mj_run 2 rfl trivial ?_
            refine mj_brt rfl rfl (by decide) ?_
            have e15c : cpI I1 53 55 10 45 15 = nI t := by rw [cpI_ne (by decide)]; exact e15
            refine mj_run 13 rfl ⟨by rw [e15c]; exact nI_vi (by omega) (by decide), by decide⟩ ?_
            rw [e15c, nI_nc (by omega)]
            have e2 : mj_ui (cpI I1 53 55 10) 54 t (gv (some s)) 45 15 = nI t := by simp [mj_ui, e15c]
            rw [e2, nI_add]
            exact mj_end rfl rfl trivial
          · intro p hp ih
            refine mj_run 2 rfl trivial ?_
            refine mj_brf rfl rfl (by rw [nI_leI (by decide) (by omega)]; omega) ?_
            refine mj_run 10 rfl ⟨nI_vi (by omega) (by decide), nI_vi (by omega) (by decide), by decide⟩ ?_
            rw [nI_nc (by omega), nI_add]
            exact ih
        · have := hr1 i hi
          simp [mj_ui, upd, cpI, show i < 10 by omega, this]
        · have e54 : I1 54 = I 54 := f1.1 54 (by decide) (by decide)
          by_cases hi2 : i = t
          · subst hi2
            simp [mj_ui, upd, fu, hs]
          · have := k3 i (by omega)
            simp [mj_ui, upd, fu, hi2, cpI, e54, this]
end MM
end
section
theorem mj_sw_nI {df k : Nat} {ts : List Nat} {q : Nat} (hk : k < 2147483648) (h : ts[k]? = some q) : mj_sw 0 df ts (nI k) = q := by
  have e : (nI k).toInt = (k : Int) := nI_toInt hk
  unfold mj_sw
  rw [e, if_neg (by omega)]
  have : ((k : Int) - 0).toNat = k := by omega
  rw [this, h]
theorem mj_sw_out {df : Nat} {ts : List Nat} {x : Int32} (h : x.toInt < 0 ∨ (ts.length : Int) ≤ x.toInt) : mj_sw 0 df ts x = df := by
  unfold mj_sw
  by_cases g : x.toInt < 0
  · rw [if_pos g]
  · rw [if_neg g, List.getElem?_eq_none (by omega)]
/-- a number told by 'what' -/
def tb (f : Nat → Int32) (N : Nat) (df : Int32) (x : Int32) : Int32 := if 0 ≤ x.toInt ∧ x.toInt < N then f x.toNatClampNeg else df
theorem tb_in {f : Nat → Int32} {N k : Nat} {df : Int32} (hk : k < N) (hN : N < 2147483648) : tb f N df (nI k) = f k := by
  unfold tb
  rw [nI_toInt (by omega), if_pos (by omega), nI_nc (by omega)]
theorem tb_out {f : Nat → Int32} {N : Nat} {df x : Int32} (h : x.toInt < 0 ∨ (N : Int) ≤ x.toInt) : tb f N df x = df := by
  unfold tb
  rw [if_neg (by omega)]
theorem i_cases (x : Int32) (N : Nat) : (x.toInt < 0 ∨ (N : Int) ≤ x.toInt) ∨ ∃ k, k < N ∧ x = nI k := by
  by_cases h : 0 ≤ x.toInt ∧ x.toInt < N
  · exact Or.inr (i_nI h)
  · exact Or.inl (by omega)
def abF (Y : Yd) (T : Nat → Nat) (p : Nat) : Nat → Int32
  | 0 => nI (Y.1 p)
  | 1 => nI (Y.2.1 p)
  | 2 => nI (T p)
  | 3 => nI (sm Y p)
  | 4 => nI (wa Y p (T p))
  | 10 => if 0 < Y.2.1 p then nI (Y.2.2 p 0) else Int32.ofInt (-1)
  | 11 => if 1 < Y.2.1 p then nI (Y.2.2 p 1) else Int32.ofInt (-1)
  | 12 => if 2 < Y.2.1 p then nI (Y.2.2 p 2) else Int32.ofInt (-1)
  | _ => Int32.ofInt (-102)
def ctF (n t wn pn yr dn : Nat) : Nat → Int32
  | 0 => nI n
  | 1 => nI t
  | 2 => nI wn
  | 3 => nI pn
  | 4 => nI yr
  | _ => nI dn
/-- the least stand at a way -/
def lsd (Y : Yd) (p w : Nat) : Nat := if Y.1 p = 3 then 2 * w else w
theorem lsd_in {n : Nat} {Y : Yd} (h : YOK n Y) {p w : Nat} (hp : p < n) (hw : w < Y.2.1 p) : lsd Y p w < sm Y p ∧ wa Y p (lsd Y p w) = w ∧ ∀ s, s < lsd Y p w → wa Y p s ≠ w := by
  obtain ⟨h1, h2, h3, -⟩ := h.2 p hp
  unfold lsd sm wa
  by_cases hk3 : Y.1 p = 3
  · simp only [hk3, if_true, show ¬ (3 : Nat) = 2 by decide, if_false]
    refine ⟨by omega, by omega, fun s hs => by omega⟩
  · simp only [hk3, if_false]
    by_cases hk2 : Y.1 p = 2
    · simp only [hk2, if_true]
      refine ⟨?_, by rw [if_pos hw], fun s hs => ?_⟩
      · split <;> omega
      · rw [if_pos (by omega)]
        omega
    · simp only [hk2, if_false]
      exact ⟨hw, trivial, fun s hs => by omega⟩
def zrI (I : mjI) (dst k : Nat) : mjI := fun a => if a = dst then (fun i => if i < k then nI 0 else I dst i) else I a
theorem zrI_0 (I : mjI) (dst : Nat) : zrI I dst 0 = I := by
  funext a
  by_cases h : a = dst
  · subst h
    simp [zrI]
  · simp [zrI, h]
theorem zrI_s {I : mjI} {dst k : Nat} : mj_ui (zrI I dst k) dst k (nI 0) = zrI I dst (k + 1) := by
  funext a
  by_cases h : a = dst
  · subst h
    funext i
    by_cases h2 : i = k
    · simp [mj_ui, zrI, upd, h2]
    · by_cases h3 : i < k
      · simp [mj_ui, zrI, upd, h2, h3, Nat.lt_succ_of_lt h3]
      · simp [mj_ui, zrI, upd, h2, h3, show ¬ i < k + 1 by omega]
  · simp [mj_ui, zrI, h]
theorem Fr.z (I : mjI) {dst : Nat} (ha : dst ≠ 45) (k : Nat) : Fr [] [dst] I (zrI I dst k) := ⟨fun b h _ => by simp at h; simp [zrI, h], fun j h => by simp [zrI, ha.symm]⟩
section MM
variable {d L : Nat} {dy : mjM} {I : mjI} {y y1 n1 w1 c y2 : Option Nat} {R : mjR} {J : mjJ} {pn : Nat} {pg : Nat → Nat} {n : Nat} {Y : Yd} {T : Nat → Nat} {t : Nat} {tr : Nat → Nat} {kp : Kp} {wn : Nat} {wt : Nat → Nat} {yr dn : Nat}
theorem M_aboutOf (hY : MY I n Y) (hS : Mst I n Y T) {p : Nat} (hp : p < n) (x : Int32) : mj_call mj_P (d + 2) kn_M_aboutOf [.ref 45, .int (nI p), .int x] (HP L dy I y y1 n1 w1 c y2 R J) (some (.int (tb (abF Y T p) 13 (Int32.ofInt (-102)) x))) (HP L dy I y y1 n1 w1 c y2 R J) := by
  have hY0 := hY
  obtain ⟨h1, h2, h3⟩ := hY
  have hn : n ≤ 10 := h2.1
  obtain ⟨k1, k2, k3, -⟩ := h2.2 p hp
  obtain ⟨e1, e2, e3⟩ := h3 p hp
  have vi : vp_in (nI p) 10 := nI_vi (by omega) (by decide)
  have hc : (nI p).toNatClampNeg = p := nI_nc (by omega)
  have hT := hS.1 p hp
  have hTs := hS.2 p hp
  refine mj_ci rfl (Nat.le_of_ble_eq_true rfl) ?_
  refine mj_run 2 rfl trivial ?_
  rcases i_cases x 13 with hx | ⟨k, hk, rfl⟩
  · rw [tb_out hx, mj_sw_out hx]
    refine mj_run 1 rfl trivial ?_
    exact mj_end rfl rfl trivial
  · rw [tb_in hk (by decide)]
    have way : ∀ w, w < 3 → mj_Rd (mj_call mj_P (d + 1)) kc_M_aboutOf 1 (107, [some (.ref 45), some (.int (nI p)), some (.int (nI (10 + w)))], [], HP L dy I y y1 n1 w1 c y2 R J) (some (.int (if w < Y.2.1 p then nI (Y.2.2 p w) else Int32.ofInt (-1)))) (HP L dy I y y1 n1 w1 c y2 R J) := by
      intro w hw
      have e5 : nI 3 * nI p + nI (10 + w) - nI 10 = nI (3 * p + w) := by
        rw [pk_mul, nI_add, pk_sub (by omega)]
        congr 1
        omega
      refine mj_run 10 rfl (by rw [e5]; exact nI_vi (by omega) (by decide)) ?_
      rw [e5, nI_nc (by omega), e3 w hw]
      exact mj_end rfl rfl trivial
    have dflt : mj_Rd (mj_call mj_P (d + 1)) kc_M_aboutOf 1 (121, [some (.ref 45), some (.int (nI p)), some (.int (nI k))], [], HP L dy I y y1 n1 w1 c y2 R J) (some (.int (Int32.ofInt (-102)))) (HP L dy I y y1 n1 w1 c y2 R J) := by
      refine mj_run 1 rfl trivial ?_
      exact mj_end rfl rfl trivial
    match k, hk with
    | 0, _ =>
      rw [mj_sw_nI (q := 68) (by decide) rfl]
      refine mj_run 4 rfl vi ?_
      rw [hc, e1]
      exact mj_end rfl rfl trivial
    | 1, _ =>
      rw [mj_sw_nI (q := 75) (by decide) rfl]
      refine mj_run 4 rfl vi ?_
      rw [hc, e2]
      exact mj_end rfl rfl trivial
    | 2, _ =>
      rw [mj_sw_nI (q := 82) (by decide) rfl]
      refine mj_run 4 rfl vi ?_
      rw [hc, hT]
      exact mj_end rfl rfl trivial
    | 3, _ =>
      rw [mj_sw_nI (q := 89) (by decide) rfl]
      refine mj_run 2 rfl trivial ?_
      refine mj_cal rfl rfl (M_standMany hY0 hp) ?_
      exact mj_end rfl rfl trivial
    | 4, _ =>
      rw [mj_sw_nI (q := 95) (by decide) rfl]
      refine mj_run 6 rfl vi ?_
      rw [hc, hT]
      refine mj_cal rfl rfl (M_wayAt hY0 hp hTs) ?_
      exact mj_end rfl rfl trivial
    | 5, _ => rw [mj_sw_nI (q := 121) (by decide) rfl]; exact dflt
    | 6, _ => rw [mj_sw_nI (q := 121) (by decide) rfl]; exact dflt
    | 7, _ => rw [mj_sw_nI (q := 121) (by decide) rfl]; exact dflt
    | 8, _ => rw [mj_sw_nI (q := 121) (by decide) rfl]; exact dflt
    | 9, _ => rw [mj_sw_nI (q := 121) (by decide) rfl]; exact dflt
    | 10, _ => rw [mj_sw_nI (q := 107) (by decide) rfl]; exact way 0 (by decide)
    | 11, _ => rw [mj_sw_nI (q := 107) (by decide) rfl]; exact way 1 (by decide)
    | 12, _ => rw [mj_sw_nI (q := 107) (by decide) rfl]; exact way 2 (by decide)
    | q + 13, hq => omega
theorem MO_about (h : MI I pn pg n Y T t tr kp wn wt yr dn) (x z : Int32) : mj_call mj_P (d + 3) kn_M_about [.ref 45, .int x, .int z] (HP L dy I y y1 n1 w1 c y2 R J) (some (.int (if 0 ≤ x.toInt ∧ x.toInt < n then tb (abF Y T x.toNatClampNeg) 13 (Int32.ofInt (-102)) z else Int32.ofInt (-101)))) (HP L dy I y y1 n1 w1 c y2 R J) := by
  refine mj_ci rfl (Nat.le_of_ble_eq_true rfl) ?_
  refine mj_run 2 rfl trivial ?_
  refine mj_cal rfl rfl (M_isPoint h.2.1 x) ?_
  by_cases g : 0 ≤ x.toInt ∧ x.toInt < n
  · rw [if_pos g, if_pos g]
    refine mj_brf rfl rfl (by decide) ?_
    refine mj_run 3 rfl trivial ?_
    obtain ⟨p, hp, rfl⟩ := i_nI g
    have hn : n ≤ 10 := h.2.1.2.1.1
    rw [nI_nc (by omega)]
    refine mj_cal rfl rfl (M_aboutOf h.2.1 h.2.2.1 hp z) ?_
    refine mj_run 1 rfl trivial ?_
    exact mj_end rfl rfl trivial
  · rw [if_neg g, if_neg g]
    refine mj_brt rfl rfl (by decide) ?_
    refine mj_run 1 rfl trivial ?_
    exact mj_end rfl rfl trivial
theorem M_leastStand (hY : MY I n Y) {p w : Nat} (hp : p < n) (hw : w < Y.2.1 p) : mj_call mj_P (d + 2) kn_M_leastStand [.ref 45, .int (nI p), .int (nI w)] (HP L dy I y y1 n1 w1 c y2 R J) (some (.int (nI (lsd Y p w)))) (HP L dy I y y1 n1 w1 c y2 R J) := by
  have hn : n ≤ 10 := hY.2.1.1
  obtain ⟨k1, k2, k3, -⟩ := hY.2.1.2 p hp
  obtain ⟨g1, g2, g3⟩ := lsd_in hY.2.1 hp hw
  have hsm := sm_in hY.2.1 hp
  refine mj_ci rfl (Nat.le_of_ble_eq_true rfl) ?_
  refine mj_run 2 rfl trivial ?_
  refine dn_ind (lsd Y p w) (fun s => mj_Rd (mj_call mj_P (d + 1)) kc_M_leastStand 1 (2, [some (.ref 45), some (.int (nI p)), some (.int (nI w)), some (.int (nI s))], [], HP L dy I y y1 n1 w1 c y2 R J) (some (.int (nI (lsd Y p w)))) (HP L dy I y y1 n1 w1 c y2 R J)) ?_ ?_ 0 (by omega)
  · refine mj_run 3 rfl trivial ?_
    refine mj_cal rfl rfl (M_wayAt hY hp g1) ?_
    refine mj_run 1 rfl trivial ?_
    rw [g2]
    refine mj_brt rfl rfl rfl ?_
    refine mj_run 1 rfl trivial ?_
    exact mj_end rfl rfl trivial
  · intro s hs ih
    refine mj_run 3 rfl trivial ?_
    refine mj_cal rfl rfl (M_wayAt hY hp (by omega)) ?_
    refine mj_run 1 rfl trivial ?_
    have hws := wa_in hY.2.1 hp (show s < sm Y p by omega)
    refine mj_brf rfl rfl (by rw [nI_e (by omega) (by omega)]; exact g3 s hs) ?_
    refine mj_run 2 rfl trivial ?_
    rw [nI_add]
    exact ih
theorem MO_lever (h : MI I pn pg n Y T t tr kp wn wt yr dn) (x z : Int32) : ∃ I', mj_call mj_P (d + 3) kn_M_lever [.ref 45, .int x, .int z] (HP L dy I y y1 n1 w1 c y2 R J) (some (.int (if 0 ≤ x.toInt ∧ x.toInt < n then (if 0 ≤ z.toInt ∧ z.toInt < Y.2.1 x.toNatClampNeg then nI (T x.toNatClampNeg) else Int32.ofInt (-102)) else Int32.ofInt (-101)))) (HP L dy I' y y1 n1 w1 c y2 R J) ∧ MI I' pn pg n Y (if (0 ≤ x.toInt ∧ x.toInt < n) ∧ 0 ≤ z.toInt ∧ z.toInt < Y.2.1 x.toNatClampNeg then fu T x.toNatClampNeg (lsd Y x.toNatClampNeg z.toNatClampNeg) else T) t tr kp wn wt yr dn ∧ Fr [] [53] I I' := by
  have h0 := h
  obtain ⟨h1, h2, h3, h4, h5, h6, h7⟩ := h
  have hn : n ≤ 10 := h2.2.1.1
  by_cases g : 0 ≤ x.toInt ∧ x.toInt < n
  · rw [if_pos g]
    obtain ⟨p, hp, rfl⟩ := i_nI g
    have hc : (nI p).toNatClampNeg = p := nI_nc (by omega)
    rw [hc]
    obtain ⟨k1, k2, k3, -⟩ := h2.2.1.2 p hp
    obtain ⟨e1, e2, e3⟩ := h2.2.2 p hp
    have vi : vp_in (nI p) 10 := nI_vi (by omega) (by decide)
    have ez : (lN 0 ≤ z.toInt64 ∧ z.toInt64 ≤ (I 51 (nI p).toNatClampNeg - nI 1).toInt64) ↔ (0 ≤ z.toInt ∧ z.toInt < Y.2.1 p) := by
      rw [hc, e2, Int64.le_iff_toInt_le, Int64.le_iff_toInt_le, Int32.toInt_toInt64, Int32.toInt_toInt64, pk_sub_toInt (by omega) (by decide)]
      have : (lN 0).toInt = 0 := rfl
      rw [this]
      omega
    by_cases g2 : 0 ≤ z.toInt ∧ z.toInt < Y.2.1 p
    · rw [if_pos g2, if_pos ⟨g, g2⟩]
      obtain ⟨w, hw, rfl⟩ := i_nI g2
      rw [nI_nc (show w < 2147483648 by omega)]
      obtain ⟨q1, q2, q3⟩ := lsd_in h2.2.1 hp hw
      have f := Fr.a I (a := 53) (by decide) p (nI (lsd Y p w))
      refine ⟨mj_ui I 53 p (nI (lsd Y p w)), ?_, ⟨h1.fr f (by decide), h2.fr f (by decide), ⟨fun i hi => ?_, h3.2.fu (fun _ => q1)⟩, h4.fr f (by decide), h5.fr f (by decide), h6.fr f (by decide), h7.fr f (by decide)⟩, f⟩
      · refine mj_ci rfl (Nat.le_of_ble_eq_true rfl) ?_
        refine mj_run 2 rfl trivial ?_
        refine mj_cal rfl rfl (M_isPoint h2 _) ?_
        rw [if_pos g]
        refine mj_brt rfl rfl (by decide) ?_
        refine mj_run 10 rfl vi ?_
        refine mj_cal rfl rfl (M_in_t (ez.mpr g2)) ?_
        refine mj_brt rfl rfl (by decide) ?_
        refine mj_run 11 rfl vi ?_
        rw [hc, h3.1 p hp]
        refine mj_cal rfl rfl (M_leastStand h2 hp hw) ?_
        refine mj_run 2 rfl ⟨vi, by decide⟩ ?_
        rw [hc]
        exact mj_end rfl rfl trivial
      · by_cases hi2 : i = p
        · subst hi2
          simp [mj_ui, upd, fu]
        · simp [mj_ui, upd, fu, hi2, h3.1 i hi]
    · rw [if_neg g2, if_neg (fun q => g2 q.2)]
      refine ⟨I, ?_, h0, (Fr.rf I).w (by simp) (by simp)⟩
      refine mj_ci rfl (Nat.le_of_ble_eq_true rfl) ?_
      refine mj_run 2 rfl trivial ?_
      refine mj_cal rfl rfl (M_isPoint h2 _) ?_
      rw [if_pos g]
      refine mj_brt rfl rfl (by decide) ?_
      refine mj_run 10 rfl vi ?_
      refine mj_cal rfl rfl (M_in_f (fun q => g2 (ez.mp q))) ?_
      refine mj_brf rfl rfl (by decide) ?_
      refine mj_run 1 rfl trivial ?_
      exact mj_end rfl rfl trivial
  · rw [if_neg g, if_neg (fun q => g q.1)]
    refine ⟨I, ?_, h0, (Fr.rf I).w (by simp) (by simp)⟩
    refine mj_ci rfl (Nat.le_of_ble_eq_true rfl) ?_
    refine mj_run 2 rfl trivial ?_
    refine mj_cal rfl rfl (M_isPoint h2 _) ?_
    rw [if_neg g]
    refine mj_brf rfl rfl (by decide) ?_
    refine mj_run 1 rfl trivial ?_
    exact mj_end rfl rfl trivial
theorem MO_anew (h : MI I pn pg n Y T t tr kp wn wt yr dn) : ∃ I', mj_call mj_P (d + 2) kn_M_anew [.ref 45] (HP L dy I y y1 n1 w1 c y2 R J) (some (.int (if n = 0 then Int32.ofInt (-103) else nI t))) (HP L dy I' y y1 n1 w1 c y2 R J) ∧ MI I' pn pg n Y (if n = 0 then T else fun _ => 0) (if n = 0 then t else 0) tr kp wn wt yr dn ∧ Fr [15] [53] I I' := by
  have h0 := h
  obtain ⟨h1, h2, h3, h4, h5, h6, h7⟩ := h
  by_cases hn : n = 0
  · rw [if_pos hn, if_pos hn, if_pos hn]
    refine ⟨I, ?_, h0, (Fr.rf I).w (by simp) (by simp)⟩
    refine mj_ci rfl (Nat.le_of_ble_eq_true rfl) ?_
    refine mj_run 1 rfl trivial ?_
    refine mj_cal rfl rfl (M_lacks h2) ?_
    rw [if_pos hn]
    refine mj_brf rfl rfl (by decide) ?_
    refine mj_run 1 rfl trivial ?_
    exact mj_end rfl rfl trivial
  · rw [if_neg hn, if_neg hn, if_neg hn]
    have f := (Fr.u I 15 (nI 0)).tr (Fr.z (mj_ui I 45 15 (nI 0)) (dst := 53) (by decide) 10)
    have hn10 : n ≤ 10 := h2.2.1.1
    refine ⟨zrI (mj_ui I 45 15 (nI 0)) 53 10, ?_, ⟨h1.fr f (by decide), h2.fr f (by decide), ⟨fun i hi => by simp [zrI, show i < 10 by omega], fun p hp => (sm_in h2.2.1 hp).1⟩, ⟨by simp [zrI, mj_ui, upd], by omega, fun i hi => by omega⟩, h5.fr f (by decide), h6.fr f (by decide), h7.fr f (by decide)⟩, f⟩
    refine mj_ci rfl (Nat.le_of_ble_eq_true rfl) ?_
    refine mj_run 1 rfl trivial ?_
    refine mj_cal rfl rfl (M_lacks h2) ?_
    rw [if_neg hn]
    refine mj_brt rfl rfl (by decide) ?_
    refine mj_run 8 rfl trivial ?_
    rw [h4.1]
    have key := dn_ind 10 (fun p => mj_Rd (mj_call mj_P (d + 1)) kc_M_anew 1 (22, [some (.ref 45), some (.int (nI t)), some (.int (nI p))], [], HP L dy (zrI (mj_ui I 45 15 (nI 0)) 53 p) y y1 n1 w1 c y2 R J) (some (.int (nI t))) (HP L dy (zrI (mj_ui I 45 15 (nI 0)) 53 10) y y1 n1 w1 c y2 R J)) ?_ ?_ 0 (by omega)
    · rw [zrI_0] at key
      exact key
    · refine mj_run 2 rfl trivial ?_
      refine mj_brt rfl rfl (by decide) ?_
      refine mj_run 1 rfl trivial ?_
      exact mj_end rfl rfl trivial
    · intro p hp ih
      refine mj_run 2 rfl trivial ?_
      refine mj_brf rfl rfl (by rw [nI_leI (by decide) (by omega)]; omega) ?_
      refine mj_run 7 rfl ⟨nI_vi (by omega) (by decide), by decide⟩ ?_
      rw [nI_nc (by omega), zrI_s, nI_add]
      exact ih
end MM
end
section
section MM
variable {d L : Nat} {dy : mjM} {I : mjI} {y y1 n1 w1 c y2 : Option Nat} {R : mjR} {J : mjJ} {pn : Nat} {pg : Nat → Nat} {n : Nat} {Y : Yd} {T : Nat → Nat} {t : Nat} {tr : Nat → Nat} {kp : Kp} {wn : Nat} {wt : Nat → Nat} {yr dn : Nat}
/-- whether a kind may be taken as k -/
def asF (Y : Yd) (p k : Nat) : Int32 := if k = 0 ∨ k = Y.1 p ∨ (k = 1 ∧ Y.1 p = 3) then nI p else Int32.ofInt (-1)
theorem MO_as (h : MI I pn pg n Y T t tr kp wn wt yr dn) (x z : Int32) : mj_call mj_P (d + 3) kn_M_as [.ref 45, .int x, .int z] (HP L dy I y y1 n1 w1 c y2 R J) (some (.int (if 0 ≤ x.toInt ∧ x.toInt < n then (if 0 ≤ z.toInt ∧ z.toInt < 4 then asF Y x.toNatClampNeg z.toNatClampNeg else Int32.ofInt (-102)) else Int32.ofInt (-101)))) (HP L dy I y y1 n1 w1 c y2 R J) := by
  have h2 := h.2.1
  have hn : n ≤ 10 := h2.2.1.1
  refine mj_ci rfl (Nat.le_of_ble_eq_true rfl) ?_
  refine mj_run 2 rfl trivial ?_
  refine mj_cal rfl rfl (M_isPoint h2 x) ?_
  by_cases g : 0 ≤ x.toInt ∧ x.toInt < n
  · rw [if_pos g, if_pos g]
    refine mj_brt rfl rfl (by decide) ?_
    refine mj_run 4 rfl trivial ?_
    obtain ⟨p, hp, rfl⟩ := i_nI g
    have hc : (nI p).toNatClampNeg = p := nI_nc (by omega)
    rw [hc]
    obtain ⟨k1, k2, k3, -⟩ := h2.2.1.2 p hp
    obtain ⟨e1, e2, e3⟩ := h2.2.2 p hp
    have vi : vp_in (nI p) 10 := nI_vi (by omega) (by decide)
    have ez : (lN 0 ≤ z.toInt64 ∧ z.toInt64 ≤ lN 3) ↔ (0 ≤ z.toInt ∧ z.toInt < 4) := by
      rw [Int64.le_iff_toInt_le, Int64.le_iff_toInt_le, Int32.toInt_toInt64]
      have q1 : (lN 0).toInt = 0 := rfl
      have q2 : (lN 3).toInt = 3 := rfl
      rw [q1, q2]
      omega
    by_cases g2 : 0 ≤ z.toInt ∧ z.toInt < 4
    · rw [if_pos g2]
      refine mj_cal rfl rfl (M_in_t (ez.mpr g2)) ?_
      refine mj_brt rfl rfl (by decide) ?_
      obtain ⟨k, hk, rfl⟩ := i_nI (N := 4) g2
      rw [nI_nc (show k < 2147483648 by omega)]
      have yes : ∀ (A : k = 0 ∨ k = Y.1 p ∨ (k = 1 ∧ Y.1 p = 3)) (l3 : Option Value), mj_Rd (mj_call mj_P (d + 2)) kc_M_as 1 (55, [some (.ref 45), some (.int (nI p)), some (.int (nI k)), none], [], HP L dy I y y1 n1 w1 c y2 R J) (some (.int (asF Y p k))) (HP L dy I y y1 n1 w1 c y2 R J) := by
        intro A l3
        unfold asF
        rw [if_pos A]
        refine mj_run 2 rfl trivial ?_
        refine mj_run 2 rfl trivial ?_
        refine mj_brf rfl rfl (by decide) ?_
        refine mj_run 2 rfl trivial ?_
        exact mj_end rfl rfl trivial
      have no : ∀ (A : ¬ (k = 0 ∨ k = Y.1 p ∨ (k = 1 ∧ Y.1 p = 3))), mj_Rd (mj_call mj_P (d + 2)) kc_M_as 1 (59, [some (.ref 45), some (.int (nI p)), some (.int (nI k)), none], [], HP L dy I y y1 n1 w1 c y2 R J) (some (.int (asF Y p k))) (HP L dy I y y1 n1 w1 c y2 R J) := by
        intro A
        unfold asF
        rw [if_neg A]
        refine mj_run 1 rfl trivial ?_
        refine mj_run 2 rfl trivial ?_
        refine mj_brt rfl rfl (by decide) ?_
        refine mj_run 1 rfl trivial ?_
        exact mj_end rfl rfl trivial
      refine mj_run 1 rfl trivial ?_
      refine mj_bra rfl rfl (fun a1 => ?_) (fun a1 => ?_)
      · rw [nI_z (by omega)] at a1
        exact yes (Or.inl a1) none
      · rw [nI_z (by omega)] at a1
        refine mj_run 5 rfl vi ?_
        rw [hc, e1]
        refine mj_bra rfl rfl (fun a2 => ?_) (fun a2 => ?_)
        · rw [nI_e (by omega) (by omega)] at a2
          exact yes (Or.inr (Or.inl a2)) none
        · rw [nI_e (by omega) (by omega)] at a2
          refine mj_run 2 rfl trivial ?_
          refine mj_bra rfl rfl (fun a3 => ?_) (fun a3 => ?_)
          · rw [nI_e (by omega) (by decide)] at a3
            exact no (by omega)
          · rw [nI_e (by omega) (by decide)] at a3
            refine mj_run 5 rfl vi ?_
            rw [hc, e1]
            refine mj_bra rfl rfl (fun a4 => ?_) (fun a4 => ?_)
            · rw [nI_e (by omega) (by decide)] at a4
              exact no (by omega)
            · rw [nI_e (by omega) (by decide)] at a4
              exact yes (by omega) none
    · rw [if_neg g2]
      refine mj_cal rfl rfl (M_in_f (fun q => g2 (ez.mp q))) ?_
      refine mj_brf rfl rfl (by decide) ?_
      refine mj_run 1 rfl trivial ?_
      exact mj_end rfl rfl trivial
  · rw [if_neg g, if_neg g]
    refine mj_brf rfl rfl (by decide) ?_
    refine mj_run 1 rfl trivial ?_
    exact mj_end rfl rfl trivial
theorem M_countOf (h : MI I pn pg n Y T t tr kp wn wt yr dn) (x : Int32) : mj_call mj_P (d + 1) kn_M_countOf [.ref 45, .int x] (HP L dy I y y1 n1 w1 c y2 R J) (some (.int (tb (ctF n t wn pn yr dn) 6 (Int32.ofInt (-102)) x))) (HP L dy I y y1 n1 w1 c y2 R J) := by
  obtain ⟨h1, h2, h3, h4, h5, h6, h7⟩ := h
  refine mj_ci rfl (Nat.le_of_ble_eq_true rfl) ?_
  refine mj_run 2 rfl trivial ?_
  rcases i_cases x 6 with hx | ⟨k, hk, rfl⟩
  · rw [tb_out hx, mj_sw_out hx]
    refine mj_run 1 rfl trivial ?_
    exact mj_end rfl rfl trivial
  · rw [tb_in hk (by decide)]
    match k, hk with
    | 0, _ =>
      rw [mj_sw_nI (q := 40) (by decide) rfl]
      refine mj_run 2 rfl trivial ?_
      rw [h2.1]
      exact mj_end rfl rfl trivial
    | 1, _ =>
      rw [mj_sw_nI (q := 45) (by decide) rfl]
      refine mj_run 2 rfl trivial ?_
      rw [h4.1]
      exact mj_end rfl rfl trivial
    | 2, _ =>
      rw [mj_sw_nI (q := 50) (by decide) rfl]
      refine mj_run 2 rfl trivial ?_
      rw [h6.1]
      exact mj_end rfl rfl trivial
    | 3, _ =>
      rw [mj_sw_nI (q := 55) (by decide) rfl]
      refine mj_run 2 rfl trivial ?_
      rw [h1.1]
      exact mj_end rfl rfl trivial
    | 4, _ =>
      rw [mj_sw_nI (q := 60) (by decide) rfl]
      refine mj_run 2 rfl trivial ?_
      rw [h7.1]
      exact mj_end rfl rfl trivial
    | 5, _ =>
      rw [mj_sw_nI (q := 65) (by decide) rfl]
      refine mj_run 2 rfl trivial ?_
      rw [h7.2.2.1]
      exact mj_end rfl rfl trivial
    | q + 6, hq => omega
theorem MO_count (h : MI I pn pg n Y T t tr kp wn wt yr dn) (x : Int32) : mj_call mj_P (d + 2) kn_M_count [.ref 45, .int x] (HP L dy I y y1 n1 w1 c y2 R J) (some (.int (tb (ctF n t wn pn yr dn) 6 (Int32.ofInt (-102)) x))) (HP L dy I y y1 n1 w1 c y2 R J) := by
  refine mj_ci rfl (Nat.le_of_ble_eq_true rfl) ?_
  refine mj_run 2 rfl trivial ?_
  refine mj_cal rfl rfl (M_countOf h x) ?_
  exact mj_end rfl rfl trivial
theorem M_movesOf (h2 : MY I n Y) (h3 : Mst I n Y T) (hn : 1 ≤ n) : ∃ I', mj_call mj_P (d + 5) kn_M_movesOf [.ref 45] (HP L dy I y y1 n1 w1 c y2 R J) (some (.int (nI (gt Y none T).2.2))) (HP L dy I' y y1 n1 w1 c y2 R J) ∧ Fr [19, 20] [55, 56] I I' := by
  have hn10 : n ≤ 10 := h2.2.1.1
  have fc := Fr.c I (dst := 55) (by decide) 53 10
  have hYc : MY (cpI I 55 53 10) n Y := h2.fr fc (by decide)
  have hTc : RI (cpI I 55 53 10) 55 n T := fun i hi => by rw [cpI_at (by omega)]; exact h3.1 i hi
  obtain ⟨I1, hc1, hg1, hr1, hm1⟩ := M_goTruck (d := d) (L := L) (dy := dy) (y := y) (y1 := y1) (n1 := n1) (w1 := w1) (c := c) (y2 := y2) (R := R) (J := J) hYc hn hTc h3.2 sq_none
  have f1 := fc.tr hg1.fr
  refine ⟨I1, ?_, f1.w (by decide) (by decide)⟩
  refine mj_ci rfl (Nat.le_of_ble_eq_true rfl) ?_
  refine mj_run 1 rfl trivial ?_
  refine mj_cal rfl rfl M_layTried ?_
  refine mj_run 2 rfl trivial ?_
  refine mj_cal rfl rfl hc1 ?_
  refine mj_run 3 rfl trivial ?_
  rw [hm1]
  exact mj_end rfl rfl trivial
theorem MO_moves (h : MI I pn pg n Y T t tr kp wn wt yr dn) : ∃ I', mj_call mj_P (d + 6) kn_M_moves [.ref 45] (HP L dy I y y1 n1 w1 c y2 R J) (some (.int (if n = 0 then Int32.ofInt (-103) else nI (gt Y none T).2.2))) (HP L dy I' y y1 n1 w1 c y2 R J) ∧ MI I' pn pg n Y T t tr kp wn wt yr dn ∧ Fr wk wa' I I' := by
  by_cases hn : n = 0
  · rw [if_pos hn]
    refine ⟨I, ?_, h, (Fr.rf I).w (by simp) (by simp)⟩
    refine mj_ci rfl (Nat.le_of_ble_eq_true rfl) ?_
    refine mj_run 1 rfl trivial ?_
    refine mj_cal rfl rfl (M_lacks h.2.1) ?_
    rw [if_pos hn]
    refine mj_brf rfl rfl (by decide) ?_
    refine mj_run 2 rfl trivial ?_
    exact mj_end rfl rfl trivial
  · rw [if_neg hn]
    obtain ⟨I1, hc, hf⟩ := M_movesOf (d := d) (L := L) (dy := dy) (y := y) (y1 := y1) (n1 := n1) (w1 := w1) (c := c) (y2 := y2) (R := R) (J := J) h.2.1 h.2.2.1 (by omega)
    have hf2 := hf.w (ks' := wk) (as' := wa') (by decide) (by decide)
    refine ⟨I1, ?_, h.work hf2, hf2⟩
    refine mj_ci rfl (Nat.le_of_ble_eq_true rfl) ?_
    refine mj_run 1 rfl trivial ?_
    refine mj_cal rfl rfl (M_lacks h.2.1) ?_
    rw [if_neg hn]
    refine mj_brt rfl rfl (by decide) ?_
    refine mj_run 1 rfl trivial ?_
    refine mj_cal rfl rfl hc ?_
    exact mj_end rfl rfl trivial
theorem MO_image (h : MI I pn pg n Y T t tr kp wn wt yr dn) : ∃ I', mj_call mj_P (d + 2) kn_M_image [.ref 45] (HP L dy I y y1 n1 w1 c y2 R J) (some (.int (if n = 0 then Int32.ofInt (-103) else nI t))) (HP L dy I' y y1 n1 w1 c y2 R J) ∧ MI I' pn pg n Y T t tr (if n = 0 then kp else some (t, tr, T)) wn wt yr dn ∧ Fr [29, 30] [63, 64] I I' := by
  have h0 := h
  obtain ⟨h1, h2, h3, h4, h5, h6, h7⟩ := h
  by_cases hn : n = 0
  · rw [if_pos hn, if_pos hn]
    refine ⟨I, ?_, h0, (Fr.rf I).w (by simp) (by simp)⟩
    refine mj_ci rfl (Nat.le_of_ble_eq_true rfl) ?_
    refine mj_run 1 rfl trivial ?_
    refine mj_cal rfl rfl (M_lacks h2) ?_
    rw [if_pos hn]
    refine mj_brf rfl rfl (by decide) ?_
    refine mj_run 1 rfl trivial ?_
    exact mj_end rfl rfl trivial
  · rw [if_neg hn, if_neg hn]
    have hn10 : n ≤ 10 := h2.2.1.1
    obtain ⟨t1, t2, t3⟩ := id h4
    have fa := Fr.c I (dst := 63) (by decide) 53 10
    have fb := fa.tr (Fr.c (cpI I 63 53 10) (dst := 64) (by decide) 54 60)
    have f := (fb.tr (Fr.u _ 29 (nI t))).tr (Fr.u _ 30 (nI yr))
    have e15 : cpI (cpI I 63 53 10) 64 54 60 45 15 = nI t := (fb.2 15 (by decide)).trans t1
    have e10 : cpI (cpI I 63 53 10) 64 54 60 45 10 = nI yr := (fb.2 10 (by decide)).trans h7.1
    refine ⟨_, ?_, ⟨h1.fr f (by decide), h2.fr f (by decide), h3.fr f (by decide), h4.fr f (by decide), ⟨by simp [mj_ui, upd], t2, by simp [mj_ui, upd], fun i hi => ?_, fun i hi => ?_, h3.2⟩, h6.fr f (by decide), h7.fr f (by decide)⟩, f⟩
    · refine mj_ci rfl (Nat.le_of_ble_eq_true rfl) ?_
      refine mj_run 1 rfl trivial ?_
      refine mj_cal rfl rfl (M_lacks h2) ?_
      rw [if_neg hn]
      refine mj_brt rfl rfl (by decide) ?_
      refine mj_run 2 rfl trivial ?_
      refine cp_loop (cd := kc_M_image) (rt := 1) (v := none) (h' := HP L dy I y y1 n1 w1 c y2 R J) (K := mj_call mj_P d) (pc := 0) (dst := 63) (src := 53) (N := 10) (a := I) (by decide) (fun p X => mj_Rd (mj_call mj_P (d + 1)) kc_M_image 1 (12, [some (.ref 45), some (.int (nI p))], [], HP L dy X y y1 n1 w1 c y2 R J) (some (.int (nI t))) (HP L dy (mj_ui (mj_ui (cpI (cpI I 63 53 10) 64 54 60) 45 29 (nI t)) 45 30 (nI yr)) y y1 n1 w1 c y2 R J)) ?_ ?_
      · refine mj_run 2 rfl trivial ?_
        refine mj_brt rfl rfl (by decide) ?_
        refine mj_run 2 rfl trivial ?_
        refine cp_loop (cd := kc_M_image) (rt := 1) (v := none) (h' := HP L dy I y y1 n1 w1 c y2 R J) (K := mj_call mj_P d) (pc := 0) (dst := 64) (src := 54) (N := 60) (a := cpI I 63 53 10) (by decide) (fun p X => mj_Rd (mj_call mj_P (d + 1)) kc_M_image 1 (38, [some (.ref 45), some (.int (nI p))], [], HP L dy X y y1 n1 w1 c y2 R J) (some (.int (nI t))) (HP L dy (mj_ui (mj_ui (cpI (cpI I 63 53 10) 64 54 60) 45 29 (nI t)) 45 30 (nI yr)) y y1 n1 w1 c y2 R J)) ?_ ?_
        · refine mj_run 2 rfl trivial ?_
          refine mj_brt rfl rfl (by decide) ?_
          refine mj_run 10 rfl trivial ?_
          refine mj_endI rfl rfl trivial ?_ ?_
          · simp [mj_ui, upd, e15]
          · simp [mj_ui, upd, e15, e10]
        · intro p hp ih
          refine mj_run 2 rfl trivial ?_
          refine mj_brf rfl rfl (by rw [nI_leI (by decide) (by omega)]; omega) ?_
          refine mj_run 10 rfl ⟨nI_vi (by omega) (by decide), nI_vi (by omega) (by decide), by decide⟩ ?_
          rw [nI_nc (by omega), nI_add]
          exact ih
      · intro p hp ih
        refine mj_run 2 rfl trivial ?_
        refine mj_brf rfl rfl (by rw [nI_leI (by decide) (by omega)]; omega) ?_
        refine mj_run 10 rfl ⟨nI_vi (by omega) (by decide), nI_vi (by omega) (by decide), by decide⟩ ?_
        rw [nI_nc (by omega), nI_add]
        exact ih
    · have := t3 i hi
      simp [mj_ui, cpI, show i < 60 by omega, this]
    · have := h3.1 i hi
      simp [mj_ui, cpI, show i < 10 by omega, this]
theorem MO_restore (h : MI I pn pg n Y T t tr kp wn wt yr dn) : ∃ I', mj_call mj_P (d + 1) kn_M_restore [.ref 45] (HP L dy I y y1 n1 w1 c y2 R J) (some (.int (match kp with | none => Int32.ofInt (-103) | some q => nI q.1))) (HP L dy I' y y1 n1 w1 c y2 R J) ∧ MI I' pn pg n Y (match kp with | none => T | some q => q.2.2) (match kp with | none => t | some q => q.1) (match kp with | none => tr | some q => q.2.1) kp wn wt yr dn ∧ Fr [15] [53, 54] I I' := by
  have h0 := h
  obtain ⟨h1, h2, h3, h4, h5, h6, h7⟩ := h
  cases kp with
  | none =>
    refine ⟨I, ?_, h0, (Fr.rf I).w (by simp) (by simp)⟩
    refine mj_ci rfl (Nat.le_of_ble_eq_true rfl) ?_
    refine mj_run 3 rfl trivial ?_
    have fin : mj_Rd (mj_call mj_P d) kc_M_restore 1 (19, [some (.ref 45), none], [], HP L dy I y y1 n1 w1 c y2 R J) (some (.int (Int32.ofInt (-103)))) (HP L dy I y y1 n1 w1 c y2 R J) := by
      refine mj_run 1 rfl trivial ?_
      exact mj_end rfl rfl trivial
    rcases h5 with h5 | ⟨ky, h5, hk⟩
    · exact mj_brt rfl rfl h5 fin
    · refine mj_bra rfl rfl (fun _ => fin) (fun _ => ?_)
      refine mj_run 4 rfl trivial ?_
      rw [h5, h7.1]
      have hy := h7.2.1
      refine mj_brf rfl rfl (by rw [nI_e (by omega) (by omega)]; omega) ?_
      exact fin
  | some q =>
    obtain ⟨kt, ktr, kT⟩ := q
    obtain ⟨k1, k2, k3, k4, k5, k6⟩ := id h5
    have hn10 : n ≤ 10 := h2.2.1.1
    have fa := Fr.c I (dst := 53) (by decide) 63 10
    have fb := fa.tr (Fr.c (cpI I 53 63 10) (dst := 54) (by decide) 64 60)
    have f := fb.tr (Fr.u _ 15 (nI kt))
    have e29 : cpI (cpI I 53 63 10) 54 64 60 45 29 = nI kt := (fb.2 29 (by decide)).trans k1
    refine ⟨_, ?_, ⟨h1.fr f (by decide), h2.fr f (by decide), ⟨fun i hi => ?_, k6⟩, ⟨by simp [mj_ui, upd], k2, fun i hi => ?_⟩, h5.fr f (by decide), h6.fr f (by decide), h7.fr f (by decide)⟩, f⟩
    · refine mj_ci rfl (Nat.le_of_ble_eq_true rfl) ?_
      refine mj_run 3 rfl trivial ?_
      rw [k1]
      refine mj_brf rfl rfl (fun q => absurd q (by
        intro q
        have := congrArg Int32.toInt q
        rw [nI_toInt (by omega)] at this
        have e : (Int32.ofInt (-1)).toInt = -1 := rfl
        rw [e] at this
        omega)) ?_
      refine mj_run 4 rfl trivial ?_
      rw [k3, h7.1]
      refine mj_brt rfl rfl rfl ?_
      refine mj_run 2 rfl trivial ?_
      refine cp_loop (cd := kc_M_restore) (rt := 1) (v := none) (h' := HP L dy I y y1 n1 w1 c y2 R J) (K := mj_call mj_P d) (pc := 0) (dst := 53) (src := 63) (N := 10) (a := I) (by decide) (fun p X => mj_Rd (mj_call mj_P d) kc_M_restore 1 (24, [some (.ref 45), some (.int (nI p))], [], HP L dy X y y1 n1 w1 c y2 R J) (some (.int (nI kt))) (HP L dy (mj_ui (cpI (cpI I 53 63 10) 54 64 60) 45 15 (nI kt)) y y1 n1 w1 c y2 R J)) ?_ ?_
      · refine mj_run 2 rfl trivial ?_
        refine mj_brt rfl rfl (by decide) ?_
        refine mj_run 2 rfl trivial ?_
        refine cp_loop (cd := kc_M_restore) (rt := 1) (v := none) (h' := HP L dy I y y1 n1 w1 c y2 R J) (K := mj_call mj_P d) (pc := 0) (dst := 54) (src := 64) (N := 60) (a := cpI I 53 63 10) (by decide) (fun p X => mj_Rd (mj_call mj_P d) kc_M_restore 1 (50, [some (.ref 45), some (.int (nI p))], [], HP L dy X y y1 n1 w1 c y2 R J) (some (.int (nI kt))) (HP L dy (mj_ui (cpI (cpI I 53 63 10) 54 64 60) 45 15 (nI kt)) y y1 n1 w1 c y2 R J)) ?_ ?_
        · refine mj_run 2 rfl trivial ?_
          refine mj_brt rfl rfl (by decide) ?_
          refine mj_run 6 rfl trivial ?_
          refine mj_endI rfl rfl trivial ?_ ?_
          · simp [mj_ui, upd, e29]
          · rw [e29]
        · intro p hp ih
          refine mj_run 2 rfl trivial ?_
          refine mj_brf rfl rfl (by rw [nI_leI (by decide) (by omega)]; omega) ?_
          refine mj_run 10 rfl ⟨nI_vi (by omega) (by decide), nI_vi (by omega) (by decide), by decide⟩ ?_
          rw [nI_nc (by omega), nI_add]
          exact ih
      · intro p hp ih
        refine mj_run 2 rfl trivial ?_
        refine mj_brf rfl rfl (by rw [nI_leI (by decide) (by omega)]; omega) ?_
        refine mj_run 10 rfl ⟨nI_vi (by omega) (by decide), nI_vi (by omega) (by decide), by decide⟩ ?_
        rw [nI_nc (by omega), nI_add]
        exact ih
    · have := k5 i hi
      simp [mj_ui, cpI, show i < 10 by omega, this]
    · have hi : i < kt := hi
      have := k4 i hi
      simp [mj_ui, cpI, show i < 60 by omega, this]
end MM
end
section
/-! rows of trucks -/
def tk (Y : Yd) (q : Option Nat) (T : Nat → Nat) : Nat → (Nat → Nat)
  | 0 => T
  | k + 1 => (gt Y q (tk Y q T k)).2.1
def sd (Y : Yd) (q : Option Nat) (T : Nat → Nat) (k : Nat) : Option Nat := (gt Y q (tk Y q T k)).1
theorem tk_ok {n : Nat} {Y : Yd} {q : Option Nat} {T : Nat → Nat} (h : YOK n Y) (hn : 1 ≤ n) (hT : TOK n Y T) : ∀ k, TOK n Y (tk Y q T k)
  | 0 => hT
  | k + 1 => (gt_ok h hn (tk_ok h hn hT k)).2.1
theorem sd_ok {n : Nat} {Y : Yd} {q : Option Nat} {T : Nat → Nat} (h : YOK n Y) (hn : 1 ≤ n) (hT : TOK n Y T) (k : Nat) {s : Nat} (hs : sd Y q T k = some s) : s < 10 := (gt_ok h hn (tk_ok h hn hT k)).1 s hs
theorem gv_eq {o : Option Nat} {s : Nat} (ho : ∀ z, o = some z → z < 10) (hs : s < 10) : gv o = nI s ↔ o = some s := by
  cases o with
  | none =>
    refine ⟨fun h => ?_, fun h => by cases h⟩
    exact absurd ((sq_none s hs).mp h.symm) (by simp)
  | some z =>
    have := ho z rfl
    show nI z = nI s ↔ _
    rw [nI_e (by omega) (by omega)]
    simp
/-- how many empty trucks, from k on -/
def ef (Y : Yd) (T : Nat → Nat) (s : Nat) : Nat → Nat → Int32
  | 0, _ => Int32.ofInt (-1)
  | f + 1, k => if sd Y none T k = some s then nI k else ef Y T s f (k + 1)
/-- whether the trucks from k on stop as wanted -/
def itF (Y : Yd) (q : Option Nat) (T wt : Nat → Nat) : Nat → Nat → Bool
  | 0, _ => true
  | f + 1, k => if sd Y q T k = some (wt k) then itF Y q T wt f (k + 1) else false
/-- the bits of 'which' -/
def whF (Y : Yd) (T wt : Nat → Nat) (wn : Nat) : Nat → Int32
  | 0 => nI 0
  | p + 1 => whF Y T wt wn p ||| (if itF Y (some p) T wt wn 0 then nI 1 <<< (nI p &&& 31) else nI 0)
def whA (n : Nat) (Y : Yd) (T wt : Nat → Nat) (wn : Nat) : Int32 := whF Y T wt wn n ||| (if itF Y none T wt wn 0 then nI 1 <<< (nI 10 &&& 31) else nI 0)
section MM
variable {d L : Nat} {dy : mjM} {I : mjI} {y y1 n1 w1 c y2 : Option Nat} {R : mjR} {J : mjJ} {pn : Nat} {pg : Nat → Nat} {n : Nat} {Y : Yd} {T : Nat → Nat} {t : Nat} {tr : Nat → Nat} {kp : Kp} {wn : Nat} {wt : Nat → Nat} {yr dn : Nat}
theorem M_emptyOf {s : Nat} (hs : s < 10) (h2 : MY I n Y) (h3 : Mst I n Y T) (hn : 1 ≤ n) : ∃ I', mj_call mj_P (d + 5) kn_M_emptyOf [.ref 45, .int (nI s)] (HP L dy I y y1 n1 w1 c y2 R J) (some (.int (ef Y T s 201 0))) (HP L dy I' y y1 n1 w1 c y2 R J) ∧ Fr [19, 20] [55, 56] I I' := by
  have hn10 : n ≤ 10 := h2.2.1.1
  have fc := Fr.c I (dst := 55) (by decide) 53 10
  have hYc : MY (cpI I 55 53 10) n Y := h2.fr fc (by decide)
  have hTc : RI (cpI I 55 53 10) 55 n T := fun i hi => by rw [cpI_at (by omega)]; exact h3.1 i hi
  have key : ∀ (f k : Nat) (X : mjI), k + f = 201 → MY X n Y → RI X 55 n (tk Y none T k) → ∃ I', Fr [19, 20] [55, 56] X I' ∧ mj_Rd (mj_call mj_P (d + 4)) kc_M_emptyOf 1 (6, [some (.ref 45), some (.int (nI s)), some (.int (nI k))], [], HP L dy X y y1 n1 w1 c y2 R J) (some (.int (ef Y T s f k))) (HP L dy I' y y1 n1 w1 c y2 R J) := by
    intro f
    induction f with
    | zero =>
      intro k X hk hX hT
      refine ⟨X, (Fr.rf X).w (by simp) (by simp), ?_⟩
      refine mj_run 2 rfl trivial ?_
      refine mj_brt rfl rfl (by rw [nI_ltI (by decide) (by omega)]; omega) ?_
      refine mj_run 1 rfl trivial ?_
      exact mj_end rfl rfl trivial
    | succ f ih =>
      intro k X hk hX hT
      have hTK := tk_ok (q := none) h2.2.1 hn h3.2 k
      obtain ⟨I1, hc1, hg1, hr1, hm1⟩ := M_goTruck (d := d) (L := L) (dy := dy) (y := y) (y1 := y1) (n1 := n1) (w1 := w1) (c := c) (y2 := y2) (R := R) (J := J) hX hn hT hTK sq_none
      have hgv := gv_eq (fun z hz => sd_ok (q := none) h2.2.1 hn h3.2 k hz) hs
      by_cases g : sd Y none T k = some s
      · refine ⟨I1, hg1.fr, ?_⟩
        refine mj_run 2 rfl trivial ?_
        refine mj_brf rfl rfl (by rw [nI_ltI (by decide) (by omega)]; omega) ?_
        refine mj_run 2 rfl trivial ?_
        refine mj_cal rfl rfl hc1 ?_
        refine mj_run 1 rfl trivial ?_
        refine mj_brf rfl rfl (fun q => q (hgv.mpr g)) ?_
        unfold ef
        rw [if_pos g]
        refine mj_run 1 rfl trivial ?_
        exact mj_end rfl rfl trivial
      · obtain ⟨I2, hf2, hx2⟩ := ih (k + 1) I1 (by omega) (hX.gf hg1) hr1
        refine ⟨I2, (hg1.fr.tr hf2).w (by decide) (by decide), ?_⟩
        refine mj_run 2 rfl trivial ?_
        refine mj_brf rfl rfl (by rw [nI_ltI (by decide) (by omega)]; omega) ?_
        refine mj_run 2 rfl trivial ?_
        refine mj_cal rfl rfl hc1 ?_
        refine mj_run 1 rfl trivial ?_
        refine mj_brt rfl rfl (fun q => g (hgv.mp q)) ?_
        unfold ef
        rw [if_neg g]
        refine mj_run 2 rfl trivial ?_
        rw [nI_add]
        exact hx2
  obtain ⟨I', hf, hx⟩ := key 201 0 (cpI I 55 53 10) rfl hYc hTc
  refine ⟨I', ?_, (fc.tr hf).w (by decide) (by decide)⟩
  refine mj_ci rfl (Nat.le_of_ble_eq_true rfl) ?_
  refine mj_run 1 rfl trivial ?_
  refine mj_cal rfl rfl M_layTried ?_
  refine mj_run 2 rfl trivial ?_
  exact hx
theorem MO_empty (h : MI I pn pg n Y T t tr kp wn wt yr dn) (x : Int32) : ∃ I', mj_call mj_P (d + 6) kn_M_empty [.ref 45, .int x] (HP L dy I y y1 n1 w1 c y2 R J) (some (.int (if 0 ≤ x.toInt ∧ x.toInt < 10 then (if n = 0 then Int32.ofInt (-103) else ef Y T x.toNatClampNeg 201 0) else Int32.ofInt (-101)))) (HP L dy I' y y1 n1 w1 c y2 R J) ∧ MI I' pn pg n Y T t tr kp wn wt yr dn ∧ Fr wk wa' I I' := by
  by_cases g : 0 ≤ x.toInt ∧ x.toInt < 10
  · rw [if_pos g]
    by_cases hn : n = 0
    · rw [if_pos hn]
      refine ⟨I, ?_, h, (Fr.rf I).w (by simp) (by simp)⟩
      refine mj_ci rfl (Nat.le_of_ble_eq_true rfl) ?_
      refine mj_run 4 rfl trivial ?_
      refine mj_cal rfl rfl (M_in_t ((lN9 x).mpr g)) ?_
      refine mj_brt rfl rfl (by decide) ?_
      refine mj_run 1 rfl trivial ?_
      refine mj_cal rfl rfl (M_lacks h.2.1) ?_
      rw [if_pos hn]
      refine mj_brf rfl rfl (by decide) ?_
      refine mj_run 2 rfl trivial ?_
      exact mj_end rfl rfl trivial
    · rw [if_neg hn]
      obtain ⟨s, hs, rfl⟩ := i_nI (N := 10) g
      rw [nI_nc (show s < 2147483648 by omega)]
      obtain ⟨I1, hc, hf⟩ := M_emptyOf (d := d) (L := L) (dy := dy) (y := y) (y1 := y1) (n1 := n1) (w1 := w1) (c := c) (y2 := y2) (R := R) (J := J) hs h.2.1 h.2.2.1 (by omega)
      have hf2 := hf.w (ks' := wk) (as' := wa') (by decide) (by decide)
      refine ⟨I1, ?_, h.work hf2, hf2⟩
      refine mj_ci rfl (Nat.le_of_ble_eq_true rfl) ?_
      refine mj_run 4 rfl trivial ?_
      refine mj_cal rfl rfl (M_in_t ((lN9 _).mpr g)) ?_
      refine mj_brt rfl rfl (by decide) ?_
      refine mj_run 1 rfl trivial ?_
      refine mj_cal rfl rfl (M_lacks h.2.1) ?_
      rw [if_neg hn]
      refine mj_brt rfl rfl (by decide) ?_
      refine mj_run 2 rfl trivial ?_
      refine mj_cal rfl rfl hc ?_
      exact mj_end rfl rfl trivial
  · rw [if_neg g]
    refine ⟨I, ?_, h, (Fr.rf I).w (by simp) (by simp)⟩
    refine mj_ci rfl (Nat.le_of_ble_eq_true rfl) ?_
    refine mj_run 4 rfl trivial ?_
    refine mj_cal rfl rfl (M_in_f (fun q => g ((lN9 x).mp q))) ?_
    refine mj_brf rfl rfl (by decide) ?_
    refine mj_run 1 rfl trivial ?_
    exact mj_end rfl rfl trivial
theorem M_isTrue {q : Option Nat} {x : Int32} (hq : sq q x) (h2 : MY I n Y) (h6 : Mwt I wn wt) (hn : 1 ≤ n) (hT : RI I 55 n T) (hTK : TOK n Y T) : ∃ I', mj_call mj_P (d + 5) kn_M_isTrue [.ref 45, .int x] (HP L dy I y y1 n1 w1 c y2 R J) (some (.int (nI (if itF Y q T wt wn 0 then 1 else 0)))) (HP L dy I' y y1 n1 w1 c y2 R J) ∧ Fr [19, 20] [55, 56] I I' := by
  have hn10 : n ≤ 10 := h2.2.1.1
  obtain ⟨k1, k2, k3⟩ := id h6
  have key : ∀ (f k : Nat) (X : mjI), k + f = wn → MY X n Y → Mwt X wn wt → RI X 55 n (tk Y q T k) → ∃ I', Fr [19, 20] [55, 56] X I' ∧ mj_Rd (mj_call mj_P (d + 4)) kc_M_isTrue 2 (4, [some (.ref 45), some (.int x), some (.int (nI 1)), some (.int (nI k))], [], HP L dy X y y1 n1 w1 c y2 R J) (some (.int (nI (if itF Y q T wt f k then 1 else 0)))) (HP L dy I' y y1 n1 w1 c y2 R J) := by
    intro f
    induction f with
    | zero =>
      intro k X hk hX hW hT
      refine ⟨X, (Fr.rf X).w (by simp) (by simp), ?_⟩
      refine mj_run 3 rfl trivial ?_
      rw [hW.1]
      refine mj_brt rfl rfl (by rw [nI_leI (by omega) (by omega)]; omega) ?_
      refine mj_run 1 rfl trivial ?_
      exact mj_end rfl rfl (Or.inr rfl)
    | succ f ih =>
      intro k X hk hX hW hT
      have hTKk := tk_ok (q := q) h2.2.1 hn hTK k
      obtain ⟨I1, hc1, hg1, hr1, hm1⟩ := M_goTruck (d := d) (L := L) (dy := dy) (y := y) (y1 := y1) (n1 := n1) (w1 := w1) (c := c) (y2 := y2) (R := R) (J := J) hX hn hT hTKk hq
      obtain ⟨q1, q2⟩ := hW.2.2 k (by omega)
      have hgv := gv_eq (fun z hz => sd_ok (q := q) h2.2.1 hn hTK k hz) q2
      have hW1 : Mwt I1 wn wt := hW.fr hg1.fr (by decide)
      by_cases g : sd Y q T k = some (wt k)
      · obtain ⟨I2, hf2, hx2⟩ := ih (k + 1) I1 (by omega) (hX.gf hg1) hW1 hr1
        refine ⟨I2, (hg1.fr.tr hf2).w (by decide) (by decide), ?_⟩
        refine mj_run 3 rfl trivial ?_
        rw [hW.1]
        refine mj_brf rfl rfl (by rw [nI_leI (by omega) (by omega)]; omega) ?_
        refine mj_run 1 rfl trivial ?_
        refine mj_brf rfl rfl (by decide) ?_
        refine mj_run 2 rfl trivial ?_
        refine mj_cal rfl rfl hc1 ?_
        refine mj_run 4 rfl (nI_vi (by omega) (by decide)) ?_
        rw [nI_nc (by omega), (hW1.2.2 k (by omega)).1]
        refine mj_brf rfl rfl (fun q => q (hgv.mpr g)) ?_
        refine mj_run 2 rfl trivial ?_
        refine mj_run 3 rfl trivial ?_
        rw [nI_add]
        have e : itF Y q T wt (f + 1) k = itF Y q T wt f (k + 1) := by simp [itF, g]
        rw [e]
        exact hx2
      · refine ⟨I1, hg1.fr, ?_⟩
        refine mj_run 3 rfl trivial ?_
        rw [hW.1]
        refine mj_brf rfl rfl (by rw [nI_leI (by omega) (by omega)]; omega) ?_
        refine mj_run 1 rfl trivial ?_
        refine mj_brf rfl rfl (by decide) ?_
        refine mj_run 2 rfl trivial ?_
        refine mj_cal rfl rfl hc1 ?_
        refine mj_run 4 rfl (nI_vi (by omega) (by decide)) ?_
        rw [nI_nc (by omega), (hW1.2.2 k (by omega)).1]
        refine mj_brt rfl rfl (fun q => g (hgv.mp q)) ?_
        refine mj_run 1 rfl trivial ?_
        refine mj_run 3 rfl trivial ?_
        have e : itF Y q T wt (f + 1) k = false := by simp [itF, g]
        rw [e]
        -- at the head once more
        refine mj_run 3 rfl trivial ?_
        refine mj_bra rfl rfl (fun _ => ?_) (fun _ => ?_)
        · refine mj_run 1 rfl trivial ?_
          exact mj_end rfl rfl (Or.inl rfl)
        · refine mj_run 1 rfl trivial ?_
          refine mj_brt rfl rfl (by decide) ?_
          refine mj_run 1 rfl trivial ?_
          exact mj_end rfl rfl (Or.inl rfl)
  obtain ⟨I', hf, hx⟩ := key wn 0 I (by omega) h2 h6 hT
  refine ⟨I', ?_, hf⟩
  refine mj_ci rfl (Nat.le_of_ble_eq_true rfl) ?_
  refine mj_run 4 rfl trivial ?_
  exact hx
end MM
end
section
theorem b_s : ∀ k, k < 32 → ((nI k &&& 31).toBitVec.smod 32).toNat = k := by decide
theorem b_or (a b : Nat) : nI a ||| nI b = nI (a ||| b) := by
  apply Int32.toBitVec_inj.1
  show BitVec.ofNat 32 a ||| BitVec.ofNat 32 b = BitVec.ofNat 32 (a ||| b)
  apply BitVec.eq_of_getLsbD_eq
  intro i hi
  simp [hi]
theorem b_one {k : Nat} (hk : k < 31) : nI 1 <<< (nI k &&& 31) = nI (2 ^ k) := by
  have h : (2 : Nat) ^ k < 2 ^ 31 := Nat.pow_lt_pow_right (by decide) hk
  rw [pk_shlN (nI k &&& 31) k (b_s k (by omega)) (by omega)]
  congr 1
  omega
theorem b_test {m p : Nat} (hm : m < 2147483648) (hp : p < 31) : (nI m >>> (nI p &&& 31)) &&& nI 1 = nI (if m.testBit p then 1 else 0) := by
  rw [pk_shrN hm (nI p &&& 31) p (b_s p (by omega))]
  have h1 : m / 2 ^ p < 2147483648 := Nat.lt_of_le_of_lt (Nat.div_le_self _ _) hm
  rw [pk_andN (by omega) (m := nI 1) 1 (by decide)]
  congr 1
  rw [Nat.testBit_eq_decide_div_mod_eq]
  have : m / 2 ^ p % 2 < 2 := Nat.mod_lt _ (by decide)
  by_cases h : m / 2 ^ p % 2 = 1
  · simp [h]
  · simp [h]
    omega
theorem b_lt {a b k : Nat} (ha : a < 2 ^ k) (hb : b < 2 ^ k) : a ||| b < 2 ^ k := Nat.or_lt_two_pow ha hb
/-! reaching, as the reference does it -/
def rW (Y : Yd) (p : Nat) : Nat → Nat → Nat
  | 0, m => m
  | k + 1, m => rW Y p k m ||| (if 10 ≤ Y.2.2 p k then 2 ^ (Y.2.2 p k - 10) else 0)
def rP (Y : Yd) (fr p m : Nat) : Nat := if p = fr ∨ m.testBit p = true then rW Y p (Y.2.1 p) m else m
def rS (Y : Yd) (fr : Nat) : Nat → Nat → Nat
  | 0, m => m
  | p + 1, m => rP Y fr p (rS Y fr p m)
def rR (Y : Yd) (n fr : Nat) : Nat → Nat
  | 0 => 0
  | k + 1 => rS Y fr n (rR Y n fr k)
def rch (Y : Yd) (n fr : Nat) : Nat := rR Y n fr (n + 1)
theorem rW_lt {n : Nat} {Y : Yd} (h : YOK n Y) {p : Nat} (hp : p < n) : ∀ k m, k ≤ Y.2.1 p → m < 1024 → rW Y p k m < 1024
  | 0, m, _, hm => hm
  | k + 1, m, hk, hm => by
    have ih := rW_lt h hp k m (by omega) hm
    have hw := (h.2 p hp).2.2.2 k (by omega)
    have hn := h.1
    unfold rW
    refine b_lt (k := 10) ih ?_
    split
    · exact Nat.pow_lt_pow_right (by decide) (by omega)
    · decide
theorem rP_lt {n : Nat} {Y : Yd} (h : YOK n Y) {fr p m : Nat} (hp : p < n) (hm : m < 1024) : rP Y fr p m < 1024 := by
  unfold rP
  split
  · exact rW_lt h hp _ _ (Nat.le_refl _) hm
  · exact hm
theorem rS_lt {n : Nat} {Y : Yd} (h : YOK n Y) {fr : Nat} : ∀ p m, p ≤ n → m < 1024 → rS Y fr p m < 1024
  | 0, m, _, hm => hm
  | p + 1, m, hp, hm => rP_lt h (by omega) (rS_lt h p m (by omega) hm)
theorem rR_lt {n : Nat} {Y : Yd} (h : YOK n Y) {fr : Nat} : ∀ k, rR Y n fr k < 1024
  | 0 => (by show (0 : Nat) < 1024; decide)
  | k + 1 => rS_lt h n _ (Nat.le_refl _) (rR_lt h k)
section MM
variable {d L : Nat} {dy : mjM} {I : mjI} {y y1 n1 w1 c y2 : Option Nat} {R : mjR} {J : mjJ} {pn : Nat} {pg : Nat → Nat} {n : Nat} {Y : Yd} {T : Nat → Nat} {t : Nat} {tr : Nat → Nat} {kp : Kp} {wn : Nat} {wt : Nat → Nat} {yr dn : Nat}
theorem M_reach {fr : Nat} (hfr : fr < 10) (hY : MY I n Y) : mj_call mj_P (d + 1) kn_M_reach [.ref 45, .int (nI fr)] (HP L dy I y y1 n1 w1 c y2 R J) (some (.int (nI (rch Y n fr)))) (HP L dy I y y1 n1 w1 c y2 R J) := by
  obtain ⟨h1, h2, h3⟩ := id hY
  have hn : n ≤ 10 := h2.1
  refine mj_ci rfl (Nat.le_of_ble_eq_true rfl) ?_
  refine mj_run 4 rfl trivial ?_
  -- rounds: the inner locals are what they are
  have key := dn_ind (n + 1) (fun k => ∀ (l4 l5 l6 : Option Value), mj_lg l4 = true → mj_lg l5 = true → mj_Rd (mj_call mj_P d) kc_M_reach 1 (4, [some (.ref 45), some (.int (nI fr)), some (.int (nI (rR Y n fr k))), some (.int (nI k)), l4, l5, l6], [], HP L dy I y y1 n1 w1 c y2 R J) (some (.int (nI (rch Y n fr)))) (HP L dy I y y1 n1 w1 c y2 R J)) ?_ ?_ 0 (by omega)
  · exact key none none none rfl rfl
  · intro l4 l5 l6 _ _
    refine mj_run 3 rfl trivial ?_
    rw [h1]
    refine mj_brt rfl rfl (by rw [nI_ltI (by omega) (by omega)]; omega) ?_
    refine mj_run 1 rfl trivial ?_
    exact mj_end rfl rfl trivial
  · intro k hk ih l4 l5 l6 g4 g5
    refine mj_run 3 rfl trivial ?_
    rw [h1]
    refine mj_brf rfl rfl (by rw [nI_ltI (by omega) (by omega)]; omega) ?_
    refine mj_run 2 rfl trivial ?_
    have inner := dn_ind n (fun p => ∀ (l5 l6 : Option Value), mj_lg l5 = true → mj_Rd (mj_call mj_P d) kc_M_reach 1 (15, [some (.ref 45), some (.int (nI fr)), some (.int (nI (rS Y fr p (rR Y n fr k)))), some (.int (nI k)), some (.int (nI p)), l5, l6], [], HP L dy I y y1 n1 w1 c y2 R J) (some (.int (nI (rch Y n fr)))) (HP L dy I y y1 n1 w1 c y2 R J)) ?_ ?_ 0 (by omega)
    · exact inner l5 l6 g5
    · intro l5 l6 g5
      refine mj_run 3 rfl trivial ?_
      rw [h1]
      refine mj_brt rfl rfl (by rw [nI_leI (by omega) (by omega)]; omega) ?_
      refine mj_run 2 rfl trivial ?_
      rw [nI_add]
      exact ih _ _ _ rfl g5
    · intro p hp ihp l5 l6 g5
      have hm : rS Y fr p (rR Y n fr k) < 1024 := rS_lt h2 p _ (by omega) (rR_lt h2 k)
      generalize hM : rS Y fr p (rR Y n fr k) = M at hm ⊢
      have hnx : rS Y fr (p + 1) (rR Y n fr k) = rP Y fr p M := by show rP Y fr p (rS Y fr p (rR Y n fr k)) = _; rw [hM]
      rw [hnx] at ihp
      obtain ⟨k1, k2, k3, k4⟩ := h2.2 p hp
      obtain ⟨e1, e2, e3⟩ := h3 p hp
      have vi : vp_in (nI p) 10 := nI_vi (by omega) (by decide)
      have hc : (nI p).toNatClampNeg = p := nI_nc (by omega)
      refine mj_run 3 rfl trivial ?_
      rw [h1]
      refine mj_brf rfl rfl (by rw [nI_leI (by omega) (by omega)]; omega) ?_
      refine mj_run 2 rfl trivial ?_
      -- the ways, if it is
      have ways : (p = fr ∨ M.testBit p = true) → ∀ l5 l6, mj_lg l5 = true → mj_Rd (mj_call mj_P d) kc_M_reach 1 (40, [some (.ref 45), some (.int (nI fr)), some (.int (nI M)), some (.int (nI k)), some (.int (nI p)), l5, l6], [], HP L dy I y y1 n1 w1 c y2 R J) (some (.int (nI (rch Y n fr)))) (HP L dy I y y1 n1 w1 c y2 R J) := by
        intro A l5 l6 g5
        have eP : rP Y fr p M = rW Y p (Y.2.1 p) M := by unfold rP; rw [if_pos A]
        rw [eP] at ihp
        refine mj_run 2 rfl trivial ?_
        refine mj_run 3 rfl (show mj_ok (if True then none else none) from trivial) ?_
        refine dn_ind (Y.2.1 p) (fun v => mj_Rd (mj_call mj_P d) kc_M_reach 1 (50, [some (.ref 45), some (.int (nI fr)), some (.int (nI (rW Y p v M))), some (.int (nI k)), some (.int (nI p)), some (.int (nI 1)), some (.int (nI v))], [], HP L dy I y y1 n1 w1 c y2 R J) (some (.int (nI (rch Y n fr)))) (HP L dy I y y1 n1 w1 c y2 R J)) ?_ ?_ 0 (by omega)
        · refine mj_run 5 rfl vi ?_
          rw [hc, e2]
          refine mj_brt rfl rfl (by rw [nI_leI (by omega) (by omega)]; omega) ?_
          refine mj_run 2 rfl trivial ?_
          rw [nI_add]
          exact ihp _ _ rfl
        · intro v hv ihv
          have hRW : rW Y p v M < 1024 := rW_lt h2 hp v M (by omega) hm
          have hwv := k4 v hv
          have e5 : nI 3 * nI p + nI v = nI (3 * p + v) := by rw [pk_mul, nI_add]
          have vi2 : vp_in (nI (3 * p + v)) 30 := nI_vi (by omega) (by decide)
          have hc2 : (nI (3 * p + v)).toNatClampNeg = 3 * p + v := nI_nc (by omega)
          have e6 : I 52 (3 * p + v) = nI (Y.2.2 p v) := by rw [e3 v (by omega), if_pos hv]
          refine mj_run 5 rfl vi ?_
          rw [hc, e2]
          refine mj_brf rfl rfl (by rw [nI_leI (by omega) (by omega)]; omega) ?_
          refine mj_run 1 rfl trivial ?_
          refine mj_brf rfl rfl (by decide) ?_
          refine mj_run 10 rfl (by rw [e5]; exact vi2) ?_
          rw [e5, hc2, e6]
          refine mj_bra rfl rfl (fun g => ?_) (fun g => ?_)
          · rw [nI_ltI (by omega) (by decide)] at g
            have e7 : rW Y p (v + 1) M = rW Y p v M ||| 0 := by
              show rW Y p v M ||| _ = _
              rw [if_neg (by omega)]
            rw [e7] at ihv
            refine mj_run 1 rfl trivial ?_
            refine mj_run 4 rfl trivial ?_
            rw [b_or, nI_add]
            exact ihv
          · rw [nI_ltI (by omega) (by decide)] at g
            have e7 : rW Y p (v + 1) M = rW Y p v M ||| 2 ^ (Y.2.2 p v - 10) := by
              show rW Y p v M ||| _ = _
              rw [if_pos (by omega)]
            rw [e7] at ihv
            refine mj_run 13 rfl (by rw [e5]; exact vi2) ?_
            rw [e5, hc2, e6, pk_sub (by omega), b_one (by omega)]
            refine mj_run 4 rfl trivial ?_
            rw [b_or, nI_add]
            exact ihv
      refine mj_bra rfl rfl (fun g => ?_) (fun g => ?_)
      · rw [nI_e (by omega) (by omega)] at g
        exact ways (Or.inl g) l5 l6 g5
      · rw [nI_e (by omega) (by omega)] at g
        refine mj_run 6 rfl trivial ?_
        rw [b_test (by omega) (by omega)]
        refine mj_bra rfl rfl (fun g2 => ?_) (fun g2 => ?_)
        · have nb : ¬ (p = fr ∨ M.testBit p = true) := by
            intro q
            rcases q with q | q
            · exact g q
            · rw [if_pos q] at g2
              exact g2 rfl
          have eP : rP Y fr p M = M := by unfold rP; rw [if_neg nb]
          rw [eP] at ihp
          refine mj_run 1 rfl trivial ?_
          refine mj_run 3 rfl trivial ?_
          refine mj_run 5 rfl vi ?_
          rw [hc, e2]
          refine mj_brf rfl rfl (by rw [nI_leI (by omega) (by decide)]; omega) ?_
          refine mj_run 1 rfl trivial ?_
          refine mj_brt rfl rfl (by decide) ?_
          refine mj_run 2 rfl trivial ?_
          rw [nI_add]
          exact ihp _ _ rfl
        · have hb : M.testBit p = true := by
            by_cases q : M.testBit p = true
            · exact q
            · rw [if_neg q] at g2
              exact absurd (Classical.not_not.mp g2) (by decide)
          exact ways (Or.inr hb) l5 l6 g5
end MM
end
section
/-! the yard as a graph -/
def eg (Y : Yd) (n a b : Nat) : Prop := a < n ∧ ∃ w, w < Y.2.1 a ∧ Y.2.2 a w = 10 + b
def pth (Y : Yd) (n : Nat) : Nat → Nat → Nat → Prop
  | 0, a, b => a = b
  | k + 1, a, b => ∃ c, eg Y n a c ∧ pth Y n k c b
theorem pth_snoc {Y : Yd} {n : Nat} : ∀ (k : Nat) (a b c : Nat), pth Y n k a b → eg Y n b c → pth Y n (k + 1) a c
  | 0, a, b, c, h, e => by
    have h' : a = b := h
    subst h'
    exact ⟨c, e, rfl⟩
  | k + 1, a, b, c, h, e => by
    obtain ⟨x, h1, h2⟩ := h
    exact ⟨x, h1, pth_snoc k x b c h2 e⟩
theorem pth_unsnoc {Y : Yd} {n : Nat} : ∀ (k : Nat) (a c : Nat), pth Y n (k + 1) a c → ∃ b, pth Y n k a b ∧ eg Y n b c
  | 0, a, c, h => by
    obtain ⟨x, h1, h2⟩ := h
    have h2' : x = c := h2
    subst h2'
    exact ⟨a, rfl, h1⟩
  | k + 1, a, c, h => by
    obtain ⟨x, h1, h2⟩ := h
    obtain ⟨b, h3, h4⟩ := pth_unsnoc k x c h2
    exact ⟨b, ⟨x, h1, h3⟩, h4⟩
theorem eg_lt {Y : Yd} {n a b : Nat} (h : YOK n Y) (e : eg Y n a b) : b < n := by
  obtain ⟨h1, w, h2, h3⟩ := e
  have := (h.2 a h1).2.2.2 w h2
  omega
/-! sets as bits -/
def sub (m m' : Nat) : Prop := ∀ b, m.testBit b = true → m'.testBit b = true
def ct (m : Nat) : Nat → Nat
  | 0 => 0
  | k + 1 => ct m k + if m.testBit k then 1 else 0
theorem ct_le (m : Nat) : ∀ k, ct m k ≤ k
  | 0 => Nat.le_refl 0
  | k + 1 => by
    have := ct_le m k
    unfold ct
    split <;> omega
theorem ct_sub {m m' : Nat} (h : sub m m') : ∀ k, ct m k ≤ ct m' k
  | 0 => Nat.le_refl 0
  | k + 1 => by
    have ih := ct_sub h k
    unfold ct
    by_cases hb : m.testBit k = true
    · rw [if_pos hb, if_pos (h k hb)]
      omega
    · rw [if_neg hb]
      omega
theorem ct_lt {m m' b : Nat} (h : sub m m') (h1 : m.testBit b = false) (h2 : m'.testBit b = true) : ∀ k, b < k → ct m k < ct m' k
  | 0, hb => by omega
  | k + 1, hb => by
    unfold ct
    by_cases e : b = k
    · subst e
      have := ct_sub h b
      rw [h1, h2]
      simp
      omega
    · have ih := ct_lt h h1 h2 k (by omega)
      by_cases hk : m.testBit k = true
      · rw [if_pos hk, if_pos (h k hk)]
        omega
      · rw [if_neg hk]
        omega
theorem sub_ne {m m' n : Nat} (h : sub m m') (hm' : m' < 2 ^ n) (hne : m' ≠ m) : ∃ b, b < n ∧ m.testBit b = false ∧ m'.testBit b = true := by
  refine Classical.byContradiction (fun hc => hne (Nat.eq_of_testBit_eq (fun b => ?_)))
  cases h1 : m.testBit b with
  | true => exact h b h1
  | false =>
    cases h2 : m'.testBit b with
    | false => rfl
    | true =>
      exfalso
      refine hc ⟨b, ?_, h1, h2⟩
      rcases Nat.lt_or_ge b n with q | q
      · exact q
      · have := Nat.testBit_lt_two_pow (x := m') (i := b) (Nat.lt_of_lt_of_le hm' (Nat.pow_le_pow_right (by decide) q))
        rw [this] at h2
        cases h2
def itr (F : Nat → Nat) (m : Nat) : Nat → Nat
  | 0 => m
  | k + 1 => F (itr F m k)
theorem itr_lt {F : Nat → Nat} {n m : Nat} (hF : ∀ m, m < 2 ^ n → sub m (F m) ∧ F m < 2 ^ n) (hm : m < 2 ^ n) : ∀ k, itr F m k < 2 ^ n
  | 0 => hm
  | k + 1 => (hF _ (itr_lt hF hm k)).2
theorem itr_stab {F : Nat → Nat} {n m : Nat} (hF : ∀ m, m < 2 ^ n → sub m (F m) ∧ F m < 2 ^ n) (hm : m < 2 ^ n) : ∀ k, F (itr F m k) = itr F m k ∨ k ≤ ct (itr F m k) n
  | 0 => Or.inr (Nat.zero_le _)
  | k + 1 => by
    rcases itr_stab hF hm k with h | h
    · left
      exact congrArg F h
    · by_cases e : F (itr F m k) = itr F m k
      · left
        exact congrArg F e
      · right
        obtain ⟨h1, h2⟩ := hF _ (itr_lt hF hm k)
        obtain ⟨b, h3, h4, h5⟩ := sub_ne h1 h2 e
        have := ct_lt h1 h4 h5 n h3
        show k + 1 ≤ ct (F (itr F m k)) n
        omega
theorem itr_fix {F : Nat → Nat} {n m : Nat} (hF : ∀ m, m < 2 ^ n → sub m (F m) ∧ F m < 2 ^ n) (hm : m < 2 ^ n) {k : Nat} (hk : n ≤ k) : F (itr F m k) = itr F m k := by
  have base : F (itr F m n) = itr F m n := by
    rcases itr_stab hF hm (n + 1) with h | h
    · rcases itr_stab hF hm n with g | g
      · exact g
      · refine Classical.byContradiction (fun e => ?_)
        obtain ⟨h1, h2⟩ := hF _ (itr_lt hF hm n)
        obtain ⟨b, h3, h4, h5⟩ := sub_ne h1 h2 e
        have := ct_lt h1 h4 h5 n h3
        have := ct_le (F (itr F m n)) n
        omega
    · have := ct_le (itr F m (n + 1)) n
      omega
  obtain ⟨j, rfl⟩ : ∃ j, k = n + j := ⟨k - n, by omega⟩
  clear hk
  induction j with
  | zero => exact base
  | succ j ih =>
    exact congrArg F ih
/-! the reference's reaching is reaching -/
theorem rW_bit {Y : Yd} {p : Nat} : ∀ (k m b : Nat), (rW Y p k m).testBit b = true ↔ (m.testBit b = true ∨ ∃ w, w < k ∧ Y.2.2 p w = 10 + b)
  | 0, m, b => by
    show m.testBit b = true ↔ _
    refine ⟨Or.inl, fun h => ?_⟩
    rcases h with h | ⟨w, h, -⟩
    · exact h
    · omega
  | k + 1, m, b => by
    have ih := rW_bit (Y := Y) (p := p) k m b
    show (rW Y p k m ||| _).testBit b = true ↔ _
    rw [Nat.testBit_or, Bool.or_eq_true, ih]
    constructor
    · rintro ((h | ⟨w, h1, h2⟩) | h)
      · exact Or.inl h
      · exact Or.inr ⟨w, by omega, h2⟩
      · split at h
        · rename_i h10
          rw [Nat.testBit_two_pow] at h
          have h := of_decide_eq_true h
          exact Or.inr ⟨k, by omega, by omega⟩
        · simp at h
    · rintro (h | ⟨w, h1, h2⟩)
      · exact Or.inl (Or.inl h)
      · by_cases e : w = k
        · subst e
          right
          rw [if_pos (by omega), Nat.testBit_two_pow]
          exact decide_eq_true (by omega)
        · exact Or.inl (Or.inr ⟨w, by omega, h2⟩)
theorem rP_bit {Y : Yd} {n fr p m b : Nat} (hp : p < n) : (rP Y fr p m).testBit b = true ↔ (m.testBit b = true ∨ ((p = fr ∨ m.testBit p = true) ∧ eg Y n p b)) := by
  unfold rP
  split
  · rename_i h
    rw [rW_bit]
    constructor
    · rintro (q | q)
      · exact Or.inl q
      · exact Or.inr ⟨h, hp, q⟩
    · rintro (q | ⟨-, -, q⟩)
      · exact Or.inl q
      · exact Or.inr q
  · rename_i h
    exact ⟨Or.inl, fun q => q.elim id (fun q => absurd q.1 h)⟩
theorem rS_sub {Y : Yd} {n fr : Nat} : ∀ (p m : Nat), p ≤ n → sub m (rS Y fr p m)
  | 0, m, _ => fun _ h => h
  | p + 1, m, hp => fun b h => (rP_bit (n := n) (by omega)).mpr (Or.inl (rS_sub (n := n) p m (by omega) b h))
theorem rS_sub2 {Y : Yd} {n fr m : Nat} {q : Nat} (hq : q ≤ n) : ∀ (p : Nat), p ≤ q → sub (rS Y fr p m) (rS Y fr q m) := by
  intro p hp
  obtain ⟨j, rfl⟩ : ∃ j, q = p + j := ⟨q - p, by omega⟩
  clear hp
  induction j with
  | zero => exact fun _ h => h
  | succ j ih =>
    have ih := ih (by omega)
    exact fun b h => (rP_bit (n := n) (p := p + j) (by omega)).mpr (Or.inl (ih b h))
theorem rS_snd {Y : Yd} {n fr : Nat} : ∀ (p m : Nat), p ≤ n → (∀ b, m.testBit b = true → ∃ k, pth Y n (k + 1) fr b) → ∀ b, (rS Y fr p m).testBit b = true → ∃ k, pth Y n (k + 1) fr b
  | 0, m, _, h => h
  | p + 1, m, hp, h => by
    intro b hb
    have ih := rS_snd p m (by omega) h
    rcases (rP_bit (n := n) (by omega)).mp hb with q | ⟨q, e⟩
    · exact ih b q
    · rcases q with q | q
      · subst q
        exact ⟨0, b, e, rfl⟩
      · obtain ⟨k, hk⟩ := ih p q
        exact ⟨k + 1, pth_snoc _ _ _ _ hk e⟩
theorem rS_bits {Y : Yd} {n : Nat} (h : YOK n Y) {fr : Nat} (m : Nat) (hm : m < 2 ^ n) : sub m (rS Y fr n m) ∧ rS Y fr n m < 2 ^ n := by
  refine ⟨rS_sub (n := n) n m (Nat.le_refl n), ?_⟩
  have key : ∀ p, p ≤ n → ∀ b, n ≤ b → (rS Y fr p m).testBit b = false := by
    intro p
    induction p with
    | zero =>
      intro _ b hb
      exact Nat.testBit_lt_two_pow (Nat.lt_of_lt_of_le hm (Nat.pow_le_pow_right (by decide) hb))
    | succ p ih =>
      intro hp b hb
      cases hc : (rS Y fr (p + 1) m).testBit b with
      | false => rfl
      | true =>
        rcases (rP_bit (n := n) (by omega)).mp hc with q | ⟨-, e⟩
        · rw [ih (by omega) b hb] at q
          cases q
        · have := eg_lt h e
          omega
  exact Nat.lt_pow_two_of_testBit _ (fun b hb => key n (Nat.le_refl n) b hb)
theorem rR_itr (Y : Yd) (n fr : Nat) : ∀ k, rR Y n fr k = itr (rS Y fr n) 0 k
  | 0 => rfl
  | k + 1 => by
    show rS Y fr n (rR Y n fr k) = rS Y fr n (itr (rS Y fr n) 0 k)
    rw [rR_itr Y n fr k]
theorem rch_bit {Y : Yd} {n : Nat} (h : YOK n Y) {fr : Nat} (hfr : fr < n) (b : Nat) : (rch Y n fr).testBit b = true ↔ ∃ k, pth Y n (k + 1) fr b := by
  have snd : ∀ k b, (rR Y n fr k).testBit b = true → ∃ j, pth Y n (j + 1) fr b := by
    intro k
    induction k with
    | zero => intro b hb; simp [rR] at hb
    | succ k ih => exact rS_snd n _ (Nat.le_refl n) ih
  refine ⟨snd _ b, ?_⟩
  rintro ⟨k, hk⟩
  have fix : rS Y fr n (rch Y n fr) = rch Y n fr := by
    unfold rch
    rw [rR_itr]
    exact itr_fix (n := n) (fun m hm => rS_bits h m hm) (Nat.two_pow_pos n) (by omega)
  have clo : ∀ p, p < n → ∀ c, (p = fr ∨ (rch Y n fr).testBit p = true) → eg Y n p c → (rch Y n fr).testBit c = true := by
    intro p hp c hc e
    have h1 : (rS Y fr (p + 1) (rch Y n fr)).testBit c = true := by
      refine (rP_bit (n := n) hp).mpr (Or.inr ⟨?_, e⟩)
      rcases hc with hc | hc
      · exact Or.inl hc
      · exact Or.inr (rS_sub (n := n) p _ (by omega) p hc)
    have h2 := rS_sub2 (Y := Y) (n := n) (fr := fr) (m := rch Y n fr) (Nat.le_refl n) (p + 1) (by omega) c h1
    rw [fix] at h2
    exact h2
  induction k generalizing b with
  | zero =>
    obtain ⟨c, h1, h2⟩ := hk
    have h2' : c = b := h2
    subst h2'
    exact clo fr hfr c (Or.inl rfl) h1
  | succ k ih =>
    obtain ⟨c, h1, h2⟩ := pth_unsnoc _ _ _ hk
    exact clo c h2.1 b (Or.inr (ih c h1)) h2
/-- a truck can come to b -/
def rc (Y : Yd) (n b : Nat) : Prop := ∃ k, pth Y n k 0 b
def strt (Y : Yd) (n : Nat) : Prop := ∀ p, p < n → rc Y n p → ¬ ∃ k, pth Y n (k + 1) p p
theorem rch_come {Y : Yd} {n : Nat} (h : YOK n Y) (hn : 1 ≤ n) (b : Nat) : (rch Y n 0 ||| 1).testBit b = true ↔ rc Y n b := by
  have e1 : (1 : Nat).testBit b = true ↔ b = 0 := by
    have : (1 : Nat) = 2 ^ 0 := rfl
    rw [this, Nat.testBit_two_pow]
    rw [decide_eq_true_iff]
    omega
  rw [Nat.testBit_or, Bool.or_eq_true, rch_bit h hn, e1]
  constructor
  · rintro (⟨k, hk⟩ | hb)
    · exact ⟨k + 1, hk⟩
    · exact ⟨0, hb.symm⟩
  · rintro ⟨k, hk⟩
    cases k with
    | zero => exact Or.inr (Eq.symm hk)
    | succ k => exact Or.inl ⟨k, hk⟩
end
section
def sb (Y : Yd) (n : Nat) : Nat → Bool
  | 0 => true
  | p + 1 => sb Y n p && (!(rch Y n 0 ||| 1).testBit p || !(rch Y n p).testBit p)
theorem sb_iff {Y : Yd} {n : Nat} (h : YOK n Y) (hn : 1 ≤ n) : ∀ k, k ≤ n → (sb Y n k = true ↔ ∀ p, p < k → rc Y n p → ¬ ∃ j, pth Y n (j + 1) p p)
  | 0, _ => by simp [sb]
  | k + 1, hk => by
    have ih := sb_iff h hn k (by omega)
    have e1 := rch_come h hn k
    have e2 := rch_bit h (show k < n by omega) k
    unfold sb
    rw [Bool.and_eq_true, ih]
    have e3 : (!(rch Y n 0 ||| 1).testBit k || !(rch Y n k).testBit k) = true ↔ (rc Y n k → ¬ ∃ j, pth Y n (j + 1) k k) := by
      rw [← e1, ← e2]
      cases (rch Y n 0 ||| 1).testBit k <;> cases (rch Y n k).testBit k <;> simp
    rw [e3]
    constructor
    · rintro ⟨a, b⟩ p hp
      by_cases e : p = k
      · subst e
        exact b
      · exact a p (by omega)
    · intro a
      exact ⟨fun p hp => a p (by omega), a k (by omega)⟩
def dtb (Y : Yd) (n p : Nat) : Bool := (decide (p = 0) || (rch Y n 0).testBit p) && (decide (Y.1 p ≠ 1) && decide (1 < sm Y p))
/-- the switch that a row of goes speaks of -/
def gq (p : Nat) : Option Nat := if p = 10 then none else some p
theorem sq_gq {p : Nat} (hp : p < 10) : sq (gq p) (nI p) := by
  unfold gq
  rw [if_neg (by omega)]
  exact sq_some hp
def RG (I : mjI) (Y : Yd) (T : Nat → Nat) (p k : Nat) : Prop := ∀ j, j < k → I 62 (40 * p + j) = gv (sd Y (gq p) T j)
/-- the first truck that tells two apart, from k on -/
def ulF (Y : Yd) (T : Nat → Nat) (p q : Nat) : Nat → Nat → Nat
  | 0, _ => 1000000
  | f + 1, k => if sd Y (gq p) T k = sd Y (gq q) T k then ulF Y T p q f (k + 1) else k + 1
def ul (Y : Yd) (T : Nat → Nat) (p q : Nat) : Nat := ulF Y T p q 40 0
theorem ulF_le (Y : Yd) (T : Nat → Nat) (p q : Nat) : ∀ f k, k + f ≤ 40 → ulF Y T p q f k ≤ 1000000
  | 0, k, _ => Nat.le_refl _
  | f + 1, k, h => by
    unfold ulF
    split
    · exact ulF_le Y T p q f (k + 1) (by omega)
    · omega
def mq (Y : Yd) (n : Nat) (T : Nat → Nat) (p : Nat) : Nat → Nat → Nat
  | 0, m => m
  | q + 1, m => max (mq Y n T p q m) (if dtb Y n q then ul Y T p q else 1)
def mo (Y : Yd) (n : Nat) (T : Nat → Nat) (ap : Bool) : Nat → Nat
  | 0 => 1
  | p + 1 => if dtb Y n p then (if ap then mq Y n T p p (max (mo Y n T ap p) (ul Y T p 10)) else max (mo Y n T ap p) (ul Y T p 10)) else mo Y n T ap p
def noA (Y : Yd) (n : Nat) (T : Nat → Nat) (ap : Bool) : Int32 := if mo Y n T ap n = 1000000 then Int32.ofInt (-1) else nI (mo Y n T ap n)
theorem ul_le (Y : Yd) (T : Nat → Nat) (p q : Nat) : ul Y T p q ≤ 1000000 := ulF_le Y T p q 40 0 (by omega)
theorem mq_le (Y : Yd) (n : Nat) (T : Nat → Nat) (p : Nat) : ∀ q m, m ≤ 1000000 → mq Y n T p q m ≤ 1000000
  | 0, m, h => h
  | q + 1, m, h => by
    have ih := mq_le Y n T p q m h
    have := ul_le Y T p q
    unfold mq
    split <;> omega
theorem mo_le (Y : Yd) (n : Nat) (T : Nat → Nat) (ap : Bool) : ∀ p, mo Y n T ap p ≤ 1000000
  | 0 => by show 1 ≤ 1000000; omega
  | p + 1 => by
    have ih := mo_le Y n T ap p
    have := ul_le Y T p 10
    unfold mo
    split
    · split
      · exact mq_le Y n T p p _ (by omega)
      · omega
    · exact ih
theorem gv_inj {o o' : Option Nat} (h : ∀ z, o = some z → z < 10) (h' : ∀ z, o' = some z → z < 10) : gv o = gv o' ↔ o = o' := by
  cases o' with
  | some z => exact gv_eq h (h' z rfl)
  | none =>
    cases o with
    | none => simp
    | some z =>
      have := gv_eq (o := none) (s := z) (fun _ q => by cases q) (h z rfl)
      constructor
      · intro q
        exact absurd (this.mp q.symm) (by simp)
      · intro q
        cases q
section MM
variable {d L : Nat} {dy : mjM} {I : mjI} {y y1 n1 w1 c y2 : Option Nat} {R : mjR} {J : mjJ} {pn : Nat} {pg : Nat → Nat} {n : Nat} {Y : Yd} {T : Nat → Nat} {t : Nat} {tr : Nat → Nat} {kp : Kp} {wn : Nat} {wt : Nat → Nat} {yr dn : Nat}
theorem M_isStraight (hY : MY I n Y) (hn : 1 ≤ n) : mj_call mj_P (d + 2) kn_M_isStraight [.ref 45] (HP L dy I y y1 n1 w1 c y2 R J) (some (.int (nI (if sb Y n n then 1 else 0)))) (HP L dy I y y1 n1 w1 c y2 R J) := by
  obtain ⟨h1, h2, h3⟩ := id hY
  have hn10 : n ≤ 10 := h2.1
  have hr0 : rch Y n 0 ||| 1 < 1024 := b_lt (k := 10) (rR_lt h2 _) (by decide)
  refine mj_ci rfl (Nat.le_of_ble_eq_true rfl) ?_
  refine mj_run 2 rfl trivial ?_
  refine mj_cal rfl rfl (M_reach (by decide) hY) ?_
  refine mj_run 7 rfl trivial ?_
  rw [b_or]
  refine dn_ind n (fun p => mj_Rd (mj_call mj_P (d + 1)) kc_M_isStraight 2 (12, [some (.ref 45), some (.int (nI (rch Y n 0 ||| 1))), some (.int (nI (if sb Y n p then 1 else 0))), some (.int (nI p))], [], HP L dy I y y1 n1 w1 c y2 R J) (some (.int (nI (if sb Y n n then 1 else 0)))) (HP L dy I y y1 n1 w1 c y2 R J)) ?_ ?_ 0 (by omega)
  · refine mj_run 3 rfl trivial ?_
    rw [h1]
    refine mj_brt rfl rfl (by rw [nI_leI (by omega) (by omega)]; omega) ?_
    refine mj_run 1 rfl trivial ?_
    refine mj_end rfl rfl ?_
    cases sb Y n n
    · exact Or.inl rfl
    · exact Or.inr rfl
  · intro p hp ih
    have hrp : rch Y n p < 1024 := rR_lt h2 _
    have fin : ∀ b : Bool, sb Y n (p + 1) = b → mj_Rd (mj_call mj_P (d + 1)) kc_M_isStraight 2 (49, [some (.ref 45), some (.int (nI (rch Y n 0 ||| 1))), some (.int (nI (if sb Y n p then 1 else 0))), some (.int (nI p))], [.int (nI (if b then 1 else 0))], HP L dy I y y1 n1 w1 c y2 R J) (some (.int (nI (if sb Y n n then 1 else 0)))) (HP L dy I y y1 n1 w1 c y2 R J) := by
      intro b hb
      rw [hb] at ih
      refine mj_run 3 rfl trivial ?_
      rw [nI_add]
      exact ih
    refine mj_run 3 rfl trivial ?_
    rw [h1]
    refine mj_brf rfl rfl (by rw [nI_leI (by omega) (by omega)]; omega) ?_
    refine mj_run 1 rfl trivial ?_
    cases hs : sb Y n p with
    | false =>
      rw [hs] at fin
      refine mj_brt rfl rfl (by decide) ?_
      refine mj_run 1 rfl trivial ?_
      exact fin false (by simp [sb, hs])
    | true =>
      rw [hs] at fin
      refine mj_brf rfl rfl (by decide) ?_
      refine mj_run 5 rfl trivial ?_
      rw [b_test (by omega) (by omega)]
      cases hc : (rch Y n 0 ||| 1).testBit p with
      | false =>
        refine mj_brt rfl rfl (by decide) ?_
        refine mj_run 2 rfl trivial ?_
        exact fin true (by simp only [sb, hs, hc]; rfl)
      | true =>
        refine mj_brf rfl rfl (by decide) ?_
        refine mj_run 2 rfl trivial ?_
        refine mj_cal rfl rfl (M_reach (by omega) hY) ?_
        refine mj_run 4 rfl trivial ?_
        rw [b_test (by omega) (by omega)]
        cases hp2 : (rch Y n p).testBit p with
        | false =>
          refine mj_brf rfl rfl (by decide) ?_
          refine mj_run 2 rfl trivial ?_
          exact fin true (by simp only [sb, hs, hc, hp2]; rfl)
        | true =>
          refine mj_brt rfl rfl (by decide) ?_
          refine mj_run 1 rfl trivial ?_
          exact fin false (by simp only [sb, hs, hc, hp2]; rfl)
theorem MO_straight (h : MI I pn pg n Y T t tr kp wn wt yr dn) : mj_call mj_P (d + 3) kn_M_straight [.ref 45] (HP L dy I y y1 n1 w1 c y2 R J) (some (.int (if n = 0 then Int32.ofInt (-103) else nI (if sb Y n n then 1 else 0)))) (HP L dy I y y1 n1 w1 c y2 R J) := by
  refine mj_ci rfl (Nat.le_of_ble_eq_true rfl) ?_
  refine mj_run 1 rfl trivial ?_
  refine mj_cal rfl rfl (M_lacks h.2.1) ?_
  by_cases hn : n = 0
  · rw [if_pos hn, if_pos hn]
    refine mj_brf rfl rfl (by decide) ?_
    refine mj_run 2 rfl trivial ?_
    exact mj_end rfl rfl trivial
  · rw [if_neg hn, if_neg hn]
    refine mj_brt rfl rfl (by decide) ?_
    refine mj_run 1 rfl trivial ?_
    refine mj_cal rfl rfl (M_isStraight h.2.1 (by omega)) ?_
    cases sb Y n n with
    | false =>
      refine mj_brt rfl rfl (by decide) ?_
      refine mj_run 1 rfl trivial ?_
      exact mj_end rfl rfl trivial
    | true =>
      refine mj_brf rfl rfl (by decide) ?_
      refine mj_run 2 rfl trivial ?_
      exact mj_end rfl rfl trivial
theorem M_doesTurn {p : Nat} (hp : p < n) (hY : MY I n Y) : mj_call mj_P (d + 2) kn_M_doesTurn [.ref 45, .int (nI p)] (HP L dy I y y1 n1 w1 c y2 R J) (some (.int (nI (if dtb Y n p then 1 else 0)))) (HP L dy I y y1 n1 w1 c y2 R J) := by
  obtain ⟨h1, h2, h3⟩ := id hY
  have hn10 : n ≤ 10 := h2.1
  have hr0 : rch Y n 0 < 1024 := rR_lt h2 _
  obtain ⟨k1, k2, k3, -⟩ := h2.2 p hp
  obtain ⟨e1, e2, -⟩ := h3 p hp
  have hsm := sm_in h2 hp
  have vi : vp_in (nI p) 10 := nI_vi (by omega) (by decide)
  have hc : (nI p).toNatClampNeg = p := nI_nc (by omega)
  have yes : (p = 0 ∨ (rch Y n 0).testBit p = true) → mj_Rd (mj_call mj_P (d + 1)) kc_M_doesTurn 2 (17, [some (.ref 45), some (.int (nI p)), none], [], HP L dy I y y1 n1 w1 c y2 R J) (some (.int (nI (if dtb Y n p then 1 else 0)))) (HP L dy I y y1 n1 w1 c y2 R J) := by
    intro A
    have A' : (decide (p = 0) || (rch Y n 0).testBit p) = true := by simpa using A
    refine mj_run 2 rfl trivial ?_
    refine mj_run 2 rfl trivial ?_
    refine mj_brf rfl rfl (by decide) ?_
    refine mj_run 5 rfl vi ?_
    rw [hc, e1]
    refine mj_bra rfl rfl (fun g => ?_) (fun g => ?_)
    · rw [nI_e (by omega) (by decide)] at g
      have e : dtb Y n p = false := by simp [dtb, g]
      rw [e]
      refine mj_run 1 rfl trivial ?_
      exact mj_end rfl rfl (Or.inl rfl)
    · rw [nI_e (by omega) (by decide)] at g
      refine mj_run 2 rfl trivial ?_
      refine mj_cal rfl rfl (M_standMany hY hp) ?_
      refine mj_run 1 rfl trivial ?_
      refine mj_bra rfl rfl (fun g2 => ?_) (fun g2 => ?_)
      · rw [nI_leI (by omega) (by decide)] at g2
        have e : dtb Y n p = false := by
          simp [dtb]
          intro _ _
          omega
        rw [e]
        refine mj_run 1 rfl trivial ?_
        exact mj_end rfl rfl (Or.inl rfl)
      · rw [nI_leI (by omega) (by decide)] at g2
        have e : dtb Y n p = true := by
          unfold dtb
          rw [A']
          simp [g]
          omega
        rw [e]
        refine mj_run 2 rfl trivial ?_
        exact mj_end rfl rfl (Or.inr rfl)
  refine mj_ci rfl (Nat.le_of_ble_eq_true rfl) ?_
  refine mj_run 1 rfl trivial ?_
  refine mj_bra rfl rfl (fun g => ?_) (fun g => ?_)
  · rw [nI_z (by omega)] at g
    exact yes (Or.inl g)
  · rw [nI_z (by omega)] at g
    refine mj_run 2 rfl trivial ?_
    refine mj_cal rfl rfl (M_reach (by decide) hY) ?_
    refine mj_run 5 rfl trivial ?_
    rw [b_test (by omega) (by omega)]
    cases hb : (rch Y n 0).testBit p with
    | true =>
      refine mj_brf rfl rfl (by decide) ?_
      exact yes (Or.inr hb)
    | false =>
      refine mj_brt rfl rfl (by decide) ?_
      have e : dtb Y n p = false := by simp [dtb, g, hb]
      rw [e]
      refine mj_run 1 rfl trivial ?_
      refine mj_run 2 rfl trivial ?_
      refine mj_brt rfl rfl (by decide) ?_
      refine mj_run 1 rfl trivial ?_
      exact mj_end rfl rfl (Or.inl rfl)
theorem M_unlike {p q : Nat} (h2 : YOK n Y) (hn : 1 ≤ n) (hT : TOK n Y T) (hp : p ≤ 10) (hq : q ≤ 10) (gp : RG I Y T p 40) (gq9 : RG I Y T q 40) : mj_call mj_P (d + 1) kn_M_unlike [.ref 45, .int (nI p), .int (nI q)] (HP L dy I y y1 n1 w1 c y2 R J) (some (.int (nI (ul Y T p q)))) (HP L dy I y y1 n1 w1 c y2 R J) := by
  refine mj_ci rfl (Nat.le_of_ble_eq_true rfl) ?_
  refine mj_run 2 rfl trivial ?_
  have key : ∀ f k, k + f = 40 → mj_Rd (mj_call mj_P d) kc_M_unlike 1 (2, [some (.ref 45), some (.int (nI p)), some (.int (nI q)), some (.int (nI k))], [], HP L dy I y y1 n1 w1 c y2 R J) (some (.int (nI (ulF Y T p q f k)))) (HP L dy I y y1 n1 w1 c y2 R J) := by
    intro f
    induction f with
    | zero =>
      intro k hk
      refine mj_run 2 rfl trivial ?_
      refine mj_brt rfl rfl (by rw [nI_leI (by decide) (by omega)]; omega) ?_
      refine mj_run 1 rfl trivial ?_
      exact mj_end rfl rfl trivial
    | succ f ih =>
      intro k hk
      have e5 : nI 40 * nI p + nI k = nI (40 * p + k) := by rw [pk_mul, nI_add]
      have e6 : nI 40 * nI q + nI k = nI (40 * q + k) := by rw [pk_mul, nI_add]
      refine mj_run 2 rfl trivial ?_
      refine mj_brf rfl rfl (by rw [nI_leI (by decide) (by omega)]; omega) ?_
      refine mj_run 16 rfl ⟨by rw [e5]; exact nI_vi (by omega) (by decide), by rw [e6]; exact nI_vi (by omega) (by decide)⟩ ?_
      rw [e5, e6, nI_nc (by omega), nI_nc (by omega), gp k (by omega), gq9 k (by omega)]
      have hinj := gv_inj (fun z hz => sd_ok (q := gq p) h2 hn hT k hz) (fun z hz => sd_ok (q := gq q) h2 hn hT k hz)
      unfold ulF
      refine mj_bra rfl rfl (fun g => ?_) (fun g => ?_)
      · rw [hinj] at g
        rw [if_pos g]
        refine mj_run 2 rfl trivial ?_
        rw [nI_add]
        exact ih (k + 1) (by omega)
      · rw [hinj] at g
        rw [if_neg g]
        refine mj_run 3 rfl trivial ?_
        rw [nI_add]
        exact mj_end rfl rfl trivial
  exact key 40 0 rfl
end MM
end
section
section MM
variable {d L : Nat} {dy : mjM} {I : mjI} {y y1 n1 w1 c y2 : Option Nat} {R : mjR} {J : mjJ} {pn : Nat} {pg : Nat → Nat} {n : Nat} {Y : Yd} {T : Nat → Nat} {t : Nat} {tr : Nat → Nat} {kp : Kp} {wn : Nat} {wt : Nat → Nat} {yr dn : Nat}
theorem RG.fr {I I' : mjI} {p k : Nat} (h : RG I Y T p k) (e : I' 62 = I 62) : RG I' Y T p k := fun j hj => by rw [e]; exact h j hj
/-- one row of goes -/
theorem M_goesRow {p : Nat} (hp : p < n ∨ p = 10) (hn10 : n ≤ 10) (hn : 1 ≤ n) (h3 : TOK n Y T) : ∀ (f k : Nat) (X : mjI), k + f = 40 → MY X n Y → RI X 55 n (tk Y (gq p) T k) → RG X Y T p k → ∃ I', (Fr [19, 20] [55, 56, 62] X I' ∧ RG I' Y T p 40 ∧ ∀ j, j < 40 * p ∨ 40 * p + 40 ≤ j → I' 62 j = X 62 j) ∧ ∀ (v : Option Value) (h' : mjH), mj_Rd (mj_call mj_P (d + 4)) kc_M_layGoes 0 (66, [some (.ref 45), some (.int (nI p)), some (.int (nI 40))], [], HP L dy I' y y1 n1 w1 c y2 R J) v h' → mj_Rd (mj_call mj_P (d + 4)) kc_M_layGoes 0 (14, [some (.ref 45), some (.int (nI p)), some (.int (nI k))], [], HP L dy X y y1 n1 w1 c y2 R J) v h' := by
  intro f
  induction f with
  | zero =>
    intro k X hk hX hT hG
    have hk : k = 40 := by omega
    subst hk
    refine ⟨X, ⟨(Fr.rf X).w (by simp) (by simp), hG, fun _ _ => rfl⟩, fun v h' hx => ?_⟩
    refine mj_run 2 rfl trivial ?_
    refine mj_brt rfl rfl (by decide) ?_
    exact hx
  | succ f ih =>
    intro k X hk hX hT hG
    have hTK := tk_ok (q := gq p) hX.2.1 hn h3 k
    have hsq : sq (gq p) (if p = 10 then Int32.ofInt (-1) else nI p) := by
      by_cases e : p = 10
      · rw [if_pos e]
        unfold gq
        rw [if_pos e]
        exact sq_none
      · rw [if_neg e]
        exact sq_gq (by omega)
    obtain ⟨I1, hc1, hg1, hr1, hm1⟩ := M_goTruck (d := d) (L := L) (dy := dy) (y := y) (y1 := y1) (n1 := n1) (w1 := w1) (c := c) (y2 := y2) (R := R) (J := J) hX hn hT hTK hsq
    have e62 : I1 62 = X 62 := hg1.1 62 (by decide) (by decide) (by decide)
    have f2 := hg1.fr.tr (Fr.a I1 (a := 62) (by decide) (40 * p + k) (gv (sd Y (gq p) T k)))
    obtain ⟨I2, ⟨hf2, hG2, hO2⟩, hx2⟩ := ih (k + 1) (mj_ui I1 62 (40 * p + k) (gv (sd Y (gq p) T k))) (by omega) (hX.fr f2 (by decide)) (fun i hi => by simp [mj_ui]; exact hr1 i hi) (fun j hj => by
      by_cases e : j = k
      · subst e
        simp [mj_ui, upd]
      · have h9 := hG j (by omega)
        simp [mj_ui, upd, e, e62, h9])
    refine ⟨I2, ⟨(f2.tr hf2).w (by decide) (by decide), hG2, fun j hj => ?_⟩, fun v h' hx => ?_⟩
    · rw [hO2 j hj]
      have : j ≠ 40 * p + k := by omega
      simp [mj_ui, upd, this, e62]
    · have e5 : nI 40 * nI p + nI k = nI (40 * p + k) := by rw [pk_mul, nI_add]
      have tail : ∀ z : Int32, z = (if p = 10 then Int32.ofInt (-1) else nI p) → mj_Rd (mj_call mj_P (d + 4)) kc_M_layGoes 0 (56, [some (.ref 45), some (.int (nI p)), some (.int (nI k))], [.int z, .ref 45, .int (nI 40 * nI p + nI k), .ref 62], HP L dy X y y1 n1 w1 c y2 R J) v h' := by
        intro z hz
        subst hz
        refine mj_cal rfl rfl hc1 ?_
        refine mj_run 3 rfl ⟨by rw [e5]; exact nI_vi (by omega) (by decide), by decide⟩ ?_
        rw [e5, nI_nc (by omega), nI_add]
        exact hx2 v h' hx
      have mid : mj_Rd (mj_call mj_P (d + 4)) kc_M_layGoes 0 (34, [some (.ref 45), some (.int (nI p)), some (.int (nI k))], [], HP L dy X y y1 n1 w1 c y2 R J) v h' := by
        refine mj_run 10 rfl trivial ?_
        refine mj_bra rfl rfl (fun g => ?_) (fun g => ?_)
        · rw [nI_e (by omega) (by decide)] at g
          refine mj_run 1 rfl trivial ?_
          exact tail (nI p) (by rw [if_neg g])
        · rw [nI_e (by omega) (by decide)] at g
          refine mj_run 2 rfl trivial ?_
          exact tail _ (by rw [if_pos (Classical.not_not.mp g)])
      refine mj_run 2 rfl trivial ?_
      refine mj_brf rfl rfl (by rw [nI_leI (by decide) (by omega)]; omega) ?_
      refine mj_run 3 rfl trivial ?_
      rw [hX.1]
      refine mj_bra rfl rfl (fun g => ?_) (fun g => ?_)
      · exact mid
      · rw [nI_ltI (by omega) (by omega)] at g
        refine mj_run 2 rfl trivial ?_
        refine mj_brf rfl rfl (fun q => q ?_) mid
        rw [nI_e (by omega) (by decide)]
        omega
end MM
end
section
section MM
variable {d L : Nat} {dy : mjM} {I : mjI} {y y1 n1 w1 c y2 : Option Nat} {R : mjR} {J : mjJ} {pn : Nat} {pg : Nat → Nat} {n : Nat} {Y : Yd} {T : Nat → Nat} {t : Nat} {tr : Nat → Nat} {kp : Kp} {wn : Nat} {wt : Nat → Nat} {yr dn : Nat}
theorem M_layGoes (h2 : MY I n Y) (h3 : Mst I n Y T) (hn : 1 ≤ n) : ∃ I', mj_call mj_P (d + 5) kn_M_layGoes [.ref 45] (HP L dy I y y1 n1 w1 c y2 R J) none (HP L dy I' y y1 n1 w1 c y2 R J) ∧ Fr [19, 20] [55, 56, 62] I I' ∧ ∀ p, p < n ∨ p = 10 → RG I' Y T p 40 := by
  have hn10 : n ≤ 10 := h2.2.1.1
  have key : ∀ (f p : Nat) (X : mjI) (l2 : Option Value), p + f = 11 → MY X n Y → Mst X n Y T → (∀ q, q < p → q < n ∨ q = 10 → RG X Y T q 40) → ∃ I', (Fr [19, 20] [55, 56, 62] X I' ∧ ∀ q, q < n ∨ q = 10 → RG I' Y T q 40) ∧ mj_Rd (mj_call mj_P (d + 4)) kc_M_layGoes 0 (2, [some (.ref 45), some (.int (nI p)), l2], [], HP L dy X y y1 n1 w1 c y2 R J) none (HP L dy I' y y1 n1 w1 c y2 R J) := by
    intro f
    induction f with
    | zero =>
      intro p X l2 hp hX hS hG
      refine ⟨X, ⟨(Fr.rf X).w (by simp) (by simp), fun q hq => hG q (by omega) hq⟩, ?_⟩
      refine mj_run 2 rfl trivial ?_
      refine mj_brt rfl rfl (by rw [nI_ltI (by decide) (by omega)]; omega) ?_
      exact mj_end rfl rfl trivial
    | succ f ih =>
      intro p X l2 hp hX hS hG
      have fc := Fr.c X (dst := 55) (by decide) 53 10
      have hYc : MY (cpI X 55 53 10) n Y := hX.fr fc (by decide)
      have hTc : RI (cpI X 55 53 10) 55 n T := fun i hi => by rw [cpI_at (by omega)]; exact hS.1 i hi
      by_cases hpn : p < n ∨ p = 10
      · obtain ⟨I1, ⟨hf1, hG1, hO1⟩, hx1⟩ := M_goesRow (d := d) (L := L) (dy := dy) (y := y) (y1 := y1) (n1 := n1) (w1 := w1) (c := c) (y2 := y2) (R := R) (J := J) hpn hn10 hn hS.2 40 0 (cpI X 55 53 10) rfl hYc hTc (fun j hj => by omega)
        have f1 := fc.tr hf1
        have e62 : cpI X 55 53 10 62 = X 62 := by simp [cpI]
        obtain ⟨I2, ⟨hf2, hG2⟩, hx2⟩ := ih (p + 1) I1 (some (.int (nI 40))) (by omega) (hX.fr f1 (by decide)) (hS.fr f1 (by decide)) (fun q hq hqn j hj => by
          by_cases e : q = p
          · subst e
            exact hG1 j hj
          · rw [hO1 _ (by omega), e62]
            exact hG q (by omega) hqn j hj)
        refine ⟨I2, ⟨(f1.tr hf2).w (by decide) (by decide), hG2⟩, ?_⟩
        refine mj_run 2 rfl trivial ?_
        refine mj_brf rfl rfl (by rw [nI_ltI (by decide) (by omega)]; omega) ?_
        refine mj_run 1 rfl trivial ?_
        refine mj_cal rfl rfl M_layTried ?_
        refine mj_run 2 rfl trivial ?_
        refine hx1 _ _ ?_
        refine mj_run 2 rfl trivial ?_
        rw [nI_add]
        exact hx2
      · obtain ⟨I2, ⟨hf2, hG2⟩, hx2⟩ := ih (p + 1) (cpI X 55 53 10) (some (.int (nI 0))) (by omega) hYc (hS.fr fc (by decide)) (fun q hq hqn => (hG q (by omega) hqn).fr (by simp [cpI]))
        refine ⟨I2, ⟨(fc.tr hf2).w (by decide) (by decide), hG2⟩, ?_⟩
        refine mj_run 2 rfl trivial ?_
        refine mj_brf rfl rfl (by rw [nI_ltI (by decide) (by omega)]; omega) ?_
        refine mj_run 1 rfl trivial ?_
        refine mj_cal rfl rfl M_layTried ?_
        refine mj_run 2 rfl trivial ?_
        refine mj_run 2 rfl trivial ?_
        refine mj_brf rfl rfl (by decide) ?_
        refine mj_run 3 rfl trivial ?_
        rw [hYc.1]
        refine mj_brf rfl rfl (by rw [nI_ltI (by omega) (by omega)]; omega) ?_
        refine mj_run 2 rfl trivial ?_
        refine mj_brt rfl rfl (by rw [nI_e (by omega) (by decide)]; omega) ?_
        refine mj_run 2 rfl trivial ?_
        rw [nI_add]
        exact hx2
  obtain ⟨I', ⟨hf, hG⟩, hx⟩ := key 11 0 I none rfl h2 h3 (fun q hq => by omega)
  refine ⟨I', ?_, hf, hG⟩
  refine mj_ci rfl (Nat.le_of_ble_eq_true rfl) ?_
  refine mj_run 2 rfl trivial ?_
  exact hx
end MM
end
section
section MM
variable {d L : Nat} {dy : mjM} {I : mjI} {y y1 n1 w1 c y2 : Option Nat} {R : mjR} {J : mjJ} {pn : Nat} {pg : Nat → Nat} {n : Nat} {Y : Yd} {T : Nat → Nat} {t : Nat} {tr : Nat → Nat} {kp : Kp} {wn : Nat} {wt : Nat → Nat} {yr dn : Nat}
theorem MO_which (h : MI I pn pg n Y T t tr kp wn wt yr dn) : ∃ I', mj_call mj_P (d + 6) kn_M_which [.ref 45] (HP L dy I y y1 n1 w1 c y2 R J) (some (.int (if n = 0 ∨ wn = 0 then Int32.ofInt (-103) else whA n Y T wt wn))) (HP L dy I' y y1 n1 w1 c y2 R J) ∧ MI I' pn pg n Y T t tr kp wn wt yr dn ∧ Fr wk wa' I I' := by
  have h0 := h
  obtain ⟨h1, h2, h3, h4, h5, h6, h7⟩ := h
  have hn10 : n ≤ 10 := h2.2.1.1
  have hw8 := h6.2.1
  by_cases hz : n = 0 ∨ wn = 0
  · rw [if_pos hz]
    refine ⟨I, ?_, h0, (Fr.rf I).w (by simp) (by simp)⟩
    refine mj_ci rfl (Nat.le_of_ble_eq_true rfl) ?_
    refine mj_run 1 rfl trivial ?_
    refine mj_cal rfl rfl (M_lacks h2) ?_
    have fin : mj_Rd (mj_call mj_P (d + 5)) kc_M_which 1 (14, [some (.ref 45), none, none], [], HP L dy I y y1 n1 w1 c y2 R J) (some (.int (Int32.ofInt (-103)))) (HP L dy I y y1 n1 w1 c y2 R J) := by
      refine mj_run 1 rfl trivial ?_
      exact mj_end rfl rfl trivial
    by_cases hn : n = 0
    · rw [if_pos hn]
      exact mj_brt rfl rfl (by decide) fin
    · rw [if_neg hn]
      refine mj_brf rfl rfl (by decide) ?_
      refine mj_run 2 rfl trivial ?_
      rw [h6.1]
      refine mj_brf rfl rfl (fun q => q ?_) fin
      rw [nI_z (by omega)]
      omega
  · rw [if_neg hz]
    have hn : ¬ n = 0 := fun q => hz (Or.inl q)
    have hwn : ¬ wn = 0 := fun q => hz (Or.inr q)
    -- what is told of p
    have one : ∀ (p : Nat) (X : mjI) (b : Int32), p < n ∨ p = 10 → MI X pn pg n Y T t tr kp wn wt yr dn → ∃ I', Fr [19, 20] [55, 56] X I' ∧ ∀ (v : Option Value) (h' : mjH), mj_Rd (mj_call mj_P (d + 5)) kc_M_which 1 (73, [some (.ref 45), some (.int (b ||| (if itF Y (gq p) T wt wn 0 then nI 1 <<< (nI p &&& 31) else nI 0))), some (.int (nI p))], [], HP L dy I' y y1 n1 w1 c y2 R J) v h' → mj_Rd (mj_call mj_P (d + 5)) kc_M_which 1 (41, [some (.ref 45), some (.int b), some (.int (nI p))], [], HP L dy X y y1 n1 w1 c y2 R J) v h' := by
      intro p X b hp hX
      obtain ⟨x1, x2, x3, x4, x5, x6, x7⟩ := hX
      have fc := Fr.c X (dst := 55) (by decide) 53 10
      have hsq : sq (gq p) (if p = 10 then Int32.ofInt (-1) else nI p) := by
        by_cases e : p = 10
        · rw [if_pos e]
          unfold gq
          rw [if_pos e]
          exact sq_none
        · rw [if_neg e]
          exact sq_gq (by omega)
      obtain ⟨I1, hc1, hf1⟩ := M_isTrue (d := d) (L := L) (dy := dy) (y := y) (y1 := y1) (n1 := n1) (w1 := w1) (c := c) (y2 := y2) (R := R) (J := J) hsq (x2.fr fc (by decide)) (x6.fr fc (by decide)) (by omega) (fun i hi => by rw [cpI_at (by omega)]; exact x3.1 i hi) x3.2
      refine ⟨I1, (fc.tr hf1).w (by decide) (by decide), fun v h' hx => ?_⟩
      refine mj_run 1 rfl trivial ?_
      refine mj_cal rfl rfl M_layTried ?_
      refine mj_run 4 rfl trivial ?_
      have tail : ∀ z : Int32, z = (if p = 10 then Int32.ofInt (-1) else nI p) → mj_Rd (mj_call mj_P (d + 5)) kc_M_which 1 (58, [some (.ref 45), some (.int b), some (.int (nI p))], [.int z, .ref 45, .int b], HP L dy (cpI X 55 53 10) y y1 n1 w1 c y2 R J) v h' := by
        intro z hz
        subst hz
        refine mj_cal rfl rfl hc1 ?_
        cases hi : itF Y (gq p) T wt wn 0 with
        | false =>
          rw [hi] at hx
          refine mj_brt rfl rfl (by decide) ?_
          refine mj_run 1 rfl trivial ?_
          refine mj_run 2 rfl trivial ?_
          exact hx
        | true =>
          rw [hi] at hx
          refine mj_brf rfl rfl (by decide) ?_
          refine mj_run 4 rfl trivial ?_
          refine mj_run 2 rfl trivial ?_
          exact hx
      refine mj_bra rfl rfl (fun g => ?_) (fun g => ?_)
      · rw [nI_e (by omega) (by decide)] at g
        refine mj_run 1 rfl trivial ?_
        exact tail _ (by rw [if_neg g])
      · rw [nI_e (by omega) (by decide)] at g
        refine mj_run 2 rfl trivial ?_
        exact tail _ (by rw [if_pos (Classical.not_not.mp g)])
    have key : ∀ (f p : Nat) (X : mjI), p + f = 10 → MI X pn pg n Y T t tr kp wn wt yr dn → ∃ I', (Fr [19, 20] [55, 56] X I') ∧ mj_Rd (mj_call mj_P (d + 5)) kc_M_which 1 (21, [some (.ref 45), some (.int (whF Y T wt wn (min p n))), some (.int (nI p))], [], HP L dy X y y1 n1 w1 c y2 R J) (some (.int (whA n Y T wt wn))) (HP L dy I' y y1 n1 w1 c y2 R J) := by
      intro f
      induction f with
      | zero =>
        intro p X hp hX
        have hp : p = 10 := by omega
        subst hp
        obtain ⟨I1, hf1, hx1⟩ := one 10 X (whF Y T wt wn (min 10 n)) (Or.inr rfl) hX
        refine ⟨I1, hf1, ?_⟩
        have go41 : mj_Rd (mj_call mj_P (d + 5)) kc_M_which 1 (41, [some (.ref 45), some (.int (whF Y T wt wn (min 10 n))), some (.int (nI 10))], [], HP L dy X y y1 n1 w1 c y2 R J) (some (.int (whA n Y T wt wn))) (HP L dy I1 y y1 n1 w1 c y2 R J) := by
          refine hx1 _ _ ?_
          refine mj_run 2 rfl trivial ?_
          refine mj_run 2 rfl trivial ?_
          refine mj_brt rfl rfl (by decide) ?_
          refine mj_run 1 rfl trivial ?_
          rw [show min 10 n = n by omega]
          exact mj_end rfl rfl trivial
        refine mj_run 2 rfl trivial ?_
        refine mj_brf rfl rfl (by decide) ?_
        refine mj_run 3 rfl trivial ?_
        refine mj_bra rfl rfl (fun _ => go41) (fun _ => ?_)
        refine mj_run 2 rfl trivial ?_
        exact mj_brf rfl rfl (fun q => q rfl) go41
      | succ f ih =>
        intro p X hp hX
        by_cases hpn : p < n
        · obtain ⟨I1, hf1, hx1⟩ := one p X (whF Y T wt wn (min p n)) (Or.inl hpn) hX
          obtain ⟨I2, hf2, hx2⟩ := ih (p + 1) I1 (by omega) (hX.work (hf1.w (by decide) (by decide)))
          refine ⟨I2, (hf1.tr hf2).w (by decide) (by decide), ?_⟩
          refine mj_run 2 rfl trivial ?_
          refine mj_brf rfl rfl (by rw [nI_ltI (by decide) (by omega)]; omega) ?_
          refine mj_run 3 rfl trivial ?_
          rw [hX.2.1.1]
          refine mj_brt rfl rfl (by rw [nI_ltI (by omega) (by omega)]; exact hpn) ?_
          refine hx1 _ _ ?_
          refine mj_run 2 rfl trivial ?_
          rw [nI_add]
          rw [show min (p + 1) n = p + 1 by omega] at hx2
          rw [show min p n = p by omega]
          have eg : gq p = some p := by unfold gq; rw [if_neg (by omega)]
          rw [eg]
          exact hx2
        · obtain ⟨I2, hf2, hx2⟩ := ih (p + 1) X (by omega) hX
          refine ⟨I2, hf2, ?_⟩
          refine mj_run 2 rfl trivial ?_
          refine mj_brf rfl rfl (by rw [nI_ltI (by decide) (by omega)]; omega) ?_
          refine mj_run 3 rfl trivial ?_
          rw [hX.2.1.1]
          refine mj_brf rfl rfl (by rw [nI_ltI (by omega) (by omega)]; exact hpn) ?_
          refine mj_run 2 rfl trivial ?_
          refine mj_brt rfl rfl (by rw [nI_e (by omega) (by decide)]; omega) ?_
          refine mj_run 2 rfl trivial ?_
          rw [nI_add]
          rw [show min (p + 1) n = min p n by omega] at hx2
          exact hx2
    obtain ⟨I', hf, hx⟩ := key 10 0 I rfl h0
    refine ⟨I', ?_, h0.work (hf.w (by decide) (by decide)), hf.w (by decide) (by decide)⟩
    refine mj_ci rfl (Nat.le_of_ble_eq_true rfl) ?_
    refine mj_run 1 rfl trivial ?_
    refine mj_cal rfl rfl (M_lacks h2) ?_
    rw [if_neg hn]
    refine mj_brf rfl rfl (by decide) ?_
    refine mj_run 2 rfl trivial ?_
    rw [h6.1]
    refine mj_brt rfl rfl (by rw [nI_z (by omega)]; exact hwn) ?_
    refine mj_run 4 rfl trivial ?_
    rw [show min 0 n = 0 by omega] at hx
    exact hx
end MM
end
section
section MM
variable {d L : Nat} {dy : mjM} {I : mjI} {y y1 n1 w1 c y2 : Option Nat} {R : mjR} {J : mjJ} {pn : Nat} {pg : Nat → Nat} {n : Nat} {Y : Yd} {T : Nat → Nat} {t : Nat} {tr : Nat → Nat} {kp : Kp} {wn : Nat} {wt : Nat → Nat} {yr dn : Nat}
theorem M_max {v m : Nat} (hv : v ≤ 1000000) (hm : m ≤ 1000000) : (nI v ≤ nI m ↔ v ≤ m) := nI_leI (by omega) (by omega)
theorem M_noticedOf (h2 : MY I n Y) (h3 : Mst I n Y T) (hn : 1 ≤ n) (ap : Bool) : ∃ I', mj_call mj_P (d + 6) kn_M_noticedOf [.ref 45, .int (nI (if ap then 1 else 0))] (HP L dy I y y1 n1 w1 c y2 R J) (some (.int (noA Y n T ap))) (HP L dy I' y y1 n1 w1 c y2 R J) ∧ Fr [19, 20] [55, 56, 62] I I' := by
  have hn10 : n ≤ 10 := h2.2.1.1
  obtain ⟨I1, hc1, hf1, hG1⟩ := M_layGoes (d := d) (L := L) (dy := dy) (y := y) (y1 := y1) (n1 := n1) (w1 := w1) (c := c) (y2 := y2) (R := R) (J := J) h2 h3 hn
  have hY1 : MY I1 n Y := h2.fr hf1 (by decide)
  refine ⟨I1, ?_, hf1⟩
  refine mj_ci rfl (Nat.le_of_ble_eq_true rfl) ?_
  refine mj_run 1 rfl trivial ?_
  refine mj_cal rfl rfl hc1 ?_
  refine mj_run 4 rfl trivial ?_
  have key := dn_ind n (fun p => ∀ (l4 l5 l6 : Option Value), mj_lg l4 = true → mj_lg l5 = true → mj_Rd (mj_call mj_P (d + 5)) kc_M_noticedOf 1 (8, [some (.ref 45), some (.int (nI (if ap then 1 else 0))), some (.int (nI (mo Y n T ap p))), some (.int (nI p)), l4, l5, l6], [], HP L dy I1 y y1 n1 w1 c y2 R J) (some (.int (noA Y n T ap))) (HP L dy I1 y y1 n1 w1 c y2 R J)) ?_ ?_ 0 (by omega)
  · exact key none none none rfl rfl
  · intro l4 l5 l6 _ _
    have hle := mo_le Y n T ap n
    refine mj_run 3 rfl trivial ?_
    rw [hY1.1]
    refine mj_brt rfl rfl (by rw [nI_leI (by omega) (by omega)]; omega) ?_
    refine mj_run 2 rfl trivial ?_
    unfold noA
    refine mj_bra rfl rfl (fun g => ?_) (fun g => ?_)
    · rw [nI_e (by omega) (by decide)] at g
      rw [if_neg g]
      refine mj_run 1 rfl trivial ?_
      exact mj_end rfl rfl trivial
    · rw [nI_e (by omega) (by decide)] at g
      rw [if_pos (Classical.not_not.mp g)]
      refine mj_run 2 rfl trivial ?_
      exact mj_end rfl rfl trivial
  · intro p hp ih l4 l5 l6 g4 g5
    have hle := mo_le Y n T ap p
    have hul := ul_le Y T p 10
    have nxt : ∀ (m : Nat) (l4 l5 l6 : Option Value), mj_lg l4 = true → mj_lg l5 = true → m = mo Y n T ap (p + 1) → mj_Rd (mj_call mj_P (d + 5)) kc_M_noticedOf 1 (100, [some (.ref 45), some (.int (nI (if ap then 1 else 0))), some (.int (nI m)), some (.int (nI p)), l4, l5, l6], [], HP L dy I1 y y1 n1 w1 c y2 R J) (some (.int (noA Y n T ap))) (HP L dy I1 y y1 n1 w1 c y2 R J) := by
      intro m l4 l5 l6 g4 g5 hm
      subst hm
      refine mj_run 2 rfl trivial ?_
      rw [nI_add]
      exact ih l4 l5 l6 g4 g5
    refine mj_run 3 rfl trivial ?_
    rw [hY1.1]
    refine mj_brf rfl rfl (by rw [nI_leI (by omega) (by omega)]; omega) ?_
    refine mj_run 2 rfl trivial ?_
    refine mj_cal rfl rfl (M_doesTurn hp hY1) ?_
    cases hd : dtb Y n p with
    | false =>
      refine mj_brt rfl rfl (by decide) ?_
      exact nxt _ _ _ _ g4 g5 (by simp [mo, hd])
    | true =>
      refine mj_brf rfl rfl (by decide) ?_
      refine mj_run 3 rfl trivial ?_
      refine mj_cal rfl rfl (M_unlike h2.2.1 hn h3.2 (by omega) (by omega) (hG1 p (Or.inl hp)) (hG1 10 (Or.inr rfl))) ?_
      -- the inner loop, from its head
      have inner : ∀ (m l4 : Nat) (l5 l6 : Option Value), m = max (mo Y n T ap p) (ul Y T p 10) → mj_lg l5 = true → mj_Rd (mj_call mj_P (d + 5)) kc_M_noticedOf 1 (45, [some (.ref 45), some (.int (nI (if ap then 1 else 0))), some (.int (nI (mo Y n T ap p))), some (.int (nI p)), some (.int (nI l4)), l5, l6], [.int (nI m)], HP L dy I1 y y1 n1 w1 c y2 R J) (some (.int (noA Y n T ap))) (HP L dy I1 y y1 n1 w1 c y2 R J) := by
        intro m l4 l5 l6 hm g5
        refine mj_run 3 rfl trivial ?_
        cases ap with
        | false =>
          refine mj_run 2 rfl trivial ?_
          have out := nxt m (some (.int (nI l4))) (some (.int (nI 0))) l6 rfl rfl (by rw [hm]; simp [mo, hd])
          refine mj_bra rfl rfl (fun _ => out) (fun _ => ?_)
          refine mj_run 1 rfl trivial ?_
          exact mj_brt rfl rfl (by decide) out
        | true =>
          have hmle : m ≤ 1000000 := by omega
          have lp := dn_ind p (fun q => ∀ l6 : Option Value, mj_Rd (mj_call mj_P (d + 5)) kc_M_noticedOf 1 (49, [some (.ref 45), some (.int (nI 1)), some (.int (nI (mq Y n T p q m))), some (.int (nI p)), some (.int (nI l4)), some (.int (nI q)), l6], [], HP L dy I1 y y1 n1 w1 c y2 R J) (some (.int (noA Y n T true))) (HP L dy I1 y y1 n1 w1 c y2 R J)) ?_ ?_ 0 (by omega)
          · exact lp l6
          · intro l6
            refine mj_run 2 rfl trivial ?_
            refine mj_brt rfl rfl (by rw [nI_leI (by omega) (by omega)]; omega) ?_
            exact nxt _ _ _ _ rfl rfl (by rw [hm]; simp [mo, hd])
          · intro q hq ihq l6
            have hmq := mq_le Y n T p q m hmle
            have huq := ul_le Y T p q
            refine mj_run 2 rfl trivial ?_
            refine mj_brf rfl rfl (by rw [nI_leI (by omega) (by omega)]; omega) ?_
            refine mj_run 1 rfl trivial ?_
            refine mj_brf rfl rfl (by decide) ?_
            refine mj_run 2 rfl trivial ?_
            refine mj_cal rfl rfl (M_doesTurn (by omega) hY1) ?_
            have tail : ∀ u : Nat, u ≤ 1000000 → u = (if dtb Y n q then ul Y T p q else 1) → mj_Rd (mj_call mj_P (d + 5)) kc_M_noticedOf 1 (79, [some (.ref 45), some (.int (nI 1)), some (.int (nI (mq Y n T p q m))), some (.int (nI p)), some (.int (nI l4)), some (.int (nI q)), l6], [.int (nI u)], HP L dy I1 y y1 n1 w1 c y2 R J) (some (.int (noA Y n T true))) (HP L dy I1 y y1 n1 w1 c y2 R J) := by
              intro u hu hue
              have e : mq Y n T p (q + 1) m = max (mq Y n T p q m) u := by rw [hue]; rfl
              rw [e] at ihq
              refine mj_run 3 rfl trivial ?_
              refine mj_bra rfl rfl (fun g => ?_) (fun g => ?_)
              · rw [nI_leI (by omega) (by omega)] at g
                rw [show max (mq Y n T p q m) u = mq Y n T p q m by omega] at ihq
                refine mj_run 1 rfl trivial ?_
                refine mj_run 3 rfl trivial ?_
                rw [nI_add]
                exact ihq _
              · rw [nI_leI (by omega) (by omega)] at g
                rw [show max (mq Y n T p q m) u = u by omega] at ihq
                refine mj_run 2 rfl trivial ?_
                refine mj_run 3 rfl trivial ?_
                rw [nI_add]
                exact ihq _
            cases hdq : dtb Y n q with
            | false =>
              refine mj_brt rfl rfl (by decide) ?_
              refine mj_run 1 rfl trivial ?_
              exact tail 1 (by omega) (by rw [hdq]; exact (if_neg (by decide)).symm)
            | true =>
              refine mj_brf rfl rfl (by decide) ?_
              refine mj_run 3 rfl trivial ?_
              refine mj_cal rfl rfl (M_unlike h2.2.1 hn h3.2 (by omega) (by omega) (hG1 p (Or.inl hp)) (hG1 q (Or.inl (by omega)))) ?_
              refine mj_run 1 rfl trivial ?_
              exact tail _ huq (by rw [hdq]; exact (if_pos rfl).symm)
      refine mj_run 3 rfl trivial ?_
      refine mj_bra rfl rfl (fun g => ?_) (fun g => ?_)
      · rw [nI_leI (by omega) (by omega)] at g
        refine mj_run 1 rfl trivial ?_
        exact inner _ _ _ _ (by omega) g5
      · rw [nI_leI (by omega) (by omega)] at g
        refine mj_run 2 rfl trivial ?_
        exact inner _ _ _ _ (by omega) g5
theorem MO_noticed (h : MI I pn pg n Y T t tr kp wn wt yr dn) : ∃ I', mj_call mj_P (d + 7) kn_M_noticed [.ref 45] (HP L dy I y y1 n1 w1 c y2 R J) (some (.int (if n = 0 then Int32.ofInt (-103) else noA Y n T false))) (HP L dy I' y y1 n1 w1 c y2 R J) ∧ MI I' pn pg n Y T t tr kp wn wt yr dn ∧ Fr wk wa' I I' := by
  by_cases hn : n = 0
  · rw [if_pos hn]
    refine ⟨I, ?_, h, (Fr.rf I).w (by simp) (by simp)⟩
    refine mj_ci rfl (Nat.le_of_ble_eq_true rfl) ?_
    refine mj_run 1 rfl trivial ?_
    refine mj_cal rfl rfl (M_lacks h.2.1) ?_
    rw [if_pos hn]
    refine mj_brf rfl rfl (by decide) ?_
    refine mj_run 2 rfl trivial ?_
    exact mj_end rfl rfl trivial
  · rw [if_neg hn]
    obtain ⟨I1, hc, hf⟩ := M_noticedOf (d := d) (L := L) (dy := dy) (y := y) (y1 := y1) (n1 := n1) (w1 := w1) (c := c) (y2 := y2) (R := R) (J := J) h.2.1 h.2.2.1 (by omega) false
    have hf2 := hf.w (ks' := wk) (as' := wa') (by decide) (by decide)
    refine ⟨I1, ?_, h.work hf2, hf2⟩
    refine mj_ci rfl (Nat.le_of_ble_eq_true rfl) ?_
    refine mj_run 1 rfl trivial ?_
    refine mj_cal rfl rfl (M_lacks h.2.1) ?_
    rw [if_neg hn]
    refine mj_brt rfl rfl (by decide) ?_
    refine mj_run 2 rfl trivial ?_
    refine mj_cal rfl rfl hc ?_
    exact mj_end rfl rfl trivial
theorem MO_apart (h : MI I pn pg n Y T t tr kp wn wt yr dn) : ∃ I', mj_call mj_P (d + 7) kn_M_apart [.ref 45] (HP L dy I y y1 n1 w1 c y2 R J) (some (.int (if n = 0 then Int32.ofInt (-103) else noA Y n T true))) (HP L dy I' y y1 n1 w1 c y2 R J) ∧ MI I' pn pg n Y T t tr kp wn wt yr dn ∧ Fr wk wa' I I' := by
  by_cases hn : n = 0
  · rw [if_pos hn]
    refine ⟨I, ?_, h, (Fr.rf I).w (by simp) (by simp)⟩
    refine mj_ci rfl (Nat.le_of_ble_eq_true rfl) ?_
    refine mj_run 1 rfl trivial ?_
    refine mj_cal rfl rfl (M_lacks h.2.1) ?_
    rw [if_pos hn]
    refine mj_brf rfl rfl (by decide) ?_
    refine mj_run 2 rfl trivial ?_
    exact mj_end rfl rfl trivial
  · rw [if_neg hn]
    obtain ⟨I1, hc, hf⟩ := M_noticedOf (d := d) (L := L) (dy := dy) (y := y) (y1 := y1) (n1 := n1) (w1 := w1) (c := c) (y2 := y2) (R := R) (J := J) h.2.1 h.2.2.1 (by omega) true
    have hf2 := hf.w (ks' := wk) (as' := wa') (by decide) (by decide)
    refine ⟨I1, ?_, h.work hf2, hf2⟩
    refine mj_ci rfl (Nat.le_of_ble_eq_true rfl) ?_
    refine mj_run 1 rfl trivial ?_
    refine mj_cal rfl rfl (M_lacks h.2.1) ?_
    rw [if_neg hn]
    refine mj_brt rfl rfl (by decide) ?_
    refine mj_run 2 rfl trivial ?_
    refine mj_cal rfl rfl hc ?_
    exact mj_end rfl rfl trivial
end MM
end
section
def eqv (T U : Nat → Nat) : Nat → Bool
  | 0 => true
  | p + 1 => eqv T U p && decide (T p = U p)
theorem eqv_iff {T U : Nat → Nat} : ∀ k, eqv T U k = true ↔ ∀ p, p < k → T p = U p
  | 0 => by simp [eqv]
  | k + 1 => by
    unfold eqv
    rw [Bool.and_eq_true, eqv_iff k, decide_eq_true_iff]
    constructor
    · rintro ⟨h1, h2⟩ p hp
      by_cases e : p = k
      · subst e; exact h2
      · exact h1 p (by omega)
    · intro h
      exact ⟨fun p hp => h p (by omega), h k (by omega)⟩
/-- the round: from k on -/
def rnd (Y : Yd) (n at' : Nat) (A : Nat → Nat) : Nat → Nat → Rs → Int32
  | 0, _, _ => Int32.ofInt (-1)
  | f + 1, k, s => if (mv Y none s).1 < 10 then Int32.ofInt (-1) else if (decide ((mv Y none s).1 = at') && eqv (mv Y none s).2.1 A n) then nI k else rnd Y n at' A f (k + 1) (mv Y none s)
def rdA (Y : Yd) (n : Nat) (T : Nat → Nat) : Int32 := if (ro Y none 500 (10, T, 0)).1 < 10 then Int32.ofInt (-1) else rnd Y n (ro Y none 500 (10, T, 0)).1 (ro Y none 500 (10, T, 0)).2.1 500 1 (ro Y none 500 (10, T, 0))
section MM
variable {d L : Nat} {dy : mjM} {I : mjI} {y y1 n1 w1 c y2 : Option Nat} {R : mjR} {J : mjJ} {pn : Nat} {pg : Nat → Nat} {n : Nat} {Y : Yd} {T : Nat → Nat} {t : Nat} {tr : Nat → Nat} {kp : Kp} {wn : Nat} {wt : Nat → Nat} {yr dn : Nat}
theorem M_rollR {v : Option Value} {h' : mjH} (hY : MY I n Y) : ∀ (k : Nat) (s : Rs), s.2.2 + k = 500 → s.1 < 10 + n → TOK n Y s.2.1 →
    mj_Rd (mj_call mj_P (d + 3)) kc_M_round 1 (52, [some (.ref 45), none, none, none, none], [], HP L dy (rsI I n (ro Y none k s)) y y1 n1 w1 c y2 R J) v h' → mj_Rd (mj_call mj_P (d + 3)) kc_M_round 1 (25, [some (.ref 45), none, none, none, none], [], HP L dy (rsI I n s) y y1 n1 w1 c y2 R J) v h'
  | k, (a, T, m), hm, ha, hT, hx => by
    have hn : n ≤ 10 := hY.2.1.1
    have hm' : m + k = 500 := hm
    have ha' : a < 10 + n := ha
    have e19 : rsI I n (a, T, m) 45 19 = nI a := by simp [rsI, upd]
    have e20 : rsI I n (a, T, m) 45 20 = nI m := by simp [rsI, upd]
    refine mj_run 3 rfl trivial ?_
    rw [e19]
    refine mj_bra rfl rfl (fun g => ?_) (fun g => ?_)
    · rw [nI_ltI (by omega) (by decide)] at g
      have e : ro Y none k (a, T, m) = (a, T, m) := by
        cases k with
        | zero => rfl
        | succ k => simp [ro, g]
      rw [e] at hx
      exact hx
    · rw [nI_ltI (by omega) (by decide)] at g
      refine mj_run 3 rfl trivial ?_
      rw [e20]
      cases k with
      | zero =>
        refine mj_brt rfl rfl (by rw [nI_leI (by decide) (by omega)]; omega) ?_
        exact hx
      | succ k =>
        refine mj_brf rfl rfl (by rw [nI_leI (by decide) (by omega)]; omega) ?_
        refine mj_run 2 rfl trivial ?_
        obtain ⟨b, hb⟩ : ∃ b, a = 10 + b := ⟨a - 10, by omega⟩
        subst hb
        have hYr : MY (rsI I n (10 + b, T, m)) n Y := hY.kept (by simp [rsI, upd]) (by simp [rsI]) (by simp [rsI]) (by simp [rsI])
        refine mj_cal rfl rfl (M_move (a := b) (m := m) (T := T) hYr e19 (by omega) (fun i hi => by simp [rsI, hi]) hT sq_none e20) ?_
        rw [rsI_mv (by omega)]
        refine mj_run 1 rfl trivial ?_
        obtain ⟨g1, g2⟩ := mv_ok (q := none) hY.2.1 g ha hT
        have e : ro Y none (k + 1) (10 + b, T, m) = ro Y none k (mv Y none (10 + b, T, m)) := by
          show (if 10 + b < 10 then _ else _) = _
          rw [if_neg g]
        rw [e] at hx
        exact M_rollR hY k _ (by show m + 1 + k = 500; omega) g1 g2 hx
theorem M_roundLoop {at' : Nat} {A : Nat → Nat} (hA : TOK n Y A) (hat : at' < 20) : ∀ (f k : Nat) (X : mjI) (s : Rs) (l3 l4 : Option Value), mj_lg l3 = true → k + f = 501 → MY X n Y → X 45 19 = nI s.1 → X 45 20 = nI s.2.2 → ¬ s.1 < 10 → s.1 < 10 + n → RI X 55 n s.2.1 → TOK n Y s.2.1 → RI X 56 n A →
    ∃ I', Fr [19, 20] [55, 56] X I' ∧ mj_Rd (mj_call mj_P (d + 3)) kc_M_round 1 (96, [some (.ref 45), some (.int (nI at')), some (.int (nI k)), l3, l4], [], HP L dy X y y1 n1 w1 c y2 R J) (some (.int (rnd Y n at' A f k s))) (HP L dy I' y y1 n1 w1 c y2 R J) := by
  intro f
  induction f with
  | zero =>
    intro k X s l3 l4 gl hk hX e19 e20 hs1 hs2 hT hTK hAh
    refine ⟨X, (Fr.rf X).w (by simp) (by simp), ?_⟩
    refine mj_run 2 rfl trivial ?_
    refine mj_brt rfl rfl (by rw [nI_ltI (by decide) (by omega)]; omega) ?_
    refine mj_run 1 rfl trivial ?_
    exact mj_end rfl rfl trivial
  | succ f ih =>
    intro k X s l3 l4 gl hk hX e19 e20 hs1 hs2 hT hTK hAh
    have hn : n ≤ 10 := hX.2.1.1
    obtain ⟨pc, U, m⟩ := s
    obtain ⟨b, hb⟩ : ∃ b, pc = 10 + b := ⟨pc - 10, by have : ¬ pc < 10 := hs1; omega⟩
    subst hb
    have hb : b < n := by have : 10 + b < 10 + n := hs2; omega
    obtain ⟨g1, g2⟩ := mv_ok (q := none) hX.2.1 hs1 hs2 hTK
    have hmv := M_move (d := d) (L := L) (dy := dy) (y := y) (y1 := y1) (n1 := n1) (w1 := w1) (c := c) (y2 := y2) (R := R) (J := J) (a := b) (m := m) (T := U) hX e19 hb hT hTK sq_none e20
    have hmt : ∀ i, (mv Y none (10 + b, U, m)).2.1 i = if i = b then (mv Y none (10 + b, U, m)).2.1 b else U i := by
      intro i
      simp only [mv, fu, Nat.add_sub_cancel_left]
      split <;> simp_all
    have hm1 : (mv Y none (10 + b, U, m)).2.2 = m + 1 := rfl
    generalize hZ : mj_ui (mj_ui (mj_ui X 45 19 (nI (mv Y none (10 + b, U, m)).1)) 55 b (nI ((mv Y none (10 + b, U, m)).2.1 b))) 45 20 (nI (m + 1)) = Z at hmv
    have f3 : Fr ([19] ++ [] ++ [20]) ([] ++ [55] ++ []) X Z := by
      rw [← hZ]
      exact ((Fr.u X 19 _).tr (Fr.a _ (by decide) b _)).tr (Fr.u _ 20 _)
    have z19 : Z 45 19 = nI (mv Y none (10 + b, U, m)).1 := by rw [← hZ]; simp [mj_ui, upd]
    have z20 : Z 45 20 = nI (mv Y none (10 + b, U, m)).2.2 := by rw [← hZ, hm1]; simp [mj_ui, upd]
    have zT : RI Z 55 n (mv Y none (10 + b, U, m)).2.1 := by
      intro i hi
      rw [← hZ, hmt i]
      by_cases e : i = b
      · subst e; simp [mj_ui, upd]
      · have := hT i hi
        simp [mj_ui, upd, e, this]
    have hYZ : MY Z n Y := hX.fr f3 (by decide)
    have hAZ : RI Z 56 n A := hAh.fr f3 (by decide) (by decide)
    generalize hs' : mv Y none (10 + b, U, m) = s' at g1 g2 z19 z20 zT
    have hrnd : rnd Y n at' A (f + 1) k (10 + b, U, m) = if s'.1 < 10 then Int32.ofInt (-1) else if (decide (s'.1 = at') && eqv s'.2.1 A n) then nI k else rnd Y n at' A f (k + 1) s' := by
      rw [← hs']; rfl
    rw [hrnd]
    by_cases g : s'.1 < 10
    · rw [if_pos g]
      refine ⟨Z, f3.w (by decide) (by decide), ?_⟩
      refine mj_run 2 rfl trivial ?_
      refine mj_brf rfl rfl (by rw [nI_ltI (by decide) (by omega)]; omega) ?_
      refine mj_run 2 rfl trivial ?_
      refine mj_cal rfl rfl hmv ?_
      refine mj_run 3 rfl trivial ?_
      rw [z19]
      refine mj_brf rfl rfl (by rw [nI_leI (by decide) (by omega)]; omega) ?_
      refine mj_run 1 rfl trivial ?_
      exact mj_end rfl rfl trivial
    · rw [if_neg g]
      obtain ⟨I', hf', hx'⟩ := ih (k + 1) Z s' (some (.int (nI 0))) (some (.int (nI n))) rfl (by omega) hYZ z19 z20 g g1 zT g2 hAZ
      have loop : ∀ (I' : mjI) (w : Int32), ((decide (s'.1 = at') && eqv s'.2.1 A n) = true → I' = Z ∧ w = nI k) → (¬ ((decide (s'.1 = at') && eqv s'.2.1 A n) = true) → mj_Rd (mj_call mj_P (d + 3)) kc_M_round 1 (96, [some (.ref 45), some (.int (nI at')), some (.int (nI (k + 1))), some (.int (nI 0)), some (.int (nI n))], [], HP L dy Z y y1 n1 w1 c y2 R J) (some (.int w)) (HP L dy I' y y1 n1 w1 c y2 R J)) →
          ∀ p, p ≤ n → mj_Rd (mj_call mj_P (d + 3)) kc_M_round 1 (136, [some (.ref 45), some (.int (nI at')), some (.int (nI k)), some (.int (nI (if (decide (s'.1 = at') && eqv s'.2.1 A p) then 1 else 0))), some (.int (nI p))], [], HP L dy Z y y1 n1 w1 c y2 R J) (some (.int w)) (HP L dy I' y y1 n1 w1 c y2 R J) := by
        intro I' w h1 h2
        refine dn_ind n (fun p => mj_Rd (mj_call mj_P (d + 3)) kc_M_round 1 (136, [some (.ref 45), some (.int (nI at')), some (.int (nI k)), some (.int (nI (if (decide (s'.1 = at') && eqv s'.2.1 A p) then 1 else 0))), some (.int (nI p))], [], HP L dy Z y y1 n1 w1 c y2 R J) (some (.int w)) (HP L dy I' y y1 n1 w1 c y2 R J)) ?_ ?_
        · refine mj_run 3 rfl trivial ?_
          rw [hYZ.1]
          refine mj_brt rfl rfl (by rw [nI_leI (by omega) (by omega)]; omega) ?_
          refine mj_run 1 rfl trivial ?_
          cases hq : (decide (s'.1 = at') && eqv s'.2.1 A n) with
          | true =>
            rw [hq] at h1
            obtain ⟨e1, e2⟩ := h1 rfl
            subst e1
            subst e2
            refine mj_brf rfl rfl (by decide) ?_
            refine mj_run 1 rfl trivial ?_
            exact mj_end rfl rfl trivial
          | false =>
            rw [hq] at h2
            refine mj_brt rfl rfl (by decide) ?_
            refine mj_run 2 rfl trivial ?_
            rw [nI_add]
            exact h2 (by decide)
        · intro p hp ihp
          have hu : s'.2.1 p < sm Y p := g2 p hp
          have ha : A p < sm Y p := hA p hp
          have hs6 := (sm_in hX.2.1 hp).2
          refine mj_run 3 rfl trivial ?_
          rw [hYZ.1]
          refine mj_brf rfl rfl (by rw [nI_leI (by omega) (by omega)]; omega) ?_
          refine mj_run 1 rfl trivial ?_
          have out0 : ∀ z, (decide (s'.1 = at') && eqv s'.2.1 A (p + 1)) = false → z = nI 0 → mj_Rd (mj_call mj_P (d + 3)) kc_M_round 1 (171, [some (.ref 45), some (.int (nI at')), some (.int (nI k)), some (.int (nI (if (decide (s'.1 = at') && eqv s'.2.1 A p) then 1 else 0))), some (.int (nI p))], [.int z], HP L dy Z y y1 n1 w1 c y2 R J) (some (.int w)) (HP L dy I' y y1 n1 w1 c y2 R J) := by
            intro z hz e
            rw [hz] at ihp
            subst e
            refine mj_run 3 rfl trivial ?_
            rw [nI_add]
            exact ihp
          cases hq : (decide (s'.1 = at') && eqv s'.2.1 A p) with
          | false =>
            rw [hq] at out0
            refine mj_brt rfl rfl (by decide) ?_
            refine mj_run 1 rfl trivial ?_
            refine out0 _ ?_ rfl
            rw [show eqv s'.2.1 A (p + 1) = (eqv s'.2.1 A p && decide (s'.2.1 p = A p)) from rfl, ← Bool.and_assoc, hq]
            rfl
          | true =>
            rw [hq] at out0
            refine mj_brf rfl rfl (by decide) ?_
            refine mj_run 8 rfl ⟨nI_vi (by omega) (by decide), nI_vi (by omega) (by decide)⟩ ?_
            rw [nI_nc (by omega), zT p hp, hAZ p hp]
            have e9 : (decide (s'.1 = at') && eqv s'.2.1 A (p + 1)) = decide (s'.2.1 p = A p) := by
              rw [show eqv s'.2.1 A (p + 1) = (eqv s'.2.1 A p && decide (s'.2.1 p = A p)) from rfl, ← Bool.and_assoc, hq]
              rfl
            refine mj_bra rfl rfl (fun g => ?_) (fun g => ?_)
            · rw [nI_e (by omega) (by omega)] at g
              refine mj_run 1 rfl trivial ?_
              refine out0 _ ?_ rfl
              rw [e9]
              exact decide_eq_false g
            · rw [nI_e (by omega) (by omega)] at g
              rw [e9, decide_eq_true (Classical.not_not.mp g)] at ihp
              refine mj_run 2 rfl trivial ?_
              refine mj_run 3 rfl trivial ?_
              rw [nI_add]
              exact ihp
      have fin : ∀ (I' : mjI) (w : Int32), ((decide (s'.1 = at') && eqv s'.2.1 A n) = true → I' = Z ∧ w = nI k) → (¬ ((decide (s'.1 = at') && eqv s'.2.1 A n) = true) → mj_Rd (mj_call mj_P (d + 3)) kc_M_round 1 (96, [some (.ref 45), some (.int (nI at')), some (.int (nI (k + 1))), some (.int (nI 0)), some (.int (nI n))], [], HP L dy Z y y1 n1 w1 c y2 R J) (some (.int w)) (HP L dy I' y y1 n1 w1 c y2 R J)) → mj_Rd (mj_call mj_P (d + 3)) kc_M_round 1 (96, [some (.ref 45), some (.int (nI at')), some (.int (nI k)), l3, l4], [], HP L dy X y y1 n1 w1 c y2 R J) (some (.int w)) (HP L dy I' y y1 n1 w1 c y2 R J) := by
        intro I' w h1 h2
        have lp := loop I' w h1 h2 0 (by omega)
        rw [show eqv s'.2.1 A 0 = true from rfl, Bool.and_true] at lp
        refine mj_run 2 rfl trivial ?_
        refine mj_brf rfl rfl (by rw [nI_ltI (by decide) (by omega)]; omega) ?_
        refine mj_run 2 rfl trivial ?_
        refine mj_cal rfl rfl hmv ?_
        refine mj_run 3 rfl trivial ?_
        rw [z19]
        refine mj_brt rfl rfl (by rw [nI_leI (by decide) (by omega)]; omega) ?_
        refine mj_run 3 rfl trivial ?_
        rw [z19]
        refine mj_bra rfl rfl (fun q => ?_) (fun q => ?_)
        · rw [nI_e (by omega) (by omega)] at q
          rw [decide_eq_false q] at lp
          refine mj_run 1 rfl trivial ?_
          refine mj_run 3 rfl trivial ?_
          exact lp
        · rw [nI_e (by omega) (by omega)] at q
          rw [decide_eq_true (Classical.not_not.mp q)] at lp
          refine mj_run 2 rfl trivial ?_
          refine mj_run 3 rfl trivial ?_
          exact lp
      by_cases hq : (decide (s'.1 = at') && eqv s'.2.1 A n) = true
      · rw [if_pos hq]
        exact ⟨Z, f3.w (by decide) (by decide), fin Z (nI k) (fun _ => ⟨rfl, rfl⟩) (fun q => absurd hq q)⟩
      · rw [if_neg hq]
        exact ⟨I', (f3.tr hf').w (by decide) (by decide), fin I' _ (fun q => absurd q hq) (fun _ => hx')⟩
theorem MO_round (h : MI I pn pg n Y T t tr kp wn wt yr dn) : ∃ I', mj_call mj_P (d + 4) kn_M_round [.ref 45] (HP L dy I y y1 n1 w1 c y2 R J) (some (.int (if n = 0 then Int32.ofInt (-103) else rdA Y n T))) (HP L dy I' y y1 n1 w1 c y2 R J) ∧ MI I' pn pg n Y T t tr kp wn wt yr dn ∧ Fr wk wa' I I' := by
  by_cases hn : n = 0
  · rw [if_pos hn]
    refine ⟨I, ?_, h, (Fr.rf I).w (by simp) (by simp)⟩
    refine mj_ci rfl (Nat.le_of_ble_eq_true rfl) ?_
    refine mj_run 1 rfl trivial ?_
    refine mj_cal rfl rfl (M_lacks h.2.1) ?_
    rw [if_pos hn]
    refine mj_brf rfl rfl (by decide) ?_
    refine mj_run 1 rfl trivial ?_
    exact mj_end rfl rfl trivial
  · rw [if_neg hn]
    have h0 := h
    obtain ⟨h1, h2, h3, h4, h5, h6, h7⟩ := h
    have hn10 : n ≤ 10 := h2.2.1.1
    have fc := Fr.c I (dst := 55) (by decide) 53 10
    have hYc : MY (cpI I 55 53 10) n Y := h2.fr fc (by decide)
    have hTc : RI (cpI I 55 53 10) 55 n T := fun i hi => by rw [cpI_at (by omega)]; exact h3.1 i hi
    obtain ⟨hf1, hf2, hf3⟩ := ro_ok (q := none) h2.2.1 500 (10, T, 0) (by show 10 < 10 + n; omega) h3.2
    have start : ∀ (v : Option Value) (h' : mjH), mj_Rd (mj_call mj_P (d + 3)) kc_M_round 1 (52, [some (.ref 45), none, none, none, none], [], HP L dy (rsI (cpI I 55 53 10) n (ro Y none 500 (10, T, 0))) y y1 n1 w1 c y2 R J) v h' → mj_call mj_P (d + 4) kn_M_round [.ref 45] (HP L dy I y y1 n1 w1 c y2 R J) v h' := by
      intro v h' hx
      refine mj_ci rfl (Nat.le_of_ble_eq_true rfl) ?_
      refine mj_run 1 rfl trivial ?_
      refine mj_cal rfl rfl (M_lacks h2) ?_
      rw [if_neg hn]
      refine mj_brt rfl rfl (by decide) ?_
      refine mj_run 1 rfl trivial ?_
      refine mj_cal rfl rfl M_layTried ?_
      refine mj_run 6 rfl trivial ?_
      rw [rsI_0 hTc]
      exact M_rollR hYc 500 _ rfl (by show 10 < 10 + n; omega) h3.2 hx
    unfold rdA
    generalize ro Y none 500 (10, T, 0) = f at hf1 hf2 hf3 start
    have fr : Fr [19, 20] [55] I (rsI (cpI I 55 53 10) n f) := ⟨fun a g1 g2 => by simp at g1; simp [rsI, cpI, g1, g2], fun k g => by simp at g; simp [rsI, cpI, upd, g]⟩
    have e19 : rsI (cpI I 55 53 10) n f 45 19 = nI f.1 := by simp [rsI, upd]
    have e20 : rsI (cpI I 55 53 10) n f 45 20 = nI f.2.2 := by simp [rsI, upd]
    have eT : RI (rsI (cpI I 55 53 10) n f) 55 n f.2.1 := fun i hi => by simp [rsI, hi]
    generalize rsI (cpI I 55 53 10) n f = Z at start fr e19 e20 eT
    by_cases g : f.1 < 10
    · rw [if_pos g]
      refine ⟨Z, start _ _ ?_, h0.work (fr.w (by decide) (by decide)), fr.w (by decide) (by decide)⟩
      refine mj_run 3 rfl trivial ?_
      rw [e19]
      refine mj_brf rfl rfl (by rw [nI_leI (by decide) (by omega)]; omega) ?_
      refine mj_run 1 rfl trivial ?_
      exact mj_end rfl rfl trivial
    · rw [if_neg g]
      have f2 := fr.tr (Fr.c Z (dst := 56) (by decide) 55 10)
      obtain ⟨I', hf', hx'⟩ := M_roundLoop (d := d) (L := L) (dy := dy) (y := y) (y1 := y1) (n1 := n1) (w1 := w1) (c := c) (y2 := y2) (R := R) (J := J) (at' := f.1) (A := f.2.1) hf2 (by omega) 500 1 (cpI Z 56 55 10) f none none rfl rfl (h2.fr f2 (by decide)) (by simp [cpI, e19]) (by simp [cpI, e20]) g hf1 (fun i hi => by rw [cpI_ne (by decide)]; exact eT i hi) hf2 (fun i hi => by rw [cpI_at (by omega)]; exact eT i hi)
      have ff := (f2.tr hf').w (ks' := wk) (as' := wa') (by decide) (by decide)
      refine ⟨I', start _ _ ?_, h0.work ff, ff⟩
      refine mj_run 3 rfl trivial ?_
      rw [e19]
      refine mj_brt rfl rfl (by rw [nI_leI (by decide) (by omega)]; omega) ?_
      refine mj_run 5 rfl trivial ?_
      rw [e19]
      have key := dn_ind 10 (fun p => mj_Rd (mj_call mj_P (d + 3)) kc_M_round 1 (70, [some (.ref 45), some (.int (nI f.1)), some (.int (nI p)), none, none], [], HP L dy (cpI Z 56 55 p) y y1 n1 w1 c y2 R J) (some (.int (rnd Y n f.1 f.2.1 500 1 f))) (HP L dy I' y y1 n1 w1 c y2 R J)) ?_ ?_ 0 (by omega)
      · rw [cpI_0] at key
        exact key
      · refine mj_run 2 rfl trivial ?_
        refine mj_brt rfl rfl (by decide) ?_
        refine mj_run 2 rfl trivial ?_
        exact hx'
      · intro p hp ih
        refine mj_run 2 rfl trivial ?_
        refine mj_brf rfl rfl (by rw [nI_leI (by decide) (by omega)]; omega) ?_
        refine mj_run 10 rfl ⟨nI_vi (by omega) (by decide), nI_vi (by omega) (by decide), by decide⟩ ?_
        rw [nI_nc (by omega), cpI_s (by decide), nI_add]
        exact ih
end MM
end
section
/-! letters: the bytes of a number -/
def by8 (w : Int64) (k : Nat) : Nat := (w.toBitVec.toNat >>> (8 * k)) % 256
theorem l_self (w : Int64) : w = lN w.toBitVec.toNat := by
  apply Int64.toBitVec_inj.1
  show w.toBitVec = BitVec.ofNat 64 w.toBitVec.toNat
  simp
theorem l_s : ∀ k, k < 8 → ((nI (8 * k)).toInt64.toUInt64 &&& Int64.toUInt64 63) = UInt64.ofNat (8 * k) := by decide
theorem l_sh {W k : Nat} (hW : W < 2 ^ 64) (hk : k < 8) : ((lN W).toUInt64 >>> ((nI (8 * k)).toInt64.toUInt64 &&& Int64.toUInt64 63)).toInt64 = lN (W >>> (8 * k)) := by
  rw [l_s k hk]
  apply Int64.toBitVec_inj.1
  show BitVec.ofNat 64 W >>> (UInt64.mod (UInt64.ofNat (8 * k)) 64).toBitVec = BitVec.ofNat 64 (W >>> (8 * k))
  have e : (UInt64.mod (UInt64.ofNat (8 * k)) 64).toBitVec.toNat = 8 * k := by
    have : ∀ k, k < 8 → (UInt64.mod (UInt64.ofNat (8 * k)) 64).toBitVec.toNat = 8 * k := by decide
    exact this k hk
  apply BitVec.eq_of_toNat_eq
  have h2 : W >>> (8 * k) < 2 ^ 64 := Nat.lt_of_le_of_lt (by rw [Nat.shiftRight_eq_div_pow]; exact Nat.div_le_self _ _) hW
  show (BitVec.ofNat 64 W >>> (UInt64.mod (UInt64.ofNat (8 * k)) 64).toBitVec.toNat).toNat = _
  rw [e, BitVec.toNat_ushiftRight, BitVec.toNat_ofNat, BitVec.toNat_ofNat, Nat.mod_eq_of_lt hW, Nat.mod_eq_of_lt h2]
theorem l_and (W : Nat) : (lN W &&& lN 255).toInt32 = nI (W % 256) := by
  apply Int32.toBitVec_inj.1
  show (BitVec.ofNat 64 W &&& BitVec.ofNat 64 255).signExtend 32 = BitVec.ofNat 32 (W % 256)
  rw [BitVec.signExtend_eq_setWidth_of_le _ (by decide)]
  apply BitVec.eq_of_toNat_eq
  rw [BitVec.toNat_setWidth, BitVec.toNat_and, BitVec.toNat_ofNat, BitVec.toNat_ofNat, BitVec.toNat_ofNat]
  rw [show 255 % 2 ^ 64 = 2 ^ 8 - 1 by decide, Nat.and_two_pow_sub_one_eq_mod]
  omega
theorem l_and2 (W : Nat) : (lN W).toInt32 &&& nI 255 = nI (W % 256) := by
  apply Int32.toBitVec_inj.1
  show (BitVec.ofNat 64 W).signExtend 32 &&& BitVec.ofNat 32 255 = BitVec.ofNat 32 (W % 256)
  rw [BitVec.signExtend_eq_setWidth_of_le _ (by decide)]
  apply BitVec.eq_of_toNat_eq
  rw [BitVec.toNat_and, BitVec.toNat_setWidth, BitVec.toNat_ofNat, BitVec.toNat_ofNat, BitVec.toNat_ofNat]
  rw [show 255 % 2 ^ 32 = 2 ^ 8 - 1 by decide, Nat.and_two_pow_sub_one_eq_mod]
  omega
def lcM (w : Int64) : Nat → Nat
  | 0 => 0
  | k + 1 => lcM w k + if 0 < by8 w k then 1 else 0
def lcG (w : Int64) : Nat → Bool
  | 0 => true
  | k + 1 => lcG w k && (decide (by8 w k ≤ 126) && (decide (by8 w k = 0) || decide (lcM w k = k)))
theorem lcM_le (w : Int64) : ∀ k, lcM w k ≤ k
  | 0 => Nat.le_refl 0
  | k + 1 => by
    have := lcM_le w k
    unfold lcM
    split <;> omega
theorem by8_lt (w : Int64) (k : Nat) : by8 w k < 256 := Nat.mod_lt _ (by decide)
theorem lcG_mono {w : Int64} : ∀ j k, lcG w (k + j) = true → lcG w k = true
  | 0, k, h => h
  | j + 1, k, h => by
    have h' : (lcG w (k + j) && _) = true := h
    rw [Bool.and_eq_true] at h'
    exact lcG_mono j k h'.1
theorem lcG_in {w : Int64} : ∀ k, lcG w k = true → ∀ i, i < lcM w k → 1 ≤ by8 w i ∧ by8 w i ≤ 126
  | 0, _, i, hi => by simp [lcM] at hi
  | k + 1, h, i, hi => by
    have hle := lcM_le w k
    unfold lcG at h
    rw [Bool.and_eq_true, Bool.and_eq_true, Bool.or_eq_true, decide_eq_true_iff, decide_eq_true_iff, decide_eq_true_iff] at h
    obtain ⟨h1, h2, h3⟩ := h
    have hi' : i < lcM w k + if 0 < by8 w k then 1 else 0 := hi
    by_cases e : i < lcM w k
    · exact lcG_in k h1 i e
    · split at hi'
      · have : i = k := by omega
        subst this
        exact ⟨by omega, h2⟩
      · omega
def ltA (w : Int64) (pn : Nat) : Int32 := if lcG w 8 = true then (if pn + lcM w 8 ≤ 50 then nI (pn + lcM w 8) else Int32.ofInt (-104)) else Int32.ofInt (-102)
def ltN (w : Int64) (pn : Nat) : Nat := if lcG w 8 = true ∧ pn + lcM w 8 ≤ 50 then pn + lcM w 8 else pn
def ltP (w : Int64) (pn : Nat) (pg : Nat → Nat) : Nat → Nat := fun i => if i < pn then pg i else by8 w (i - pn)
section MM
variable {d L : Nat} {dy : mjM} {I : mjI} {y y1 n1 w1 c y2 : Option Nat} {R : mjR} {J : mjJ} {pn : Nat} {pg : Nat → Nat} {n : Nat} {Y : Yd} {T : Nat → Nat} {t : Nat} {tr : Nat → Nat} {kp : Kp} {wn : Nat} {wt : Nat → Nat} {yr dn : Nat}
theorem MO_letters (h : MI I pn pg n Y T t tr kp wn wt yr dn) (w : Int64) : ∃ I', mj_call mj_P (d + 1) kn_M_letters [.ref 45, .long w] (HP L dy I y y1 n1 w1 c y2 R J) (some (.int (ltA w pn))) (HP L dy I' y y1 n1 w1 c y2 R J) ∧ MI I' (ltN w pn) (ltP w pn pg) n Y T t tr kp wn wt yr dn ∧ Fr [1] [46] I I' := by
  have h0 := h
  obtain ⟨h1, h2, h3, h4, h5, h6, h7⟩ := h
  obtain ⟨p1, p2, p3⟩ := h1
  have hW : w.toBitVec.toNat < 2 ^ 64 := w.toBitVec.isLt
  have hM8 := lcM_le w 8
  have start : ∀ (v : Option Value) (h' : mjH), (mj_Rd (mj_call mj_P d) kc_M_letters 1 (83, [some (.ref 45), some (.long w), none, some (.int (nI (lcM w 8))), some (.int (nI (if lcG w 8 then 1 else 0))), some (.long (lN (w.toBitVec.toNat >>> (8 * 8)))), none, some (.int (nI 8)), some (.int (nI (by8 w 7)))], [], HP L dy I y y1 n1 w1 c y2 R J) v h') → mj_call mj_P (d + 1) kn_M_letters [.ref 45, .long w] (HP L dy I y y1 n1 w1 c y2 R J) v h' := by
    intro v h' hx
    refine mj_ci rfl (Nat.le_of_ble_eq_true rfl) ?_
    refine mj_run 8 rfl trivial ?_
    have key := dn_ind 8 (fun k => ∀ l8 : Option Value, (k = 8 → l8 = some (.int (nI (by8 w 7)))) → mj_Rd (mj_call mj_P d) kc_M_letters 1 (11, [some (.ref 45), some (.long w), none, some (.int (nI (lcM w k))), some (.int (nI (if lcG w k then 1 else 0))), some (.long (lN (w.toBitVec.toNat >>> (8 * k)))), none, some (.int (nI k)), l8], [], HP L dy I y y1 n1 w1 c y2 R J) v h') ?_ ?_ 0 (by omega) none (fun q => by omega)
    · rw [show w.toBitVec.toNat >>> (8 * 0) = w.toBitVec.toNat from rfl, ← l_self w] at key
      exact key
    · intro l8 hl
      rw [hl rfl]
      refine mj_run 2 rfl trivial ?_
      refine mj_brt rfl rfl (by decide) ?_
      exact hx
    · intro k hk ih l8 _
      have hle := lcM_le w k
      have hb := by8_lt w k
      have hWk : w.toBitVec.toNat >>> (8 * k) < 2 ^ 64 := Nat.lt_of_le_of_lt (by rw [Nat.shiftRight_eq_div_pow]; exact Nat.div_le_self _ _) hW
      have esh : ((lN (w.toBitVec.toNat >>> (8 * k))).toUInt64 >>> ((nI 8).toInt64.toUInt64 &&& Int64.toUInt64 63)).toInt64 = lN (w.toBitVec.toNat >>> (8 * (k + 1))) := by
        have := l_sh (k := 1) hWk (by decide)
        rw [show 8 * 1 = 8 from rfl] at this
        rw [this, ← Nat.shiftRight_add, Nat.mul_add]
      refine mj_run 2 rfl trivial ?_
      refine mj_brf rfl rfl (by rw [nI_leI (by decide) (by omega)]; omega) ?_
      refine mj_run 10 rfl trivial ?_
      rw [l_and, esh]
      rw [show w.toBitVec.toNat >>> (8 * k) % 256 = by8 w k from rfl]
      -- the second half
      have half : ∀ z : Int32, z = nI (if lcG w (k + 1) then 1 else 0) → mj_Rd (mj_call mj_P d) kc_M_letters 1 (62, [some (.ref 45), some (.long w), none, some (.int (nI (lcM w k))), some (.int (nI (if lcG w k then 1 else 0))), some (.long (lN (w.toBitVec.toNat >>> (8 * (k + 1))))), none, some (.int (nI k)), some (.int (nI (by8 w k)))], [.int z], HP L dy I y y1 n1 w1 c y2 R J) v h' := by
        intro z hz
        subst hz
        refine mj_run 3 rfl trivial ?_
        have ihk := ih (some (.int (nI (by8 w k)))) (fun q => by rw [show k = 7 by omega])
        refine mj_bra rfl rfl (fun g => ?_) (fun g => ?_)
        · rw [show (0 : Int32) = nI 0 from rfl, nI_leI (by omega) (by decide)] at g
          rw [show lcM w (k + 1) = lcM w k + 0 by simp [lcM]; omega] at ihk
          refine mj_run 1 rfl trivial ?_
          refine mj_run 4 rfl trivial ?_
          rw [nI_add, nI_add]
          exact ihk
        · rw [show (0 : Int32) = nI 0 from rfl, nI_leI (by omega) (by decide)] at g
          rw [show lcM w (k + 1) = lcM w k + 1 by simp [lcM]; omega] at ihk
          refine mj_run 2 rfl trivial ?_
          refine mj_run 4 rfl trivial ?_
          rw [nI_add, nI_add]
          exact ihk
      have hG : lcG w (k + 1) = (lcG w k && (decide (by8 w k ≤ 126) && (decide (by8 w k = 0) || decide (lcM w k = k)))) := rfl
      cases hg : lcG w k with
      | false =>
        rw [hg] at half
        refine mj_brt rfl rfl (by decide) ?_
        refine mj_run 1 rfl trivial ?_
        exact half _ (by rw [hG, hg]; rfl)
      | true =>
        rw [hg] at half
        refine mj_brf rfl rfl (by decide) ?_
        refine mj_run 2 rfl trivial ?_
        refine mj_bra rfl rfl (fun g => ?_) (fun g => ?_)
        · rw [nI_ltI (by decide) (by omega)] at g
          refine mj_run 1 rfl trivial ?_
          exact half _ (by rw [hG, hg, decide_eq_false (show ¬ by8 w k ≤ 126 by omega)]; rfl)
        · rw [nI_ltI (by decide) (by omega)] at g
          have g126 : by8 w k ≤ 126 := by omega
          refine mj_run 1 rfl trivial ?_
          refine mj_bra rfl rfl (fun g0 => ?_) (fun g0 => ?_)
          · rw [nI_z (by omega)] at g0
            refine mj_run 2 rfl trivial ?_
            exact half _ (by rw [hG, hg, decide_eq_true g126, decide_eq_true g0]; rfl)
          · rw [nI_z (by omega)] at g0
            refine mj_run 2 rfl trivial ?_
            refine mj_bra rfl rfl (fun g2 => ?_) (fun g2 => ?_)
            · rw [nI_e (by omega) (by omega)] at g2
              refine mj_run 1 rfl trivial ?_
              exact half _ (by rw [hG, hg, decide_eq_true g126, decide_eq_false g0, decide_eq_false g2]; rfl)
            · rw [nI_e (by omega) (by omega)] at g2
              refine mj_run 2 rfl trivial ?_
              exact half _ (by rw [hG, hg, decide_eq_true g126, decide_eq_false g0, decide_eq_true (Classical.not_not.mp g2)]; rfl)
  unfold ltA ltN
  cases hg : lcG w 8 with
  | false =>
    rw [hg] at start
    rw [if_neg (by decide), if_neg (by simp)]
    refine ⟨I, start _ _ ?_, ⟨⟨p1, p2, fun i hi => ?_⟩, h2, h3, h4, h5, h6, h7⟩, (Fr.rf I).w (by simp) (by simp)⟩
    · refine mj_run 1 rfl trivial ?_
      refine mj_brf rfl rfl (by decide) ?_
      refine mj_run 1 rfl trivial ?_
      exact mj_end rfl rfl trivial
    · unfold ltP
      rw [if_pos hi]
      exact p3 i hi
  | true =>
    have hin := lcG_in 8 hg
    rw [hg] at start
    rw [if_pos rfl]
    by_cases hle : pn + lcM w 8 ≤ 50
    · rw [if_pos hle, if_pos ⟨rfl, hle⟩]
      have lp := dn_ind (lcM w 8) (fun k => ∀ (X : mjI) (l8 : Option Value), Fr [1] [46] I X → X 45 1 = nI (pn + k) → (∀ i, i < pn + k → X 46 i = nI (ltP w pn pg i)) → ∃ I', (Fr [1] [46] I I' ∧ I' 45 1 = nI (pn + lcM w 8) ∧ (∀ i, i < pn + lcM w 8 → I' 46 i = nI (ltP w pn pg i))) ∧ mj_Rd (mj_call mj_P d) kc_M_letters 1 (108, [some (.ref 45), some (.long w), none, some (.int (nI (lcM w 8))), some (.int (nI (if true = true then 1 else 0))), some (.long (lN (w.toBitVec.toNat >>> (8 * 8)))), none, some (.int (nI k)), l8], [], HP L dy X y y1 n1 w1 c y2 R J) (some (.int (nI (pn + lcM w 8)))) (HP L dy I' y y1 n1 w1 c y2 R J)) ?_ ?_ 0 (by omega)
      · obtain ⟨I', ⟨hf, e1, e46⟩, hx⟩ := lp I (some (.int (nI (by8 w 7)))) ((Fr.rf I).w (by simp) (by simp)) p1 (fun i hi => by unfold ltP; rw [if_pos (show i < pn from hi)]; exact (p3 i hi).1)
        refine ⟨I', ?_, ⟨⟨e1, hle, fun i hi => ⟨e46 i hi, ?_⟩⟩, h2.fr hf (by decide), h3.fr hf (by decide), h4.fr hf (by decide), h5.fr hf (by decide), h6.fr hf (by decide), h7.fr hf (by decide)⟩, hf⟩
        · refine start _ _ ?_
          refine mj_run 1 rfl trivial ?_
          refine mj_brt rfl rfl (by decide) ?_
          refine mj_run 5 rfl trivial ?_
          rw [p1, nI_add]
          refine mj_brt rfl rfl (by rw [nI_leI (by omega) (by decide)]; exact hle) ?_
          refine mj_run 2 rfl trivial ?_
          exact hx
        · unfold ltP
          split
          · exact (p3 i ‹_›).2
          · exact hin _ (by omega)
      · intro X l8 hf e1 e46
        refine ⟨X, ⟨hf, e1, e46⟩, ?_⟩
        refine mj_run 2 rfl trivial ?_
        refine mj_brt rfl rfl (by rw [nI_leI (by omega) (by omega)]; omega) ?_
        refine mj_run 2 rfl trivial ?_
        rw [e1]
        exact mj_end rfl rfl trivial
      · intro k hk ih X l8 hf e1 e46
        have esh : ((w).toUInt64 >>> ((nI 8 * nI k).toInt64.toUInt64 &&& Int64.toUInt64 63)).toInt64 = lN (w.toBitVec.toNat >>> (8 * k)) := by
          rw [pk_mul]
          have := l_sh (W := w.toBitVec.toNat) (k := k) hW (by omega)
          rw [← l_self w] at this
          exact this
        obtain ⟨I', hA, hx⟩ := ih (mj_ui (mj_ui X 46 (pn + k) (nI (by8 w k))) 45 1 (nI (pn + k + 1))) l8 ((hf.tr ((Fr.a X (a := 46) (by decide) _ _).tr (Fr.u _ 1 _))).w (by decide) (by decide)) (by simp [mj_ui, upd, Nat.add_assoc]) (fun i hi => by
          by_cases e : i = pn + k
          · subst e
            unfold ltP
            rw [if_neg (by omega), Nat.add_sub_cancel_left]
            simp [mj_ui, upd]
          · have := e46 i (by omega)
            simp [mj_ui, upd, e, this])
        refine ⟨I', hA, ?_⟩
        refine mj_run 2 rfl trivial ?_
        refine mj_brf rfl rfl (by rw [nI_leI (by omega) (by omega)]; omega) ?_
        refine mj_run 21 rfl ⟨by rw [e1]; exact nI_vi (by omega) (by decide), by decide⟩ ?_
        rw [esh, l_and, e1, nI_nc (by omega)]
        have e1' : mj_ui X 46 (pn + k) (nI (w.toBitVec.toNat >>> (8 * k) % 256)) 45 1 = nI (pn + k) := by
          simp [mj_ui, e1]
        rw [e1', nI_add, nI_add]
        exact hx
    · rw [if_neg hle, if_neg (fun q => hle q.2)]
      refine ⟨I, start _ _ ?_, ⟨⟨p1, p2, fun i hi => ?_⟩, h2, h3, h4, h5, h6, h7⟩, (Fr.rf I).w (by simp) (by simp)⟩
      · refine mj_run 1 rfl trivial ?_
        refine mj_brt rfl rfl (by decide) ?_
        refine mj_run 5 rfl trivial ?_
        rw [p1, nI_add]
        refine mj_brf rfl rfl (by rw [nI_leI (by omega) (by decide)]; exact hle) ?_
        refine mj_run 1 rfl trivial ?_
        exact mj_end rfl rfl trivial
      · unfold ltP
        rw [if_pos hi]
        exact p3 i hi
end MM
end
section
/-! reading a yard: (switch, its ways, signed, the most, what is read) -/
abbrev Ps : Type := Nat × Nat × Bool × Nat × Yd
def sg (c : Nat) : Nat := if c = 61 then 1 else if c = 126 then 2 else if c = 94 then 3 else 0
def po (c : Nat) : Option Nat := if 48 ≤ c ∧ c ≤ 57 then some (c - 48) else if 97 ≤ c ∧ c ≤ 106 then some (10 + c - 97) else none
def f2 (f : Nat → Nat → Nat) (p k x : Nat) : Nat → Nat → Nat := fun q => if q = p then fu (f p) k x else f q
def goS (c : Nat) (s : Ps) : Option Ps :=
  if 0 < sg c then (if s.2.1 = 0 ∧ s.2.2.1 = false then some (s.1, s.2.1, true, s.2.2.2.1, (fu s.2.2.2.2.1 s.1 (sg c), s.2.2.2.2.2)) else none)
  else if c = 59 then (if 0 < s.2.1 ∧ s.1 < 9 then some (s.1 + 1, 0, false, s.2.2.2.1, s.2.2.2.2) else none)
  else match po c with
    | none => none
    | some to => if s.2.1 = 3 then none else some (s.1, s.2.1 + 1, s.2.2.1, max s.2.2.2.1 (to - 10), (s.2.2.2.2.1, fu s.2.2.2.2.2.1 s.1 (s.2.1 + 1), f2 s.2.2.2.2.2.2 s.1 s.2.1 to))
def PsOK (s : Ps) : Prop := s.1 ≤ 9 ∧ s.2.1 ≤ 3 ∧ s.2.2.2.1 ≤ 9 ∧ s.2.2.2.2.2.1 s.1 = s.2.1 ∧ (∀ p, p < s.1 → 1 ≤ s.2.2.2.2.2.1 p ∧ s.2.2.2.2.2.1 p ≤ 3) ∧ (∀ p, s.1 < p → s.2.2.2.2.1 p = 0 ∧ s.2.2.2.2.2.1 p = 0) ∧ (∀ p, s.2.2.2.2.1 p < 4) ∧ ∀ p w, w < s.2.2.2.2.2.1 p → s.2.2.2.2.2.2 p w ≤ 10 + s.2.2.2.1
def MPs (I : mjI) (s : Ps) : Prop := I 45 2 = nI s.1 ∧ I 45 3 = nI s.2.1 ∧ I 45 4 = nI (if s.2.2.1 then 1 else 0) ∧ I 45 5 = nI s.2.2.2.1 ∧ ∀ p, p ≤ s.1 → I 47 p = nI (s.2.2.2.2.1 p) ∧ (0 < s.2.2.2.2.2.1 p → I 48 p = nI (s.2.2.2.2.2.1 p)) ∧ ∀ w, w < s.2.2.2.2.2.1 p → I 49 (3 * p + w) = nI (s.2.2.2.2.2.2 p w)
def ps0 : Ps := (0, 0, false, 0, (fun _ => 0, fun _ => 0, fun _ _ => 0))
theorem ps0_ok : PsOK ps0 := by
  refine ⟨by decide, by decide, by decide, rfl, fun p hp => absurd hp (Nat.not_lt_zero p), fun p _ => ⟨rfl, rfl⟩, fun p => by show (0 : Nat) < 4; decide, fun p w hw => absurd hw (Nat.not_lt_zero w)⟩
theorem sg_lt (c : Nat) : sg c < 4 := by
  unfold sg
  split
  · decide
  · split
    · decide
    · split <;> decide
theorem po_lt {c z : Nat} (h : po c = some z) : z < 20 := by
  unfold po at h
  split at h
  · cases h; omega
  · split at h
    · cases h; omega
    · cases h
theorem goS_ok {c : Nat} {s s' : Ps} (h : PsOK s) (hg : goS c s = some s') : PsOK s' := by
  obtain ⟨m, w, b, mx, K, C, W⟩ := s
  obtain ⟨h1, h2, h3, h4, h5, h6, h7, h8⟩ := h
  dsimp only at h1 h2 h3 h4 h5 h6 h7 h8
  unfold goS at hg
  dsimp only at hg
  split at hg
  · split at hg
    · cases hg
      refine ⟨h1, h2, h3, h4, h5, fun p hp => ⟨?_, (h6 p hp).2⟩, fun p => ?_, h8⟩
      · dsimp only [fu] at hp ⊢
        rw [if_neg (by omega)]
        exact (h6 p hp).1
      · dsimp only [fu]
        split
        · exact sg_lt c
        · exact h7 p
    · cases hg
  · split at hg
    · split at hg
      · rename_i hw
        cases hg
        refine ⟨by dsimp only; omega, by dsimp only; omega, h3, ?_, fun p hp => ?_, fun p hp => ?_, h7, h8⟩
        · exact (h6 _ (by dsimp only; omega)).2
        · dsimp only at hp ⊢
          by_cases e : p = m
          · subst e; rw [h4]; omega
          · exact h5 p (by omega)
        · exact h6 p (by dsimp only at hp ⊢; omega)
      · cases hg
    · split at hg
      · cases hg
      · rename_i to hto
        have := po_lt hto
        split at hg
        · cases hg
        · cases hg
          refine ⟨h1, by dsimp only; omega, by dsimp only; omega, by simp [fu], fun p hp => ?_, fun p hp => ?_, h7, fun p w' hw' => ?_⟩
          · dsimp only [fu] at hp ⊢
            rw [if_neg (by omega)]
            exact h5 p hp
          · dsimp only [fu] at hp ⊢
            rw [if_neg (by omega)]
            exact h6 p hp
          · dsimp only [fu, f2] at hw' ⊢
            by_cases e : p = m
            · subst e
              rw [if_pos rfl] at hw' ⊢
              dsimp only [fu]
              split
              · omega
              · have := h8 p w' (by omega)
                omega
            · rw [if_neg e] at hw' ⊢
              have := h8 p w' hw'
              omega
def scF (pg : Nat → Nat) : Nat → Nat → Ps → Nat × Option Ps
  | 0, k, s => (k, some s)
  | f + 1, k, s => match goS (pg k) s with
    | none => (k, none)
    | some s' => scF pg f (k + 1) s'
theorem scF_ok {pg : Nat → Nat} : ∀ f k s, PsOK s → (scF pg f k s).1 ≤ k + f ∧ (∀ s', (scF pg f k s).2 = some s' → PsOK s' ∧ (scF pg f k s).1 = k + f) ∧ ((scF pg f k s).2 = none → (scF pg f k s).1 < k + f)
  | 0, k, s, h => ⟨Nat.le_refl _, fun s' e => by cases e; exact ⟨h, rfl⟩, fun e => by cases e⟩
  | f + 1, k, s, h => by
    cases hg : goS (pg k) s with
    | none =>
      rw [show scF pg (f + 1) k s = (k, none) by simp [scF, hg]]
      exact ⟨by dsimp only; omega, fun s' e => (by cases e), fun _ => by dsimp only; omega⟩
    | some s' =>
      rw [show scF pg (f + 1) k s = scF pg f (k + 1) s' by simp [scF, hg]]
      have ih := scF_ok (pg := pg) f (k + 1) s' (goS_ok h hg)
      rw [show k + (f + 1) = k + 1 + f by omega]
      exact ih
/-- the yard that a page holds -/
def ydS (pg : Nat → Nat) (pn : Nat) : Option (Nat × Yd) := match (scF pg pn 0 ps0).2 with
  | none => none
  | some s => if 0 < s.2.1 ∧ s.2.2.2.1 ≤ s.1 then some (s.1 + 1, s.2.2.2.2) else none
theorem ydS_ok {pg : Nat → Nat} {pn n : Nat} {Y : Yd} (h : ydS pg pn = some (n, Y)) : YOK n Y ∧ 1 ≤ n := by
  have hs := (scF_ok (pg := pg) pn 0 ps0 ps0_ok).2.1
  unfold ydS at h
  cases hq : (scF pg pn 0 ps0).2 with
  | none => rw [hq] at h; cases h
  | some s =>
    rw [hq] at h
    dsimp only at h
    obtain ⟨⟨h1, h2, h3, h4, h5, h6, h7, h8⟩, -⟩ := hs s hq
    split at h
    · rename_i hw
      cases h
      refine ⟨⟨by omega, fun p hp => ⟨h7 p, ?_⟩⟩, by omega⟩
      have hc : 1 ≤ s.2.2.2.2.2.1 p ∧ s.2.2.2.2.2.1 p ≤ 3 := by
        by_cases e : p = s.1
        · subst e; rw [h4]; omega
        · exact h5 p (by omega)
      exact ⟨hc.1, hc.2, fun w hw' => by have := h8 p w hw'; omega⟩
    · cases h
theorem i32_z {x : Nat} (hx : x < 2147483648) : nI x ≤ 0 ↔ x = 0 := by
  rw [show (0 : Int32) = nI 0 from rfl, nI_leI hx (by decide)]
  omega
section MM
variable {d L : Nat} {dy : mjM} {I : mjI} {y y1 n1 w1 c y2 : Option Nat} {R : mjR} {J : mjJ} {pn : Nat} {pg : Nat → Nat} {n : Nat} {Y : Yd} {T : Nat → Nat} {t : Nat} {tr : Nat → Nat} {kp : Kp} {wn : Nat} {wt : Nat → Nat} {yr dn : Nat}
theorem M_signOf {x : Nat} {h : mjH} (hx : x ≤ 126) : mj_call mj_P (d + 1) kn_M_signOf [.int (nI x)] h (some (.int (nI (sg x)))) h := by
  unfold sg
  refine mj_ci rfl (Nat.le_of_ble_eq_true rfl) ?_
  refine mj_run 2 rfl trivial ?_
  refine mj_bra rfl rfl (fun g => ?_) (fun g => ?_)
  · rw [nI_e (by omega) (by decide)] at g
    rw [if_neg g]
    refine mj_run 2 rfl trivial ?_
    refine mj_bra rfl rfl (fun g => ?_) (fun g => ?_)
    · rw [nI_e (by omega) (by decide)] at g
      rw [if_neg g]
      refine mj_run 2 rfl trivial ?_
      refine mj_bra rfl rfl (fun g => ?_) (fun g => ?_)
      · rw [nI_e (by omega) (by decide)] at g
        rw [if_neg g]
        refine mj_run 1 rfl trivial ?_
        exact mj_end rfl rfl trivial
      · rw [nI_e (by omega) (by decide)] at g
        rw [if_pos (Classical.not_not.mp g)]
        refine mj_run 2 rfl trivial ?_
        exact mj_end rfl rfl trivial
    · rw [nI_e (by omega) (by decide)] at g
      rw [if_pos (Classical.not_not.mp g)]
      refine mj_run 2 rfl trivial ?_
      exact mj_end rfl rfl trivial
  · rw [nI_e (by omega) (by decide)] at g
    rw [if_pos (Classical.not_not.mp g)]
    refine mj_run 2 rfl trivial ?_
    exact mj_end rfl rfl trivial
theorem lN_in {x lo hi : Nat} (hx : x < 2147483648) (hl : lo < 2147483648) (hh : hi < 2147483648) : (lN lo ≤ (nI x).toInt64 ∧ (nI x).toInt64 ≤ lN hi) ↔ (lo ≤ x ∧ x ≤ hi) := by
  rw [Int64.le_iff_toInt_le, Int64.le_iff_toInt_le, Int32.toInt_toInt64, lN_toInt hl, lN_toInt hh, nI_toInt hx]
  omega
theorem M_go {x : Nat} {s : Ps} (hx : x ≤ 126) (hs : PsOK s) (hM : MPs I s) : ∃ I', mj_call mj_P (d + 2) kn_M_go [.ref 45, .int (nI x)] (HP L dy I y y1 n1 w1 c y2 R J) (some (.int (nI (if (goS x s).isSome then 1 else 0)))) (HP L dy I' y y1 n1 w1 c y2 R J) ∧ Fr [2, 3, 4, 5] [47, 48, 49] I I' ∧ ∀ s', goS x s = some s' → MPs I' s' := by
  obtain ⟨m, w, b, mx, K, C, W⟩ := s
  obtain ⟨h1, h2, h3, h4, h5, h6, h7, h8⟩ := hs
  obtain ⟨e2, e3, e4, e5, eR⟩ := hM
  dsimp only at h1 h2 h3 h4 h5 h6 h7 h8 e2 e3 e4 e5 eR
  have hsg := sg_lt x
  by_cases gs : 0 < sg x
  · have hgo : goS x (m, w, b, mx, K, C, W) = if w = 0 ∧ b = false then some (m, w, true, mx, (fu K m (sg x), C, W)) else none := by
      unfold goS
      rw [if_pos gs]
    have hso : nI (if (goS x (m, w, b, mx, K, C, W)).isSome then 1 else 0) = nI (if w = 0 ∧ b = false then 1 else 0) := by
      rw [hgo]
      by_cases q : w = 0 ∧ b = false
      · simp [q]
      · rw [if_neg q, if_neg q]; rfl
    rw [hso, hgo]
    have fr : Fr ([] ++ [4]) ([47] ++ []) I (mj_ui (mj_ui I 47 m (nI (sg x))) 45 4 (nI 1)) := (Fr.a I (by decide) m _).tr (Fr.u _ 4 _)
    refine ⟨mj_ui (mj_ui I 47 m (nI (sg x))) 45 4 (nI 1), ?_, fr.w (by decide) (by decide), ?_⟩
    · refine mj_ci rfl (Nat.le_of_ble_eq_true rfl) ?_
      refine mj_run 1 rfl trivial ?_
      refine mj_cal rfl rfl (M_signOf hx) ?_
      refine mj_brf rfl rfl (by rw [i32_z (by omega)]; omega) ?_
      have half : ∀ z : Int32, z = nI (if w = 0 ∧ b = false then 1 else 0) → mj_Rd (mj_call mj_P (d + 1)) kc_M_go 2 (26, [some (.ref 45), some (.int (nI x)), none, none], [.int z], HP L dy I y y1 n1 w1 c y2 R J) (some (.int (nI (if w = 0 ∧ b = false then 1 else 0)))) (HP L dy (mj_ui (mj_ui I 47 m (nI (sg x))) 45 4 (nI 1)) y y1 n1 w1 c y2 R J) := by
        intro z hz
        refine mj_run 6 rfl trivial ?_
        rw [e2]
        refine mj_cal rfl rfl (M_signOf hx) ?_
        refine mj_run 5 rfl ⟨⟨nI_vi (by omega) (by decide), by decide⟩, Or.inr rfl⟩ ?_
        rw [nI_nc (by omega)]
        rw [← hz]
        refine mj_end rfl rfl ?_
        rw [hz]
        by_cases q : w = 0 ∧ b = false
        · rw [if_pos q]; exact Or.inr rfl
        · rw [if_neg q]; exact Or.inl rfl
      refine mj_run 2 rfl trivial ?_
      rw [e3]
      refine mj_bra rfl rfl (fun g => ?_) (fun g => ?_)
      · rw [nI_z (by omega)] at g
        refine mj_run 1 rfl trivial ?_
        exact half _ (by rw [if_neg (fun q => g q.1)])
      · rw [nI_z (by omega)] at g
        have g := Classical.not_not.mp g
        refine mj_run 2 rfl trivial ?_
        rw [e4]
        cases b with
        | true =>
          refine mj_brt rfl rfl (show ¬ nI 1 = 0 by decide) ?_
          refine mj_run 1 rfl trivial ?_
          exact half _ (by rw [if_neg (fun q => by cases q.2)])
        | false =>
          refine mj_brf rfl rfl (show ¬ ¬ nI 0 = 0 by decide) ?_
          refine mj_run 2 rfl trivial ?_
          exact half _ (by rw [if_pos ⟨g, rfl⟩])
    · intro s' hs'
      split at hs'
      · cases hs'
        refine ⟨by simp [mj_ui, upd, e2], by simp [mj_ui, upd, e3], by simp [mj_ui, upd], by simp [mj_ui, upd, e5], fun p hp => ?_⟩
        obtain ⟨r1, r2, r3⟩ := eR p hp
        refine ⟨?_, fun hc => by simp [mj_ui]; exact r2 hc, fun w' hw' => by simp [mj_ui]; exact r3 w' hw'⟩
        by_cases e : p = m
        · subst e; simp [mj_ui, upd, fu]
        · simp [mj_ui, upd, fu, e, r1]
      · cases hs'
  · by_cases g59 : x = 59
    · subst g59
      have hgo : goS 59 (m, w, b, mx, K, C, W) = if 0 < w ∧ m < 9 then some (m + 1, 0, false, mx, (K, C, W)) else none := by
        unfold goS
        rw [if_neg gs, if_pos rfl]
      rw [hgo]
      have pre : ∀ (I' : mjI) (v : Option Value), (∀ z : Int32, z = nI (if 0 < w ∧ m < 9 then 1 else 0) → mj_Rd (mj_call mj_P (d + 1)) kc_M_go 2 (74, [some (.ref 45), some (.int (nI 59)), none, none], [.int z], HP L dy I y y1 n1 w1 c y2 R J) v (HP L dy I' y y1 n1 w1 c y2 R J)) → mj_call mj_P (d + 2) kn_M_go [.ref 45, .int (nI 59)] (HP L dy I y y1 n1 w1 c y2 R J) v (HP L dy I' y y1 n1 w1 c y2 R J) := by
        intro I' v half
        refine mj_ci rfl (Nat.le_of_ble_eq_true rfl) ?_
        refine mj_run 1 rfl trivial ?_
        refine mj_cal rfl rfl (M_signOf hx) ?_
        refine mj_brt rfl rfl (by decide) ?_
        refine mj_run 2 rfl trivial ?_
        refine mj_brf rfl rfl (by decide) ?_
        refine mj_run 2 rfl trivial ?_
        rw [e3]
        refine mj_bra rfl rfl (fun g => ?_) (fun g => ?_)
        · rw [i32_z (by omega)] at g
          refine mj_run 1 rfl trivial ?_
          exact half _ (by rw [if_neg (by omega)])
        · rw [i32_z (by omega)] at g
          refine mj_run 3 rfl trivial ?_
          rw [e2]
          refine mj_bra rfl rfl (fun g2 => ?_) (fun g2 => ?_)
          · rw [nI_leI (by decide) (by omega)] at g2
            refine mj_run 1 rfl trivial ?_
            exact half _ (by rw [if_neg (by omega)])
          · rw [nI_leI (by decide) (by omega)] at g2
            refine mj_run 2 rfl trivial ?_
            exact half _ (by rw [if_pos (by omega)])
      by_cases q : 0 < w ∧ m < 9
      · rw [if_pos q] at pre
        rw [if_pos q]
        have fr := (((Fr.u I 2 (nI (m + 1))).tr (Fr.a _ (a := 47) (by decide) (m + 1) (nI 0))).tr (Fr.u _ 3 (nI 0))).tr (Fr.u _ 4 (nI 0))
        refine ⟨mj_ui (mj_ui (mj_ui (mj_ui I 45 2 (nI (m + 1))) 47 (m + 1) (nI 0)) 45 3 (nI 0)) 45 4 (nI 0), pre _ _ ?_, fr.w (by decide) (by decide), ?_⟩
        · intro z hz
          subst hz
          refine mj_run 5 rfl trivial ?_
          refine mj_brf rfl rfl (by decide) ?_
          refine mj_run 2 rfl trivial ?_
          refine mj_run 7 rfl trivial ?_
          rw [e2, nI_add]
          have e2' : mj_ui I 45 2 (nI (m + 1)) 45 2 = nI (m + 1) := by simp [mj_ui, upd]
          rw [e2']
          refine mj_brf rfl rfl (by decide) ?_
          refine mj_run 2 rfl trivial ?_
          refine mj_run 3 rfl ⟨nI_vi (by omega) (by decide), by decide⟩ ?_
          rw [nI_nc (by omega)]
          refine mj_brf rfl rfl (by decide) ?_
          refine mj_run 2 rfl trivial ?_
          refine mj_run 5 rfl (Or.inl rfl) ?_
          exact mj_end rfl rfl (Or.inr rfl)
        · intro s' hs'
          cases hs'
          refine ⟨by simp [mj_ui, upd], by simp [mj_ui, upd], by simp [mj_ui, upd], by simp [mj_ui, upd, e5], fun p hp => ?_⟩
          dsimp only at hp ⊢
          by_cases e : p = m + 1
          · subst e
            obtain ⟨c1, c2⟩ := h6 (m + 1) (by omega)
            rw [c1, c2]
            exact ⟨by simp [mj_ui, upd], fun hc => by omega, fun w' hw' => by omega⟩
          · obtain ⟨r1, r2, r3⟩ := eR p (by omega)
            refine ⟨by simp [mj_ui, upd, e, r1], fun hc => by simp [mj_ui]; exact r2 hc, fun w' hw' => by simp [mj_ui]; exact r3 w' hw'⟩
      · rw [if_neg q] at pre
        rw [if_neg q]
        have fr := (((Fr.u I 2 (nI m)).tr (Fr.a _ (a := 47) (by decide) m (I 47 m))).tr (Fr.u _ 3 (nI w))).tr (Fr.u _ 4 (nI 0))
        refine ⟨mj_ui (mj_ui (mj_ui (mj_ui I 45 2 (nI m)) 47 m (I 47 m)) 45 3 (nI w)) 45 4 (nI 0), pre _ _ ?_, fr.w (by decide) (by decide), fun s' hs' => by cases hs'⟩
        intro z hz
        subst hz
        refine mj_run 5 rfl trivial ?_
        refine mj_brt rfl rfl (by decide) ?_
        refine mj_run 1 rfl trivial ?_
        refine mj_run 7 rfl trivial ?_
        rw [e2, nI_add, show m + 0 = m from rfl]
        have e2' : mj_ui I 45 2 (nI m) 45 2 = nI m := by simp [mj_ui, upd]
        rw [e2']
        refine mj_brt rfl rfl (by decide) ?_
        refine mj_run 5 rfl (by rw [e2']; exact nI_vi (by omega) (by decide)) ?_
        rw [e2']
        refine mj_run 3 rfl ⟨nI_vi (by omega) (by decide), by decide⟩ ?_
        rw [nI_nc (by omega)]
        refine mj_brt rfl rfl (by decide) ?_
        refine mj_run 2 rfl trivial ?_
        refine mj_run 5 rfl (Or.inl rfl) ?_
        have e47 : mj_ui I 45 2 (nI m) 47 m = I 47 m := by simp [mj_ui]
        have e3' : mj_ui (mj_ui I 45 2 (nI m)) 47 m (mj_ui I 45 2 (nI m) 47 m) 45 3 = nI w := by simp [mj_ui, upd, e3]
        rw [e3', e47]
        exact mj_end rfl rfl (Or.inl rfl)
    · have pre : ∀ (I' : mjI) (v : Option Value), (mj_Rd (mj_call mj_P (d + 1)) kc_M_go 2 (180, [some (.ref 45), some (.int (nI x)), some (.int (nI (if 48 ≤ x ∧ x ≤ 57 then 1 else 0))), none], [], HP L dy I y y1 n1 w1 c y2 R J) v (HP L dy I' y y1 n1 w1 c y2 R J) ∨ ((∃ to, po x = some to) ∧ w ≠ 3)) → (mj_Rd (mj_call mj_P (d + 1)) kc_M_go 2 (182, [some (.ref 45), some (.int (nI x)), some (.int (nI (if 48 ≤ x ∧ x ≤ 57 then 1 else 0))), none], [], HP L dy I y y1 n1 w1 c y2 R J) v (HP L dy I' y y1 n1 w1 c y2 R J) ∨ (po x = none ∨ w = 3)) → mj_call mj_P (d + 2) kn_M_go [.ref 45, .int (nI x)] (HP L dy I y y1 n1 w1 c y2 R J) v (HP L dy I' y y1 n1 w1 c y2 R J) := by
        intro I' v k0 k1
        refine mj_ci rfl (Nat.le_of_ble_eq_true rfl) ?_
        refine mj_run 1 rfl trivial ?_
        refine mj_cal rfl rfl (M_signOf hx) ?_
        refine mj_brt rfl rfl (by rw [i32_z (by omega)]; omega) ?_
        refine mj_run 2 rfl trivial ?_
        refine mj_brt rfl rfl (by rw [nI_e (by omega) (by decide)]; exact g59) ?_
        refine mj_run 4 rfl trivial ?_
        have at172 : (∃ to, po x = some to) → mj_Rd (mj_call mj_P (d + 1)) kc_M_go 2 (172, [some (.ref 45), some (.int (nI x)), some (.int (nI (if 48 ≤ x ∧ x ≤ 57 then 1 else 0))), none], [], HP L dy I y y1 n1 w1 c y2 R J) v (HP L dy I' y y1 n1 w1 c y2 R J) := by
          intro hto
          refine mj_run 3 rfl trivial ?_
          rw [e3]
          refine mj_bra rfl rfl (fun g => ?_) (fun g => ?_)
          · rw [nI_e (by omega) (by decide)] at g
            rcases k1 with k1 | k1 | k1
            · exact k1
            · obtain ⟨to, hto⟩ := hto; rw [hto] at k1; cases k1
            · exact absurd k1 g
          · rw [nI_e (by omega) (by decide)] at g
            rcases k0 with k0 | k0
            · exact k0
            · exact absurd k0.2 g
        by_cases gd : 48 ≤ x ∧ x ≤ 57
        · rw [if_pos gd] at at172
          refine mj_cal rfl rfl (M_in_t ((lN_in (by omega) (by decide) (by decide)).mpr gd)) ?_
          refine mj_run 2 rfl trivial ?_
          refine mj_brt rfl rfl (by decide) ?_
          exact at172 ⟨_, by unfold po; rw [if_pos gd]⟩
        · rw [if_neg gd] at at172 k0
          refine mj_cal rfl rfl (M_in_f (fun q => gd ((lN_in (by omega) (by decide) (by decide)).mp q))) ?_
          refine mj_run 2 rfl trivial ?_
          refine mj_brf rfl rfl (by decide) ?_
          refine mj_run 4 rfl trivial ?_
          by_cases ga : 97 ≤ x ∧ x ≤ 106
          · refine mj_cal rfl rfl (M_in_t ((lN_in (by omega) (by decide) (by decide)).mpr ga)) ?_
            refine mj_brf rfl rfl (by decide) ?_
            exact at172 ⟨_, by unfold po; rw [if_neg gd, if_pos ga]⟩
          · refine mj_cal rfl rfl (M_in_f (fun q => ga ((lN_in (by omega) (by decide) (by decide)).mp q))) ?_
            refine mj_brt rfl rfl (by decide) ?_
            rcases k0 with k0 | ⟨⟨to, hto⟩, -⟩
            · exact k0
            · unfold po at hto
              rw [if_neg gd, if_neg ga] at hto
              cases hto
      have bad : mj_Rd (mj_call mj_P (d + 1)) kc_M_go 2 (180, [some (.ref 45), some (.int (nI x)), some (.int (nI (if 48 ≤ x ∧ x ≤ 57 then 1 else 0))), none], [], HP L dy I y y1 n1 w1 c y2 R J) (some (.int (nI 0))) (HP L dy I y y1 n1 w1 c y2 R J) := by
        refine mj_run 1 rfl trivial ?_
        exact mj_end rfl rfl (Or.inl rfl)
      cases hto : po x with
      | none =>
        have hgo : goS x (m, w, b, mx, K, C, W) = none := by
          unfold goS
          rw [if_neg gs, if_neg g59, hto]
        rw [hgo]
        refine ⟨I, pre I _ (Or.inl bad) (Or.inr (Or.inl hto)), (Fr.rf I).w (by simp) (by simp), fun s' hs' => by cases hs'⟩
      | some to =>
        have hto20 := po_lt hto
        have hgo : goS x (m, w, b, mx, K, C, W) = if w = 3 then none else some (m, w + 1, b, max mx (to - 10), (K, fu C m (w + 1), f2 W m w to)) := by
          unfold goS
          rw [if_neg gs, if_neg g59, hto]
        rw [hgo]
        by_cases hw3 : w = 3
        · rw [if_pos hw3]
          refine ⟨I, pre I _ (Or.inl bad) (Or.inr (Or.inr hw3)), (Fr.rf I).w (by simp) (by simp), fun s' hs' => by cases hs'⟩
        · rw [if_neg hw3]
          have fr := (((Fr.a I (a := 49) (by decide) (3 * m + w) (nI to)).tr (Fr.u _ 3 (nI (w + 1)))).tr (Fr.a _ (a := 48) (by decide) m (nI (w + 1)))).tr (Fr.u _ 5 (nI (max mx (to - 10))))
          refine ⟨mj_ui (mj_ui (mj_ui (mj_ui I 49 (3 * m + w) (nI to)) 45 3 (nI (w + 1))) 48 m (nI (w + 1))) 45 5 (nI (max mx (to - 10))), pre _ _ (Or.inr ⟨⟨to, hto⟩, hw3⟩) (Or.inl ?_), fr.w (by decide) (by decide), ?_⟩
          · have rest : ∀ z : Int32, z = nI to → mj_Rd (mj_call mj_P (d + 1)) kc_M_go 2 (200, [some (.ref 45), some (.int (nI x)), some (.int (nI (if 48 ≤ x ∧ x ≤ 57 then 1 else 0))), none], [.int z], HP L dy I y y1 n1 w1 c y2 R J) (some (.int (nI 1))) (HP L dy (mj_ui (mj_ui (mj_ui (mj_ui I 49 (3 * m + w) (nI to)) 45 3 (nI (w + 1))) 48 m (nI (w + 1))) 45 5 (nI (max mx (to - 10)))) y y1 n1 w1 c y2 R J) := by
              intro z hz
              subst hz
              have E1 : nI 3 * I 45 2 + I 45 3 = nI (3 * m + w) := by rw [e2, e3, pk_mul, nI_add]
              have E2 : mj_ui I 49 (3 * m + w) (nI to) 45 3 + nI 1 = nI (w + 1) := by simp [mj_ui, e3, nI_add]
              have E3 : mj_ui (mj_ui I 49 (3 * m + w) (nI to)) 45 3 (nI (w + 1)) 45 2 = nI m := by simp [mj_ui, upd, e2]
              have E4 : mj_ui (mj_ui I 49 (3 * m + w) (nI to)) 45 3 (nI (w + 1)) 45 3 = nI (w + 1) := by simp [mj_ui, upd]
              have E5 : mj_ui (mj_ui (mj_ui I 49 (3 * m + w) (nI to)) 45 3 (nI (w + 1))) 48 m (nI (w + 1)) 45 5 = nI mx := by simp [mj_ui, upd, e5]
              refine mj_run 31 rfl ⟨⟨by rw [E1]; exact nI_vi (by omega) (by decide), by decide⟩, by rw [E1, nI_nc (by omega), E2, E3]; exact nI_vi (by omega) (by decide), by decide⟩ ?_
              rw [E1, nI_nc (show 3 * m + w < 2147483648 by omega), E2, E3, E4, nI_nc (show m < 2147483648 by omega), E5]
              have tl : (nI to - nI 10 ≤ nI mx) ↔ to - 10 ≤ mx := by
                rw [ii_le, pk_sub_toInt (by omega) (by decide), nI_toInt (by omega)]
                omega
              refine mj_bra rfl rfl (fun g => ?_) (fun g => ?_)
              · rw [tl] at g
                refine mj_run 2 rfl trivial ?_
                rw [E5]
                refine mj_run 2 rfl trivial ?_
                rw [show max mx (to - 10) = mx by omega]
                exact mj_end rfl rfl (Or.inr rfl)
              · rw [tl] at g
                refine mj_run 4 rfl trivial ?_
                refine mj_run 2 rfl trivial ?_
                rw [pk_sub (by omega), show max mx (to - 10) = to - 10 by omega]
                exact mj_end rfl rfl (Or.inr rfl)
            by_cases gd : 48 ≤ x ∧ x ≤ 57
            · rw [if_pos gd] at rest ⊢
              have : to = x - 48 := by
                unfold po at hto
                rw [if_pos gd] at hto
                cases hto; rfl
              refine mj_run 1 rfl trivial ?_
              refine mj_brf rfl rfl (by decide) ?_
              refine mj_run 4 rfl trivial ?_
              exact rest _ (by rw [pk_sub (by omega), this])
            · rw [if_neg gd] at rest ⊢
              have hc : (97 ≤ x ∧ x ≤ 106) ∧ to = 10 + x - 97 := by
                unfold po at hto
                rw [if_neg gd] at hto
                split at hto
                · cases hto; exact ⟨‹_›, rfl⟩
                · cases hto
              refine mj_run 1 rfl trivial ?_
              refine mj_brt rfl rfl (by decide) ?_
              refine mj_run 5 rfl trivial ?_
              exact rest _ (by rw [nI_add, pk_sub (by omega), hc.2])
          · intro s' hs'
            cases hs'
            refine ⟨by simp [mj_ui, upd, e2], by simp [mj_ui, upd], by simp [mj_ui, upd, e4], by simp [mj_ui, upd], fun p hp => ?_⟩
            dsimp only at hp ⊢
            obtain ⟨r1, r2, r3⟩ := eR p hp
            refine ⟨by simp [mj_ui, r1], fun hc => ?_, fun w' hw' => ?_⟩
            · dsimp only [fu] at hc ⊢
              by_cases e : p = m
              · subst e; simp [mj_ui, upd]
              · rw [if_neg e] at hc ⊢
                have := r2 hc
                simp [mj_ui, upd, e, this]
            · dsimp only [fu, f2] at hw' ⊢
              by_cases e : p = m
              · subst e
                rw [if_pos rfl] at hw' ⊢
                dsimp only [fu]
                by_cases ew : w' = w
                · subst ew; simp [mj_ui, upd]
                · have := r3 w' (by omega)
                  rw [if_neg ew]
                  simp [mj_ui, upd, ew, this]
              · rw [if_neg e] at hw' ⊢
                have q1 := r3 w' hw'
                have q2 : ¬ (3 * p + w' = 3 * m + w) := by
                  have := (h5 p (by omega)).2
                  omega
                simp [mj_ui, upd, q2, q1]
end MM
end
section
section MM
variable {d L : Nat} {dy : mjM} {I : mjI} {y y1 n1 w1 c y2 : Option Nat} {R : mjR} {J : mjJ} {pn : Nat} {pg : Nat → Nat} {n : Nat} {Y : Yd} {T : Nat → Nat} {t : Nat} {tr : Nat → Nat} {kp : Kp} {wn : Nat} {wt : Nat → Nat} {yr dn : Nat}
theorem M_faultOf (h : Mpg I pn pg) : ∃ I', mj_call mj_P (d + 3) kn_M_faultOf [.ref 45] (HP L dy I y y1 n1 w1 c y2 R J) (some (.int (nI (scF pg pn 0 ps0).1))) (HP L dy I' y y1 n1 w1 c y2 R J) ∧ Fr [2, 3, 4, 5] [47, 48, 49] I I' ∧ ∀ s', (scF pg pn 0 ps0).2 = some s' → MPs I' s' := by
  have hp50 := h.2.1
  have key : ∀ (f k : Nat) (X : mjI) (s : Ps), k + f = pn → Mpg X pn pg → MPs X s → PsOK s → ∃ I', (Fr [2, 3, 4, 5] [47, 48, 49] X I' ∧ ∀ s', (scF pg f k s).2 = some s' → MPs I' s') ∧ mj_Rd (mj_call mj_P (d + 2)) kc_M_faultOf 1 (29, [some (.ref 45), some (.int (nI k))], [], HP L dy X y y1 n1 w1 c y2 R J) (some (.int (nI (scF pg f k s).1))) (HP L dy I' y y1 n1 w1 c y2 R J) := by
    intro f
    induction f with
    | zero =>
      intro k X s hk hX hM hs
      refine ⟨X, ⟨(Fr.rf X).w (by simp) (by simp), fun s' e => by cases e; exact hM⟩, ?_⟩
      refine mj_run 3 rfl trivial ?_
      rw [hX.1]
      refine mj_brt rfl rfl (by rw [nI_leI (by omega) (by omega)]; omega) ?_
      refine mj_run 1 rfl trivial ?_
      exact mj_end rfl rfl trivial
    | succ f ih =>
      intro k X s hk hX hM hs
      obtain ⟨a1, a2, a3⟩ := hX.2.2 k (by omega)
      obtain ⟨I1, hc1, hf1, hm1⟩ := M_go (d := d) (L := L) (dy := dy) (y := y) (y1 := y1) (n1 := n1) (w1 := w1) (c := c) (y2 := y2) (R := R) (J := J) a3 hs hM
      cases hg : goS (pg k) s with
      | none =>
        rw [show scF pg (f + 1) k s = (k, none) by simp [scF, hg]]
        rw [hg] at hc1
        refine ⟨I1, ⟨hf1, fun s' e => (by cases e)⟩, ?_⟩
        refine mj_run 3 rfl trivial ?_
        rw [hX.1]
        refine mj_brf rfl rfl (by rw [nI_leI (by omega) (by omega)]; omega) ?_
        refine mj_run 5 rfl (nI_vi (by omega) (by decide)) ?_
        rw [nI_nc (by omega), a1]
        refine mj_cal rfl rfl hc1 ?_
        refine mj_brt rfl rfl (by decide) ?_
        refine mj_run 1 rfl trivial ?_
        exact mj_end rfl rfl trivial
      | some s' =>
        rw [show scF pg (f + 1) k s = scF pg f (k + 1) s' by simp [scF, hg]]
        rw [hg] at hc1
        obtain ⟨I2, ⟨hf2, hm2⟩, hx2⟩ := ih (k + 1) I1 s' (by omega) (hX.fr hf1 (by decide)) (hm1 s' hg) (goS_ok hs hg)
        refine ⟨I2, ⟨(hf1.tr hf2).w (by decide) (by decide), hm2⟩, ?_⟩
        refine mj_run 3 rfl trivial ?_
        rw [hX.1]
        refine mj_brf rfl rfl (by rw [nI_leI (by omega) (by omega)]; omega) ?_
        refine mj_run 5 rfl (nI_vi (by omega) (by decide)) ?_
        rw [nI_nc (by omega), a1]
        refine mj_cal rfl rfl hc1 ?_
        refine mj_brf rfl rfl (show ¬ nI 1 = 0 by decide) ?_
        refine mj_run 2 rfl trivial ?_
        rw [nI_add]
        exact hx2
  have fr := ((((Fr.u I 2 (nI 0)).tr (Fr.u _ 3 (nI 0))).tr (Fr.u _ 4 (nI 0))).tr (Fr.u _ 5 (nI 0))).tr (Fr.a _ (a := 47) (by decide) 0 (nI 0))
  obtain ⟨I', ⟨hf, hm⟩, hx⟩ := key pn 0 (mj_ui (mj_ui (mj_ui (mj_ui (mj_ui I 45 2 (nI 0)) 45 3 (nI 0)) 45 4 (nI 0)) 45 5 (nI 0)) 47 0 (nI 0)) ps0 (by omega) (h.fr fr (by decide)) (by
    refine ⟨by simp [mj_ui, upd, ps0], by simp [mj_ui, upd, ps0], by simp [mj_ui, upd, ps0], by simp [mj_ui, upd, ps0], fun p hp => ?_⟩
    have : p = 0 := by have : p ≤ 0 := hp; omega
    subst this
    exact ⟨by simp [mj_ui, upd, ps0], fun hc => absurd hc (Nat.lt_irrefl 0), fun w hw => absurd hw (Nat.not_lt_zero w)⟩) ps0_ok
  refine ⟨I', ?_, (fr.tr hf).w (by decide) (by decide), hm⟩
  refine mj_ci rfl (Nat.le_of_ble_eq_true rfl) ?_
  refine mj_run 19 rfl ⟨Or.inl rfl, nI_vi (by decide) (by decide), by decide⟩ ?_
  exact hx
theorem MO_fault (h : MI I pn pg n Y T t tr kp wn wt yr dn) : ∃ I', mj_call mj_P (d + 4) kn_M_fault [.ref 45] (HP L dy I y y1 n1 w1 c y2 R J) (some (.int (nI (scF pg pn 0 ps0).1))) (HP L dy I' y y1 n1 w1 c y2 R J) ∧ MI I' pn pg n Y T t tr kp wn wt yr dn ∧ Fr wk wa' I I' := by
  obtain ⟨I', hc, hf, -⟩ := M_faultOf (d := d) (L := L) (dy := dy) (y := y) (y1 := y1) (n1 := n1) (w1 := w1) (c := c) (y2 := y2) (R := R) (J := J) h.1
  have ff := hf.w (ks' := wk) (as' := wa') (by decide) (by decide)
  refine ⟨I', ?_, h.work ff, ff⟩
  refine mj_ci rfl (Nat.le_of_ble_eq_true rfl) ?_
  refine mj_run 1 rfl trivial ?_
  refine mj_cal rfl rfl hc ?_
  exact mj_end rfl rfl trivial
def YR (X : mjI) (Y : Yd) (q : Nat) : Prop := X 50 q = nI (Y.1 q) ∧ X 51 q = nI (Y.2.1 q) ∧ X 53 q = nI 0 ∧ ∀ w, w < 3 → X 52 (3 * q + w) = if w < Y.2.1 q then nI (Y.2.2 q w) else Int32.ofInt (-1)
theorem MO_yard (h : MI I pn pg n Y T t tr kp wn wt yr dn) (hyr : yr < 1000) : ∃ I', mj_call mj_P (d + 4) kn_M_yard [.ref 45] (HP L dy I y y1 n1 w1 c y2 R J) (some (.int (match ydS pg pn with | none => Int32.ofInt (-103) | some q => nI q.1))) (HP L dy I' y y1 n1 w1 c y2 R J) ∧ (match ydS pg pn with | none => MI I' pn pg n Y T t tr kp wn wt yr dn | some q => MI I' 0 pg q.1 q.2 (fun _ => 0) 0 tr none wn wt (yr + 1) dn) ∧ Fr [1, 2, 3, 4, 5, 9, 10, 15] [47, 48, 49, 50, 51, 52, 53] I I' := by
  have h0 := h
  obtain ⟨h1, h2, h3, h4, h5, h6, h7⟩ := h
  obtain ⟨I1, hc1, hf1, hm1⟩ := M_faultOf (d := d) (L := L) (dy := dy) (y := y) (y1 := y1) (n1 := n1) (w1 := w1) (c := c) (y2 := y2) (R := R) (J := J) h1
  have hscan := scF_ok (pg := pg) pn 0 ps0 ps0_ok
  have hp50 := h1.2.1
  have hpm : I1 45 1 = nI pn := (hf1.2 1 (by decide)).trans h1.1
  have hle : (scF pg pn 0 ps0).1 ≤ pn := by have := hscan.1; omega
  have fail : ydS pg pn = none → (mj_Rd (mj_call mj_P (d + 3)) kc_M_yard 1 (4, [some (.ref 45), none, none], [.int (nI (scF pg pn 0 ps0).1)], HP L dy I1 y y1 n1 w1 c y2 R J) (some (.int (Int32.ofInt (-103)))) (HP L dy I1 y y1 n1 w1 c y2 R J)) := by
    intro hn
    have bad : mj_Rd (mj_call mj_P (d + 3)) kc_M_yard 1 (29, [some (.ref 45), none, none], [], HP L dy I1 y y1 n1 w1 c y2 R J) (some (.int (Int32.ofInt (-103)))) (HP L dy I1 y y1 n1 w1 c y2 R J) := by
      refine mj_run 1 rfl trivial ?_
      exact mj_end rfl rfl trivial
    refine mj_run 2 rfl trivial ?_
    rw [hpm]
    refine mj_bra rfl rfl (fun _ => bad) (fun g => ?_)
    rw [nI_ltI (by omega) (by omega)] at g
    unfold ydS at hn
    cases hq : (scF pg pn 0 ps0).2 with
    | none => have := hscan.2.2 hq; omega
    | some s =>
      obtain ⟨e2, e3, e4, e5, eR⟩ := hm1 s hq
      obtain ⟨hs, -⟩ := hscan.2.1 s hq
      obtain ⟨s1, s2, s3, s4, s5, s6, s7, s8⟩ := hs
      rw [hq] at hn
      dsimp only at hn
      split at hn
      · cases hn
      · rename_i hbad
        refine mj_run 2 rfl trivial ?_
        rw [e3]
        refine mj_bra rfl rfl (fun _ => bad) (fun g2 => ?_)
        rw [nI_z (by omega)] at g2
        refine mj_run 4 rfl trivial ?_
        rw [e5, e2]
        exact mj_brf rfl rfl (by rw [nI_leI (by omega) (by omega)]; omega) bad
  cases hy : ydS pg pn with
  | none =>
    have ff := hf1.w (ks' := wk) (as' := wa') (by decide) (by decide)
    refine ⟨I1, ?_, h0.work ff, hf1.w (by decide) (by decide)⟩
    refine mj_ci rfl (Nat.le_of_ble_eq_true rfl) ?_
    refine mj_run 1 rfl trivial ?_
    refine mj_cal rfl rfl hc1 ?_
    exact fail hy
  | some q =>
    obtain ⟨n', Y'⟩ := q
    obtain ⟨hok, hn1'⟩ := ydS_ok hy
    have hn10 : n' ≤ 10 := hok.1
    dsimp only
    unfold ydS at hy
    cases hq : (scF pg pn 0 ps0).2 with
    | none => rw [hq] at hy; cases hy
    | some s =>
      rw [hq] at hy
      dsimp only at hy
      split at hy
      · rename_i hgood
        cases hy
        obtain ⟨e2, e3, e4, e5, eR⟩ := hm1 s hq
        obtain ⟨⟨s1, s2, s3, s4, s5, s6, s7, s8⟩, hend⟩ := hscan.2.1 s hq
        -- the loop over switches
        have e10 : I1 45 10 = nI yr := (hf1.2 10 (by decide)).trans h7.1
        have key := dn_ind (s.1 + 1) (fun p => ∀ (X : mjI) (l2 : Option Value), Fr [9] [50, 51, 52, 53] I1 X → X 45 9 = nI (s.1 + 1) → (∀ q, q < p → YR X s.2.2.2.2 q) → ∃ Z, (Fr [9] [50, 51, 52, 53] I1 Z ∧ Z 45 9 = nI (s.1 + 1) ∧ ∀ q, q < s.1 + 1 → YR Z s.2.2.2.2 q) ∧ mj_Rd (mj_call mj_P (d + 3)) kc_M_yard 1 (44, [some (.ref 45), some (.int (nI p)), l2], [], HP L dy X y y1 n1 w1 c y2 R J) (some (.int (nI (s.1 + 1)))) (HP L dy (mj_ui (mj_ui (mj_ui Z 45 15 (nI 0)) 45 10 (nI (yr + 1))) 45 1 (nI 0)) y y1 n1 w1 c y2 R J)) ?_ ?_ 0 (by omega)
        · obtain ⟨Z, ⟨hfz, z9, hR⟩, hx⟩ := key (mj_ui I1 45 9 (nI (s.1 + 1))) none ((Fr.u I1 9 _).w (by decide) (by decide)) (by simp [mj_ui, upd]) (fun q hq => by omega)
          have fr := (hf1.tr hfz).tr (((Fr.u Z 15 (nI 0)).tr (Fr.u _ 10 (nI (yr + 1)))).tr (Fr.u _ 1 (nI 0)))
          have frz := (Fr.u Z 15 (nI 0)).tr ((Fr.u _ 10 (nI (yr + 1))).tr (Fr.u _ 1 (nI 0)))
          refine ⟨_, ?_, ⟨⟨by simp [mj_ui, upd], by omega, fun i hi => by omega⟩, ⟨by simp [mj_ui, upd, z9], hok, fun p hp => ?_⟩, ⟨fun i hi => ?_, fun p hp => (sm_in hok hp).1⟩, ⟨by simp [mj_ui, upd], by omega, fun i hi => by omega⟩, ?_, h6.fr fr (by decide), ⟨by simp [mj_ui, upd], by omega, by
            have : Z 45 24 = I 45 24 := (hfz.2 24 (by decide)).trans (hf1.2 24 (by decide))
            simp [mj_ui, upd, this, h7.2.2.1], h7.2.2.2⟩⟩, fr.w (by decide) (by decide)⟩
          · refine mj_ci rfl (Nat.le_of_ble_eq_true rfl) ?_
            refine mj_run 1 rfl trivial ?_
            refine mj_cal rfl rfl hc1 ?_
            refine mj_run 2 rfl trivial ?_
            rw [hpm]
            refine mj_brf rfl rfl (by rw [nI_ltI (by omega) (by omega)]; omega) ?_
            refine mj_run 2 rfl trivial ?_
            rw [e3]
            refine mj_brf rfl rfl (by rw [nI_z (by omega)]; omega) ?_
            refine mj_run 4 rfl trivial ?_
            rw [e5, e2]
            refine mj_brt rfl rfl (by rw [nI_leI (by omega) (by omega)]; omega) ?_
            refine mj_run 8 rfl trivial ?_
            rw [e2, nI_add]
            exact hx
          · obtain ⟨r1, r2, r3, r4⟩ := hR p hp
            refine ⟨by simp [mj_ui]; exact r1, by simp [mj_ui]; exact r2, fun w hw => by simp [mj_ui]; exact r4 w hw⟩
          · obtain ⟨r1, r2, r3, r4⟩ := hR i hi
            simp [mj_ui]; exact r3
          · show _ ∨ _
            have e29 : Z 45 29 = I 45 29 := (hfz.2 29 (by decide)).trans (hf1.2 29 (by decide))
            have e30 : Z 45 30 = I 45 30 := (hfz.2 30 (by decide)).trans (hf1.2 30 (by decide))
            cases kp with
            | none =>
              rcases h5 with g | ⟨ky, g, g2⟩
              · exact Or.inl (by simp [mj_ui, upd, e29, g])
              · exact Or.inr ⟨ky, by simp [mj_ui, upd, e30, g], by omega⟩
            | some q =>
              obtain ⟨t0, tr0, T0⟩ := q
              exact Or.inr ⟨yr, by simp [mj_ui, upd, e30, h5.2.2.1], by omega⟩
        · intro X l2 hfX x9 hX
          refine ⟨X, ⟨hfX, x9, hX⟩, ?_⟩
          refine mj_run 3 rfl trivial ?_
          rw [x9]
          refine mj_brt rfl rfl (by rw [nI_leI (by omega) (by omega)]; omega) ?_
          refine mj_run 14 rfl trivial ?_
          have q1 : mj_ui X 45 15 (nI 0) 45 10 = nI yr := by
            have : X 45 10 = I1 45 10 := hfX.2 10 (by decide)
            simp [mj_ui, upd, this, e10]
          have q2 : mj_ui (mj_ui (mj_ui X 45 15 (nI 0)) 45 10 (nI (yr + 1))) 45 1 (nI 0) 45 9 = nI (s.1 + 1) := by simp [mj_ui, upd, x9]
          rw [q1, nI_add, q2]
          exact mj_end rfl rfl trivial
        · intro p hp ih X l2 hfX x9 hX
          obtain ⟨r1, r2, r3⟩ := eR p (by omega)
          have hcp : 1 ≤ s.2.2.2.2.2.1 p ∧ s.2.2.2.2.2.1 p ≤ 3 := by
            by_cases e : p = s.1
            · subst e; rw [s4]; omega
            · exact s5 p (by omega)
          have x47 : ∀ Z : mjI, Fr [9] [50, 51, 52, 53] I1 Z → Z 47 p = nI (s.2.2.2.2.1 p) := fun Z hZ => by rw [hZ.1 47 (by decide) (by decide)]; exact r1
          have x48 : ∀ Z : mjI, Fr [9] [50, 51, 52, 53] I1 Z → Z 48 p = nI (s.2.2.2.2.2.1 p) := fun Z hZ => by rw [hZ.1 48 (by decide) (by decide)]; exact r2 (by omega)
          have x49 : ∀ Z : mjI, Fr [9] [50, 51, 52, 53] I1 Z → ∀ w, w < s.2.2.2.2.2.1 p → Z 49 (3 * p + w) = nI (s.2.2.2.2.2.2 p w) := fun Z hZ w hw => by rw [hZ.1 49 (by decide) (by decide)]; exact r3 w hw
          -- the loop over ways
          have inner := dn_ind 3 (fun w => ∀ (U : mjI), Fr [9] [50, 51, 52, 53] I1 U → U 45 9 = nI (s.1 + 1) → (∀ q, q < p → YR U s.2.2.2.2 q) → U 50 p = nI (s.2.2.2.2.1 p) → U 51 p = nI (s.2.2.2.2.2.1 p) → U 53 p = nI 0 → (∀ w', w' < w → U 52 (3 * p + w') = if w' < s.2.2.2.2.2.1 p then nI (s.2.2.2.2.2.2 p w') else Int32.ofInt (-1)) → ∃ Z, (Fr [9] [50, 51, 52, 53] I1 Z ∧ Z 45 9 = nI (s.1 + 1) ∧ ∀ q, q < s.1 + 1 → YR Z s.2.2.2.2 q) ∧ mj_Rd (mj_call mj_P (d + 3)) kc_M_yard 1 (85, [some (.ref 45), some (.int (nI p)), some (.int (nI w))], [], HP L dy U y y1 n1 w1 c y2 R J) (some (.int (nI (s.1 + 1)))) (HP L dy (mj_ui (mj_ui (mj_ui Z 45 15 (nI 0)) 45 10 (nI (yr + 1))) 45 1 (nI 0)) y y1 n1 w1 c y2 R J)) ?_ ?_ 0 (by omega)
          · have hU := hfX.tr (((Fr.a X (a := 50) (by decide) p (nI (s.2.2.2.2.1 p))).tr (Fr.a _ (a := 51) (by decide) p (nI (s.2.2.2.2.2.1 p)))).tr (Fr.a _ (a := 53) (by decide) p (nI 0)))
            obtain ⟨Z, hZ, hx⟩ := inner (mj_ui (mj_ui (mj_ui X 50 p (nI (s.2.2.2.2.1 p))) 51 p (nI (s.2.2.2.2.2.1 p))) 53 p (nI 0)) (hU.w (by decide) (by decide)) (by simp [mj_ui, x9]) (fun q hq => by
              obtain ⟨a1, a2, a3, a4⟩ := hX q hq
              have ne : q ≠ p := by omega
              exact ⟨by simp [mj_ui, upd, ne, a1], by simp [mj_ui, upd, ne, a2], by simp [mj_ui, upd, ne, a3], fun w hw => by simp [mj_ui]; exact a4 w hw⟩) (by simp [mj_ui, upd]) (by simp [mj_ui, upd]) (by simp [mj_ui, upd]) (fun w' hw' => by omega)
            refine ⟨Z, hZ, ?_⟩
            refine mj_run 3 rfl trivial ?_
            rw [x9]
            refine mj_brf rfl rfl (by rw [nI_leI (by omega) (by omega)]; omega) ?_
            have vp : vp_in (nI p) 10 := nI_vi (by omega) (by decide)
            refine mj_run 23 rfl ⟨vp, ⟨vp, by decide⟩, vp, ⟨vp, by decide⟩, vp, by decide⟩ ?_
            rw [nI_nc (by omega), x47 X hfX]
            have : mj_ui X 50 p (nI (s.2.2.2.2.1 p)) 48 p = nI (s.2.2.2.2.2.1 p) := by simp [mj_ui, x48 X hfX]
            rw [this]
            exact hx
          · intro U hfU u9 hU u50 u51 u53 u52
            obtain ⟨Z, hZ, hx⟩ := ih U (some (.int (nI 3))) hfU u9 (fun q hq => by
              by_cases e : q = p
              · subst e; exact ⟨u50, u51, u53, u52⟩
              · exact hU q (by omega))
            refine ⟨Z, hZ, ?_⟩
            refine mj_run 2 rfl trivial ?_
            refine mj_brt rfl rfl (by decide) ?_
            refine mj_run 2 rfl trivial ?_
            rw [nI_add]
            exact hx
          · intro w hw ihw U hfU u9 hU u50 u51 u53 u52
            have e9 : nI 3 * nI p + nI w = nI (3 * p + w) := by rw [pk_mul, nI_add]
            have go : ∀ z : Int32, z = (if w < s.2.2.2.2.2.1 p then nI (s.2.2.2.2.2.2 p w) else Int32.ofInt (-1)) → ∃ Z, (Fr [9] [50, 51, 52, 53] I1 Z ∧ Z 45 9 = nI (s.1 + 1) ∧ ∀ q, q < s.1 + 1 → YR Z s.2.2.2.2 q) ∧ mj_Rd (mj_call mj_P (d + 3)) kc_M_yard 1 (123, [some (.ref 45), some (.int (nI p)), some (.int (nI w))], [.int z, .int (nI (3 * p + w)), .ref 52], HP L dy U y y1 n1 w1 c y2 R J) (some (.int (nI (s.1 + 1)))) (HP L dy (mj_ui (mj_ui (mj_ui Z 45 15 (nI 0)) 45 10 (nI (yr + 1))) 45 1 (nI 0)) y y1 n1 w1 c y2 R J) := by
              intro z hz
              obtain ⟨Z, hZ, hx⟩ := ihw (mj_ui U 52 (3 * p + w) z) ((hfU.tr (Fr.a U (a := 52) (by decide) _ _)).w (by decide) (by decide)) (by simp [mj_ui, u9]) (fun q hq => by
                obtain ⟨a1, a2, a3, a4⟩ := hU q hq
                refine ⟨by simp [mj_ui, a1], by simp [mj_ui, a2], by simp [mj_ui, a3], fun w' hw' => ?_⟩
                have ne : ¬ (3 * q + w' = 3 * p + w) := by omega
                have := a4 w' hw'
                simp [mj_ui, upd, ne, this]) (by simp [mj_ui, u50]) (by simp [mj_ui, u51]) (by simp [mj_ui, u53]) (fun w' hw' => by
                by_cases e : w' = w
                · subst e; simp [mj_ui, upd, hz]
                · have := u52 w' (by omega)
                  have ne : ¬ (3 * p + w' = 3 * p + w) := by omega
                  simp [mj_ui, upd, e, this])
              refine ⟨Z, hZ, ?_⟩
              refine mj_run 3 rfl ⟨nI_vi (by omega) (by decide), by decide⟩ ?_
              rw [nI_nc (by omega), nI_add]
              exact hx
            obtain ⟨Z, hZ, hx⟩ := go _ rfl
            refine ⟨Z, hZ, ?_⟩
            refine mj_run 2 rfl trivial ?_
            refine mj_brf rfl rfl (by rw [nI_leI (by decide) (by omega)]; omega) ?_
            refine mj_run 12 rfl (nI_vi (by omega) (by decide)) ?_
            rw [nI_nc (by omega), u51, e9]
            by_cases g : w < s.2.2.2.2.2.1 p
            · rw [if_pos g] at hx
              refine mj_brf rfl rfl (by rw [nI_leI (by omega) (by omega)]; omega) ?_
              refine mj_run 9 rfl (by rw [e9]; exact nI_vi (by omega) (by decide)) ?_
              rw [e9, nI_nc (by omega), x49 U hfU w g]
              exact hx
            · rw [if_neg g] at hx
              refine mj_brt rfl rfl (by rw [nI_leI (by omega) (by omega)]; omega) ?_
              refine mj_run 1 rfl trivial ?_
              exact hx
      · cases hy
end MM
end
section
/-! ===== counts: how many trucks come to each switch of a straight yard ===== -/
def sumT (g : Nat → Nat) : Nat → Nat
  | 0 => 0
  | k + 1 => sumT g k + g k
theorem sumT_cg {g g' : Nat → Nat} : ∀ k, (∀ i, i < k → g i = g' i) → sumT g k = sumT g' k
  | 0, _ => rfl
  | k + 1, h => by
    unfold sumT
    rw [sumT_cg k (fun i hi => h i (by omega)), h k (by omega)]
theorem sumT_le {g g' : Nat → Nat} : ∀ k, (∀ i, i < k → g i ≤ g' i) → sumT g k ≤ sumT g' k
  | 0, _ => Nat.le_refl _
  | k + 1, h => by
    have := sumT_le k (fun i hi => h i (by omega))
    have := h k (by omega)
    unfold sumT
    omega
theorem sumT_add (g g' : Nat → Nat) : ∀ k, sumT (fun i => g i + g' i) k = sumT g k + sumT g' k
  | 0 => rfl
  | k + 1 => by
    have := sumT_add g g' k
    unfold sumT
    omega
theorem sumT_0 {g : Nat → Nat} : ∀ k, (∀ i, i < k → g i = 0) → sumT g k = 0
  | 0, _ => rfl
  | k + 1, h => by
    have := sumT_0 (g := g) k (fun i hi => h i (by omega))
    have := h k (by omega)
    unfold sumT
    omega
theorem sumT_one (v x : Nat) : ∀ k, sumT (fun q => if v = 10 + q then x else 0) k ≤ if v < 10 + k then x else 0
  | 0 => Nat.zero_le _
  | k + 1 => by
    have := sumT_one v x k
    unfold sumT
    split at this <;> split <;> split <;> omega
/-- one place taken out -/
theorem sumT_out {g g' : Nat → Nat} {p : Nat} (h : ∀ i, i ≠ p → g' i = g i) (h0 : g' p = 0) : ∀ k, p < k → sumT g k = sumT g' k + g p
  | 0, hp => by omega
  | k + 1, hp => by
    unfold sumT
    by_cases e : p = k
    · subst e
      rw [sumT_cg (g := g) (g' := g') p (fun i hi => (h i (by omega)).symm), h0]
      omega
    · have := sumT_out h h0 k (by omega)
      rw [h k (by omega)]
      omega
theorem sumT_mem {g : Nat → Nat} {p : Nat} : ∀ k, p < k → g p ≤ sumT g k
  | 0, hp => by omega
  | k + 1, hp => by
    unfold sumT
    by_cases e : p = k
    · subst e; omega
    · have := sumT_mem (g := g) (p := p) k (by omega)
      omega
def per (Y : Yd) (p : Nat) : Nat := if Y.1 p = 1 then 1 else sm Y p
def sh (m a j : Nat) : Nat := m / a + if j < m % a then 1 else 0
def tnk (Y : Yd) (p s : Nat) : Nat → Nat
  | 0 => s
  | k + 1 => tn Y p (tnk Y p s k)
def ctK (Y : Yd) (p s m q : Nat) : Nat → Nat
  | 0 => 0
  | k + 1 => ctK Y p s m q k + if pl Y p (tnk Y p s k) = 10 + q then sh m (per Y p) k else 0
def onn (Y : Yd) (p m : Nat) : Nat := if Y.1 p = 1 then 0 else m % sm Y p
def thn (Y : Yd) (T : Nat → Nat) (ng : Bool) (p m : Nat) : Nat := if ng then (T p + sm Y p - onn Y p m) % sm Y p else (T p + onn Y p m) % sm Y p
def st0 (Y : Yd) (T : Nat → Nat) (ng : Bool) (p m : Nat) : Nat := if ng then thn Y T ng p m else T p
def Gp (Y : Yd) (T : Nat → Nat) (ng : Bool) (p m q : Nat) : Nat := ctK Y p (st0 Y T ng p m) m q (per Y p)
def cm (Y : Yd) (n : Nat) : Nat := rch Y n 0 ||| 1
def cs (Y : Yd) (n : Nat) (T : Nat → Nat) (ng : Bool) (N : Nat) : Nat → Nat → Nat
  | 0, _ => 0
  | f + 1, q => (if q = 0 then N else 0) + sumT (fun p => if (cm Y n).testBit p then Gp Y T ng p (cs Y n T ng N f p) q else 0) n
def cst (Y : Yd) (n : Nat) (T : Nat → Nat) (ng : Bool) (N q : Nat) : Nat := cs Y n T ng N (n + 1) q
theorem tnk_in {n : Nat} {Y : Yd} (h : YOK n Y) {p s : Nat} (hp : p < n) (hs : s < sm Y p) : ∀ k, tnk Y p s k < sm Y p
  | 0 => hs
  | k + 1 => tn_in h hp (tnk_in h hp hs k)
theorem thn_in {n : Nat} {Y : Yd} (h : YOK n Y) {T : Nat → Nat} {ng : Bool} {p m : Nat} (hp : p < n) : thn Y T ng p m < sm Y p := by
  have := (sm_in h hp).1
  unfold thn
  split <;> exact Nat.mod_lt _ (by omega)
theorem st0_in {n : Nat} {Y : Yd} (h : YOK n Y) {T : Nat → Nat} (hT : TOK n Y T) {ng : Bool} {p m : Nat} (hp : p < n) : st0 Y T ng p m < sm Y p := by
  unfold st0
  split
  · exact thn_in h hp
  · exact hT p hp
theorem per_in {n : Nat} {Y : Yd} (h : YOK n Y) {p : Nat} (hp : p < n) : 1 ≤ per Y p ∧ per Y p ≤ 6 := by
  have := sm_in h hp
  unfold per
  split <;> omega
theorem pl_eg {n : Nat} {Y : Yd} (h : YOK n Y) {p s q : Nat} (hp : p < n) (hs : s < sm Y p) (e : pl Y p s = 10 + q) : eg Y n p q := ⟨hp, wa Y p s, wa_in h hp hs, e⟩
theorem ctK_0 {n : Nat} {Y : Yd} (h : YOK n Y) {p s m q : Nat} (hp : p < n) (hs : s < sm Y p) (hne : ¬ eg Y n p q) : ∀ k, ctK Y p s m q k = 0
  | 0 => rfl
  | k + 1 => by
    unfold ctK
    rw [ctK_0 h hp hs hne k, if_neg (fun e => hne (pl_eg h hp (tnk_in h hp hs k) e))]
theorem Gp_0 {n : Nat} {Y : Yd} (h : YOK n Y) {T : Nat → Nat} (hT : TOK n Y T) {ng : Bool} {p m q : Nat} (hp : p < n) (hne : ¬ eg Y n p q) : Gp Y T ng p m q = 0 := ctK_0 h hp (st0_in h hT hp) hne _
theorem sh_sum (m a : Nat) : ∀ k, sumT (sh m a) k = k * (m / a) + min k (m % a)
  | 0 => by simp [sumT]
  | k + 1 => by
    have := sh_sum m a k
    unfold sumT
    rw [this, Nat.succ_mul]
    unfold sh
    split <;> omega
theorem sh_all {m a : Nat} (ha : 0 < a) : sumT (sh m a) a = m := by
  rw [sh_sum]
  have := Nat.mod_lt m ha
  have := Nat.div_add_mod m a
  rw [Nat.min_eq_right (by omega)]
  exact this
theorem ctK_sum {Y : Yd} {p s m n : Nat} : ∀ k, sumT (fun q => ctK Y p s m q k) n ≤ sumT (sh m (per Y p)) k
  | 0 => by rw [sumT_0 (g := fun q => ctK Y p s m q 0) n (fun _ _ => rfl)]; exact Nat.zero_le _
  | k + 1 => by
    have ih := ctK_sum (Y := Y) (p := p) (s := s) (m := m) (n := n) k
    have e : sumT (fun q => ctK Y p s m q (k + 1)) n = sumT (fun q => ctK Y p s m q k) n + sumT (fun q => if pl Y p (tnk Y p s k) = 10 + q then sh m (per Y p) k else 0) n := sumT_add _ _ n
    have o := sumT_one (pl Y p (tnk Y p s k)) (sh m (per Y p) k) n
    rw [e]
    show _ ≤ sumT (sh m (per Y p)) k + sh m (per Y p) k
    have : (if pl Y p (tnk Y p s k) < 10 + n then sh m (per Y p) k else 0) ≤ sh m (per Y p) k := by split <;> omega
    omega
theorem Gp_sum {n : Nat} {Y : Yd} (h : YOK n Y) {T : Nat → Nat} {ng : Bool} {p m : Nat} (hp : p < n) : sumT (fun q => Gp Y T ng p m q) n ≤ m := by
  have := ctK_sum (Y := Y) (p := p) (s := st0 Y T ng p m) (m := m) (n := n) (per Y p)
  rw [sh_all (per_in h hp).1] at this
  exact this
/-! a switch reaches more switches than any that it leads to -/
def mu (Y : Yd) (n p : Nat) : Nat := ct (rch Y n p) n
theorem mu_lt {n : Nat} {Y : Yd} (h : YOK n Y) (hs : strt Y n) {p q : Nat} (hq : rc Y n q) (e : eg Y n q p) : mu Y n p < mu Y n q := by
  have hqn : q < n := e.1
  have hpn : p < n := eg_lt h e
  obtain ⟨k, hk⟩ := hq
  have hp : rc Y n p := ⟨k + 1, pth_snoc k 0 q p hk e⟩
  unfold mu
  refine ct_lt (b := p) (fun b hb => ?_) ?_ ?_ n hpn
  · obtain ⟨j, hj⟩ := (rch_bit h hpn b).mp hb
    exact (rch_bit h hqn b).mpr ⟨j + 1, p, e, hj⟩
  · cases hb : (rch Y n p).testBit p with
    | false => rfl
    | true => exact absurd ((rch_bit h hpn p).mp hb) (hs p hpn hp)
  · exact (rch_bit h hqn p).mpr ⟨0, p, e, rfl⟩
theorem cm_bit {n : Nat} {Y : Yd} (h : YOK n Y) (hn : 1 ≤ n) (b : Nat) : (cm Y n).testBit b = true ↔ rc Y n b := rch_come h hn b
theorem rc_lt {n : Nat} {Y : Yd} (h : YOK n Y) (hn : 1 ≤ n) {b : Nat} (hb : rc Y n b) : b < n := by
  obtain ⟨k, hk⟩ := hb
  cases k with
  | zero => have : 0 = b := hk; omega
  | succ k =>
    obtain ⟨x, -, e⟩ := pth_unsnoc k 0 b hk
    exact eg_lt h e
theorem cs_fix {n : Nat} {Y : Yd} {T : Nat → Nat} {ng : Bool} {N : Nat} (h : YOK n Y) (hn : 1 ≤ n) (hs : strt Y n) (hT : TOK n Y T) : ∀ f q, rc Y n q → n - mu Y n q < f → cs Y n T ng N f q = cs Y n T ng N (f + 1) q
  | 0, q, _, hf => by omega
  | f + 1, q, hq, hf => by
    have e1 : cs Y n T ng N (f + 1) q = (if q = 0 then N else 0) + sumT (fun p => if (cm Y n).testBit p then Gp Y T ng p (cs Y n T ng N f p) q else 0) n := rfl
    have e2 : cs Y n T ng N (f + 1 + 1) q = (if q = 0 then N else 0) + sumT (fun p => if (cm Y n).testBit p then Gp Y T ng p (cs Y n T ng N (f + 1) p) q else 0) n := rfl
    rw [e1, e2]
    congr 1
    refine sumT_cg n (fun p hp => ?_)
    try dsimp only
    split
    · rename_i hb
      have hp' := (cm_bit h hn p).mp hb
      by_cases he : eg Y n p q
      · have hm := mu_lt h hs hp' he
        have hle : mu Y n p ≤ n := ct_le _ n
        rw [cs_fix h hn hs hT f p hp' (by omega)]
      · rw [Gp_0 h hT hp he, Gp_0 h hT hp he]
    · rfl
theorem cst_eq {n : Nat} {Y : Yd} {T : Nat → Nat} {ng : Bool} {N q : Nat} (h : YOK n Y) (hn : 1 ≤ n) (hs : strt Y n) (hT : TOK n Y T) (hq : rc Y n q) : cst Y n T ng N q = (if q = 0 then N else 0) + sumT (fun p => if (cm Y n).testBit p then Gp Y T ng p (cst Y n T ng N p) q else 0) n := by
  unfold cst
  exact cs_fix h hn hs hT (n + 1) q hq (by omega)
/-! what has been handed on while the switches of W wait -/
def acc (Y : Yd) (n : Nat) (T : Nat → Nat) (ng : Bool) (N W q : Nat) : Nat := (if q = 0 then N else 0) + sumT (fun p => if (cm Y n).testBit p && !W.testBit p then Gp Y T ng p (cst Y n T ng N p) q else 0) n
def mass (Y : Yd) (n : Nat) (T : Nat → Nat) (ng : Bool) (N W : Nat) : Nat := sumT (fun q => if W.testBit q then acc Y n T ng N W q else 0) n
def less (W p : Nat) : Nat := W - 2 ^ p
theorem less_bit {W p : Nat} (hW : W < 1024) (hp : W.testBit p = true) (q : Nat) : (less W p).testBit q = (W.testBit q && decide (q ≠ p)) := by
  have hp10 : p < 10 := by
    rcases Nat.lt_or_ge p 10 with g | g
    · exact g
    · have : W < 2 ^ p := Nat.lt_of_lt_of_le hW (show 2 ^ 10 ≤ 2 ^ p from Nat.pow_le_pow_right (by decide) g)
      rw [Nat.testBit_lt_two_pow this] at hp
      cases hp
  have key : ∀ p, p < 10 → ∀ W, W < 1024 → W.testBit p = true → W - 2 ^ p = W ^^^ 2 ^ p := by decide +kernel
  unfold less
  rw [key p hp10 W hW hp, Nat.testBit_xor, Nat.testBit_two_pow]
  by_cases e : q = p
  · subst e
    simp [hp]
  · simp [e, Ne.symm e]
theorem less_lt {W p : Nat} (hW : W < 1024) : less W p < 1024 := Nat.lt_of_le_of_lt (Nat.sub_le _ _) hW
theorem acc_0 {n : Nat} {Y : Yd} {T : Nat → Nat} {ng : Bool} {N q : Nat} : acc Y n T ng N (cm Y n) q = if q = 0 then N else 0 := by
  unfold acc
  rw [sumT_0 n (fun i _ => by cases (cm Y n).testBit i <;> simp)]
  omega
theorem mass_0 {n : Nat} {Y : Yd} {T : Nat → Nat} {ng : Bool} {N : Nat} : mass Y n T ng N (cm Y n) ≤ N := by
  unfold mass
  have : sumT (fun q => if (cm Y n).testBit q then acc Y n T ng N (cm Y n) q else 0) n ≤ sumT (fun q => if 10 = 10 + q then N else 0) n := by
    refine sumT_le n (fun i _ => ?_)
    try dsimp only
    rw [acc_0]
    by_cases e : i = 0
    · subst e; split <;> simp
    · simp [e]
  have := sumT_one 10 N n
  split at this <;> omega
section FLOW
variable {n : Nat} {Y : Yd} {T : Nat → Nat} {ng : Bool} {N W p : Nat}
theorem acc_is (h : YOK n Y) (hn : 1 ≤ n) (hs : strt Y n) (hT : TOK n Y T) (hp : rc Y n p) (hr : ∀ q, q < n → W.testBit q = true → ¬ eg Y n q p) : acc Y n T ng N W p = cst Y n T ng N p := by
  rw [cst_eq h hn hs hT hp]
  unfold acc
  congr 1
  refine sumT_cg n (fun q hq => ?_)
  try dsimp only
  cases hw : W.testBit q with
  | false => simp
  | true =>
    rw [Gp_0 h hT hq (hr q hq hw)]
    simp
theorem acc_step (hW : W < 1024) (hp : W.testBit p = true) (hpn : p < n) (hpc : (cm Y n).testBit p = true) (q : Nat) : acc Y n T ng N (less W p) q = acc Y n T ng N W q + Gp Y T ng p (cst Y n T ng N p) q := by
  unfold acc
  have := sumT_out (g := fun i => if (cm Y n).testBit i && !(less W p).testBit i then Gp Y T ng i (cst Y n T ng N i) q else 0) (g' := fun i => if (cm Y n).testBit i && !W.testBit i then Gp Y T ng i (cst Y n T ng N i) q else 0) (p := p) (fun i hi => by
    try dsimp only
    rw [less_bit hW hp i]
    simp [hi]) (by simp [hp]) n hpn
  rw [this]
  try dsimp only
  rw [less_bit hW hp p]
  simp [hpc]
  omega
theorem mass_step (h : YOK n Y) (hW : W < 1024) (hp : W.testBit p = true) (hpn : p < n) (hpc : (cm Y n).testBit p = true) (he : acc Y n T ng N W p = cst Y n T ng N p) : mass Y n T ng N (less W p) ≤ mass Y n T ng N W := by
  unfold mass
  have o := sumT_out (g := fun q => if W.testBit q then acc Y n T ng N W q else 0) (g' := fun q => if W.testBit q && decide (q ≠ p) then acc Y n T ng N W q else 0) (p := p) (fun i hi => by simp [hi]) (by simp) n hpn
  have l : sumT (fun q => if (less W p).testBit q then acc Y n T ng N (less W p) q else 0) n ≤ sumT (fun q => (if W.testBit q && decide (q ≠ p) then acc Y n T ng N W q else 0) + Gp Y T ng p (cst Y n T ng N p) q) n := by
    refine sumT_le n (fun i _ => ?_)
    try dsimp only
    rw [less_bit hW hp i, acc_step hW hp hpn hpc i]
    split <;> omega
  rw [sumT_add] at l
  have g : sumT (Gp Y T ng p (cst Y n T ng N p)) n ≤ cst Y n T ng N p := Gp_sum h hpn
  rw [o]
  try dsimp only
  rw [if_pos hp, he]
  omega
theorem mass_mem (hp : W.testBit p = true) (hpn : p < n) : acc Y n T ng N W p ≤ mass Y n T ng N W := by
  have := sumT_mem (g := fun q => if W.testBit q then acc Y n T ng N W q else 0) (p := p) n hpn
  try dsimp only at this
  rw [if_pos hp] at this
  exact this
/-- one of those that wait is ready -/
theorem ready_one (h : YOK n Y) (hn : 1 ≤ n) (hs : strt Y n) (hW : ∀ q, W.testBit q = true → rc Y n q) (hne : ∃ q, W.testBit q = true) : ∃ p, W.testBit p = true ∧ ∀ q, q < n → W.testBit q = true → ¬ eg Y n q p := by
  obtain ⟨q0, hq0⟩ := hne
  obtain ⟨k, ⟨p, hp, hk⟩, hmin⟩ := pk_least (fun k => ∃ p, W.testBit p = true ∧ n - mu Y n p = k) ⟨_, q0, hq0, rfl⟩
  refine ⟨p, hp, fun q hqn hq e => ?_⟩
  have hlt := mu_lt h hs (hW q hq) e
  have hle : mu Y n q ≤ n := ct_le _ n
  exact hmin (n - mu Y n q) (by omega) ⟨q, hq, rfl⟩
end FLOW
end
section
def rdQ (Y : Yd) (W p q : Nat) : Nat → Bool
  | 0 => true
  | k + 1 => rdQ Y W p q k && (!W.testBit q || decide (Y.2.2 q k ≠ 10 + p))
def rdy (Y : Yd) (W p : Nat) : Nat → Bool
  | 0 => true
  | q + 1 => rdy Y W p q && rdQ Y W p q (Y.2.1 q)
theorem rdQ_iff {Y : Yd} {W p q : Nat} : ∀ k, rdQ Y W p q k = true ↔ ∀ w, w < k → W.testBit q = true → Y.2.2 q w ≠ 10 + p
  | 0 => by simp [rdQ]
  | k + 1 => by
    unfold rdQ
    rw [Bool.and_eq_true, rdQ_iff k, Bool.or_eq_true, decide_eq_true_iff]
    constructor
    · rintro ⟨h1, h2⟩ w hw hq
      by_cases e : w = k
      · subst e
        rcases h2 with h2 | h2
        · rw [hq] at h2; cases h2
        · exact h2
      · exact h1 w (by omega) hq
    · intro h
      refine ⟨fun w hw hq => h w (by omega) hq, ?_⟩
      cases hq : W.testBit q with
      | false => exact Or.inl rfl
      | true => exact Or.inr (h k (by omega) hq)
theorem rdy_iff {Y : Yd} {W p n : Nat} : ∀ k, k ≤ n → (rdy Y W p k = true ↔ ∀ q, q < k → W.testBit q = true → ¬ eg Y n q p)
  | 0, _ => by simp [rdy]
  | k + 1, hk => by
    unfold rdy
    rw [Bool.and_eq_true, rdy_iff (n := n) k (by omega), rdQ_iff]
    constructor
    · rintro ⟨h1, h2⟩ q hq hb he
      by_cases e : q = k
      · subst e
        obtain ⟨-, w, hw, e⟩ := he
        exact h2 w hw hb e
      · exact h1 q (by omega) hb he
    · intro h
      exact ⟨fun q hq hb => h q (by omega) hb, fun w hw hb e => h k (by omega) hb ⟨by omega, w, hw, e⟩⟩
/-- the stands behind N trucks, or N trucks ago -/
def bh (Y : Yd) (n : Nat) (T : Nat → Nat) (ng : Bool) (N W p : Nat) : Nat := if (cm Y n).testBit p && !W.testBit p then thn Y T ng p (cst Y n T ng N p) else T p
theorem i_negT {N : Nat} (h : N ≤ 1000000) : (-(nI N)).toInt = -(N : Int) := by
  rw [Int32.toInt_neg, nI_toInt (by omega)]
  rw [Int.bmod_def]
  split <;> omega
theorem i_sac {a b e : Nat} (h : b ≤ a + e) : nI a - nI b + nI e = nI (a + e - b) := by
  rw [Int32.sub_eq_add_neg, Int32.add_assoc, Int32.add_comm (-nI b), ← Int32.add_assoc, ← Int32.sub_eq_add_neg, nI_add, pk_sub h]
section MM
variable {d L : Nat} {dy : mjM} {I : mjI} {y y1 n1 w1 c y2 : Option Nat} {R : mjR} {J : mjJ} {pn : Nat} {pg : Nat → Nat} {n : Nat} {Y : Yd} {T : Nat → Nat} {t : Nat} {tr : Nat → Nat} {kp : Kp} {wn : Nat} {wt : Nat → Nat} {yr dn : Nat}
theorem M_isReady {p W : Nat} (hp : p < n) (hW : W < 1024) (hY : MY I n Y) : mj_call mj_P (d + 1) kn_M_isReady [.ref 45, .int (nI p), .int (nI W)] (HP L dy I y y1 n1 w1 c y2 R J) (some (.int (nI (if rdy Y W p n then 1 else 0)))) (HP L dy I y y1 n1 w1 c y2 R J) := by
  obtain ⟨h1, h2, h3⟩ := id hY
  have hn : n ≤ 10 := h2.1
  refine mj_ci rfl (Nat.le_of_ble_eq_true rfl) ?_
  refine mj_run 4 rfl trivial ?_
  have key := dn_ind n (fun q => ∀ (l5 : Option Value), mj_Rd (mj_call mj_P d) kc_M_isReady 2 (5, [some (.ref 45), some (.int (nI p)), some (.int (nI W)), some (.int (nI (if rdy Y W p q then 1 else 0))), some (.int (nI q)), l5], [], HP L dy I y y1 n1 w1 c y2 R J) (some (.int (nI (if rdy Y W p n then 1 else 0)))) (HP L dy I y y1 n1 w1 c y2 R J)) ?_ ?_ 0 (by omega)
  · exact key none
  · intro l5
    refine mj_run 3 rfl trivial ?_
    rw [h1]
    refine mj_brt rfl rfl (by rw [nI_leI (by omega) (by omega)]; omega) ?_
    refine mj_run 1 rfl trivial ?_
    refine mj_end rfl rfl ?_
    cases rdy Y W p n
    · exact Or.inl rfl
    · exact Or.inr rfl
  · intro q hq ih l5
    obtain ⟨k1, k2, k3, kw⟩ := h2.2 q hq
    obtain ⟨e1, e2, e3⟩ := h3 q hq
    refine mj_run 3 rfl trivial ?_
    rw [h1]
    refine mj_brf rfl rfl (by rw [nI_leI (by omega) (by omega)]; omega) ?_
    refine mj_run 2 rfl trivial ?_
    have inner := dn_ind (Y.2.1 q) (fun w => mj_Rd (mj_call mj_P d) kc_M_isReady 2 (17, [some (.ref 45), some (.int (nI p)), some (.int (nI W)), some (.int (nI (if rdy Y W p q && rdQ Y W p q w then 1 else 0))), some (.int (nI q)), some (.int (nI w))], [], HP L dy I y y1 n1 w1 c y2 R J) (some (.int (nI (if rdy Y W p n then 1 else 0)))) (HP L dy I y y1 n1 w1 c y2 R J)) ?_ ?_ 0 (by omega)
    · rw [show rdQ Y W p q 0 = true from rfl, Bool.and_true] at inner
      exact inner
    · refine mj_run 5 rfl (nI_vi (by omega) (by decide)) ?_
      rw [nI_nc (by omega), e2]
      refine mj_brt rfl rfl (by rw [nI_leI (by omega) (by omega)]; omega) ?_
      refine mj_run 2 rfl trivial ?_
      rw [nI_add]
      exact ih _
    · intro w hw ihw
      have hv := kw w hw
      have e9 : nI 3 * nI q + nI w = nI (3 * q + w) := by rw [pk_mul, nI_add]
      have nxt : ∀ z : Int32, z = nI (if rdy Y W p q && rdQ Y W p q (w + 1) then 1 else 0) → ∀ b : Bool, mj_Rd (mj_call mj_P d) kc_M_isReady 2 (66, [some (.ref 45), some (.int (nI p)), some (.int (nI W)), some (.int (nI (if b then 1 else 0))), some (.int (nI q)), some (.int (nI w))], [.int z], HP L dy I y y1 n1 w1 c y2 R J) (some (.int (nI (if rdy Y W p n then 1 else 0)))) (HP L dy I y y1 n1 w1 c y2 R J) := by
        intro z hz b
        subst hz
        refine mj_run 3 rfl trivial ?_
        rw [nI_add]
        exact ihw
      have eQ : (rdy Y W p q && rdQ Y W p q (w + 1)) = ((rdy Y W p q && rdQ Y W p q w) && (!W.testBit q || decide (Y.2.2 q w ≠ 10 + p))) := by
        rw [show rdQ Y W p q (w + 1) = (rdQ Y W p q w && (!W.testBit q || decide (Y.2.2 q w ≠ 10 + p))) from rfl, Bool.and_assoc]
      rw [eQ] at nxt
      refine mj_run 5 rfl (nI_vi (by omega) (by decide)) ?_
      rw [nI_nc (by omega), e2]
      refine mj_brf rfl rfl (by rw [nI_leI (by omega) (by omega)]; omega) ?_
      refine mj_run 1 rfl trivial ?_
      cases hb : (rdy Y W p q && rdQ Y W p q w) with
      | false =>
        rw [hb] at nxt
        refine mj_brt rfl rfl (by decide) ?_
        refine mj_run 1 rfl trivial ?_
        exact nxt _ rfl false
      | true =>
        rw [hb] at nxt
        refine mj_brf rfl rfl (by decide) ?_
        refine mj_run 5 rfl trivial ?_
        rw [b_test (by omega) (by omega)]
        cases hbq : W.testBit q with
        | false =>
          rw [hbq] at nxt
          refine mj_brt rfl rfl (by decide) ?_
          refine mj_run 2 rfl trivial ?_
          exact nxt _ rfl true
        | true =>
          rw [hbq] at nxt
          refine mj_brf rfl rfl (by decide) ?_
          refine mj_run 11 rfl (by rw [e9]; exact nI_vi (by omega) (by decide)) ?_
          rw [e9, nI_nc (by omega), e3 w (by omega), if_pos hw, nI_add]
          refine mj_bra rfl rfl (fun g => ?_) (fun g => ?_)
          · rw [nI_e (by omega) (by omega)] at g
            refine mj_run 1 rfl trivial ?_
            exact nxt _ (by rw [decide_eq_false (fun q => q g)]; rfl) true
          · rw [nI_e (by omega) (by omega)] at g
            refine mj_run 2 rfl trivial ?_
            exact nxt _ (by rw [decide_eq_true g]; rfl) true
theorem M_send {p s : Nat} {C : Nat → Nat} (hp : p < n) (hs : s < sm Y p) (hY : MY I n Y) (hC : RI I 57 n C) (hm : C p ≤ 1000000) : ∃ I', mj_call mj_P (d + 3) kn_M_send [.ref 45, .int (nI p), .int (nI s)] (HP L dy I y y1 n1 w1 c y2 R J) none (HP L dy I' y y1 n1 w1 c y2 R J) ∧ Fr [] [57] I I' ∧ RI I' 57 n (fun q => C q + ctK Y p s (C p) q (per Y p)) := by
  obtain ⟨h1, h2, h3⟩ := id hY
  have hn : n ≤ 10 := h2.1
  obtain ⟨k1, k2, k3, kw⟩ := h2.2 p hp
  obtain ⟨e1, e2, e3⟩ := h3 p hp
  have hpe := per_in h2 hp
  have vp : vp_in (nI p) 10 := nI_vi (by omega) (by decide)
  have key := dn_ind (per Y p) (fun k => ∀ (X : mjI) (l7 l8 : Option Value), mj_lg l7 = true → Fr [] [57] I X → RI X 57 n (fun q => C q + ctK Y p s (C p) q k) → ∃ I', (Fr [] [57] I I' ∧ RI I' 57 n (fun q => C q + ctK Y p s (C p) q (per Y p))) ∧ mj_Rd (mj_call mj_P (d + 2)) kc_M_send 0 (34, [some (.ref 45), some (.int (nI p)), some (.int (nI s)), some (.int (nI (C p))), some (.int (nI (per Y p))), some (.int (nI (tnk Y p s k))), some (.int (nI k)), l7, l8], [], HP L dy X y y1 n1 w1 c y2 R J) none (HP L dy I' y y1 n1 w1 c y2 R J)) ?_ ?_ 0 (by omega)
  · obtain ⟨I', ⟨hf, hR⟩, hx⟩ := key I none none rfl ((Fr.rf I).w (by simp) (by simp)) (fun q hq => hC q hq)
    refine ⟨I', ?_, hf, hR⟩
    refine mj_ci rfl (Nat.le_of_ble_eq_true rfl) ?_
    refine mj_run 10 rfl ⟨vp, vp⟩ ?_
    rw [nI_nc (by omega), hC p hp, e1]
    have rest : ∀ z : Int32, z = nI (per Y p) → mj_Rd (mj_call mj_P (d + 2)) kc_M_send 0 (26, [some (.ref 45), some (.int (nI p)), some (.int (nI s)), some (.int (nI (C p))), none, none, none, none, none], [.int z], HP L dy I y y1 n1 w1 c y2 R J) none (HP L dy I' y y1 n1 w1 c y2 R J) := by
      intro z hz
      subst hz
      refine mj_run 5 rfl trivial ?_
      exact hx
    refine mj_bra rfl rfl (fun g => ?_) (fun g => ?_)
    · rw [nI_e (by omega) (by decide)] at g
      refine mj_run 2 rfl trivial ?_
      refine mj_cal rfl rfl (M_standMany hY hp) ?_
      exact rest _ (by unfold per; rw [if_neg g])
    · rw [nI_e (by omega) (by decide)] at g
      refine mj_run 2 rfl trivial ?_
      exact rest _ (by unfold per; rw [if_pos (Classical.not_not.mp g)])
  · intro X l7 l8 _ hf hR
    refine ⟨X, ⟨hf, hR⟩, ?_⟩
    refine mj_run 2 rfl trivial ?_
    refine mj_brt rfl rfl (by rw [nI_leI (by omega) (by omega)]; omega) ?_
    exact mj_end rfl rfl trivial
  · intro k hk ih X l7 l8 g7 hf hR
    have hYX : MY X n Y := hY.fr hf (by decide)
    have htk := tnk_in h2 hp hs k
    have hwa := wa_in h2 hp htk
    have hpl := pl_in h2 hp htk
    have e9 : nI 3 * nI p + nI (wa Y p (tnk Y p s k)) = nI (3 * p + wa Y p (tnk Y p s k)) := by rw [pk_mul, nI_add]
    have e10 : X 52 (3 * p + wa Y p (tnk Y p s k)) = nI (pl Y p (tnk Y p s k)) := by
      rw [(hYX.2.2 p hp).2.2 _ (by omega), if_pos hwa]
      rfl
    -- from 77 on
    have rest : ∃ I', (Fr [] [57] I I' ∧ RI I' 57 n (fun q => C q + ctK Y p s (C p) q (per Y p))) ∧ ∀ z : Int32, z = (if k < C p % per Y p then nI 1 else nI 0) → mj_Rd (mj_call mj_P (d + 2)) kc_M_send 0 (77, [some (.ref 45), some (.int (nI p)), some (.int (nI s)), some (.int (nI (C p))), some (.int (nI (per Y p))), some (.int (nI (tnk Y p s k))), some (.int (nI k)), some (.int (nI (pl Y p (tnk Y p s k)))), l8], [.int z, .int (nI (C p / per Y p))], HP L dy X y y1 n1 w1 c y2 R J) none (HP L dy I' y y1 n1 w1 c y2 R J) := by
      have esh : ∀ z : Int32, z = (if k < C p % per Y p then nI 1 else nI 0) → nI (C p / per Y p) + z = nI (sh (C p) (per Y p) k) := by
        intro z hz
        subst hz
        unfold sh
        split <;> rw [nI_add]
      by_cases g : pl Y p (tnk Y p s k) < 10
      · obtain ⟨I', hA, hx⟩ := ih X (some (.int (nI (pl Y p (tnk Y p s k))))) (some (.int (nI (sh (C p) (per Y p) k)))) rfl hf (fun q hq => by
          have e : ctK Y p s (C p) q (k + 1) = ctK Y p s (C p) q k := by
            unfold ctK
            rw [if_neg (by omega)]
            cases k <;> rfl
          show _ = nI (C q + ctK Y p s (C p) q (k + 1))
          rw [e]
          exact hR q hq)
        refine ⟨I', hA, fun z hz => ?_⟩
        refine mj_run 4 rfl trivial ?_
        rw [esh z hz]
        refine mj_brt rfl rfl (by rw [nI_ltI (by omega) (by decide)]; exact g) ?_
        refine mj_run 3 rfl trivial ?_
        refine mj_cal rfl rfl (M_turned hYX hp htk) ?_
        refine mj_run 3 rfl trivial ?_
        rw [nI_add]
        exact hx
      · obtain ⟨r, hr⟩ : ∃ r, pl Y p (tnk Y p s k) = 10 + r := ⟨pl Y p (tnk Y p s k) - 10, by omega⟩
        have hrn : r < n := by omega
        have hYZ : MY (mj_ui X 57 r (nI (C r + ctK Y p s (C p) r k + sh (C p) (per Y p) k))) n Y := hYX.fr (Fr.a X (a := 57) (by decide) r _) (by decide)
        obtain ⟨I', hA, hx⟩ := ih (mj_ui X 57 r (nI (C r + ctK Y p s (C p) r k + sh (C p) (per Y p) k))) (some (.int (nI (pl Y p (tnk Y p s k))))) (some (.int (nI (sh (C p) (per Y p) k)))) rfl ((hf.tr (Fr.a X (a := 57) (by decide) r _)).w (by decide) (by decide)) (fun q hq => by
          have e : ctK Y p s (C p) q (k + 1) = ctK Y p s (C p) q k + if 10 + r = 10 + q then sh (C p) (per Y p) k else 0 := by
            rw [← hr]
            cases k <;> rfl
          show _ = nI (C q + ctK Y p s (C p) q (k + 1))
          rw [e]
          by_cases eq : q = r
          · subst eq
            rw [if_pos rfl]
            simp [mj_ui, upd, Nat.add_assoc]
          · rw [if_neg (by omega)]
            have := hR q hq
            simp only [mj_ui, upd, ↓reduceIte, if_neg eq, Nat.add_zero]
            exact this)
        refine ⟨I', hA, fun z hz => ?_⟩
        refine mj_run 4 rfl trivial ?_
        rw [esh z hz]
        refine mj_brf rfl rfl (by rw [nI_ltI (by omega) (by decide)]; exact g) ?_
        have e11 : nI (pl Y p (tnk Y p s k)) - nI 10 = nI r := by rw [hr, pk_sub (by omega), Nat.add_sub_cancel_left]
        refine mj_run 10 rfl ⟨by rw [e11]; exact nI_vi (by omega) (by decide), by rw [e11]; exact nI_vi (by omega) (by decide), by decide⟩ ?_
        rw [e11, nI_nc (by omega), hR r hrn, nI_add]
        refine mj_run 3 rfl trivial ?_
        refine mj_cal rfl rfl (M_turned hYZ hp htk) ?_
        refine mj_run 3 rfl trivial ?_
        rw [nI_add]
        exact hx
    obtain ⟨I', hA, hx⟩ := rest
    refine ⟨I', hA, ?_⟩
    refine mj_run 2 rfl trivial ?_
    refine mj_brf rfl rfl (by rw [nI_leI (by omega) (by omega)]; omega) ?_
    refine mj_run 8 rfl trivial ?_
    refine mj_cal rfl rfl (M_wayAt hYX hp htk) ?_
    have nz : ¬ nI (per Y p) = 0 := by rw [nI_z (by omega)]; omega
    refine mj_run 10 rfl ⟨by rw [e9]; exact nI_vi (by omega) (by decide), nz, nz⟩ ?_
    rw [e9, nI_nc (by omega), e10, pk_rem (by omega) (by omega) (by omega), pk_div (by omega) (by omega) (by omega)]
    have hmod := Nat.mod_lt (C p) (show 0 < per Y p by omega)
    refine mj_bra rfl rfl (fun g => ?_) (fun g => ?_)
    · rw [nI_leI (by omega) (by omega)] at g
      refine mj_run 1 rfl trivial ?_
      exact hx _ (by rw [if_neg (by omega)])
    · rw [nI_leI (by omega) (by omega)] at g
      refine mj_run 2 rfl trivial ?_
      exact hx _ (by rw [if_pos (by omega)])
end MM
end
section
section MM
variable {d L : Nat} {dy : mjM} {I : mjI} {y y1 n1 w1 c y2 : Option Nat} {R : mjR} {J : mjJ} {pn : Nat} {pg : Nat → Nat} {n : Nat} {Y : Yd} {T : Nat → Nat} {t : Nat} {tr : Nat → Nat} {kp : Kp} {wn : Nat} {wt : Nat → Nat} {yr dn : Nat}
theorem M_layBehind {x : Int32} {ng : Bool} {N : Nat} (hx : (ng = false ∧ x = nI N) ∨ (ng = true ∧ x = -(nI N) ∧ 1 ≤ N)) (hN : N ≤ 1000000) (h2 : MY I n Y) (h3 : Mst I n Y T) (hn1 : 1 ≤ n) (hst : strt Y n) : ∃ I', mj_call mj_P (d + 4) kn_M_layBehind [.ref 45, .int x] (HP L dy I y y1 n1 w1 c y2 R J) none (HP L dy I' y y1 n1 w1 c y2 R J) ∧ Fr [] [55, 57] I I' ∧ RI I' 55 n (bh Y n T ng N 0) := by
  have hY := h2.2.1
  have hn : n ≤ 10 := hY.1
  have hx0 : 0 ≤ x ↔ ng = false := by
    rw [ii_le]
    rcases hx with ⟨e, e2⟩ | ⟨e, e2, e3⟩
    · subst e2
      rw [nI_toInt (by omega)]
      simp [e]
    · subst e2
      rw [i_negT hN]
      simp [e]
      omega
  have hcm : cm Y n < 1024 := by
    unfold cm
    exact b_lt (k := 10) (rR_lt hY _) (by decide)
  have hcb : ∀ q, (cm Y n).testBit q = true → rc Y n q := fun q hq => (cm_bit hY hn1 q).mp hq
  -- the waiting ones
  have key : ∀ (W : Nat) (X : mjI) (l4 l5 l6 l7 : Option Value), mj_lg l4 = true → mj_lg l5 = true → mj_lg l6 = true → W < 1024 → (∀ q, W.testBit q = true → (cm Y n).testBit q = true) → Fr [] [55, 57] I X → RI X 57 n (acc Y n T ng N W) → RI X 55 n (bh Y n T ng N W) → mass Y n T ng N W ≤ N → ∃ I', (Fr [] [55, 57] I I' ∧ RI I' 55 n (bh Y n T ng N 0)) ∧ mj_Rd (mj_call mj_P (d + 3)) kc_M_layBehind 0 (66, [some (.ref 45), some (.int x), some (.int (nI N)), some (.int (nI W)), l4, l5, l6, l7], [], HP L dy X y y1 n1 w1 c y2 R J) none (HP L dy I' y y1 n1 w1 c y2 R J) := by
    intro W
    induction W using Nat.strongRecOn with
    | _ W ih =>
    intro X l4 l5 l6 l7 g4 g5 g6 hW hsub hf hA hB hM
    by_cases hz : W = 0
    · subst hz
      refine ⟨X, ⟨hf, hB⟩, ?_⟩
      refine mj_run 1 rfl trivial ?_
      refine mj_brt rfl rfl (by decide) ?_
      exact mj_end rfl rfl trivial
    · have hex : ∃ q, W.testBit q = true := Nat.exists_testBit_of_ne_zero hz
      obtain ⟨pr, hpr, hrdy⟩ := ready_one hY hn1 hst (fun q hq => hcb q (hsub q hq)) hex
      obtain ⟨p, ⟨hpb, hpr2⟩, hmin⟩ := pk_least (fun p => W.testBit p = true ∧ rdy Y W p n = true) ⟨pr, hpr, (rdy_iff n (Nat.le_refl n)).mpr hrdy⟩
      have hpc := hcb p (hsub p hpb)
      have hp : p < n := rc_lt hY hn1 hpc
      have hsm := sm_in hY hp
      have hTp := h3.2 p hp
      have hr := (rdy_iff n (Nat.le_refl n)).mp hpr2
      have hacc : acc Y n T ng N W p = cst Y n T ng N p := acc_is hY hn1 hst h3.2 hpc hr
      have hcN : cst Y n T ng N p ≤ N := by
        rw [← hacc]
        exact Nat.le_trans (mass_mem hpb hp) hM
      have hYX : MY X n Y := h2.fr hf (by decide)
      have hSX : Mst X n Y T := h3.fr hf (by decide)
      have hs0 := st0_in hY h3.2 (ng := ng) (m := cst Y n T ng N p) hp
      obtain ⟨I1, hc1, hf1, hR1⟩ := M_send (d := d) (L := L) (dy := dy) (y := y) (y1 := y1) (n1 := n1) (w1 := w1) (c := c) (y2 := y2) (R := R) (J := J) (s := st0 Y T ng p (cst Y n T ng N p)) hp hs0 hYX hA (by rw [hacc]; omega)
      rw [hacc] at hR1
      have hR2 : RI I1 57 n (acc Y n T ng N (less W p)) := fun q hq => by
        rw [acc_step hW hpb hp (hsub p hpb) q]
        exact hR1 q hq
      have f2 := (hf.tr hf1).tr (Fr.a I1 (a := 55) (by decide) p (nI (thn Y T ng p (cst Y n T ng N p))))
      have hlt : less W p < W := by
        unfold less
        have : 2 ^ p ≤ W := Nat.ge_two_pow_of_testBit hpb
        have : 0 < 2 ^ p := Nat.two_pow_pos p
        omega
      have hthn := thn_in hY (T := T) (ng := ng) (m := cst Y n T ng N p) hp
      obtain ⟨I', hI', hx'⟩ := ih (less W p) hlt (mj_ui I1 55 p (nI (thn Y T ng p (cst Y n T ng N p)))) (some (.int (nI p))) (some (.int (nI (sm Y p)))) (some (.int (nI (onn Y p (cst Y n T ng N p))))) (some (.int (nI (thn Y T ng p (cst Y n T ng N p))))) rfl rfl rfl (less_lt hW) (fun q hq => by
        rw [less_bit hW hpb q, Bool.and_eq_true] at hq
        exact hsub q hq.1) (f2.w (by decide) (by decide)) (fun q hq => by simp [mj_ui]; exact hR2 q hq) (fun q hq => by
        by_cases e : q = p
        · subst e
          simp only [mj_ui, upd, ↓reduceIte]
          unfold bh
          rw [less_bit hW hpb q, hsub q hpb]
          simp
        · have h9 := hB q hq
          rw [← hf1.1 55 (by decide) (by decide)] at h9
          simp only [mj_ui, upd, ↓reduceIte, if_neg e]
          rw [h9]
          unfold bh
          rw [less_bit hW hpb q]
          simp [e]) (Nat.le_trans (mass_step hY hW hpb hp (hsub p hpb) hacc) hM)
      refine ⟨I', hI', ?_⟩
      refine mj_run 1 rfl trivial ?_
      refine mj_brf rfl rfl (by rw [nI_z (by omega)]; exact hz) ?_
      refine mj_run 2 rfl trivial ?_
      -- found
      have eW : nI W - nI 1 <<< (nI p &&& 31) = nI (less W p) := by
        rw [b_one (by omega), pk_sub (Nat.ge_two_pow_of_testBit hpb)]
        rfl
      have vp : vp_in (nI p) 10 := nI_vi (by omega) (by decide)
      have x53 : X 53 p = nI (T p) := hSX.1 p hp
      have nz : ¬ nI (sm Y p) = 0 := by rw [nI_z (by omega)]; omega
      have hon : onn Y p (cst Y n T ng N p) ≤ sm Y p := by
        unfold onn
        split
        · omega
        · exact Nat.le_of_lt (Nat.mod_lt _ (by omega))
      have fin : ∀ z : Int32, z = nI (thn Y T ng p (cst Y n T ng N p)) → mj_Rd (mj_call mj_P (d + 3)) kc_M_layBehind 0 (169, [some (.ref 45), some (.int x), some (.int (nI N)), some (.int (nI W)), some (.int (nI p)), some (.int (nI (sm Y p))), some (.int (nI (onn Y p (cst Y n T ng N p)))), l7], [.int z], HP L dy X y y1 n1 w1 c y2 R J) none (HP L dy I' y y1 n1 w1 c y2 R J) := by
        intro z hz
        subst hz
        have last : ∀ z : Int32, z = nI (st0 Y T ng p (cst Y n T ng N p)) → mj_Rd (mj_call mj_P (d + 3)) kc_M_layBehind 0 (190, [some (.ref 45), some (.int x), some (.int (nI N)), some (.int (nI W)), some (.int (nI p)), some (.int (nI (sm Y p))), some (.int (nI (onn Y p (cst Y n T ng N p)))), some (.int (nI (thn Y T ng p (cst Y n T ng N p))))], [.int z, .int (nI p), .ref 45], HP L dy X y y1 n1 w1 c y2 R J) none (HP L dy I' y y1 n1 w1 c y2 R J) := by
          intro z hz
          subst hz
          refine mj_cal rfl rfl hc1 ?_
          refine mj_run 12 rfl ⟨vp, by decide⟩ ?_
          rw [nI_nc (by omega), eW]
          exact hx'
        refine mj_run 4 rfl trivial ?_
        refine mj_bra rfl rfl (fun g => ?_) (fun g => ?_)
        · have g' := hx0.mp g
          refine mj_run 4 rfl vp ?_
          rw [nI_nc (by omega), x53]
          exact last _ (by unfold st0; rw [if_neg (by rw [g']; decide)])
        · have g' : ng = true := by cases hng : ng with | true => rfl | false => exact absurd (hx0.mpr hng) g
          refine mj_run 2 rfl trivial ?_
          exact last _ (by unfold st0; rw [if_pos g'])
      have mid : ∀ z : Int32, z = nI (onn Y p (cst Y n T ng N p)) → mj_Rd (mj_call mj_P (d + 3)) kc_M_layBehind 0 (131, [some (.ref 45), some (.int x), some (.int (nI N)), some (.int (nI W)), some (.int (nI p)), some (.int (nI (sm Y p))), l6, l7], [.int z], HP L dy X y y1 n1 w1 c y2 R J) none (HP L dy I' y y1 n1 w1 c y2 R J) := by
        intro z hz
        subst hz
        refine mj_run 2 rfl trivial ?_
        refine mj_bra rfl rfl (fun g => ?_) (fun g => ?_)
        · have g' := hx0.mp g
          refine mj_run 8 rfl ⟨vp, nz⟩ ?_
          rw [nI_nc (by omega), x53, nI_add, pk_rem (by omega) (by omega) (by omega)]
          exact fin _ (by unfold thn; rw [if_neg (by rw [g']; decide)])
        · have g' : ng = true := by cases hng : ng with | true => rfl | false => exact absurd (hx0.mpr hng) g
          refine mj_run 11 rfl ⟨vp, nz⟩ ?_
          rw [nI_nc (by omega), x53, i_sac (by omega), pk_rem (by omega) (by omega) (by omega)]
          exact fin _ (by unfold thn; rw [if_pos g'])
      refine dn_ind p (fun q => ∀ l4 : Option Value, mj_Rd (mj_call mj_P (d + 3)) kc_M_layBehind 0 (73, [some (.ref 45), some (.int x), some (.int (nI N)), some (.int (nI W)), some (.int (nI q)), l5, l6, l7], [], HP L dy X y y1 n1 w1 c y2 R J) none (HP L dy I' y y1 n1 w1 c y2 R J)) ?_ ?_ 0 (by omega) l4
      · intro _
        refine mj_run 5 rfl trivial ?_
        rw [b_test (by omega) (by omega), hpb]
        refine mj_brf rfl rfl (by decide) ?_
        refine mj_run 3 rfl trivial ?_
        refine mj_cal rfl rfl (M_isReady hp hW hYX) ?_
        rw [hpr2]
        refine mj_brt rfl rfl (by decide) ?_
        refine mj_run 2 rfl trivial ?_
        refine mj_cal rfl rfl (M_standMany hYX hp) ?_
        refine mj_run 6 rfl vp ?_
        rw [nI_nc (by omega), (hYX.2.2 p hp).1]
        have hk4 := (hY.2 p hp).1
        refine mj_bra rfl rfl (fun g => ?_) (fun g => ?_)
        · rw [nI_e (by omega) (by decide)] at g
          refine mj_run 6 rfl ⟨vp, nz⟩ ?_
          rw [nI_nc (by omega), hA p hp, hacc, pk_rem (by omega) (by omega) (by omega)]
          exact mid _ (by unfold onn; rw [if_neg g])
        · rw [nI_e (by omega) (by decide)] at g
          refine mj_run 2 rfl trivial ?_
          exact mid _ (by unfold onn; rw [if_pos (Classical.not_not.mp g)])
      · intro q hq ihq _
        refine mj_run 5 rfl trivial ?_
        rw [b_test (by omega) (by omega)]
        have nxt : mj_Rd (mj_call mj_P (d + 3)) kc_M_layBehind 0 (92, [some (.ref 45), some (.int x), some (.int (nI N)), some (.int (nI W)), some (.int (nI q)), l5, l6, l7], [], HP L dy X y y1 n1 w1 c y2 R J) none (HP L dy I' y y1 n1 w1 c y2 R J) := by
          refine mj_run 2 rfl trivial ?_
          rw [nI_add]
          exact ihq none
        cases hb : W.testBit q with
        | false => exact mj_brt rfl rfl (by decide) nxt
        | true =>
          refine mj_brf rfl rfl (by decide) ?_
          refine mj_run 3 rfl trivial ?_
          refine mj_cal rfl rfl (M_isReady (by omega) hW hYX) ?_
          have : rdy Y W q n = false := by
            cases hq2 : rdy Y W q n with
            | false => rfl
            | true => exact absurd ⟨hb, hq2⟩ (hmin q hq)
          rw [this]
          exact mj_brf rfl rfl (by decide) nxt
  -- the rows are laid
  have lay := dn_ind 10 (fun p => ∀ (X : mjI), Fr [] [55, 57] I X → (∀ q, q < p → X 57 q = nI (if q = 0 then N else 0) ∧ X 55 q = I 53 q) → ∃ I', (Fr [] [55, 57] I I' ∧ RI I' 55 n (bh Y n T ng N 0)) ∧ mj_Rd (mj_call mj_P (d + 3)) kc_M_layBehind 0 (22, [some (.ref 45), some (.int x), some (.int (nI N)), some (.int (nI (cm Y n))), some (.int (nI p)), none, none, none], [], HP L dy X y y1 n1 w1 c y2 R J) none (HP L dy I' y y1 n1 w1 c y2 R J)) ?_ ?_ 0 (by omega)
  · obtain ⟨I', hA, hx'⟩ := lay I ((Fr.rf I).w (by simp) (by simp)) (fun q hq => by omega)
    refine ⟨I', ?_, hA⟩
    refine mj_ci rfl (Nat.le_of_ble_eq_true rfl) ?_
    refine mj_run 1 rfl trivial ?_
    have go : ∀ z : Int32, z = nI N → mj_Rd (mj_call mj_P (d + 3)) kc_M_layBehind 0 (10, [some (.ref 45), some (.int x), none, none, none, none, none, none], [.int z], HP L dy I y y1 n1 w1 c y2 R J) none (HP L dy I' y y1 n1 w1 c y2 R J) := by
      intro z hz
      subst hz
      refine mj_run 3 rfl trivial ?_
      refine mj_cal rfl rfl (M_reach (by decide) h2) ?_
      refine mj_run 5 rfl trivial ?_
      rw [b_or]
      exact hx'
    refine mj_bra rfl rfl (fun g => ?_) (fun g => ?_)
    · refine mj_run 1 rfl trivial ?_
      rcases hx with ⟨-, e⟩ | ⟨e, -⟩
      · exact go _ e
      · rw [hx0.mp g] at e; cases e
    · refine mj_run 3 rfl trivial ?_
      rcases hx with ⟨e, -⟩ | ⟨-, e, -⟩
      · exact absurd (hx0.mpr e) g
      · exact go _ (by rw [e, Int32.neg_neg])
  · intro X hf hX
    obtain ⟨I', hA, hx'⟩ := key (cm Y n) X (some (.int (nI 10))) none none none rfl rfl rfl hcm (fun _ h => h) hf (fun q hq => by rw [acc_0]; exact (hX q (by omega)).1) (fun q hq => by
      rw [(hX q (by omega)).2, h3.1 q hq]
      unfold bh
      cases (cm Y n).testBit q <;> rfl) mass_0
    refine ⟨I', hA, ?_⟩
    refine mj_run 2 rfl trivial ?_
    refine mj_brt rfl rfl (by decide) ?_
    exact hx'
  · intro p hp ih X hf hX
    have vp : vp_in (nI p) 10 := nI_vi (by omega) (by decide)
    have x53 : X 53 = I 53 := hf.1 53 (by decide) (by decide)
    obtain ⟨I', hA, hx'⟩ := ih (mj_ui (mj_ui X 57 p (nI (if p = 0 then N else 0))) 55 p (I 53 p)) ((hf.tr ((Fr.a X (a := 57) (by decide) p _).tr (Fr.a _ (a := 55) (by decide) p _))).w (by decide) (by decide)) (fun q hq => by
      by_cases e : q = p
      · subst e; simp [mj_ui, upd]
      · obtain ⟨a1, a2⟩ := hX q (by omega)
        simp [mj_ui, upd, e, a1, a2])
    refine ⟨I', hA, ?_⟩
    refine mj_run 2 rfl trivial ?_
    refine mj_brf rfl rfl (by rw [nI_leI (by decide) (by omega)]; omega) ?_
    refine mj_run 4 rfl trivial ?_
    have go : ∀ z : Int32, z = nI (if p = 0 then N else 0) → mj_Rd (mj_call mj_P (d + 3)) kc_M_layBehind 0 (45, [some (.ref 45), some (.int x), some (.int (nI N)), some (.int (nI (cm Y n))), some (.int (nI p)), none, none, none], [.int z, .int (nI p), .ref 57], HP L dy X y y1 n1 w1 c y2 R J) none (HP L dy I' y y1 n1 w1 c y2 R J) := by
      intro z hz
      subst hz
      refine mj_run 11 rfl ⟨⟨vp, by decide⟩, vp, vp, by decide⟩ ?_
      rw [nI_nc (by omega), nI_add]
      have : mj_ui X 57 p (nI (if p = 0 then N else 0)) 53 p = I 53 p := by
        rw [← x53]
        simp [mj_ui]
      rw [this]
      exact hx'
    refine mj_bra rfl rfl (fun g => ?_) (fun g => ?_)
    · rw [nI_z (by omega)] at g
      refine mj_run 1 rfl trivial ?_
      exact go _ (by rw [if_neg g])
    · rw [nI_z (by omega)] at g
      refine mj_run 2 rfl trivial ?_
      exact go _ (by rw [if_pos (Classical.not_not.mp g)])
end MM
end
section
theorem bh_ok {n : Nat} {Y : Yd} (h : YOK n Y) {T : Nat → Nat} (hT : TOK n Y T) {ng : Bool} {N W : Nat} : TOK n Y (bh Y n T ng N W) := fun p hp => by
  unfold bh
  split
  · exact thn_in h hp
  · exact hT p hp
theorem sb_strt {n : Nat} {Y : Yd} (h : YOK n Y) (hn : 1 ≤ n) : sb Y n n = true ↔ strt Y n := sb_iff h hn n (Nat.le_refl n)
theorem lN_rng {x : Int32} {lo hi : Nat} (hl : lo < 2147483648) (hh : hi < 2147483648) : (lN lo ≤ x.toInt64 ∧ x.toInt64 ≤ lN hi) ↔ ((lo : Int) ≤ x.toInt ∧ x.toInt ≤ hi) := by
  rw [Int64.le_iff_toInt_le, Int64.le_iff_toInt_le, Int32.toInt_toInt64, lN_toInt hl, lN_toInt hh]
def nthA (n : Nat) (Y : Yd) (T : Nat → Nat) (x : Int32) : Int32 := if n = 0 then Int32.ofInt (-103) else if sb Y n n then (if 1 ≤ x.toInt ∧ x.toInt ≤ 1000000 then gv (gt Y none (bh Y n T false (x.toNatClampNeg - 1) 0)).1 else Int32.ofInt (-102)) else Int32.ofInt (-103)
def behA (n : Nat) (Y : Yd) (T : Nat → Nat) (x z : Int32) : Int32 := if 0 ≤ z.toInt ∧ z.toInt < n then (if sb Y n n then (if 1 ≤ x.toInt ∧ x.toInt ≤ 1000000 then nI (bh Y n T false x.toNatClampNeg 0 z.toNatClampNeg) else Int32.ofInt (-102)) else Int32.ofInt (-103)) else Int32.ofInt (-101)
def agoA (n : Nat) (Y : Yd) (T : Nat → Nat) (x z : Int32) : Int32 := if 0 ≤ z.toInt ∧ z.toInt < n then (if sb Y n n then (if 0 ≤ x.toInt ∧ x.toInt ≤ 1000000 then nI (bh Y n T (decide (0 < x.toNatClampNeg)) x.toNatClampNeg 0 z.toNatClampNeg) else Int32.ofInt (-102)) else Int32.ofInt (-103)) else Int32.ofInt (-101)
section MM
variable {d L : Nat} {dy : mjM} {I : mjI} {y y1 n1 w1 c y2 : Option Nat} {R : mjR} {J : mjJ} {pn : Nat} {pg : Nat → Nat} {n : Nat} {Y : Yd} {T : Nat → Nat} {t : Nat} {tr : Nat → Nat} {kp : Kp} {wn : Nat} {wt : Nat → Nat} {yr dn : Nat}
theorem MO_nth (h : MI I pn pg n Y T t tr kp wn wt yr dn) (x : Int32) : ∃ I', mj_call mj_P (d + 5) kn_M_nth [.ref 45, .int x] (HP L dy I y y1 n1 w1 c y2 R J) (some (.int (nthA n Y T x))) (HP L dy I' y y1 n1 w1 c y2 R J) ∧ MI I' pn pg n Y T t tr kp wn wt yr dn ∧ Fr wk wa' I I' := by
  have h0 := h
  obtain ⟨h1, h2, h3, h4, h5, h6, h7⟩ := h
  have fin : mj_Rd (mj_call mj_P (d + 4)) kc_M_nth 1 (14, [some (.ref 45), some (.int x)], [], HP L dy I y y1 n1 w1 c y2 R J) (some (.int (Int32.ofInt (-103)))) (HP L dy I y y1 n1 w1 c y2 R J) := by
    refine mj_run 1 rfl trivial ?_
    exact mj_end rfl rfl trivial
  unfold nthA
  by_cases hn : n = 0
  · rw [if_pos hn]
    refine ⟨I, ?_, h0, (Fr.rf I).w (by simp) (by simp)⟩
    refine mj_ci rfl (Nat.le_of_ble_eq_true rfl) ?_
    refine mj_run 1 rfl trivial ?_
    refine mj_cal rfl rfl (M_lacks h2) ?_
    rw [if_pos hn]
    exact mj_brt rfl rfl (by decide) fin
  · rw [if_neg hn]
    have hn1 : 1 ≤ n := by omega
    cases hs : sb Y n n with
    | false =>
      rw [if_neg (by decide)]
      refine ⟨I, ?_, h0, (Fr.rf I).w (by simp) (by simp)⟩
      refine mj_ci rfl (Nat.le_of_ble_eq_true rfl) ?_
      refine mj_run 1 rfl trivial ?_
      refine mj_cal rfl rfl (M_lacks h2) ?_
      rw [if_neg hn]
      refine mj_brf rfl rfl (by decide) ?_
      refine mj_run 1 rfl trivial ?_
      refine mj_cal rfl rfl (M_isStraight h2 hn1) ?_
      rw [hs]
      exact mj_brf rfl rfl (by decide) fin
    | true =>
      rw [if_pos rfl]
      have hst := (sb_strt h2.2.1 hn1).mp hs
      by_cases hr : 1 ≤ x.toInt ∧ x.toInt ≤ 1000000
      · rw [if_pos hr]
        obtain ⟨N, hN, rfl⟩ := i_nI (x := x) (N := 1000001) (by omega)
        rw [nI_toInt (by omega)] at hr
        obtain ⟨I1, hc1, hf1, hR1⟩ := M_layBehind (d := d) (L := L) (dy := dy) (y := y) (y1 := y1) (n1 := n1) (w1 := w1) (c := c) (y2 := y2) (R := R) (J := J) (x := nI (N - 1)) (ng := false) (N := N - 1) (Or.inl ⟨rfl, rfl⟩) (by omega) h2 h3 hn1 hst
        obtain ⟨I2, hc2, hg2, -⟩ := M_goTruck (d := d) (L := L) (dy := dy) (y := y) (y1 := y1) (n1 := n1) (w1 := w1) (c := c) (y2 := y2) (R := R) (J := J) (q := none) (h2.fr hf1 (by decide)) hn1 hR1 (bh_ok h2.2.1 h3.2) sq_none
        have ff := (hf1.tr hg2.fr).w (ks' := wk) (as' := wa') (by decide) (by decide)
        refine ⟨I2, ?_, h0.work ff, ff⟩
        refine mj_ci rfl (Nat.le_of_ble_eq_true rfl) ?_
        refine mj_run 1 rfl trivial ?_
        refine mj_cal rfl rfl (M_lacks h2) ?_
        rw [if_neg hn]
        refine mj_brf rfl rfl (by decide) ?_
        refine mj_run 1 rfl trivial ?_
        refine mj_cal rfl rfl (M_isStraight h2 hn1) ?_
        rw [hs]
        refine mj_brt rfl rfl (by decide) ?_
        refine mj_run 4 rfl trivial ?_
        refine mj_cal rfl rfl (M_in_t ((lN_in (by omega) (by decide) (by decide)).mpr (by omega))) ?_
        refine mj_brt rfl rfl (by decide) ?_
        refine mj_run 4 rfl trivial ?_
        rw [pk_sub (by omega)]
        refine mj_cal rfl rfl hc1 ?_
        refine mj_run 2 rfl trivial ?_
        rw [nI_nc (show N < 2147483648 by omega)]
        refine mj_cal rfl rfl hc2 ?_
        exact mj_end rfl rfl trivial
      · rw [if_neg hr]
        refine ⟨I, ?_, h0, (Fr.rf I).w (by simp) (by simp)⟩
        refine mj_ci rfl (Nat.le_of_ble_eq_true rfl) ?_
        refine mj_run 1 rfl trivial ?_
        refine mj_cal rfl rfl (M_lacks h2) ?_
        rw [if_neg hn]
        refine mj_brf rfl rfl (by decide) ?_
        refine mj_run 1 rfl trivial ?_
        refine mj_cal rfl rfl (M_isStraight h2 hn1) ?_
        rw [hs]
        refine mj_brt rfl rfl (by decide) ?_
        refine mj_run 4 rfl trivial ?_
        refine mj_cal rfl rfl (M_in_f (fun q => hr ((lN_rng (by decide) (by decide)).mp q))) ?_
        refine mj_brf rfl rfl (by decide) ?_
        refine mj_run 1 rfl trivial ?_
        exact mj_end rfl rfl trivial
theorem MO_behind (h : MI I pn pg n Y T t tr kp wn wt yr dn) (x z : Int32) : ∃ I', mj_call mj_P (d + 5) kn_M_behind [.ref 45, .int x, .int z] (HP L dy I y y1 n1 w1 c y2 R J) (some (.int (behA n Y T x z))) (HP L dy I' y y1 n1 w1 c y2 R J) ∧ MI I' pn pg n Y T t tr kp wn wt yr dn ∧ Fr wk wa' I I' := by
  have h0 := h
  obtain ⟨h1, h2, h3, h4, h5, h6, h7⟩ := h
  have hn10 : n ≤ 10 := h2.2.1.1
  unfold behA
  by_cases hz : 0 ≤ z.toInt ∧ z.toInt < n
  · rw [if_pos hz]
    have hn1 : 1 ≤ n := by omega
    obtain ⟨p, hp, rfl⟩ := i_nI (x := z) (N := n) hz
    cases hs : sb Y n n with
    | false =>
      rw [if_neg (by decide)]
      refine ⟨I, ?_, h0, (Fr.rf I).w (by simp) (by simp)⟩
      refine mj_ci rfl (Nat.le_of_ble_eq_true rfl) ?_
      refine mj_run 2 rfl trivial ?_
      refine mj_cal rfl rfl (M_isPoint h2 _) ?_
      rw [if_pos hz]
      refine mj_brt rfl rfl (by decide) ?_
      refine mj_run 1 rfl trivial ?_
      refine mj_cal rfl rfl (M_isStraight h2 hn1) ?_
      rw [hs]
      refine mj_brf rfl rfl (by decide) ?_
      refine mj_run 1 rfl trivial ?_
      exact mj_end rfl rfl trivial
    | true =>
      rw [if_pos rfl]
      have hst := (sb_strt h2.2.1 hn1).mp hs
      by_cases hr : 1 ≤ x.toInt ∧ x.toInt ≤ 1000000
      · rw [if_pos hr]
        obtain ⟨N, hN, rfl⟩ := i_nI (x := x) (N := 1000001) (by omega)
        rw [nI_toInt (by omega)] at hr
        obtain ⟨I1, hc1, hf1, hR1⟩ := M_layBehind (d := d) (L := L) (dy := dy) (y := y) (y1 := y1) (n1 := n1) (w1 := w1) (c := c) (y2 := y2) (R := R) (J := J) (x := nI N) (ng := false) (N := N) (Or.inl ⟨rfl, rfl⟩) (by omega) h2 h3 hn1 hst
        have ff := hf1.w (ks' := wk) (as' := wa') (by decide) (by decide)
        refine ⟨I1, ?_, h0.work ff, ff⟩
        refine mj_ci rfl (Nat.le_of_ble_eq_true rfl) ?_
        refine mj_run 2 rfl trivial ?_
        refine mj_cal rfl rfl (M_isPoint h2 _) ?_
        rw [if_pos hz]
        refine mj_brt rfl rfl (by decide) ?_
        refine mj_run 1 rfl trivial ?_
        refine mj_cal rfl rfl (M_isStraight h2 hn1) ?_
        rw [hs]
        refine mj_brt rfl rfl (by decide) ?_
        refine mj_run 4 rfl trivial ?_
        refine mj_cal rfl rfl (M_in_t ((lN_in (by omega) (by decide) (by decide)).mpr (by omega))) ?_
        refine mj_brt rfl rfl (by decide) ?_
        refine mj_run 2 rfl trivial ?_
        refine mj_cal rfl rfl hc1 ?_
        refine mj_run 4 rfl (nI_vi (by omega) (by decide)) ?_
        rw [nI_nc (show N < 2147483648 by omega), nI_nc (show p < 2147483648 by omega), hR1 p hp]
        exact mj_end rfl rfl trivial
      · rw [if_neg hr]
        refine ⟨I, ?_, h0, (Fr.rf I).w (by simp) (by simp)⟩
        refine mj_ci rfl (Nat.le_of_ble_eq_true rfl) ?_
        refine mj_run 2 rfl trivial ?_
        refine mj_cal rfl rfl (M_isPoint h2 _) ?_
        rw [if_pos hz]
        refine mj_brt rfl rfl (by decide) ?_
        refine mj_run 1 rfl trivial ?_
        refine mj_cal rfl rfl (M_isStraight h2 hn1) ?_
        rw [hs]
        refine mj_brt rfl rfl (by decide) ?_
        refine mj_run 4 rfl trivial ?_
        refine mj_cal rfl rfl (M_in_f (fun q => hr ((lN_rng (by decide) (by decide)).mp q))) ?_
        refine mj_brf rfl rfl (by decide) ?_
        refine mj_run 1 rfl trivial ?_
        exact mj_end rfl rfl trivial
  · rw [if_neg hz]
    refine ⟨I, ?_, h0, (Fr.rf I).w (by simp) (by simp)⟩
    refine mj_ci rfl (Nat.le_of_ble_eq_true rfl) ?_
    refine mj_run 2 rfl trivial ?_
    refine mj_cal rfl rfl (M_isPoint h2 _) ?_
    rw [if_neg hz]
    refine mj_brf rfl rfl (by decide) ?_
    refine mj_run 1 rfl trivial ?_
    exact mj_end rfl rfl trivial
theorem MO_ago (h : MI I pn pg n Y T t tr kp wn wt yr dn) (x z : Int32) : ∃ I', mj_call mj_P (d + 5) kn_M_ago [.ref 45, .int x, .int z] (HP L dy I y y1 n1 w1 c y2 R J) (some (.int (agoA n Y T x z))) (HP L dy I' y y1 n1 w1 c y2 R J) ∧ MI I' pn pg n Y T t tr kp wn wt yr dn ∧ Fr wk wa' I I' := by
  have h0 := h
  obtain ⟨h1, h2, h3, h4, h5, h6, h7⟩ := h
  have hn10 : n ≤ 10 := h2.2.1.1
  unfold agoA
  by_cases hz : 0 ≤ z.toInt ∧ z.toInt < n
  · rw [if_pos hz]
    have hn1 : 1 ≤ n := by omega
    obtain ⟨p, hp, rfl⟩ := i_nI (x := z) (N := n) hz
    cases hs : sb Y n n with
    | false =>
      rw [if_neg (by decide)]
      refine ⟨I, ?_, h0, (Fr.rf I).w (by simp) (by simp)⟩
      refine mj_ci rfl (Nat.le_of_ble_eq_true rfl) ?_
      refine mj_run 2 rfl trivial ?_
      refine mj_cal rfl rfl (M_isPoint h2 _) ?_
      rw [if_pos hz]
      refine mj_brt rfl rfl (by decide) ?_
      refine mj_run 1 rfl trivial ?_
      refine mj_cal rfl rfl (M_isStraight h2 hn1) ?_
      rw [hs]
      refine mj_brf rfl rfl (by decide) ?_
      refine mj_run 1 rfl trivial ?_
      exact mj_end rfl rfl trivial
    | true =>
      rw [if_pos rfl]
      have hst := (sb_strt h2.2.1 hn1).mp hs
      by_cases hr : 0 ≤ x.toInt ∧ x.toInt ≤ 1000000
      · rw [if_pos hr]
        obtain ⟨N, hN, rfl⟩ := i_nI (x := x) (N := 1000001) (by omega)
        have hxx : (decide (0 < N) = false ∧ -(nI N) = nI N) ∨ (decide (0 < N) = true ∧ -(nI N) = -(nI N) ∧ 1 ≤ N) := by
          by_cases e : N = 0
          · subst e; exact Or.inl ⟨by decide, by decide⟩
          · exact Or.inr ⟨decide_eq_true (by omega), rfl, by omega⟩
        obtain ⟨I1, hc1, hf1, hR1⟩ := M_layBehind (d := d) (L := L) (dy := dy) (y := y) (y1 := y1) (n1 := n1) (w1 := w1) (c := c) (y2 := y2) (R := R) (J := J) (x := -(nI N)) (ng := decide (0 < N)) (N := N) hxx (by omega) h2 h3 hn1 hst
        have ff := hf1.w (ks' := wk) (as' := wa') (by decide) (by decide)
        refine ⟨I1, ?_, h0.work ff, ff⟩
        refine mj_ci rfl (Nat.le_of_ble_eq_true rfl) ?_
        refine mj_run 2 rfl trivial ?_
        refine mj_cal rfl rfl (M_isPoint h2 _) ?_
        rw [if_pos hz]
        refine mj_brt rfl rfl (by decide) ?_
        refine mj_run 1 rfl trivial ?_
        refine mj_cal rfl rfl (M_isStraight h2 hn1) ?_
        rw [hs]
        refine mj_brt rfl rfl (by decide) ?_
        refine mj_run 4 rfl trivial ?_
        refine mj_cal rfl rfl (M_in_t ((lN_in (by omega) (by decide) (by decide)).mpr (by omega))) ?_
        refine mj_brt rfl rfl (by decide) ?_
        refine mj_run 3 rfl trivial ?_
        refine mj_cal rfl rfl hc1 ?_
        refine mj_run 4 rfl (nI_vi (by omega) (by decide)) ?_
        rw [nI_nc (show N < 2147483648 by omega), nI_nc (show p < 2147483648 by omega), hR1 p hp]
        exact mj_end rfl rfl trivial
      · rw [if_neg hr]
        refine ⟨I, ?_, h0, (Fr.rf I).w (by simp) (by simp)⟩
        refine mj_ci rfl (Nat.le_of_ble_eq_true rfl) ?_
        refine mj_run 2 rfl trivial ?_
        refine mj_cal rfl rfl (M_isPoint h2 _) ?_
        rw [if_pos hz]
        refine mj_brt rfl rfl (by decide) ?_
        refine mj_run 1 rfl trivial ?_
        refine mj_cal rfl rfl (M_isStraight h2 hn1) ?_
        rw [hs]
        refine mj_brt rfl rfl (by decide) ?_
        refine mj_run 4 rfl trivial ?_
        refine mj_cal rfl rfl (M_in_f (fun q => hr ((lN_rng (by decide) (by decide)).mp q))) ?_
        refine mj_brf rfl rfl (by decide) ?_
        refine mj_run 1 rfl trivial ?_
        exact mj_end rfl rfl trivial
  · rw [if_neg hz]
    refine ⟨I, ?_, h0, (Fr.rf I).w (by simp) (by simp)⟩
    refine mj_ci rfl (Nat.le_of_ble_eq_true rfl) ?_
    refine mj_run 2 rfl trivial ?_
    refine mj_cal rfl rfl (M_isPoint h2 _) ?_
    rw [if_neg hz]
    refine mj_brf rfl rfl (by decide) ?_
    refine mj_run 1 rfl trivial ?_
    exact mj_end rfl rfl trivial
end MM
end
section
/-! codes of stands -/
def pd (Y : Yd) : Nat → Nat
  | 0 => 1
  | k + 1 => pd Y k * sm Y k
def lf (Y : Yd) (n cd : Nat) : Nat → Nat
  | 0 => cd
  | j + 1 => lf Y n cd j / sm Y (n - 1 - j)
def ds (Y : Yd) (n cd p : Nat) : Nat := lf Y n cd (n - 1 - p) % sm Y p
def en (Y : Yd) (U : Nat → Nat) : Nat → Nat
  | 0 => 0
  | k + 1 => en Y U k * sm Y k + U k
theorem pd_le {n : Nat} {Y : Yd} (h : YOK n Y) : ∀ k, k ≤ n → pd Y k ≤ 6 ^ k ∧ 1 ≤ pd Y k
  | 0, _ => ⟨Nat.le_refl _, Nat.le_refl _⟩
  | k + 1, hk => by
    have ih := pd_le h k (by omega)
    have hs := sm_in h (show k < n by omega)
    unfold pd
    rw [Nat.pow_succ]
    refine ⟨Nat.mul_le_mul ih.1 hs.2, ?_⟩
    have := Nat.mul_le_mul ih.2 hs.1
    omega
theorem pd_46656 {n : Nat} {Y : Yd} (h : YOK n Y) (hn : n ≤ 6) : pd Y n ≤ 46656 ∧ 1 ≤ pd Y n := by
  have := pd_le h n (Nat.le_refl n)
  have h6 : 6 ^ n ≤ 6 ^ 6 := Nat.pow_le_pow_right (by decide) hn
  have e : (6 : Nat) ^ 6 = 46656 := rfl
  omega
theorem lf_le (Y : Yd) (n cd : Nat) : ∀ j, lf Y n cd j ≤ cd
  | 0 => Nat.le_refl _
  | j + 1 => Nat.le_trans (Nat.div_le_self _ _) (lf_le Y n cd j)
theorem ds_ok {n : Nat} {Y : Yd} (h : YOK n Y) (cd : Nat) : TOK n Y (ds Y n cd) := fun p hp => Nat.mod_lt _ (by have := sm_in h hp; omega)
def un (T U : Nat → Nat) : Nat → Nat
  | 0 => 0
  | p + 1 => un T U p + if U p = T p then 0 else 1
theorem un_le (T U : Nat → Nat) : ∀ k, un T U k ≤ k
  | 0 => Nat.le_refl 0
  | k + 1 => by
    have := un_le T U k
    unfold un
    split <;> omega
def bgF (Y : Yd) (n : Nat) (T wt : Nat → Nat) (wn : Nat) : Nat → Option Nat × Nat
  | 0 => (none, 11)
  | k + 1 => if un T (ds Y n k) n < (bgF Y n T wt wn k).2 ∧ itF Y none (ds Y n k) wt wn 0 = true then (some k, un T (ds Y n k) n) else bgF Y n T wt wn k
def bgR (n : Nat) (Y : Yd) (T wt : Nat → Nat) (wn k : Nat) : Int32 := match (bgF Y n T wt wn (pd Y n)).1 with
  | none => Int32.ofInt (-1)
  | some b => if k = 0 then nI (bgF Y n T wt wn (pd Y n)).2 else if k - 10 < n then nI (ds Y n b (k - 10)) else Int32.ofInt (-1)
def bgx (x : Int32) : Prop := x = 0 ∨ (10 ≤ x.toInt ∧ x.toInt ≤ 15)
def bgnA (n : Nat) (Y : Yd) (T wt : Nat → Nat) (wn dn : Nat) (x : Int32) : Int32 := if n = 0 then Int32.ofInt (-103) else if x = 0 ∨ (10 ≤ x.toInt ∧ x.toInt ≤ 15) then (if 6 < n ∨ wn = 0 ∨ dn = 20 then Int32.ofInt (-103) else bgR n Y T wt wn x.toNatClampNeg) else Int32.ofInt (-102)
def bgnD (n wn dn : Nat) (x : Int32) : Nat := if n = 0 then dn else if x = 0 ∨ (10 ≤ x.toInt ∧ x.toInt ≤ 15) then (if 6 < n ∨ wn = 0 ∨ dn = 20 then dn else dn + 1) else dn
theorem bgF_le (Y : Yd) (n : Nat) (T wt : Nat → Nat) (wn : Nat) : ∀ k, (bgF Y n T wt wn k).2 ≤ 11 ∧ ∀ b, (bgF Y n T wt wn k).1 = some b → b < k
  | 0 => ⟨Nat.le_refl _, fun b h => by cases h⟩
  | k + 1 => by
    have ih := bgF_le Y n T wt wn k
    unfold bgF
    split
    · exact ⟨by dsimp only; omega, fun b h => by cases h; omega⟩
    · exact ⟨ih.1, fun b h => by have := ih.2 b h; omega⟩
theorem nI_m1 {a : Nat} (h : a < 2147483648) : ¬ nI a = Int32.ofInt (-1) := fun e => by
  have := congrArg Int32.toInt e
  rw [nI_toInt h] at this
  have e2 : (Int32.ofInt (-1)).toInt = -1 := rfl
  omega
theorem gv_m1 {o : Option Nat} (h : ∀ b, o = some b → b < 2147483648) : gv o = Int32.ofInt (-1) ↔ o = none := by
  cases o with
  | none => exact ⟨fun _ => rfl, fun _ => rfl⟩
  | some b => exact ⟨fun e => absurd e (nI_m1 (h b rfl)), fun e => by cases e⟩
section MM
variable {d L : Nat} {dy : mjM} {I : mjI} {y y1 n1 w1 c y2 : Option Nat} {R : mjR} {J : mjJ} {pn : Nat} {pg : Nat → Nat} {n : Nat} {Y : Yd} {T : Nat → Nat} {t : Nat} {tr : Nat → Nat} {kp : Kp} {wn : Nat} {wt : Nat → Nat} {yr dn : Nat}
theorem M_standsInAll (hY : MY I n Y) : mj_call mj_P (d + 2) kn_M_standsInAll [.ref 45] (HP L dy I y y1 n1 w1 c y2 R J) (some (.int (nI (pd Y n)))) (HP L dy I y y1 n1 w1 c y2 R J) := by
  have hn : n ≤ 10 := hY.2.1.1
  refine mj_ci rfl (Nat.le_of_ble_eq_true rfl) ?_
  refine mj_run 4 rfl trivial ?_
  refine dn_ind n (fun p => mj_Rd (mj_call mj_P (d + 1)) kc_M_standsInAll 1 (4, [some (.ref 45), some (.int (nI (pd Y p))), some (.int (nI p))], [], HP L dy I y y1 n1 w1 c y2 R J) (some (.int (nI (pd Y n)))) (HP L dy I y y1 n1 w1 c y2 R J)) ?_ ?_ 0 (by omega)
  · refine mj_run 3 rfl trivial ?_
    rw [hY.1]
    refine mj_brt rfl rfl (by rw [nI_leI (by omega) (by omega)]; omega) ?_
    refine mj_run 1 rfl trivial ?_
    exact mj_end rfl rfl trivial
  · intro p hp ih
    refine mj_run 3 rfl trivial ?_
    rw [hY.1]
    refine mj_brf rfl rfl (by rw [nI_leI (by omega) (by omega)]; omega) ?_
    refine mj_run 3 rfl trivial ?_
    refine mj_cal rfl rfl (M_standMany hY hp) ?_
    refine mj_run 4 rfl trivial ?_
    rw [pk_mul, nI_add]
    exact ih
theorem M_codeOf {U : Nat → Nat} (hY : MY I n Y) (hU : RI I 55 n U) : mj_call mj_P (d + 2) kn_M_codeOf [.ref 45] (HP L dy I y y1 n1 w1 c y2 R J) (some (.int (nI (en Y U n)))) (HP L dy I y y1 n1 w1 c y2 R J) := by
  have hn : n ≤ 10 := hY.2.1.1
  refine mj_ci rfl (Nat.le_of_ble_eq_true rfl) ?_
  refine mj_run 4 rfl trivial ?_
  refine dn_ind n (fun p => mj_Rd (mj_call mj_P (d + 1)) kc_M_codeOf 1 (4, [some (.ref 45), some (.int (nI (en Y U p))), some (.int (nI p))], [], HP L dy I y y1 n1 w1 c y2 R J) (some (.int (nI (en Y U n)))) (HP L dy I y y1 n1 w1 c y2 R J)) ?_ ?_ 0 (by omega)
  · refine mj_run 3 rfl trivial ?_
    rw [hY.1]
    refine mj_brt rfl rfl (by rw [nI_leI (by omega) (by omega)]; omega) ?_
    refine mj_run 1 rfl trivial ?_
    exact mj_end rfl rfl trivial
  · intro p hp ih
    refine mj_run 3 rfl trivial ?_
    rw [hY.1]
    refine mj_brf rfl rfl (by rw [nI_leI (by omega) (by omega)]; omega) ?_
    refine mj_run 3 rfl trivial ?_
    refine mj_cal rfl rfl (M_standMany hY hp) ?_
    refine mj_run 9 rfl (nI_vi (by omega) (by decide)) ?_
    rw [nI_nc (by omega), hU p hp, pk_mul, nI_add, nI_add]
    exact ih
theorem M_layStands {k : Nat} (hk : k ≤ 46656) (hY : MY I n Y) : ∃ I', mj_call mj_P (d + 2) kn_M_layStands [.ref 45, .int (nI k)] (HP L dy I y y1 n1 w1 c y2 R J) none (HP L dy I' y y1 n1 w1 c y2 R J) ∧ Fr [] [55] I I' ∧ RI I' 55 n (ds Y n k) := by
  have hn : n ≤ 10 := hY.2.1.1
  have key : ∀ (m : Nat) (X : mjI), m ≤ n → Fr [] [55] I X → (∀ p, m ≤ p → p < n → X 55 p = nI (ds Y n k p)) → ∃ I', (Fr [] [55] I I' ∧ RI I' 55 n (ds Y n k)) ∧ mj_Rd (mj_call mj_P (d + 1)) kc_M_layStands 0 (9, [some (.ref 45), some (.int (nI k)), some (.int (nI (lf Y n k (n - m)))), some (.int (nI m - nI 1))], [], HP L dy X y y1 n1 w1 c y2 R J) none (HP L dy I' y y1 n1 w1 c y2 R J) := by
    intro m
    induction m with
    | zero =>
      intro X _ hf hX
      refine ⟨X, ⟨hf, fun p hp => hX p (by omega) hp⟩, ?_⟩
      refine mj_run 1 rfl trivial ?_
      refine mj_brt rfl rfl (by decide) ?_
      exact mj_end rfl rfl trivial
    | succ m ih =>
      intro X hm hf hX
      have hYX : MY X n Y := hY.fr hf (by decide)
      have hsm := sm_in hY.2.1 (show m < n by omega)
      have hlf := lf_le Y n k (n - (m + 1))
      have e0 : nI (m + 1) - nI 1 = nI m := by rw [pk_sub (by omega)]; rfl
      have e1 : n - 1 - m = n - (m + 1) := by omega
      have e2 : lf Y n k (n - m) = lf Y n k (n - (m + 1)) / sm Y m := by
        rw [show n - m = n - (m + 1) + 1 by omega]
        show _ / sm Y (n - 1 - (n - (m + 1))) = _
        rw [show n - 1 - (n - (m + 1)) = m by omega]
      have nz : ¬ nI (sm Y m) = 0 := by rw [nI_z (by omega)]; omega
      have hYZ : MY (mj_ui X 55 m (nI (ds Y n k m))) n Y := hYX.fr (Fr.a X (a := 55) (by decide) m _) (by decide)
      obtain ⟨I', hA, hx⟩ := ih (mj_ui X 55 m (nI (ds Y n k m))) (by omega) ((hf.tr (Fr.a X (a := 55) (by decide) m _)).w (by decide) (by decide)) (fun p hp1 hp2 => by
        by_cases e : p = m
        · subst e; simp [mj_ui, upd]
        · have := hX p (by omega) hp2
          simp [mj_ui, upd, e, this])
      refine ⟨I', hA, ?_⟩
      rw [e0]
      refine mj_run 1 rfl trivial ?_
      refine mj_brf rfl rfl (by rw [show (0 : Int32) = nI 0 from rfl, nI_ltI (by omega) (by decide)]; omega) ?_
      refine mj_run 6 rfl trivial ?_
      refine mj_cal rfl rfl (M_standMany hYX (by omega)) ?_
      refine mj_run 5 rfl ⟨nz, nI_vi (by omega) (by decide), by decide⟩ ?_
      rw [nI_nc (by omega), pk_rem (by omega) (by omega) (by omega)]
      rw [show lf Y n k (n - (m + 1)) % sm Y m = ds Y n k m by unfold ds; rw [e1]]
      refine mj_cal rfl rfl (M_standMany hYZ (by omega)) ?_
      refine mj_run 4 rfl nz ?_
      rw [pk_div (by omega) (by omega) (by omega), ← e2]
      rw [show nI m + Int32.ofInt (-1) = nI m - nI 1 by rw [Int32.sub_eq_add_neg]; rfl]
      exact hx
  obtain ⟨I', hA, hx⟩ := key n I (Nat.le_refl n) ((Fr.rf I).w (by simp) (by simp)) (fun p h1 h2 => by omega)
  refine ⟨I', ?_, hA⟩
  refine mj_ci rfl (Nat.le_of_ble_eq_true rfl) ?_
  refine mj_run 7 rfl trivial ?_
  rw [hY.1]
  rw [show n - n = 0 by omega] at hx
  exact hx
theorem M_beginLoop {x : Int32} (hn1 : 1 ≤ n) (hn6 : n ≤ 6) : ∀ (f k : Nat) (X : mjI) (l6 l7 : Option Value), mj_lg l6 = true → k + f = pd Y n → MY X n Y → Mst X n Y T → Mwt X wn wt → ∃ (I' : mjI) (q6 q7 : Option Value), (Fr [19, 20] [55, 56] X I') ∧ ∀ (v : Option Value) (h' : mjH), mj_Rd (mj_call mj_P (d + 5)) kc_M_begin 1 (170, [some (.ref 45), some (.int x), some (.int (gv (bgF Y n T wt wn (pd Y n)).1)), some (.int (nI (bgF Y n T wt wn (pd Y n)).2)), some (.int (nI (pd Y n))), some (.int (nI (pd Y n))), q6, q7], [], HP L dy I' y y1 n1 w1 c y2 R J) v h' → mj_Rd (mj_call mj_P (d + 5)) kc_M_begin 1 (83, [some (.ref 45), some (.int x), some (.int (gv (bgF Y n T wt wn k).1)), some (.int (nI (bgF Y n T wt wn k).2)), some (.int (nI (pd Y n))), some (.int (nI k)), l6, l7], [], HP L dy X y y1 n1 w1 c y2 R J) v h' := by
  intro f
  induction f with
  | zero =>
    intro k X l6 l7 _ hk hY hS hw
    have hpd := pd_46656 hY.2.1 hn6
    have : k = pd Y n := by omega
    subst this
    refine ⟨X, l6, l7, (Fr.rf X).w (by simp) (by simp), fun v h' hx => ?_⟩
    refine mj_run 2 rfl trivial ?_
    refine mj_brt rfl rfl (by rw [nI_leI (by omega) (by omega)]; omega) ?_
    exact hx
  | succ f ih =>
    intro k X l6 l7 g6 hk hY hS hw
    have hpd := pd_46656 hY.2.1 hn6
    have hbf := bgF_le Y n T wt wn k
    obtain ⟨I1, hc1, hf1, hR1⟩ := M_layStands (d := d + 3) (L := L) (dy := dy) (y := y) (y1 := y1) (n1 := n1) (w1 := w1) (c := c) (y2 := y2) (R := R) (J := J) (k := k) (by omega) hY
    have hY1 : MY I1 n Y := hY.fr hf1 (by decide)
    have hS1 : Mst I1 n Y T := hS.fr hf1 (by decide)
    have hw1 : Mwt I1 wn wt := hw.fr hf1 (by decide)
    obtain ⟨I2, hc2, hf2⟩ := M_isTrue (d := d) (L := L) (dy := dy) (y := y) (y1 := y1) (n1 := n1) (w1 := w1) (c := c) (y2 := y2) (R := R) (J := J) sq_none hY1 hw1 hn1 hR1 (ds_ok hY.2.1 k)
    have hun := un_le T (ds Y n k) n
    -- counting
    have cnt : ∀ (v : Option Value) (h' : mjH), mj_Rd (mj_call mj_P (d + 5)) kc_M_begin 1 (144, [some (.ref 45), some (.int x), some (.int (gv (bgF Y n T wt wn k).1)), some (.int (nI (bgF Y n T wt wn k).2)), some (.int (nI (pd Y n))), some (.int (nI k)), some (.int (nI (un T (ds Y n k) n))), some (.int (nI n))], [], HP L dy I1 y y1 n1 w1 c y2 R J) v h' → mj_Rd (mj_call mj_P (d + 5)) kc_M_begin 1 (83, [some (.ref 45), some (.int x), some (.int (gv (bgF Y n T wt wn k).1)), some (.int (nI (bgF Y n T wt wn k).2)), some (.int (nI (pd Y n))), some (.int (nI k)), l6, l7], [], HP L dy X y y1 n1 w1 c y2 R J) v h' := by
      intro v h' hx
      refine mj_run 2 rfl trivial ?_
      refine mj_brf rfl rfl (by rw [nI_leI (by omega) (by omega)]; omega) ?_
      refine mj_run 2 rfl trivial ?_
      refine mj_cal rfl rfl hc1 ?_
      refine mj_run 4 rfl trivial ?_
      refine dn_ind n (fun p => mj_Rd (mj_call mj_P (d + 5)) kc_M_begin 1 (102, [some (.ref 45), some (.int x), some (.int (gv (bgF Y n T wt wn k).1)), some (.int (nI (bgF Y n T wt wn k).2)), some (.int (nI (pd Y n))), some (.int (nI k)), some (.int (nI (un T (ds Y n k) p))), some (.int (nI p))], [], HP L dy I1 y y1 n1 w1 c y2 R J) v h') ?_ ?_ 0 (by omega)
      · refine mj_run 3 rfl trivial ?_
        rw [hY1.1]
        refine mj_brt rfl rfl (by rw [nI_leI (by omega) (by omega)]; omega) ?_
        exact hx
      · intro p hp ihp
        have hs6 := sm_in hY.2.1 hp
        have hT6 := hS.2 p hp
        have hd6 := ds_ok hY.2.1 k p hp
        have vp : vp_in (nI p) 10 := nI_vi (by omega) (by decide)
        refine mj_run 3 rfl trivial ?_
        rw [hY1.1]
        refine mj_brf rfl rfl (by rw [nI_leI (by omega) (by omega)]; omega) ?_
        refine mj_run 9 rfl ⟨vp, vp⟩ ?_
        rw [nI_nc (by omega), hR1 p hp, hS1.1 p hp]
        refine mj_bra rfl rfl (fun g => ?_) (fun g => ?_)
        · rw [nI_e (by omega) (by omega)] at g
          rw [show un T (ds Y n k) (p + 1) = un T (ds Y n k) p + 1 by simp [un, g]] at ihp
          refine mj_run 1 rfl trivial ?_
          refine mj_run 4 rfl trivial ?_
          rw [nI_add, nI_add]
          exact ihp
        · rw [nI_e (by omega) (by omega)] at g
          rw [show un T (ds Y n k) (p + 1) = un T (ds Y n k) p + 0 by simp [un, Classical.not_not.mp g]] at ihp
          refine mj_run 2 rfl trivial ?_
          refine mj_run 4 rfl trivial ?_
          rw [nI_add, nI_add]
          exact ihp
    have hbs : bgF Y n T wt wn (k + 1) = if un T (ds Y n k) n < (bgF Y n T wt wn k).2 ∧ itF Y none (ds Y n k) wt wn 0 = true then (some k, un T (ds Y n k) n) else bgF Y n T wt wn k := rfl
    by_cases g1 : un T (ds Y n k) n < (bgF Y n T wt wn k).2
    · have f12 := hf1.tr hf2
      obtain ⟨I', q6, q7, hf', hx'⟩ := ih (k + 1) I2 (some (.int (nI (un T (ds Y n k) n)))) (some (.int (nI n))) rfl (by omega) (hY.fr f12 (by decide)) (hS.fr f12 (by decide)) (hw.fr f12 (by decide))
      refine ⟨I', q6, q7, (f12.tr hf').w (by decide) (by decide), fun v h' hx => cnt v h' ?_⟩
      have hx2 := hx' v h' hx
      rw [hbs] at hx2
      refine mj_run 2 rfl trivial ?_
      refine mj_brf rfl rfl (by rw [nI_leI (by omega) (by omega)]; omega) ?_
      refine mj_run 2 rfl trivial ?_
      refine mj_cal rfl rfl hc2 ?_
      cases ht : itF Y none (ds Y n k) wt wn 0 with
      | true =>
        rw [if_pos ⟨g1, ht⟩] at hx2
        refine mj_brf rfl rfl (by decide) ?_
        refine mj_run 4 rfl trivial ?_
        refine mj_run 2 rfl trivial ?_
        rw [nI_add]
        exact hx2
      | false =>
        rw [if_neg (fun q => by rw [ht] at q; cases q.2)] at hx2
        refine mj_brt rfl rfl (by decide) ?_
        refine mj_run 2 rfl trivial ?_
        rw [nI_add]
        exact hx2
    · obtain ⟨I', q6, q7, hf', hx'⟩ := ih (k + 1) I1 (some (.int (nI (un T (ds Y n k) n)))) (some (.int (nI n))) rfl (by omega) hY1 hS1 hw1
      refine ⟨I', q6, q7, (hf1.tr hf').w (by decide) (by decide), fun v h' hx => cnt v h' ?_⟩
      have hx2 := hx' v h' hx
      rw [hbs, if_neg (fun q => g1 q.1)] at hx2
      refine mj_run 2 rfl trivial ?_
      refine mj_brt rfl rfl (by rw [nI_leI (by omega) (by omega)]; omega) ?_
      refine mj_run 2 rfl trivial ?_
      rw [nI_add]
      exact hx2
theorem MO_begin (h : MI I pn pg n Y T t tr kp wn wt yr dn) (x : Int32) : ∃ I', mj_call mj_P (d + 6) kn_M_begin [.ref 45, .int x] (HP L dy I y y1 n1 w1 c y2 R J) (some (.int (bgnA n Y T wt wn dn x))) (HP L dy I' y y1 n1 w1 c y2 R J) ∧ MI I' pn pg n Y T t tr kp wn wt yr (bgnD n wn dn x) ∧ Fr (24 :: wk) wa' I I' := by
  have h0 := h
  obtain ⟨h1, h2, h3, h4, h5, h6, h7⟩ := h
  have hn10 : n ≤ 10 := h2.2.1.1
  have hw8 := h6.2.1
  have hd20 := h7.2.2.2
  unfold bgnA bgnD
  by_cases hn : n = 0
  · rw [if_pos hn, if_pos hn]
    refine ⟨I, ?_, h0, (Fr.rf I).w (by simp) (by simp)⟩
    refine mj_ci rfl (Nat.le_of_ble_eq_true rfl) ?_
    refine mj_run 1 rfl trivial ?_
    refine mj_cal rfl rfl (M_lacks h2) ?_
    rw [if_pos hn]
    refine mj_brf rfl rfl (by decide) ?_
    refine mj_run 1 rfl trivial ?_
    exact mj_end rfl rfl trivial
  · rw [if_neg hn, if_neg hn]
    have hn1 : 1 ≤ n := by omega
    have head : ∀ (v : Option Value) (h' : mjH), (∀ l : Unit, mj_Rd (mj_call mj_P (d + 5)) kc_M_begin 1 (10, [some (.ref 45), some (.int x), none, none, none, none, none, none], [], HP L dy I y y1 n1 w1 c y2 R J) v h') → mj_call mj_P (d + 6) kn_M_begin [.ref 45, .int x] (HP L dy I y y1 n1 w1 c y2 R J) v h' := by
      intro v h' hx
      refine mj_ci rfl (Nat.le_of_ble_eq_true rfl) ?_
      refine mj_run 1 rfl trivial ?_
      refine mj_cal rfl rfl (M_lacks h2) ?_
      rw [if_neg hn]
      exact mj_brt rfl rfl (by decide) (hx ())
    by_cases hxr : x = 0 ∨ (10 ≤ x.toInt ∧ x.toInt ≤ 15)
    · rw [if_pos hxr, if_pos hxr]
      have head2 : ∀ (v : Option Value) (h' : mjH), mj_Rd (mj_call mj_P (d + 5)) kc_M_begin 1 (31, [some (.ref 45), some (.int x), none, none, none, none, none, none], [], HP L dy I y y1 n1 w1 c y2 R J) v h' → mj_call mj_P (d + 6) kn_M_begin [.ref 45, .int x] (HP L dy I y y1 n1 w1 c y2 R J) v h' := by
        intro v h' hx
        refine head v h' (fun _ => ?_)
        refine mj_run 1 rfl trivial ?_
        refine mj_bra rfl rfl (fun _ => hx) (fun g => ?_)
        refine mj_run 4 rfl trivial ?_
        refine mj_cal rfl rfl (M_in_t ((lN_rng (by decide) (by decide)).mpr (by rcases hxr with e | e; exact absurd e g; exact e))) ?_
        exact mj_brt rfl rfl (by decide) hx
      have bad : mj_Rd (mj_call mj_P (d + 5)) kc_M_begin 1 (56, [some (.ref 45), some (.int x), none, none, none, none, none, none], [], HP L dy I y y1 n1 w1 c y2 R J) (some (.int (Int32.ofInt (-103)))) (HP L dy I y y1 n1 w1 c y2 R J) := by
        refine mj_run 1 rfl trivial ?_
        exact mj_end rfl rfl trivial
      by_cases hp : 6 < n ∨ wn = 0 ∨ dn = 20
      · rw [if_pos hp, if_pos hp]
        refine ⟨I, head2 _ _ ?_, h0, (Fr.rf I).w (by simp) (by simp)⟩
        refine mj_run 3 rfl trivial ?_
        rw [h2.1]
        refine mj_bra rfl rfl (fun _ => bad) (fun g1 => ?_)
        rw [nI_ltI (by decide) (by omega)] at g1
        refine mj_run 2 rfl trivial ?_
        rw [h6.1]
        refine mj_bra rfl rfl (fun _ => bad) (fun g2 => ?_)
        rw [nI_z (by omega)] at g2
        refine mj_run 3 rfl trivial ?_
        rw [h7.2.2.1]
        exact mj_brf rfl rfl (fun q => q (by rw [nI_e (by omega) (by decide)]; omega)) bad
      · rw [if_neg hp, if_neg hp]
        have hn6 : n ≤ 6 := by omega
        have hpd := pd_46656 h2.2.1 hn6
        have fu1 := Fr.u I 24 (nI (dn + 1))
        have hbf := bgF_le Y n T wt wn (pd Y n)
        obtain ⟨I1, q6, q7, hf1, hx1⟩ := M_beginLoop (d := d) (L := L) (dy := dy) (y := y) (y1 := y1) (n1 := n1) (w1 := w1) (c := c) (y2 := y2) (R := R) (J := J) (x := x) (T := T) (wt := wt) (wn := wn) hn1 hn6 (pd Y n) 0 (mj_ui I 45 24 (nI (dn + 1))) none none rfl (by omega) (h2.fr fu1 (by decide)) (h3.fr fu1 (by decide)) (h6.fr fu1 (by decide))
        have fr1 := fu1.tr hf1
        have MI1 : ∀ Z, Fr [19, 20] [55, 56] (mj_ui I 45 24 (nI (dn + 1))) Z → MI Z pn pg n Y T t tr kp wn wt yr (dn + 1) := fun Z hZ => by
          have fz := fu1.tr hZ
          refine ⟨h1.fr fz (by decide), h2.fr fz (by decide), h3.fr fz (by decide), h4.fr fz (by decide), h5.fr fz (by decide), h6.fr fz (by decide), ⟨(fz.2 10 (by decide)).trans h7.1, h7.2.1, ?_, by omega⟩⟩
          rw [hZ.2 24 (by decide)]
          simp [mj_ui, upd]
        have go : ∀ (v : Option Value) (h' : mjH), mj_Rd (mj_call mj_P (d + 5)) kc_M_begin 1 (170, [some (.ref 45), some (.int x), some (.int (gv (bgF Y n T wt wn (pd Y n)).1)), some (.int (nI (bgF Y n T wt wn (pd Y n)).2)), some (.int (nI (pd Y n))), some (.int (nI (pd Y n))), q6, q7], [], HP L dy I1 y y1 n1 w1 c y2 R J) v h' → mj_call mj_P (d + 6) kn_M_begin [.ref 45, .int x] (HP L dy I y y1 n1 w1 c y2 R J) v h' := by
          intro v h' hx
          refine head2 v h' ?_
          refine mj_run 3 rfl trivial ?_
          rw [h2.1]
          refine mj_brf rfl rfl (by rw [nI_ltI (by decide) (by omega)]; omega) ?_
          refine mj_run 2 rfl trivial ?_
          rw [h6.1]
          refine mj_brf rfl rfl (by rw [nI_z (by omega)]; omega) ?_
          refine mj_run 3 rfl trivial ?_
          rw [h7.2.2.1]
          refine mj_brt rfl rfl (by rw [nI_e (by omega) (by decide)]; omega) ?_
          refine mj_run 11 rfl trivial ?_
          rw [h7.2.2.1, nI_add]
          refine mj_cal rfl rfl (M_standsInAll (h2.fr fu1 (by decide))) ?_
          refine mj_run 3 rfl trivial ?_
          exact hx1 v h' hx
        unfold bgR
        cases hb : (bgF Y n T wt wn (pd Y n)).1 with
        | none =>
          rw [hb] at go
          refine ⟨I1, go _ _ ?_, MI1 I1 hf1, fr1.w (by decide) (by decide)⟩
          refine mj_run 2 rfl trivial ?_
          refine mj_brt rfl rfl rfl ?_
          refine mj_run 2 rfl trivial ?_
          refine mj_brf rfl rfl (fun q => q rfl) ?_
          refine mj_run 2 rfl trivial ?_
          exact mj_end rfl rfl trivial
        | some b =>
          have hb1 := hbf.2 b hb
          rw [hb] at go
          dsimp only
          by_cases hx0 : x = 0
          · subst hx0
            rw [if_pos (show (0 : Int32).toNatClampNeg = 0 from rfl)]
            refine ⟨I1, go _ _ ?_, MI1 I1 hf1, fr1.w (by decide) (by decide)⟩
            refine mj_run 2 rfl trivial ?_
            refine mj_brf rfl rfl (nI_m1 (by omega)) ?_
            refine mj_run 1 rfl trivial ?_
            refine mj_brf rfl rfl (fun q => q rfl) ?_
            refine mj_run 2 rfl trivial ?_
            refine mj_brt rfl rfl (nI_m1 (by omega)) ?_
            refine mj_run 1 rfl trivial ?_
            exact mj_end rfl rfl trivial
          · have hxx : 10 ≤ x.toInt ∧ x.toInt ≤ 15 := by rcases hxr with e | e; exact absurd e hx0; exact e
            obtain ⟨k, hk, rfl⟩ := i_nI (x := x) (N := 16) (by omega)
            rw [nI_toInt (by omega)] at hxx
            rw [nI_nc (show k < 2147483648 by omega), if_neg (by omega)]
            obtain ⟨I2, hc2, hf2, hR2⟩ := M_layStands (d := d + 3) (L := L) (dy := dy) (y := y) (y1 := y1) (n1 := n1) (w1 := w1) (c := c) (y2 := y2) (R := R) (J := J) (k := b) (by omega) (h2.fr fr1 (by decide))
            have hf12 := (hf1.tr hf2).w (ks' := [19, 20]) (as' := [55, 56]) (by decide) (by decide)
            have e10 : nI k - nI 10 = nI (k - 10) := pk_sub (by omega)
            refine ⟨I2, go _ _ ?_, MI1 I2 hf12, (fr1.tr hf2).w (by decide) (by decide)⟩
            refine mj_run 2 rfl trivial ?_
            refine mj_brf rfl rfl (nI_m1 (by omega)) ?_
            refine mj_run 1 rfl trivial ?_
            refine mj_brt rfl rfl hx0 ?_
            refine mj_run 2 rfl trivial ?_
            refine mj_cal rfl rfl hc2 ?_
            refine mj_run 5 rfl trivial ?_
            have hY2 : MY I2 n Y := h2.fr (fr1.tr hf2) (by decide)
            rw [hY2.1, e10]
            by_cases g : k - 10 < n
            · rw [if_pos g]
              refine mj_brf rfl rfl (by rw [nI_leI (by omega) (by omega)]; omega) ?_
              refine mj_run 7 rfl (by rw [e10]; exact nI_vi (by omega) (by decide)) ?_
              rw [e10, nI_nc (by omega), hR2 _ g]
              exact mj_end rfl rfl trivial
            · rw [if_neg g]
              refine mj_brt rfl rfl (by rw [nI_leI (by omega) (by omega)]; omega) ?_
              refine mj_run 1 rfl trivial ?_
              exact mj_end rfl rfl trivial
    · rw [if_neg hxr, if_neg hxr]
      refine ⟨I, head _ _ (fun _ => ?_), h0, (Fr.rf I).w (by simp) (by simp)⟩
      refine mj_run 1 rfl trivial ?_
      refine mj_brf rfl rfl (fun q => hxr (Or.inl q)) ?_
      refine mj_run 4 rfl trivial ?_
      refine mj_cal rfl rfl (M_in_f (fun q => hxr (Or.inr ((lN_rng (by decide) (by decide)).mp q)))) ?_
      refine mj_brf rfl rfl (by decide) ?_
      refine mj_run 1 rfl trivial ?_
      exact mj_end rfl rfl trivial
end MM
end
section
/-! codes, once more: units -/
def uf (Y : Yd) (n : Nat) : Nat → Nat
  | 0 => 1
  | j + 1 => uf Y n j * sm Y (n - 1 - j)
def lo (Y : Yd) (n : Nat) (U : Nat → Nat) : Nat → Nat
  | 0 => 0
  | j + 1 => lo Y n U j + U (n - 1 - j) * uf Y n j
theorem lf_uf (Y : Yd) (n cd : Nat) : ∀ j, lf Y n cd j = cd / uf Y n j
  | 0 => by simp [lf, uf]
  | j + 1 => by
    unfold lf uf
    rw [lf_uf Y n cd j, Nat.div_div_eq_div_mul]
theorem ds_uf (Y : Yd) (n cd p : Nat) : ds Y n cd p = cd / uf Y n (n - 1 - p) % sm Y p := by
  unfold ds
  rw [lf_uf]
theorem uf_pos {n : Nat} {Y : Yd} (h : YOK n Y) : ∀ j, j ≤ n → 1 ≤ uf Y n j
  | 0, _ => Nat.le_refl _
  | j + 1, hj => by
    have h1 := uf_pos h j (by omega)
    have h2 := (sm_in h (show n - 1 - j < n by omega)).1
    unfold uf
    have := Nat.mul_le_mul h1 h2
    omega
theorem pd_uf {n : Nat} {Y : Yd} : ∀ j, j ≤ n → pd Y (n - j) * uf Y n j = pd Y n
  | 0, _ => by simp [uf]
  | j + 1, hj => by
    have ih := pd_uf (Y := Y) j (show j ≤ n by omega)
    rw [show n - j = n - (j + 1) + 1 by omega] at ih
    unfold pd at ih
    unfold uf
    rw [show n - 1 - j = n - (j + 1) by omega, Nat.mul_comm (uf Y n j), ← Nat.mul_assoc]
    cases hz : n with
    | zero => omega
    | succ m =>
      rw [hz] at ih
      exact ih
theorem en_lo {n : Nat} {Y : Yd} (U : Nat → Nat) : ∀ j, j ≤ n → en Y U n = en Y U (n - j) * uf Y n j + lo Y n U j
  | 0, _ => by simp [uf, lo]
  | j + 1, hj => by
    have ih := en_lo (Y := Y) U j (show j ≤ n by omega)
    rw [ih, show n - j = n - (j + 1) + 1 by omega]
    rw [show en Y U (n - (j + 1) + 1) = en Y U (n - (j + 1)) * sm Y (n - (j + 1)) + U (n - (j + 1)) from rfl]
    rw [show uf Y n (j + 1) = uf Y n j * sm Y (n - 1 - j) from rfl, show lo Y n U (j + 1) = lo Y n U j + U (n - 1 - j) * uf Y n j from rfl]
    rw [show n - 1 - j = n - (j + 1) by omega, Nat.add_mul, Nat.mul_assoc, Nat.mul_comm (sm Y _) (uf Y n j)]
    omega
theorem lo_lt {n : Nat} {Y : Yd} {U : Nat → Nat} (h : YOK n Y) (hU : TOK n Y U) : ∀ j, j ≤ n → lo Y n U j < uf Y n j
  | 0, _ => by simp [lo, uf]
  | j + 1, hj => by
    have ih := lo_lt h hU j (by omega)
    have hu := hU (n - 1 - j) (by omega)
    show lo Y n U j + U (n - 1 - j) * uf Y n j < uf Y n j * sm Y (n - 1 - j)
    have : (U (n - 1 - j) + 1) * uf Y n j ≤ sm Y (n - 1 - j) * uf Y n j := Nat.mul_le_mul_right _ hu
    rw [Nat.add_mul, Nat.one_mul] at this
    rw [Nat.mul_comm (uf Y n j)]
    omega
theorem en_cg {Y : Yd} {U U' : Nat → Nat} : ∀ k, (∀ p, p < k → U p = U' p) → en Y U k = en Y U' k
  | 0, _ => rfl
  | k + 1, h => by
    unfold en
    rw [en_cg k (fun p hp => h p (by omega)), h k (by omega)]
theorem lo_cg {Y : Yd} {n : Nat} {U U' : Nat → Nat} : ∀ j, j ≤ n → (∀ p, n - j ≤ p → p < n → U p = U' p) → lo Y n U j = lo Y n U' j
  | 0, _, _ => rfl
  | j + 1, hj, h => by
    unfold lo
    rw [lo_cg j (by omega) (fun p hp hp2 => h p (by omega) hp2), h (n - 1 - j) (by omega) (by omega)]
theorem en_at {n : Nat} {Y : Yd} (U : Nat → Nat) {p : Nat} (hp : p < n) : en Y U n = (en Y U p * sm Y p + U p) * uf Y n (n - 1 - p) + lo Y n U (n - 1 - p) := by
  have := en_lo (Y := Y) U (n - 1 - p) (show n - 1 - p ≤ n by omega)
  rw [show n - (n - 1 - p) = p + 1 by omega] at this
  exact this
theorem ds_en {n : Nat} {Y : Yd} (h : YOK n Y) {U : Nat → Nat} (hU : TOK n Y U) {p : Nat} (hp : p < n) : ds Y n (en Y U n) p = U p := by
  have hup := uf_pos h (n - 1 - p) (by omega)
  have hl := lo_lt h hU (n - 1 - p) (by omega)
  rw [ds_uf, en_at U hp, Nat.add_comm, Nat.add_mul_div_right _ _ (by omega), Nat.div_eq_of_lt hl, Nat.zero_add, Nat.add_comm, Nat.add_mul_mod_self_right, Nat.mod_eq_of_lt (hU p hp)]
theorem en_ds {n : Nat} {Y : Yd} : ∀ k, k ≤ n → ∀ cd, en Y (ds Y n cd) k = cd / uf Y n (n - k) % pd Y k
  | 0, _, cd => by simp [en, pd, Nat.mod_one]
  | k + 1, hk, cd => by
    have ih := en_ds (n := n) (Y := Y) k (by omega) cd
    show en Y (ds Y n cd) k * sm Y k + ds Y n cd k = cd / uf Y n (n - (k + 1)) % (pd Y k * sm Y k)
    rw [ih, ds_uf, show n - k = n - (k + 1) + 1 by omega]
    rw [show uf Y n (n - (k + 1) + 1) = uf Y n (n - (k + 1)) * sm Y (n - 1 - (n - (k + 1))) from rfl, show n - 1 - (n - (k + 1)) = k by omega, show n - 1 - k = n - (k + 1) by omega]
    rw [← Nat.div_div_eq_div_mul, Nat.mul_comm (pd Y k), Nat.mod_mul]
    rw [Nat.mul_comm]
    omega
theorem en_dsn {n : Nat} {Y : Yd} {cd : Nat} (hc : cd < pd Y n) : en Y (ds Y n cd) n = cd := by
  rw [en_ds n (Nat.le_refl n), Nat.sub_self]
  simp [uf, Nat.mod_eq_of_lt hc]
theorem en_lt {n : Nat} {Y : Yd} {U : Nat → Nat} (hU : TOK n Y U) : ∀ k, k ≤ n → en Y U k < pd Y k
  | 0, _ => by simp [en, pd]
  | k + 1, hk => by
    have ih := en_lt hU k (by omega)
    have hu := hU k (by omega)
    unfold en pd
    have : (en Y U k + 1) * sm Y k ≤ pd Y k * sm Y k := Nat.mul_le_mul_right _ ih
    rw [Nat.add_mul] at this
    omega
theorem en_fu {n : Nat} {Y : Yd} (U : Nat → Nat) {p : Nat} (hp : p < n) (s : Nat) : en Y (fu U p s) n = en Y (fu U p 0) n + s * uf Y n (n - 1 - p) := by
  rw [en_at (fu U p s) hp, en_at (fu U p 0) hp]
  have e1 : en Y (fu U p s) p = en Y (fu U p 0) p := en_cg p (fun q hq => by simp [fu, show q ≠ p by omega])
  have e2 : lo Y n (fu U p s) (n - 1 - p) = lo Y n (fu U p 0) (n - 1 - p) := lo_cg _ (by omega) (fun q h1 h2 => by simp [fu, show q ≠ p by omega])
  rw [e1, e2]
  simp only [fu, ↓reduceIte, Nat.add_mul, Nat.add_zero, Nat.zero_mul]
  omega
/-! trucks look at the switches of the yard alone -/
theorem ro_cg {n : Nat} {Y : Yd} {q : Option Nat} (h : YOK n Y) : ∀ (k : Nat) (a m : Nat) (U U' : Nat → Nat), a < 10 + n → TOK n Y U → (∀ p, p < n → U p = U' p) → (ro Y q k (a, U, m)).1 = (ro Y q k (a, U', m)).1 ∧ (∀ p, p < n → (ro Y q k (a, U, m)).2.1 p = (ro Y q k (a, U', m)).2.1 p) ∧ (ro Y q k (a, U, m)).2.2 = (ro Y q k (a, U', m)).2.2
  | 0, a, m, U, U', _, _, he => ⟨rfl, he, rfl⟩
  | k + 1, a, m, U, U', ha, hU, he => by
    unfold ro
    by_cases g : a < 10
    · rw [if_pos g, if_pos g]
      exact ⟨rfl, he, rfl⟩
    · rw [if_neg g, if_neg g]
      obtain ⟨g1, g2⟩ := mv_ok (q := q) (s := (a, U, m)) h g ha hU
      have e1 : U (a - 10) = U' (a - 10) := he _ (by omega)
      have := ro_cg (q := q) h k (mv Y q (a, U, m)).1 (m + 1) (mv Y q (a, U, m)).2.1 (mv Y q (a, U', m)).2.1 g1 g2 (fun p hp => by
        simp only [mv, fu]
        rw [e1, he p hp])
      rw [show mv Y q (a, U', m) = ((mv Y q (a, U, m)).1, (mv Y q (a, U', m)).2.1, m + 1) by simp only [mv]; rw [e1]]
      exact this
theorem gt_cg {n : Nat} {Y : Yd} {q : Option Nat} (h : YOK n Y) (hn : 1 ≤ n) {U U' : Nat → Nat} (hU : TOK n Y U) (he : ∀ p, p < n → U p = U' p) : (gt Y q U).1 = (gt Y q U').1 ∧ (∀ p, p < n → (gt Y q U).2.1 p = (gt Y q U').2.1 p) ∧ (gt Y q U).2.2 = (gt Y q U').2.2 := by
  obtain ⟨e1, e2, e3⟩ := ro_cg (q := q) h 500 10 0 U U' (by omega) hU he
  unfold gt
  rw [← e1]
  split
  · exact ⟨rfl, e2, e3⟩
  · exact ⟨rfl, he, e3⟩
/-! plans: throws by hand ahead of each truck -/
def un_cg {T T' U U' : Nat → Nat} : ∀ k, (∀ p, p < k → T p = T' p ∧ U p = U' p) → un T U k = un T' U' k
  | 0, _ => rfl
  | k + 1, h => by
    unfold un
    rw [un_cg k (fun p hp => h p (by omega)), (h k (by omega)).1, (h k (by omega)).2]
def QT (Y : Yd) (n : Nat) (P : (Nat → Nat) → Nat → Prop) (j : Nat) (U : Nat → Nat) (c : Nat) : Prop := ∃ U0 c0, P U0 c0 ∧ (∀ p, p < n → U p = U0 p ∨ (j ≤ p ∧ ∃ w, w < Y.2.1 p ∧ U p = lsd Y p w)) ∧ c = c0 + un U0 U n
def Pl (Y : Yd) (n : Nat) (T wt : Nat → Nat) : Nat → (Nat → Nat) → Nat → Prop
  | 0, U, c => (∀ p, p < n → U p = T p) ∧ c = 0
  | k + 1, U, c => ∃ U0, QT Y n (Pl Y n T wt k) 0 U0 c ∧ (gt Y none U0).1 = some (wt k) ∧ ∀ p, p < n → U p = (gt Y none U0).2.1 p
/-- the fewest throws of all plans -/
def HM (Y : Yd) (n : Nat) (T wt : Nat → Nat) (wn : Nat) : Option Nat → Prop
  | none => ¬ ∃ U c, Pl Y n T wt wn U c
  | some m => (∃ U c, Pl Y n T wt wn U c ∧ c ≤ m) ∧ ∀ U c, Pl Y n T wt wn U c → m ≤ c
theorem HM_one {Y : Yd} {n : Nat} {T wt : Nat → Nat} {wn : Nat} {o o' : Option Nat} (h : HM Y n T wt wn o) (h' : HM Y n T wt wn o') : o = o' := by
  cases o with
  | none =>
    cases o' with
    | none => rfl
    | some m =>
      obtain ⟨⟨U, c, hp, -⟩, -⟩ := h'
      exact absurd ⟨U, c, hp⟩ h
  | some m =>
    cases o' with
    | none =>
      obtain ⟨⟨U, c, hp, -⟩, -⟩ := h
      exact absurd ⟨U, c, hp⟩ h'
    | some m' =>
      obtain ⟨⟨U, c, hp, hc⟩, hm⟩ := h
      obtain ⟨⟨U', c', hp', hc'⟩, hm'⟩ := h'
      have := hm U' c' hp'
      have := hm' U c hp
      congr 1
      omega
def okP (Y : Yd) (n : Nat) (P : (Nat → Nat) → Nat → Prop) : Prop := ∀ U c, P U c → TOK n Y U
def cgP (n : Nat) (P : (Nat → Nat) → Nat → Prop) : Prop := ∀ U U' c, P U c → (∀ p, p < n → U' p = U p) → P U' c
theorem QT_ok {Y : Yd} {n j : Nat} {P : (Nat → Nat) → Nat → Prop} (h : YOK n Y) (hP : okP Y n P) : okP Y n (QT Y n P j) := by
  rintro U c ⟨U0, c0, h0, hU, -⟩ p hp
  rcases hU p hp with e | ⟨-, w, hw, e⟩
  · rw [e]; exact hP U0 c0 h0 p hp
  · rw [e]; exact (lsd_in h hp hw).1
theorem QT_cg {Y : Yd} {n j : Nat} {P : (Nat → Nat) → Nat → Prop} : cgP n (QT Y n P j) := by
  rintro U U' c ⟨U0, c0, h0, hU, hc⟩ he
  refine ⟨U0, c0, h0, fun p hp => by rw [he p hp]; exact hU p hp, ?_⟩
  rw [hc, un_cg (T' := U0) (U' := U') n (fun p hp => ⟨rfl, (he p hp).symm⟩)]
theorem Pl_ok {Y : Yd} {n : Nat} {T wt : Nat → Nat} (h : YOK n Y) (hn : 1 ≤ n) (hT : TOK n Y T) : ∀ k, okP Y n (Pl Y n T wt k)
  | 0 => fun U c hp p hpn => by
    rw [hp.1 p hpn]
    exact hT p hpn
  | k + 1 => by
    rintro U c ⟨U0, h0, -, he⟩ p hp
    rw [he p hp]
    exact (gt_ok h hn (QT_ok h (Pl_ok h hn hT k) U0 c h0)).2.1 p hp
theorem Pl_cg {Y : Yd} {n : Nat} {T wt : Nat → Nat} : ∀ k, cgP n (Pl Y n T wt k)
  | 0 => fun U U' c hp he => ⟨fun p hpn => by rw [he p hpn]; exact hp.1 p hpn, hp.2⟩
  | k + 1 => by
    rintro U U' c ⟨U0, h0, h1, h2⟩ he
    exact ⟨U0, h0, h1, fun p hp => by rw [he p hp]; exact h2 p hp⟩
/-- V holds the least costs of what is reached by P -/
def DI (Y : Yd) (n : Nat) (V : Nat → Nat) (P : (Nat → Nat) → Nat → Prop) : Prop := (∀ c, c < pd Y n → V c ≤ 1000000) ∧ (∀ c, c < pd Y n → V c < 1000000 → ∃ m, m ≤ V c ∧ P (ds Y n c) m) ∧ ∀ U m, P U m → V (en Y U n) ≤ m
def lsm (Y : Yd) (n : Nat) (V : Nat → Nat) (c p : Nat) : Nat → Nat
  | 0 => 1000000
  | s + 1 => min (lsm Y n V c p s) (V (en Y (fu (ds Y n c) p s) n))
def isF (Y : Yd) (p x : Nat) : Nat → Bool
  | 0 => false
  | w + 1 => isF Y p x w || decide (lsd Y p w = x)
def thP (Y : Yd) (n p : Nat) (V : Nat → Nat) (c : Nat) : Nat := if lsm Y n V c p (sm Y p) < 1000000 ∧ isF Y p (ds Y n c p) (Y.2.1 p) = true then min (V c) (lsm Y n V c p (sm Y p) + 1) else V c
theorem isF_iff {Y : Yd} {p x : Nat} : ∀ k, isF Y p x k = true ↔ ∃ w, w < k ∧ x = lsd Y p w
  | 0 => by simp [isF]
  | k + 1 => by
    unfold isF
    rw [Bool.or_eq_true, isF_iff k, decide_eq_true_iff]
    constructor
    · rintro (⟨w, hw, e⟩ | e)
      · exact ⟨w, by omega, e⟩
      · exact ⟨k, by omega, e.symm⟩
    · rintro ⟨w, hw, e⟩
      by_cases g : w = k
      · subst g; exact Or.inr e.symm
      · exact Or.inl ⟨w, by omega, e⟩
theorem lsm_le {Y : Yd} {n : Nat} {V : Nat → Nat} {c p : Nat} : ∀ k s, s < k → lsm Y n V c p k ≤ V (en Y (fu (ds Y n c) p s) n)
  | 0, s, h => by omega
  | k + 1, s, h => by
    unfold lsm
    by_cases e : s = k
    · subst e; exact Nat.min_le_right _ _
    · exact Nat.le_trans (Nat.min_le_left _ _) (lsm_le k s (by omega))
theorem lsm_ex {Y : Yd} {n : Nat} {V : Nat → Nat} {c p : Nat} : ∀ k, lsm Y n V c p k < 1000000 → ∃ s, s < k ∧ lsm Y n V c p k = V (en Y (fu (ds Y n c) p s) n)
  | 0, h => by simp [lsm] at h
  | k + 1, h => by
    unfold lsm at h ⊢
    by_cases e : lsm Y n V c p k ≤ V (en Y (fu (ds Y n c) p k) n)
    · rw [Nat.min_eq_left e] at h ⊢
      obtain ⟨s, hs, es⟩ := lsm_ex k h
      exact ⟨s, by omega, es⟩
    · exact ⟨k, by omega, Nat.min_eq_right (by omega)⟩
theorem thP_le {Y : Yd} {n p : Nat} {V : Nat → Nat} {c : Nat} : thP Y n p V c ≤ V c := by
  unfold thP
  split
  · exact Nat.min_le_left _ _
  · exact Nat.le_refl _
theorem un_fu {T U : Nat → Nat} {p : Nat} : ∀ k, p < k → U p ≠ T p → un T U k = un T (fu U p (T p)) k + 1
  | 0, h, _ => by omega
  | k + 1, h, hne => by
    unfold un
    by_cases e : p = k
    · subst e
      rw [un_cg (T := T) (T' := T) (U := U) (U' := fu U p (T p)) p (fun q hq => ⟨rfl, by simp [fu, show q ≠ p by omega]⟩)]
      simp [fu, hne]
    · have := un_fu (T := T) (U := U) (p := p) k (by omega) hne
      rw [this]
      have : fu U p (T p) k = U k := by simp [fu, Ne.symm e]
      rw [this]
      omega
theorem TOK_fu {n : Nat} {Y : Yd} {U : Nat → Nat} {p s : Nat} (hU : TOK n Y U) (hs : s < sm Y p) : TOK n Y (fu U p s) := fun q hq => by
  unfold fu
  split
  · rename_i e; subst e; exact hs
  · exact hU q hq
theorem DI_thP {Y : Yd} {n p : Nat} {V : Nat → Nat} {P : (Nat → Nat) → Nat → Prop} (h : YOK n Y) (hp : p < n) (hP : okP Y n P) (hD : DI Y n V (QT Y n P (p + 1))) : DI Y n (thP Y n p V) (QT Y n P p) := by
  obtain ⟨d1, d2, d3⟩ := hD
  refine ⟨fun c hc => Nat.le_trans thP_le (d1 c hc), fun c hc hv => ?_, fun U m hq => ?_⟩
  · have hdo := ds_ok h (n := n) c
    have old : V c < 1000000 → V c ≤ thP Y n p V c → ∃ m, m ≤ thP Y n p V c ∧ QT Y n P p (ds Y n c) m := by
      intro g g2
      obtain ⟨m, hm, U0, c0, h0, hU, hcm⟩ := d2 c hc g
      exact ⟨m, by omega, U0, c0, h0, fun q hq => by
        rcases hU q hq with e | ⟨e1, e2⟩
        · exact Or.inl e
        · exact Or.inr ⟨by omega, e2⟩, hcm⟩
    unfold thP at hv old ⊢
    split at hv
    · rename_i g
      rw [if_pos g] at old ⊢
      by_cases e : V c ≤ lsm Y n V c p (sm Y p) + 1
      · exact old (by omega) (by omega)
      · obtain ⟨s, hs, es⟩ := lsm_ex (sm Y p) g.1
        have hTf : TOK n Y (fu (ds Y n c) p s) := TOK_fu hdo hs
        obtain ⟨m, hm, hq⟩ := d2 (en Y (fu (ds Y n c) p s) n) (en_lt hTf n (Nat.le_refl n)) (by omega)
        obtain ⟨U0, c0, h0, hU, hcm⟩ := QT_cg _ (fu (ds Y n c) p s) m hq (fun q hq => (ds_en h hTf hq).symm)
        obtain ⟨w, hw, ew⟩ := (isF_iff _).mp g.2
        refine ⟨c0 + un U0 (ds Y n c) n, ?_, U0, c0, h0, fun q hq => ?_, rfl⟩
        · have hU0 : fu (ds Y n c) p s p = U0 p := by
            rcases hU p hp with e | ⟨e, -⟩
            · exact e
            · omega
          have hs0 : s = U0 p := by rw [← hU0]; simp [fu]
          rw [hs0] at hcm
          have : un U0 (ds Y n c) n ≤ un U0 (fu (ds Y n c) p (U0 p)) n + 1 := by
            by_cases g3 : ds Y n c p = U0 p
            · rw [un_cg (T' := U0) (U' := fu (ds Y n c) p (U0 p)) n (fun q hq => ⟨rfl, by
                by_cases e : q = p
                · subst e; simp [fu, g3]
                · simp [fu, e]⟩)]
              omega
            · rw [un_fu n hp g3]
              exact Nat.le_refl _
          omega
        · by_cases e : q = p
          · subst e
            exact Or.inr ⟨Nat.le_refl _, w, hw, ew⟩
          · rcases hU q hq with e2 | ⟨e2, e3⟩
            · left; rw [← e2]; simp [fu, e]
            · right
              refine ⟨by omega, ?_⟩
              obtain ⟨w', hw', e4⟩ := e3
              exact ⟨w', hw', by rw [← e4]; simp [fu, e]⟩
    · rename_i g
      rw [if_neg g] at old ⊢
      exact old hv (Nat.le_refl _)
  · have hTU := QT_ok h hP U m hq
    obtain ⟨U0, c0, h0, hU, hcm⟩ := hq
    have hT0 := hP U0 c0 h0
    by_cases e : U p = U0 p
    · refine Nat.le_trans thP_le (d3 U m ⟨U0, c0, h0, fun q hq => ?_, hcm⟩)
      by_cases eq : q = p
      · subst eq; exact Or.inl e
      · rcases hU q hq with e2 | ⟨e2, e3⟩
        · exact Or.inl e2
        · exact Or.inr ⟨by omega, e3⟩
    · have hw : ∃ w, w < Y.2.1 p ∧ U p = lsd Y p w := by
        rcases hU p hp with e2 | ⟨-, e3⟩
        · exact absurd e2 e
        · exact e3
      have hun := un_fu (T := U0) (U := U) n hp e
      have hq1 : QT Y n P (p + 1) (fu U p (U0 p)) (c0 + un U0 (fu U p (U0 p)) n) := ⟨U0, c0, h0, fun q hq => by
        by_cases eq : q = p
        · subst eq; left; simp [fu]
        · rcases hU q hq with e2 | ⟨e2, e3⟩
          · left; simp [fu, eq, e2]
          · right; exact ⟨by omega, by simpa [fu, eq] using e3⟩, rfl⟩
      have hv := d3 _ _ hq1
      have hc : en Y U n < pd Y n := en_lt hTU n (Nat.le_refl n)
      have el : en Y (fu (ds Y n (en Y U n)) p (U0 p)) n = en Y (fu U p (U0 p)) n := en_cg n (fun q hq => by
        by_cases eq : q = p
        · subst eq; simp [fu]
        · simp [fu, eq, ds_en h hTU hq])
      have hl := lsm_le (Y := Y) (n := n) (V := V) (c := en Y U n) (p := p) (sm Y p) (U0 p) (hT0 p hp)
      rw [el] at hl
      have hf : isF Y p (ds Y n (en Y U n) p) (Y.2.1 p) = true := by
        rw [ds_en h hTU hp]
        exact (isF_iff _).mpr hw
      unfold thP
      by_cases g : lsm Y n V (en Y U n) p (sm Y p) < 1000000
      · rw [if_pos ⟨g, hf⟩]
        omega
      · rw [if_neg (fun q => g q.1)]
        have := d1 _ hc
        omega
end
section
def thD (Y : Yd) (n : Nat) (V : Nat → Nat) : Nat → (Nat → Nat)
  | 0 => V
  | j + 1 => thP Y n (n - 1 - j) (thD Y n V j)
theorem thD_le {Y : Yd} {n : Nat} {V : Nat → Nat} : ∀ j c, thD Y n V j c ≤ V c
  | 0, c => Nat.le_refl _
  | j + 1, c => Nat.le_trans thP_le (thD_le j c)
theorem un_self {T U : Nat → Nat} : ∀ k, (∀ p, p < k → U p = T p) → un T U k = 0
  | 0, _ => rfl
  | k + 1, h => by
    unfold un
    rw [un_self k (fun p hp => h p (by omega)), if_pos (h k (by omega))]
theorem DI_0 {Y : Yd} {n : Nat} {V : Nat → Nat} {P : (Nat → Nat) → Nat → Prop} (hD : DI Y n V P) : DI Y n V (QT Y n P n) := by
  obtain ⟨d1, d2, d3⟩ := hD
  refine ⟨d1, fun c hc hv => ?_, ?_⟩
  · obtain ⟨m, hm, hp⟩ := d2 c hc hv
    exact ⟨m, hm, ds Y n c, m, hp, fun p _ => Or.inl rfl, by rw [un_self n (fun _ _ => rfl)]; rfl⟩
  · rintro U m ⟨U0, c0, h0, hU, hc⟩
    have he : ∀ p, p < n → U p = U0 p := fun p hp => by
      rcases hU p hp with e | ⟨e, -⟩
      · exact e
      · omega
    rw [un_self n he] at hc
    rw [en_cg n he, hc]
    exact d3 U0 c0 h0
theorem DI_thD {Y : Yd} {n : Nat} {V : Nat → Nat} {P : (Nat → Nat) → Nat → Prop} (h : YOK n Y) (hP : okP Y n P) (hD : DI Y n V P) : ∀ j, j ≤ n → DI Y n (thD Y n V j) (QT Y n P (n - j))
  | 0, _ => DI_0 hD
  | j + 1, hj => by
    have ih := DI_thD h hP hD j (by omega)
    rw [show n - j = (n - (j + 1)) + 1 by omega] at ih
    unfold thD
    rw [show n - 1 - j = n - (j + 1) by omega]
    exact DI_thP h (by omega) hP ih
/-! the other digits of a code -/
def bs (Y : Yd) (n m c : Nat) : Nat := en Y (fu (ds Y n c) m 0) n
section BS
variable {n : Nat} {Y : Yd} {m c k s : Nat}
theorem fz_ok (h : YOK n Y) (hm : m < n) (hs : s < sm Y m) : TOK n Y (fu (ds Y n c) m s) := TOK_fu (ds_ok h c) hs
theorem bs_lt (h : YOK n Y) (hm : m < n) : bs Y n m c < pd Y n := en_lt (fz_ok h hm (sm_in h hm).1) n (Nat.le_refl n)
theorem bs_ds (h : YOK n Y) (hm : m < n) {q : Nat} (hq : q < n) : ds Y n (bs Y n m c) q = if q = m then 0 else ds Y n c q := by
  unfold bs
  rw [ds_en h (fz_ok h hm (sm_in h hm).1) hq]
  rfl
theorem fib (h : YOK n Y) (hm : m < n) (hc : c < pd Y n) (e : bs Y n m c = k) : c = en Y (fu (ds Y n k) m (ds Y n c m)) n := by
  subst e
  rw [en_cg (U' := ds Y n c) n (fun q hq => by
    unfold fu
    by_cases e : q = m
    · subst e; simp
    · rw [if_neg e, bs_ds h hm hq, if_neg e]), en_dsn hc]
theorem bs_en (h : YOK n Y) (hm : m < n) (hk : k < pd Y n) (h0 : ds Y n k m = 0) (hs : s < sm Y m) : bs Y n m (en Y (fu (ds Y n k) m s) n) = k ∧ ds Y n (en Y (fu (ds Y n k) m s) n) m = s := by
  have hf := fz_ok (c := k) h hm hs
  refine ⟨?_, by rw [ds_en h hf hm]; simp [fu]⟩
  unfold bs
  rw [en_cg (U' := ds Y n k) n (fun q hq => by
    by_cases e : q = m
    · subst e; simp [fu, h0]
    · simp only [fu, if_neg e]
      rw [ds_en h hf hq]
      simp [fu, e]), en_dsn hk]
theorem bs_self (h : YOK n Y) (hm : m < n) (hk : k < pd Y n) (h0 : ds Y n k m = 0) : bs Y n m k = k := by
  unfold bs
  rw [en_cg (U' := ds Y n k) n (fun q hq => by
    by_cases e : q = m
    · subst e; simp [fu, h0]
    · simp [fu, e]), en_dsn hk]
theorem at_en (h : YOK n Y) (hm : m < n) (hk : k < pd Y n) (h0 : ds Y n k m = 0) (s : Nat) : k + s * uf Y n (n - 1 - m) = en Y (fu (ds Y n k) m s) n := by
  rw [en_fu _ hm s]
  have := bs_self h hm hk h0
  unfold bs at this
  rw [this]
theorem lsm_bs (h : YOK n Y) (hm : m < n) {V : Nat → Nat} (e : bs Y n m c = k) : ∀ s, lsm Y n V c m s = lsm Y n V k m s
  | 0 => rfl
  | s + 1 => by
    unfold lsm
    rw [lsm_bs h hm e s]
    congr 2
    refine en_cg n (fun q hq => ?_)
    unfold fu
    by_cases eq : q = m
    · rw [if_pos eq, if_pos eq]
    · rw [if_neg eq, if_neg eq, ← e, bs_ds h hm hq, if_neg eq]
end BS
/-- while the codes up to k are done -/
def Vk (Y : Yd) (n m : Nat) (V : Nat → Nat) (k c : Nat) : Nat := if bs Y n m c < k then thP Y n m V c else V c
def Vw (Y : Yd) (n m : Nat) (V : Nat → Nat) (k w c : Nat) : Nat := if bs Y n m c < k then thP Y n m V c else if bs Y n m c = k ∧ isF Y m (ds Y n c m) w = true then min (V c) (lsm Y n V k m (sm Y m) + 1) else V c
theorem Vk_le {Y : Yd} {n m : Nat} {V : Nat → Nat} {k c : Nat} : Vk Y n m V k c ≤ V c := by
  unfold Vk
  split
  · exact thP_le
  · exact Nat.le_refl _
theorem Vw_le {Y : Yd} {n m : Nat} {V : Nat → Nat} {k w c : Nat} : Vw Y n m V k w c ≤ V c := by
  unfold Vw
  split
  · exact thP_le
  · split
    · exact Nat.min_le_left _ _
    · exact Nat.le_refl _
theorem lsm_ub {Y : Yd} {n : Nat} {V : Nat → Nat} {c p : Nat} : ∀ s, lsm Y n V c p s ≤ 1000000
  | 0 => Nat.le_refl _
  | s + 1 => Nat.le_trans (Nat.min_le_left _ _) (lsm_ub s)
section MM
variable {d L : Nat} {dy : mjM} {I : mjI} {y y1 n1 w1 c y2 : Option Nat} {R : mjR} {J : mjJ} {pn : Nat} {pg : Nat → Nat} {n : Nat} {Y : Yd} {T : Nat → Nat} {t : Nat} {tr : Nat → Nat} {kp : Kp} {wn : Nat} {wt : Nat → Nat} {yr dn : Nat}
/-- one switch of throwAll: its codes -/
theorem M_throwOne {m : Nat} {V : Nat → Nat} (hn6 : n ≤ 6) (hm : m < n) (hY : MY I n Y) (hV : ∀ c, c < pd Y n → V c ≤ 1000000) : ∀ (f k : Nat) (X : mjI) (l6 l7 l8 : Option Value), mj_lg l6 = true → mj_lg l7 = true → k + f = pd Y n → Fr [] [60] I X → RI X 60 (pd Y n) (Vk Y n m V k) → ∃ (I' : mjI) (q6 q7 q8 : Option Value), (Fr [] [60] I I' ∧ RI I' 60 (pd Y n) (thP Y n m V) ∧ mj_lg q6 = true ∧ mj_lg q7 = true) ∧ ∀ (v : Option Value) (h' : mjH), mj_Rd (mj_call mj_P (d + 2)) kc_M_throwAll 0 (171, [some (.ref 45), some (.int (nI (pd Y n))), some (.int (nI (uf Y n (n - 1 - m)))), some (.int (nI m)), some (.int (nI (sm Y m))), some (.int (nI (pd Y n))), q6, q7, q8], [], HP L dy I' y y1 n1 w1 c y2 R J) v h' → mj_Rd (mj_call mj_P (d + 2)) kc_M_throwAll 0 (23, [some (.ref 45), some (.int (nI (pd Y n))), some (.int (nI (uf Y n (n - 1 - m)))), some (.int (nI m)), some (.int (nI (sm Y m))), some (.int (nI k)), l6, l7, l8], [], HP L dy X y y1 n1 w1 c y2 R J) v h' := by
  have hO := hY.2.1
  have hpd := pd_46656 hO hn6
  have hsm := sm_in hO hm
  have hup := uf_pos hO (n - 1 - m) (by omega)
  have hule : uf Y n (n - 1 - m) ≤ pd Y n := by
    have := pd_uf (Y := Y) (n := n) (n - 1 - m) (by omega)
    have hp1 := (pd_le hO (n - (n - 1 - m)) (by omega)).2
    rw [← this]
    have := Nat.mul_le_mul_right (uf Y n (n - 1 - m)) hp1
    omega
  intro f
  induction f with
  | zero =>
    intro k X l6 l7 l8 g6 g7 hk hf hR
    have : k = pd Y n := by omega
    subst this
    refine ⟨X, l6, l7, l8, ⟨hf, fun c hc => ?_, g6, g7⟩, fun v h' hx => ?_⟩
    · rw [hR c hc]
      unfold Vk
      rw [if_pos (bs_lt hO hm)]
    · refine mj_run 2 rfl trivial ?_
      refine mj_brt rfl rfl (by rw [nI_leI (by omega) (by omega)]; omega) ?_
      exact hx
  | succ f ih =>
    intro k X l6 l7 l8 g6 g7 hk hf hR
    have hkp : k < pd Y n := by omega
    have hYX : MY X n Y := hY.fr hf (by decide)
    have eds : k / uf Y n (n - 1 - m) % sm Y m = ds Y n k m := (ds_uf Y n k m).symm
    have nz1 : ¬ nI (uf Y n (n - 1 - m)) = 0 := by rw [nI_z (by omega)]; omega
    have nz2 : ¬ nI (sm Y m) = 0 := by rw [nI_z (by omega)]; omega
    have hdl : ds Y n k m < sm Y m := ds_ok hO k m hm
    have hdiv : k / uf Y n (n - 1 - m) ≤ k := Nat.div_le_self _ _
    by_cases hd0 : ds Y n k m = 0
    · -- the least of its fibre
      have hkk := bs_self hO hm hkp hd0
      have least : ∀ (v : Option Value) (h' : mjH), mj_Rd (mj_call mj_P (d + 2)) kc_M_throwAll 0 (89, [some (.ref 45), some (.int (nI (pd Y n))), some (.int (nI (uf Y n (n - 1 - m)))), some (.int (nI m)), some (.int (nI (sm Y m))), some (.int (nI k)), some (.int (nI (lsm Y n V k m (sm Y m)))), some (.int (nI (sm Y m))), some (.int (nI (V (en Y (fu (ds Y n k) m (sm Y m - 1)) n))))], [], HP L dy X y y1 n1 w1 c y2 R J) v h' → ∀ v8 : Option Value, mj_Rd (mj_call mj_P (d + 2)) kc_M_throwAll 0 (46, [some (.ref 45), some (.int (nI (pd Y n))), some (.int (nI (uf Y n (n - 1 - m)))), some (.int (nI m)), some (.int (nI (sm Y m))), some (.int (nI k)), some (.int (nI (lsm Y n V k m 0))), some (.int (nI 0)), v8], [], HP L dy X y y1 n1 w1 c y2 R J) v h' := by
        intro v h' hx v8
        refine dn_ind (sm Y m) (fun s => ∀ v8 : Option Value, (s = sm Y m → v8 = some (.int (nI (V (en Y (fu (ds Y n k) m (sm Y m - 1)) n))))) → mj_Rd (mj_call mj_P (d + 2)) kc_M_throwAll 0 (46, [some (.ref 45), some (.int (nI (pd Y n))), some (.int (nI (uf Y n (n - 1 - m)))), some (.int (nI m)), some (.int (nI (sm Y m))), some (.int (nI k)), some (.int (nI (lsm Y n V k m s))), some (.int (nI s)), v8], [], HP L dy X y y1 n1 w1 c y2 R J) v h') ?_ ?_ 0 (by omega) v8 (fun q => by omega)
        · intro v8 h8
          rw [h8 rfl]
          refine mj_run 2 rfl trivial ?_
          refine mj_brt rfl rfl (by rw [nI_leI (by omega) (by omega)]; omega) ?_
          exact hx
        · intro s hs ihs v8 _
          have hlu := lsm_ub (Y := Y) (n := n) (V := V) (c := k) (p := m) s
          have hen := en_lt (fz_ok (c := k) hO hm hs) n (Nat.le_refl n)
          have eix : nI k + nI s * nI (uf Y n (n - 1 - m)) = nI (en Y (fu (ds Y n k) m s) n) := by
            rw [pk_mul, nI_add, at_en hO hm hkp hd0]
          have ev : Vk Y n m V k (en Y (fu (ds Y n k) m s) n) = V (en Y (fu (ds Y n k) m s) n) := by
            unfold Vk
            rw [(bs_en hO hm hkp hd0 hs).1, if_neg (by omega)]
          have hVe := hV _ hen
          have ihs' := ihs (some (.int (nI (V (en Y (fu (ds Y n k) m s) n))))) (fun q => by rw [show s = sm Y m - 1 by omega])
          rw [show lsm Y n V k m (s + 1) = min (lsm Y n V k m s) (V (en Y (fu (ds Y n k) m s) n)) from rfl] at ihs'
          refine mj_run 2 rfl trivial ?_
          refine mj_brf rfl rfl (by rw [nI_leI (by omega) (by omega)]; omega) ?_
          refine mj_run 11 rfl (by rw [eix]; exact nI_vi (by omega) (by decide)) ?_
          rw [eix, nI_nc (by omega), hR _ hen, ev]
          refine mj_bra rfl rfl (fun g => ?_) (fun g => ?_)
          · rw [nI_leI (by omega) (by omega)] at g
            rw [Nat.min_eq_left g] at ihs'
            refine mj_run 1 rfl trivial ?_
            refine mj_run 3 rfl trivial ?_
            rw [nI_add]
            exact ihs'
          · rw [nI_leI (by omega) (by omega)] at g
            rw [Nat.min_eq_right (by omega)] at ihs'
            refine mj_run 2 rfl trivial ?_
            refine mj_run 3 rfl trivial ?_
            rw [nI_add]
            exact ihs'
      have start : ∀ (v : Option Value) (h' : mjH), mj_Rd (mj_call mj_P (d + 2)) kc_M_throwAll 0 (92, [some (.ref 45), some (.int (nI (pd Y n))), some (.int (nI (uf Y n (n - 1 - m)))), some (.int (nI m)), some (.int (nI (sm Y m))), some (.int (nI k)), some (.int (nI (lsm Y n V k m (sm Y m)))), some (.int (nI 0)), some (.int (nI (V (en Y (fu (ds Y n k) m (sm Y m - 1)) n))))], [], HP L dy X y y1 n1 w1 c y2 R J) v h' → mj_Rd (mj_call mj_P (d + 2)) kc_M_throwAll 0 (23, [some (.ref 45), some (.int (nI (pd Y n))), some (.int (nI (uf Y n (n - 1 - m)))), some (.int (nI m)), some (.int (nI (sm Y m))), some (.int (nI k)), l6, l7, l8], [], HP L dy X y y1 n1 w1 c y2 R J) v h' := by
        intro v h' hx
        refine mj_run 2 rfl trivial ?_
        refine mj_brf rfl rfl (by rw [nI_leI (by omega) (by omega)]; omega) ?_
        refine mj_run 5 rfl ⟨nz1, nz2⟩ ?_
        rw [pk_div (by omega) (by omega) (by omega), pk_rem (by omega) (by omega) (by omega), eds, hd0]
        refine mj_brf rfl rfl (fun q => q rfl) ?_
        refine mj_run 4 rfl trivial ?_
        refine least v h' ?_ l8
        refine mj_run 2 rfl trivial ?_
        exact hx
      generalize hls : lsm Y n V k m (sm Y m) = ls at start
      have hlu : ls ≤ 1000000 := by rw [← hls]; exact lsm_ub _
      have hcm := hO.2 m hm
      have e51 : ∀ Z, Fr [] [60] I Z → Z 51 m = nI (Y.2.1 m) := fun Z hZ => by
        rw [hZ.1 51 (by decide) (by decide)]
        exact (hY.2.2 m hm).2.1
      by_cases hl : ls < 1000000
      · -- throws
        have key := dn_ind (Y.2.1 m) (fun w => ∀ (Z : mjI) (v8 : Option Value), Fr [] [60] I Z → RI Z 60 (pd Y n) (Vw Y n m V k w) → ∃ (I' : mjI) (q6 q7 q8 : Option Value), (Fr [] [60] I I' ∧ RI I' 60 (pd Y n) (thP Y n m V) ∧ mj_lg q6 = true ∧ mj_lg q7 = true) ∧ ∀ (v : Option Value) (h' : mjH), mj_Rd (mj_call mj_P (d + 2)) kc_M_throwAll 0 (171, [some (.ref 45), some (.int (nI (pd Y n))), some (.int (nI (uf Y n (n - 1 - m)))), some (.int (nI m)), some (.int (nI (sm Y m))), some (.int (nI (pd Y n))), q6, q7, q8], [], HP L dy I' y y1 n1 w1 c y2 R J) v h' → mj_Rd (mj_call mj_P (d + 2)) kc_M_throwAll 0 (92, [some (.ref 45), some (.int (nI (pd Y n))), some (.int (nI (uf Y n (n - 1 - m)))), some (.int (nI m)), some (.int (nI (sm Y m))), some (.int (nI k)), some (.int (nI ls)), some (.int (nI w)), v8], [], HP L dy Z y y1 n1 w1 c y2 R J) v h') ?_ ?_ 0 (by omega)
        · have hz : RI X 60 (pd Y n) (Vw Y n m V k 0) := fun c hc => by
            rw [hR c hc]
            unfold Vk Vw
            split
            · rfl
            · rw [if_neg (fun q => by cases q.2)]
          obtain ⟨I', q6, q7, q8, hA, hx⟩ := key X (some (.int (nI (V (en Y (fu (ds Y n k) m (sm Y m - 1)) n))))) hf hz
          exact ⟨I', q6, q7, q8, hA, fun v h' g => start v h' (hx v h' g)⟩
        · intro Z v8 hfZ hZ
          obtain ⟨I', q6, q7, q8, hA, hx⟩ := ih (k + 1) Z (some (.int (nI ls))) (some (.int (nI (Y.2.1 m)))) v8 rfl rfl (by omega) hfZ (fun c hc => by
            rw [hZ c hc]
            congr 1
            unfold Vk Vw
            by_cases g : bs Y n m c < k
            · rw [if_pos g, if_pos (by omega)]
            · rw [if_neg g]
              by_cases g2 : bs Y n m c = k
              · rw [if_pos (show bs Y n m c < k + 1 by omega)]
                unfold thP
                rw [lsm_bs hO hm g2, hls]
                by_cases g3 : isF Y m (ds Y n c m) (Y.2.1 m) = true
                · rw [if_pos ⟨g2, g3⟩, if_pos ⟨hl, g3⟩]
                · rw [if_neg (fun q => g3 q.2), if_neg (fun q => g3 q.2)]
              · rw [if_neg (fun q => g2 q.1), if_neg (by omega)])
          refine ⟨I', q6, q7, q8, hA, fun v h' g => ?_⟩
          refine mj_run 5 rfl (nI_vi (by omega) (by decide)) ?_
          rw [nI_nc (by omega), e51 Z hfZ]
          refine mj_brt rfl rfl (by rw [nI_leI (by omega) (by omega)]; omega) ?_
          refine mj_run 2 rfl trivial ?_
          rw [nI_add]
          exact hx v h' g
        · intro w hw ihw Z v8 hfZ hZ
          have hYZ : MY Z n Y := hY.fr hfZ (by decide)
          have hli := (lsd_in hO hm hw).1
          have hen := en_lt (fz_ok (c := k) hO hm hli) n (Nat.le_refl n)
          have eix : nI k + nI (lsd Y m w) * nI (uf Y n (n - 1 - m)) = nI (en Y (fu (ds Y n k) m (lsd Y m w)) n) := by
            rw [pk_mul, nI_add, at_en hO hm hkp hd0]
          obtain ⟨b1, b2⟩ := bs_en hO hm hkp hd0 hli
          have hVc := hV _ hen
          have hcur : Vw Y n m V k w (en Y (fu (ds Y n k) m (lsd Y m w)) n) ≤ 1000000 := Nat.le_trans Vw_le hVc
          have hnew : Vw Y n m V k (w + 1) (en Y (fu (ds Y n k) m (lsd Y m w)) n) = min (Vw Y n m V k w (en Y (fu (ds Y n k) m (lsd Y m w)) n)) (ls + 1) := by
            unfold Vw
            rw [b1, b2, if_neg (Nat.lt_irrefl k), if_neg (Nat.lt_irrefl k), hls]
            rw [if_pos ⟨rfl, (isF_iff _).mpr ⟨w, by omega, rfl⟩⟩]
            split <;> omega
          have hoth : ∀ c, c < pd Y n → c ≠ en Y (fu (ds Y n k) m (lsd Y m w)) n → Vw Y n m V k (w + 1) c = Vw Y n m V k w c := by
            intro c hc hne
            unfold Vw
            by_cases g : bs Y n m c < k
            · rw [if_pos g, if_pos g]
            · rw [if_neg g, if_neg g]
              by_cases g2 : bs Y n m c = k
              · have hd : ¬ lsd Y m w = ds Y n c m := fun e => hne (by rw [e]; exact fib hO hm hc g2)
                have : isF Y m (ds Y n c m) (w + 1) = isF Y m (ds Y n c m) w := by
                  show (_ || _) = _
                  rw [decide_eq_false hd, Bool.or_false]
                rw [this]
              · rw [if_neg (fun q => g2 q.1), if_neg (fun q => g2 q.1)]
          obtain ⟨I', q6, q7, q8, hA, hx⟩ := ihw (mj_ui Z 60 (en Y (fu (ds Y n k) m (lsd Y m w)) n) (nI (Vw Y n m V k (w + 1) (en Y (fu (ds Y n k) m (lsd Y m w)) n)))) (some (.int (nI (en Y (fu (ds Y n k) m (lsd Y m w)) n)))) ((hfZ.tr (Fr.a Z (a := 60) (by decide) _ _)).w (by decide) (by decide)) (fun c hc => by
            by_cases e : c = en Y (fu (ds Y n k) m (lsd Y m w)) n
            · subst e; simp [mj_ui, upd]
            · rw [hoth c hc e, ← hZ c hc]
              simp [mj_ui, upd, e])
          refine ⟨I', q6, q7, q8, hA, fun v h' g => ?_⟩
          have hx2 := hx v h' g
          rw [hnew] at hx2
          refine mj_run 5 rfl (nI_vi (by omega) (by decide)) ?_
          rw [nI_nc (by omega), e51 Z hfZ]
          refine mj_brf rfl rfl (by rw [nI_leI (by omega) (by omega)]; omega) ?_
          refine mj_run 2 rfl trivial ?_
          refine mj_brf rfl rfl (by rw [nI_leI (by decide) (by omega)]; omega) ?_
          refine mj_run 4 rfl trivial ?_
          refine mj_cal rfl rfl (M_leastStand hYZ hm hw) ?_
          have vi : vp_in (nI (en Y (fu (ds Y n k) m (lsd Y m w)) n)) 46656 := nI_vi (by omega) (by decide)
          refine mj_run 14 rfl (by rw [eix]; exact vi) ?_
          rw [eix, nI_nc (by omega), hZ _ hen, nI_add]
          refine mj_bra rfl rfl (fun g => ?_) (fun g => ?_)
          · rw [nI_leI (by omega) (by omega)] at g
            rw [Nat.min_eq_left g] at hx2
            refine mj_run 4 rfl vi ?_
            rw [nI_nc (by omega), hZ _ hen]
            refine mj_run 3 rfl ⟨vi, by decide⟩ ?_
            rw [nI_nc (by omega), nI_add]
            exact hx2
          · rw [nI_leI (by omega) (by omega)] at g
            rw [Nat.min_eq_right (by omega)] at hx2
            refine mj_run 4 rfl trivial ?_
            rw [nI_add]
            refine mj_run 3 rfl ⟨vi, by decide⟩ ?_
            rw [nI_nc (by omega), nI_add]
            exact hx2
      · -- none of its fibre is reached
        obtain ⟨I', q6, q7, q8, hA, hx⟩ := ih (k + 1) X (some (.int (nI ls))) (some (.int (nI 0))) (some (.int (nI (V (en Y (fu (ds Y n k) m (sm Y m - 1)) n))))) rfl rfl (by omega) hf (fun c hc => by
          rw [hR c hc]
          congr 1
          unfold Vk
          by_cases g : bs Y n m c < k
          · rw [if_pos g, if_pos (by omega)]
          · rw [if_neg g]
            by_cases g2 : bs Y n m c = k
            · rw [if_pos (show bs Y n m c < k + 1 by omega)]
              unfold thP
              rw [lsm_bs hO hm g2, hls, if_neg (fun q => hl q.1)]
            · rw [if_neg (by omega)])
        refine ⟨I', q6, q7, q8, hA, fun v h' g => start v h' ?_⟩
        refine mj_run 5 rfl (nI_vi (by omega) (by decide)) ?_
        rw [nI_nc (by omega), e51 X hf]
        refine mj_brf rfl rfl (by rw [nI_leI (by omega) (by omega)]; omega) ?_
        refine mj_run 2 rfl trivial ?_
        refine mj_brt rfl rfl (by rw [nI_leI (by decide) (by omega)]; omega) ?_
        refine mj_run 2 rfl trivial ?_
        rw [nI_add]
        exact hx v h' g
    · -- not the first of its fibre
      obtain ⟨I', q6, q7, q8, hA, hx⟩ := ih (k + 1) X l6 l7 l8 g6 g7 (by omega) hf (fun c hc => by
        rw [hR c hc]
        congr 1
        unfold Vk
        have hne : bs Y n m c ≠ k := fun e => hd0 (by rw [← e, bs_ds hO hm hm, if_pos rfl])
        by_cases g : bs Y n m c < k
        · rw [if_pos g, if_pos (by omega)]
        · rw [if_neg g, if_neg (by omega)])
      refine ⟨I', q6, q7, q8, hA, fun v h' g => ?_⟩
      refine mj_run 2 rfl trivial ?_
      refine mj_brf rfl rfl (by rw [nI_leI (by omega) (by omega)]; omega) ?_
      refine mj_run 5 rfl ⟨nz1, nz2⟩ ?_
      rw [pk_div (by omega) (by omega) (by omega), pk_rem (by omega) (by omega) (by omega), eds]
      refine mj_brt rfl rfl (by rw [nI_z (by omega)]; exact hd0) ?_
      refine mj_run 2 rfl trivial ?_
      rw [nI_add]
      exact hx v h' g
theorem M_throwAll {V : Nat → Nat} (hn6 : n ≤ 6) (hY : MY I n Y) (hV : ∀ c, c < pd Y n → V c ≤ 1000000) (hR : RI I 60 (pd Y n) V) : ∃ I', mj_call mj_P (d + 3) kn_M_throwAll [.ref 45, .int (nI (pd Y n))] (HP L dy I y y1 n1 w1 c y2 R J) none (HP L dy I' y y1 n1 w1 c y2 R J) ∧ Fr [] [60] I I' ∧ RI I' 60 (pd Y n) (thD Y n V n) := by
  have key : ∀ (m : Nat) (X : mjI) (l4 l5 l6 l7 l8 : Option Value), mj_lg l4 = true → mj_lg l5 = true → mj_lg l6 = true → mj_lg l7 = true → m ≤ n → Fr [] [60] I X → RI X 60 (pd Y n) (thD Y n V (n - m)) → ∃ I', (Fr [] [60] I I' ∧ RI I' 60 (pd Y n) (thD Y n V n)) ∧ mj_Rd (mj_call mj_P (d + 2)) kc_M_throwAll 0 (9, [some (.ref 45), some (.int (nI (pd Y n))), some (.int (nI (uf Y n (n - m)))), some (.int (nI m - nI 1)), l4, l5, l6, l7, l8], [], HP L dy X y y1 n1 w1 c y2 R J) none (HP L dy I' y y1 n1 w1 c y2 R J) := by
    intro m
    induction m with
    | zero =>
      intro X l4 l5 l6 l7 l8 _ _ _ _ _ hf hX
      refine ⟨X, ⟨hf, hX⟩, ?_⟩
      refine mj_run 1 rfl trivial ?_
      refine mj_brt rfl rfl (by decide) ?_
      exact mj_end rfl rfl trivial
    | succ m ih =>
      intro X l4 l5 l6 l7 l8 g4 g5 g6 g7 hm hf hX
      have hYX : MY X n Y := hY.fr hf (by decide)
      have hmn : m < n := by omega
      have hsm := sm_in hY.2.1 hmn
      have e0 : nI (m + 1) - nI 1 = nI m := by rw [pk_sub (by omega)]; rfl
      have e1 : n - (m + 1) = n - 1 - m := by omega
      rw [e1] at hX
      obtain ⟨I1, q6, q7, q8, ⟨hf1, hR1, k6, k7⟩, hx1⟩ := M_throwOne (d := d) (L := L) (dy := dy) (y := y) (y1 := y1) (n1 := n1) (w1 := w1) (c := c) (y2 := y2) (R := R) (J := J) (m := m) (V := thD Y n V (n - 1 - m)) hn6 hmn hYX (fun c hc => Nat.le_trans (thD_le _ c) (hV c hc)) (pd Y n) 0 X l6 l7 l8 g6 g7 (by omega) ((Fr.rf X).w (by simp) (by simp)) (fun c hc => by
        rw [hX c hc]
        unfold Vk
        rw [if_neg (by omega)])
      have e2 : thD Y n V (n - m) = thP Y n m (thD Y n V (n - 1 - m)) := by
        rw [show n - m = n - 1 - m + 1 by omega]
        show thP Y n (n - 1 - (n - 1 - m)) _ = _
        rw [show n - 1 - (n - 1 - m) = m by omega]
      have e3 : uf Y n (n - m) = uf Y n (n - 1 - m) * sm Y m := by
        rw [show n - m = n - 1 - m + 1 by omega]
        show _ * sm Y (n - 1 - (n - 1 - m)) = _
        rw [show n - 1 - (n - 1 - m) = m by omega]
      obtain ⟨I', hA, hx⟩ := ih I1 (some (.int (nI (sm Y m)))) (some (.int (nI (pd Y n)))) q6 q7 q8 rfl rfl k6 k7 (by omega) ((hf.tr hf1).w (by decide) (by decide)) (by rw [e2]; exact hR1)
      refine ⟨I', hA, ?_⟩
      rw [e0, e1]
      refine mj_run 1 rfl trivial ?_
      refine mj_brf rfl rfl (by rw [show (0 : Int32) = nI 0 from rfl, nI_ltI (by omega) (by decide)]; omega) ?_
      refine mj_run 2 rfl trivial ?_
      refine mj_cal rfl rfl (M_standMany hYX hmn) ?_
      refine mj_run 3 rfl trivial ?_
      refine hx1 _ _ ?_
      refine mj_run 6 rfl trivial ?_
      rw [pk_mul, ← e3]
      rw [show nI m + Int32.ofInt (-1) = nI m - nI 1 by rw [Int32.sub_eq_add_neg]; rfl]
      exact hx
  obtain ⟨I', hA, hx⟩ := key n I none none none none none rfl rfl rfl rfl (Nat.le_refl n) ((Fr.rf I).w (by simp) (by simp)) (by rw [Nat.sub_self]; exact hR)
  refine ⟨I', ?_, hA⟩
  refine mj_ci rfl (Nat.le_of_ble_eq_true rfl) ?_
  refine mj_run 7 rfl trivial ?_
  rw [hY.1]
  rw [Nat.sub_self] at hx
  exact hx
end MM
end
section
def toC (Y : Yd) (n c : Nat) : Nat := en Y (gt Y none (ds Y n c)).2.1 n
def nxF (Y : Yd) (n : Nat) (V : Nat → Nat) (s : Nat) : Nat → (Nat → Nat)
  | 0 => fun _ => 1000000
  | c + 1 => if V c < 1000000 ∧ (gt Y none (ds Y n c)).1 = some s then fu (nxF Y n V s c) (toC Y n c) (min (V c) (nxF Y n V s c (toC Y n c))) else nxF Y n V s c
theorem nxF_le {Y : Yd} {n : Nat} {V : Nat → Nat} {s : Nat} : ∀ j c, nxF Y n V s j c ≤ 1000000
  | 0, c => Nat.le_refl _
  | j + 1, c => by
    have ih := nxF_le (Y := Y) (n := n) (V := V) (s := s) j
    unfold nxF
    split
    · rename_i g
      unfold fu
      split
      · have := ih (toC Y n j); omega
      · exact ih c
    · exact ih c
theorem nxF_s {Y : Yd} {n : Nat} {V : Nat → Nat} {s : Nat} : ∀ j c2, nxF Y n V s j c2 < 1000000 → ∃ c, c < j ∧ V c < 1000000 ∧ (gt Y none (ds Y n c)).1 = some s ∧ toC Y n c = c2 ∧ V c = nxF Y n V s j c2
  | 0, c2, h => by simp [nxF] at h
  | j + 1, c2, h => by
    have ih := nxF_s (Y := Y) (n := n) (V := V) (s := s) j
    unfold nxF at h ⊢
    split at h
    · rename_i g
      rw [if_pos g]
      unfold fu at h ⊢
      by_cases e : c2 = toC Y n j
      · rw [if_pos e] at h ⊢
        by_cases q : V j ≤ nxF Y n V s j (toC Y n j)
        · exact ⟨j, by omega, g.1, g.2, e.symm, by omega⟩
        · obtain ⟨c, h1, h2, h3, h4, h5⟩ := ih (toC Y n j) (by omega)
          exact ⟨c, by omega, h2, h3, by rw [h4, e], by omega⟩
      · rw [if_neg e] at h ⊢
        obtain ⟨c, h1, h2⟩ := ih c2 h
        exact ⟨c, by omega, h2⟩
    · rename_i g
      rw [if_neg g]
      obtain ⟨c, h1, h2⟩ := ih c2 h
      exact ⟨c, by omega, h2⟩
theorem nxF_mono {Y : Yd} {n : Nat} {V : Nat → Nat} {s j c2 : Nat} : nxF Y n V s (j + 1) c2 ≤ nxF Y n V s j c2 := by
  show (if _ then _ else _ : Nat → Nat) c2 ≤ _
  split
  · simp only [fu]
    split
    · rename_i e; subst e; exact Nat.min_le_right _ _
    · exact Nat.le_refl _
  · exact Nat.le_refl _
theorem nxF_c {Y : Yd} {n : Nat} {V : Nat → Nat} {s : Nat} : ∀ j c, c < j → V c < 1000000 → (gt Y none (ds Y n c)).1 = some s → nxF Y n V s j (toC Y n c) ≤ V c
  | 0, c, h, _, _ => by omega
  | j + 1, c, h, h1, h2 => by
    by_cases e : c = j
    · subst e
      show (if _ then _ else _ : Nat → Nat) _ ≤ _
      rw [if_pos ⟨h1, h2⟩]
      unfold fu
      rw [if_pos rfl]
      exact Nat.min_le_left _ _
    · exact Nat.le_trans nxF_mono (nxF_c j c (by omega) h1 h2)
theorem DI_nx {Y : Yd} {n k : Nat} {V T wt : Nat → Nat} (h : YOK n Y) (hn : 1 ≤ n) (hT : TOK n Y T) (hD : DI Y n V (QT Y n (Pl Y n T wt k) 0)) : DI Y n (nxF Y n V (wt k) (pd Y n)) (Pl Y n T wt (k + 1)) := by
  obtain ⟨d1, d2, d3⟩ := hD
  refine ⟨fun c _ => nxF_le _ c, fun c hc hv => ?_, ?_⟩
  · obtain ⟨c1, h1, h2, h3, h4, h5⟩ := nxF_s _ _ hv
    obtain ⟨m, hm, hq⟩ := d2 c1 h1 h2
    refine ⟨m, by omega, ds Y n c1, hq, h3, fun p hp => ?_⟩
    rw [← h4]
    exact ds_en h (gt_ok h hn (ds_ok h c1)).2.1 hp
  · rintro U m ⟨U0, hq, hs, hU⟩
    have hT0 := QT_ok h (Pl_ok h hn hT k) U0 m hq
    have hc := en_lt hT0 n (Nat.le_refl n)
    have hv := d3 U0 m hq
    obtain ⟨g1, g2, -⟩ := gt_cg (q := none) h hn (ds_ok h (en Y U0 n)) (fun p hp => ds_en h hT0 hp)
    have et : toC Y n (en Y U0 n) = en Y U n := en_cg n (fun p hp => by rw [g2 p hp, hU p hp])
    by_cases g : V (en Y U0 n) < 1000000
    · have := nxF_c (Y := Y) (n := n) (V := V) (s := wt k) (pd Y n) _ hc g (by rw [g1, hs])
      rw [et] at this
      omega
    · have := nxF_le (Y := Y) (n := n) (V := V) (s := wt k) (pd Y n) (en Y U n)
      omega
theorem Pl_le {Y : Yd} {n : Nat} {T wt : Nat → Nat} : ∀ k U c, Pl Y n T wt k U c → c ≤ k * n
  | 0, U, c, h => by rw [h.2]; exact Nat.zero_le _
  | k + 1, U, c, ⟨U0, ⟨U1, c1, h1, _, hc⟩, _⟩ => by
    have := Pl_le k U1 c1 h1
    have := un_le U1 U0 n
    rw [Nat.add_mul]
    omega
def V0 (Y : Yd) (n : Nat) (T : Nat → Nat) : Nat → Nat := fu (fun _ => 1000000) (en Y T n) 0
theorem DI_V0 {Y : Yd} {n : Nat} {T wt : Nat → Nat} (h : YOK n Y) (hT : TOK n Y T) : DI Y n (V0 Y n T) (Pl Y n T wt 0) := by
  refine ⟨fun c _ => by simp only [V0, fu]; split <;> omega, fun c hc hv => ?_, ?_⟩
  · simp only [V0, fu] at hv ⊢
    by_cases e : c = en Y T n
    · subst e
      exact ⟨0, Nat.zero_le _, fun p hp => ds_en h hT hp, rfl⟩
    · rw [if_neg e] at hv
      omega
  · rintro U m ⟨h1, h2⟩
    rw [en_cg n h1]
    unfold V0 fu
    rw [if_pos rfl]
    exact Nat.zero_le _
/-- the costs behind k trucks -/
def VT (Y : Yd) (n : Nat) (T wt : Nat → Nat) : Nat → (Nat → Nat)
  | 0 => V0 Y n T
  | k + 1 => nxF Y n (thD Y n (VT Y n T wt k) n) (wt k) (pd Y n)
theorem DI_VT {Y : Yd} {n : Nat} {T wt : Nat → Nat} (h : YOK n Y) (hn : 1 ≤ n) (hT : TOK n Y T) : ∀ k, DI Y n (VT Y n T wt k) (Pl Y n T wt k)
  | 0 => DI_V0 h hT
  | k + 1 => by
    have := DI_thD h (Pl_ok (wt := wt) h hn hT k) (DI_VT (wt := wt) h hn hT k) n (Nat.le_refl n)
    rw [Nat.sub_self] at this
    exact DI_nx h hn hT this
def lsA (V : Nat → Nat) : Nat → Nat
  | 0 => 1000000
  | c + 1 => min (lsA V c) (V c)
theorem lsA_le {V : Nat → Nat} : ∀ k c, c < k → lsA V k ≤ V c
  | 0, c, h => by omega
  | k + 1, c, h => by
    unfold lsA
    by_cases e : c = k
    · subst e; exact Nat.min_le_right _ _
    · exact Nat.le_trans (Nat.min_le_left _ _) (lsA_le k c (by omega))
theorem lsA_ub {V : Nat → Nat} : ∀ k, lsA V k ≤ 1000000
  | 0 => Nat.le_refl _
  | k + 1 => Nat.le_trans (Nat.min_le_left _ _) (lsA_ub k)
theorem lsA_ex {V : Nat → Nat} : ∀ k, lsA V k < 1000000 → ∃ c, c < k ∧ lsA V k = V c
  | 0, h => by simp [lsA] at h
  | k + 1, h => by
    unfold lsA at h ⊢
    by_cases e : lsA V k ≤ V k
    · rw [Nat.min_eq_left e] at h ⊢
      obtain ⟨c, hc, ec⟩ := lsA_ex k h
      exact ⟨c, by omega, ec⟩
    · exact ⟨k, by omega, Nat.min_eq_right (by omega)⟩
def hdO (Y : Yd) (n : Nat) (T wt : Nat → Nat) (wn : Nat) : Option Nat := if lsA (VT Y n T wt wn) (pd Y n) = 1000000 then none else some (lsA (VT Y n T wt wn) (pd Y n))
theorem hdO_HM {Y : Yd} {n : Nat} {T wt : Nat → Nat} {wn : Nat} (h : YOK n Y) (hn : 1 ≤ n) (hT : TOK n Y T) (hw : wn ≤ 8) : HM Y n T wt wn (hdO Y n T wt wn) := by
  obtain ⟨d1, d2, d3⟩ := DI_VT (wt := wt) h hn hT wn
  have hn10 : n ≤ 10 := h.1
  have hb : ∀ U c, Pl Y n T wt wn U c → lsA (VT Y n T wt wn) (pd Y n) ≤ c ∧ c ≤ 80 := by
    intro U c hp
    have h1 := d3 U c hp
    have h2 := lsA_le (V := VT Y n T wt wn) (pd Y n) (en Y U n) (en_lt (Pl_ok h hn hT wn U c hp) n (Nat.le_refl n))
    have h3 := Pl_le wn U c hp
    have : wn * n ≤ 8 * 10 := Nat.mul_le_mul hw hn10
    omega
  unfold hdO
  split
  · rename_i e
    rintro ⟨U, c, hp⟩
    have := hb U c hp
    omega
  · rename_i e
    have hlt : lsA (VT Y n T wt wn) (pd Y n) < 1000000 := by
      have := lsA_ub (V := VT Y n T wt wn) (pd Y n)
      omega
    obtain ⟨c, hc, ec⟩ := lsA_ex _ hlt
    obtain ⟨m, hm, hp⟩ := d2 c hc (by omega)
    exact ⟨⟨_, m, hp, by omega⟩, fun U c hp => (hb U c hp).1⟩
def hdB (n : Nat) (Y : Yd) (wn dn : Nat) : Bool := decide (n = 0) || (!sb Y n n || (decide (6 < n) || (decide (wn = 0) || decide (dn = 20))))
def hdA (n : Nat) (Y : Yd) (T wt : Nat → Nat) (wn dn : Nat) : Int32 := if hdB n Y wn dn then Int32.ofInt (-103) else gv (hdO Y n T wt wn)
section MM
variable {d L : Nat} {dy : mjM} {I : mjI} {y y1 n1 w1 c y2 : Option Nat} {R : mjR} {J : mjJ} {pn : Nat} {pg : Nat → Nat} {n : Nat} {Y : Yd} {T : Nat → Nat} {t : Nat} {tr : Nat → Nat} {kp : Kp} {wn : Nat} {wt : Nat → Nat} {yr dn : Nat}
/-- one truck of hands: from 130 on -/
theorem M_handsRun {V : Nat → Nat} {k : Nat} (hk8 : k < wn) (hn1 : 1 ≤ n) (hn6 : n ≤ 6) (hw : Mwt I wn wt) (hY : MY I n Y) (hV : ∀ c, c < pd Y n → V c ≤ 1000000) : ∀ (f j : Nat) (X : mjI) (l4 : Option Value), j + f = pd Y n → Fr [19, 20] [55, 56, 61] I X → RI X 60 (pd Y n) V → RI X 61 (pd Y n) (nxF Y n V (wt k) j) → ∃ (I' : mjI) (q4 : Option Value), (Fr [19, 20] [55, 56, 61] I I' ∧ RI I' 60 (pd Y n) V ∧ RI I' 61 (pd Y n) (nxF Y n V (wt k) (pd Y n))) ∧ ∀ (v : Option Value) (h' : mjH), mj_Rd (mj_call mj_P (d + 4)) kc_M_hands 1 (216, [some (.ref 45), some (.int (nI (pd Y n))), some (.int (nI k)), some (.int (nI (pd Y n))), q4], [], HP L dy I' y y1 n1 w1 c y2 R J) v h' → mj_Rd (mj_call mj_P (d + 4)) kc_M_hands 1 (130, [some (.ref 45), some (.int (nI (pd Y n))), some (.int (nI k)), some (.int (nI j)), l4], [], HP L dy X y y1 n1 w1 c y2 R J) v h' := by
  have hO := hY.2.1
  have hpd := pd_46656 hO hn6
  have hw8 := hw.2.1
  intro f
  induction f with
  | zero =>
    intro j X l4 hj hf h60 h61
    have : j = pd Y n := by omega
    subst this
    refine ⟨X, l4, ⟨hf, h60, h61⟩, fun v h' hx => ?_⟩
    refine mj_run 2 rfl trivial ?_
    refine mj_brt rfl rfl (by rw [nI_leI (by omega) (by omega)]; omega) ?_
    exact hx
  | succ f ih =>
    intro j X l4 hj hf h60 h61
    have hYX : MY X n Y := hY.fr hf (by decide)
    have hjp : j < pd Y n := by omega
    have hVj := hV j hjp
    have vj : vp_in (nI j) 46656 := nI_vi (by omega) (by decide)
    by_cases g : V j < 1000000
    · obtain ⟨I1, hc1, hf1, hR1⟩ := M_layStands (d := d + 2) (L := L) (dy := dy) (y := y) (y1 := y1) (n1 := n1) (w1 := w1) (c := c) (y2 := y2) (R := R) (J := J) (k := j) (by omega) hYX
      have hY1 : MY I1 n Y := hYX.fr hf1 (by decide)
      obtain ⟨I2, hc2, hg2, hR2, -⟩ := M_goTruck (d := d) (L := L) (dy := dy) (y := y) (y1 := y1) (n1 := n1) (w1 := w1) (c := c) (y2 := y2) (R := R) (J := J) (q := none) hY1 hn1 hR1 (ds_ok hO j) sq_none
      have f12 := hf1.tr hg2.fr
      have fI2 := (hf.tr f12).w (ks' := [19, 20]) (as' := [55, 56, 61]) (by decide) (by decide)
      have hY2 : MY I2 n Y := hYX.fr f12 (by decide)
      have h60' : RI I2 60 (pd Y n) V := h60.fr f12 (by decide) (by decide)
      have h61' : RI I2 61 (pd Y n) (nxF Y n V (wt k) j) := h61.fr f12 (by decide) (by decide)
      have hgo := gt_ok (q := none) hO hn1 (ds_ok hO j)
      have hto : toC Y n j < pd Y n := en_lt hgo.2.1 n (Nat.le_refl n)
      obtain ⟨w58, w10⟩ := hw.2.2 k hk8
      have e58 : I2 58 k = nI (wt k) := by rw [fI2.1 58 (by decide) (by decide)]; exact w58
      have pre : ∀ (v : Option Value) (h' : mjH), mj_Rd (mj_call mj_P (d + 4)) kc_M_hands 1 (156, [some (.ref 45), some (.int (nI (pd Y n))), some (.int (nI k)), some (.int (nI j)), l4], [.int (gv (gt Y none (ds Y n j)).1)], HP L dy I2 y y1 n1 w1 c y2 R J) v h' → mj_Rd (mj_call mj_P (d + 4)) kc_M_hands 1 (130, [some (.ref 45), some (.int (nI (pd Y n))), some (.int (nI k)), some (.int (nI j)), l4], [], HP L dy X y y1 n1 w1 c y2 R J) v h' := by
        intro v h' hx
        refine mj_run 2 rfl trivial ?_
        refine mj_brf rfl rfl (by rw [nI_leI (by omega) (by omega)]; omega) ?_
        refine mj_run 5 rfl vj ?_
        rw [nI_nc (by omega), h60 j hjp]
        refine mj_brf rfl rfl (by rw [nI_leI (by decide) (by omega)]; omega) ?_
        refine mj_run 2 rfl trivial ?_
        refine mj_cal rfl rfl hc1 ?_
        refine mj_run 2 rfl trivial ?_
        refine mj_cal rfl rfl hc2 ?_
        exact hx
      by_cases gs : (gt Y none (ds Y n j)).1 = some (wt k)
      · have hnx : nxF Y n V (wt k) (j + 1) = fu (nxF Y n V (wt k) j) (toC Y n j) (min (V j) (nxF Y n V (wt k) j (toC Y n j))) := by
          show (if _ then _ else _) = _
          rw [if_pos ⟨g, gs⟩]
        have hle := nxF_le (Y := Y) (n := n) (V := V) (s := wt k) j (toC Y n j)
        obtain ⟨I', q4, hA, hx⟩ := ih (j + 1) (mj_ui I2 61 (toC Y n j) (nI (min (V j) (nxF Y n V (wt k) j (toC Y n j))))) (some (.int (nI (toC Y n j)))) (by omega) ((fI2.tr (Fr.a I2 (a := 61) (by decide) _ _)).w (by decide) (by decide)) (fun c hc => by simp [mj_ui]; exact h60' c hc) (fun c hc => by
          rw [hnx]
          by_cases e : c = toC Y n j
          · subst e; simp [mj_ui, upd, fu]
          · simp [mj_ui, upd, fu, e]; exact h61' c hc)
        refine ⟨I', q4, hA, fun v h' hx' => pre v h' ?_⟩
        have hx2 := hx v h' hx'
        refine mj_run 4 rfl (nI_vi (by omega) (by decide)) ?_
        rw [nI_nc (by omega), e58]
        refine mj_brf rfl rfl (fun q => q ((gv_eq hgo.1 w10).mpr gs)) ?_
        refine mj_run 1 rfl trivial ?_
        refine mj_cal rfl rfl (M_codeOf hY2 hR2) ?_
        rw [show en Y (gt Y none (ds Y n j)).2.1 n = toC Y n j from rfl]
        have vt : vp_in (nI (toC Y n j)) 46656 := nI_vi (by omega) (by decide)
        refine mj_run 12 rfl ⟨vj, vt⟩ ?_
        rw [nI_nc (show j < 2147483648 by omega), nI_nc (show toC Y n j < 2147483648 by omega), h60' j hjp, h61' _ hto]
        have fin : ∀ z : Int32, z = nI (min (V j) (nxF Y n V (wt k) j (toC Y n j))) → mj_Rd (mj_call mj_P (d + 4)) kc_M_hands 1 (209, [some (.ref 45), some (.int (nI (pd Y n))), some (.int (nI k)), some (.int (nI j)), some (.int (nI (toC Y n j)))], [.int z, .int (nI (toC Y n j)), .ref 61], HP L dy I2 y y1 n1 w1 c y2 R J) v h' := by
          intro z hz
          subst hz
          refine mj_run 1 rfl ⟨vt, by decide⟩ ?_
          rw [nI_nc (by omega)]
          refine mj_run 2 rfl trivial ?_
          rw [nI_add]
          exact hx2
        refine mj_bra rfl rfl (fun q => ?_) (fun q => ?_)
        · rw [nI_leI (by omega) (by omega)] at q
          refine mj_run 4 rfl vt ?_
          rw [nI_nc (by omega), h61' _ hto]
          exact fin _ (by rw [Nat.min_eq_right q])
        · rw [nI_leI (by omega) (by omega)] at q
          refine mj_run 5 rfl vj ?_
          rw [nI_nc (by omega), h60' j hjp]
          exact fin _ (by rw [Nat.min_eq_left (by omega)])
      · have hnx : nxF Y n V (wt k) (j + 1) = nxF Y n V (wt k) j := by
          show (if _ then _ else _) = _
          rw [if_neg (fun q => gs q.2)]
        obtain ⟨I', q4, hA, hx⟩ := ih (j + 1) I2 l4 (by omega) fI2 h60' (by rw [hnx]; exact h61')
        refine ⟨I', q4, hA, fun v h' hx' => pre v h' ?_⟩
        refine mj_run 4 rfl (nI_vi (by omega) (by decide)) ?_
        rw [nI_nc (by omega), e58]
        refine mj_brt rfl rfl (fun q => gs ((gv_eq hgo.1 w10).mp q)) ?_
        refine mj_run 2 rfl trivial ?_
        rw [nI_add]
        exact hx v h' hx'
    · have hnx : nxF Y n V (wt k) (j + 1) = nxF Y n V (wt k) j := by
        show (if _ then _ else _) = _
        rw [if_neg (fun q => g q.1)]
      obtain ⟨I', q4, hA, hx⟩ := ih (j + 1) X l4 (by omega) hf h60 (by rw [hnx]; exact h61)
      refine ⟨I', q4, hA, fun v h' hx' => ?_⟩
      refine mj_run 2 rfl trivial ?_
      refine mj_brf rfl rfl (by rw [nI_leI (by omega) (by omega)]; omega) ?_
      refine mj_run 5 rfl vj ?_
      rw [nI_nc (by omega), h60 j hjp]
      refine mj_brt rfl rfl (by rw [nI_leI (by decide) (by omega)]; omega) ?_
      refine mj_run 2 rfl trivial ?_
      rw [nI_add]
      exact hx v h' hx'
/-- the trucks of hands: from 94 on -/
theorem M_handsLoop (hn1 : 1 ≤ n) (hn6 : n ≤ 6) (hT : TOK n Y T) (hw : Mwt I wn wt) (hY : MY I n Y) : ∀ (f k : Nat) (X : mjI) (l3 l4 : Option Value), mj_lg l3 = true → k + f = wn → Fr [19, 20] [55, 56, 60, 61] I X → RI X 60 (pd Y n) (VT Y n T wt k) → ∃ I', Fr [19, 20] [55, 56, 60, 61] I I' ∧ mj_Rd (mj_call mj_P (d + 4)) kc_M_hands 1 (94, [some (.ref 45), some (.int (nI (pd Y n))), some (.int (nI k)), l3, l4], [], HP L dy X y y1 n1 w1 c y2 R J) (some (.int (gv (hdO Y n T wt wn)))) (HP L dy I' y y1 n1 w1 c y2 R J) := by
  have hO := hY.2.1
  have hpd := pd_46656 hO hn6
  have hw8 := hw.2.1
  intro f
  induction f with
  | zero =>
    intro k X l3 l4 _ hk hf h60
    have : k = wn := by omega
    subst this
    have hwX : Mwt X k wt := hw.fr hf (by decide)
    have hV := (DI_VT (wt := wt) hO hn1 hT k).1
    refine ⟨X, hf, ?_⟩
    refine mj_run 3 rfl trivial ?_
    rw [hwX.1]
    refine mj_brt rfl rfl (by rw [nI_leI (by omega) (by omega)]; omega) ?_
    refine mj_run 4 rfl trivial ?_
    refine dn_ind (pd Y n) (fun c' => mj_Rd (mj_call mj_P (d + 4)) kc_M_hands 1 (252, [some (.ref 45), some (.int (nI (pd Y n))), some (.int (nI (lsA (VT Y n T wt k) c'))), some (.int (nI c')), l4], [], HP L dy X y y1 n1 w1 c y2 R J) (some (.int (gv (hdO Y n T wt k)))) (HP L dy X y y1 n1 w1 c y2 R J)) ?_ ?_ 0 (by omega)
    · have hlu := lsA_ub (V := VT Y n T wt k) (pd Y n)
      refine mj_run 2 rfl trivial ?_
      refine mj_brt rfl rfl (by rw [nI_leI (by omega) (by omega)]; omega) ?_
      refine mj_run 2 rfl trivial ?_
      unfold hdO
      refine mj_bra rfl rfl (fun g => ?_) (fun g => ?_)
      · rw [nI_e (by omega) (by decide)] at g
        rw [if_neg g]
        refine mj_run 1 rfl trivial ?_
        exact mj_end rfl rfl trivial
      · rw [nI_e (by omega) (by decide)] at g
        rw [if_pos (Classical.not_not.mp g)]
        refine mj_run 2 rfl trivial ?_
        exact mj_end rfl rfl trivial
    · intro j hj ihj
      have hlu := lsA_ub (V := VT Y n T wt k) j
      have hVj := hV j hj
      have vj : vp_in (nI j) 46656 := nI_vi (by omega) (by decide)
      rw [show lsA (VT Y n T wt k) (j + 1) = min (lsA (VT Y n T wt k) j) (VT Y n T wt k j) from rfl] at ihj
      refine mj_run 2 rfl trivial ?_
      refine mj_brf rfl rfl (by rw [nI_leI (by omega) (by omega)]; omega) ?_
      refine mj_run 5 rfl vj ?_
      rw [nI_nc (by omega), h60 j hj]
      refine mj_bra rfl rfl (fun g => ?_) (fun g => ?_)
      · rw [nI_leI (by omega) (by omega)] at g
        rw [Nat.min_eq_left g] at ihj
        refine mj_run 1 rfl trivial ?_
        refine mj_run 3 rfl trivial ?_
        rw [nI_add]
        exact ihj
      · rw [nI_leI (by omega) (by omega)] at g
        rw [Nat.min_eq_right (by omega)] at ihj
        refine mj_run 5 rfl vj ?_
        rw [nI_nc (by omega), h60 j hj]
        refine mj_run 3 rfl trivial ?_
        rw [nI_add]
        exact ihj
  | succ f ih =>
    intro k X l3 l4 g3 hk hf h60
    have hYX : MY X n Y := hY.fr hf (by decide)
    have hwX : Mwt X wn wt := hw.fr hf (by decide)
    have hV := (DI_VT (wt := wt) hO hn1 hT k).1
    obtain ⟨I1, hc1, hf1, hR1⟩ := M_throwAll (d := d + 1) (L := L) (dy := dy) (y := y) (y1 := y1) (n1 := n1) (w1 := w1) (c := c) (y2 := y2) (R := R) (J := J) hn6 hYX hV h60
    have hV1 : ∀ c, c < pd Y n → thD Y n (VT Y n T wt k) n c ≤ 1000000 := fun c hc => Nat.le_trans (thD_le _ c) (hV c hc)
    generalize hU : thD Y n (VT Y n T wt k) n = U at hR1 hV1
    -- throwsNext is cleared
    have clr := dn_ind (pd Y n) (fun j => ∀ (Z : mjI), Fr [] [61] I1 Z → (∀ i, i < j → Z 61 i = nI 1000000) → ∃ Z', (Fr [] [61] I1 Z' ∧ RI Z' 61 (pd Y n) (fun _ => 1000000)) ∧ ∀ (v : Option Value) (h' : mjH), mj_Rd (mj_call mj_P (d + 4)) kc_M_hands 1 (128, [some (.ref 45), some (.int (nI (pd Y n))), some (.int (nI k)), some (.int (nI (pd Y n))), l4], [], HP L dy Z' y y1 n1 w1 c y2 R J) v h' → mj_Rd (mj_call mj_P (d + 4)) kc_M_hands 1 (109, [some (.ref 45), some (.int (nI (pd Y n))), some (.int (nI k)), some (.int (nI j)), l4], [], HP L dy Z y y1 n1 w1 c y2 R J) v h') ?_ ?_ 0 (by omega)
    · obtain ⟨I2, ⟨hf2, h61⟩, hx2⟩ := clr I1 ((Fr.rf I1).w (by simp) (by simp)) (fun i hi => by omega)
      have f2 : Fr [] [60, 61] X I2 := (hf1.tr hf2).w (by decide) (by decide)
      have h60b : RI I2 60 (pd Y n) U := hR1.fr hf2 (by decide) (by decide)
      obtain ⟨I3, q4, ⟨hf3, h603, h613⟩, hx3⟩ := M_handsRun (d := d) (L := L) (dy := dy) (y := y) (y1 := y1) (n1 := n1) (w1 := w1) (c := c) (y2 := y2) (R := R) (J := J) (I := I2) (V := U) (k := k) (by omega) hn1 hn6 (hwX.fr f2 (by decide)) (hYX.fr f2 (by decide)) hV1 (pd Y n) 0 I2 l4 (by omega) ((Fr.rf I2).w (by simp) (by simp)) h60b h61
      -- and copied
      have cpy := dn_ind (pd Y n) (fun j => ∀ (Z : mjI), Fr [] [60] I3 Z → (∀ i, i < j → Z 60 i = nI (nxF Y n U (wt k) (pd Y n) i)) → ∃ Z', (Fr [] [60] I3 Z' ∧ RI Z' 60 (pd Y n) (nxF Y n U (wt k) (pd Y n))) ∧ ∀ (v : Option Value) (h' : mjH), mj_Rd (mj_call mj_P (d + 4)) kc_M_hands 1 (241, [some (.ref 45), some (.int (nI (pd Y n))), some (.int (nI k)), some (.int (nI (pd Y n))), q4], [], HP L dy Z' y y1 n1 w1 c y2 R J) v h' → mj_Rd (mj_call mj_P (d + 4)) kc_M_hands 1 (218, [some (.ref 45), some (.int (nI (pd Y n))), some (.int (nI k)), some (.int (nI j)), q4], [], HP L dy Z y y1 n1 w1 c y2 R J) v h') ?_ ?_ 0 (by omega)
      · obtain ⟨I4, ⟨hf4, h604⟩, hx4⟩ := cpy I3 ((Fr.rf I3).w (by simp) (by simp)) (fun i hi => by omega)
        have f4 : Fr [19, 20] [55, 56, 60, 61] I I4 := ((hf.tr f2).tr (hf3.tr hf4)).w (by decide) (by decide)
        obtain ⟨I', hA, hx⟩ := ih (k + 1) I4 (some (.int (nI (pd Y n)))) q4 rfl (by omega) f4 (by
          show RI I4 60 (pd Y n) (nxF Y n (thD Y n (VT Y n T wt k) n) (wt k) (pd Y n))
          rw [hU]
          exact h604)
        refine ⟨I', hA, ?_⟩
        refine mj_run 3 rfl trivial ?_
        rw [hwX.1]
        refine mj_brf rfl rfl (by rw [nI_leI (by omega) (by omega)]; omega) ?_
        refine mj_run 2 rfl trivial ?_
        refine mj_cal rfl rfl hc1 ?_
        refine mj_run 2 rfl trivial ?_
        refine hx2 _ _ ?_
        refine mj_run 2 rfl trivial ?_
        refine hx3 _ _ ?_
        refine mj_run 2 rfl trivial ?_
        refine hx4 _ _ ?_
        refine mj_run 2 rfl trivial ?_
        rw [nI_add]
        exact hx
      · intro Z hfZ hZ
        refine ⟨Z, ⟨hfZ, hZ⟩, fun v h' hx => ?_⟩
        refine mj_run 2 rfl trivial ?_
        refine mj_brt rfl rfl (by rw [nI_leI (by omega) (by omega)]; omega) ?_
        exact hx
      · intro j hj ihj Z hfZ hZ
        have vj : vp_in (nI j) 46656 := nI_vi (by omega) (by decide)
        obtain ⟨Z', hA, hx⟩ := ihj (mj_ui Z 60 j (nI (nxF Y n U (wt k) (pd Y n) j))) ((hfZ.tr (Fr.a Z (a := 60) (by decide) _ _)).w (by decide) (by decide)) (fun i hi => by
          by_cases e : i = j
          · subst e; simp [mj_ui, upd]
          · have := hZ i (by omega)
            simp [mj_ui, upd, e, this])
        refine ⟨Z', hA, fun v h' hx' => ?_⟩
        refine mj_run 2 rfl trivial ?_
        refine mj_brf rfl rfl (by rw [nI_leI (by omega) (by omega)]; omega) ?_
        refine mj_run 10 rfl ⟨vj, vj, by decide⟩ ?_
        rw [nI_nc (by omega), nI_add]
        have : Z 61 j = nI (nxF Y n U (wt k) (pd Y n) j) := by rw [hfZ.1 61 (by decide) (by decide)]; exact h613 j hj
        rw [this]
        exact hx v h' hx'
    · intro Z hfZ hZ
      refine ⟨Z, ⟨hfZ, hZ⟩, fun v h' hx => ?_⟩
      refine mj_run 2 rfl trivial ?_
      refine mj_brt rfl rfl (by rw [nI_leI (by omega) (by omega)]; omega) ?_
      exact hx
    · intro j hj ihj Z hfZ hZ
      have vj : vp_in (nI j) 46656 := nI_vi (by omega) (by decide)
      obtain ⟨Z', hA, hx⟩ := ihj (mj_ui Z 61 j (nI 1000000)) ((hfZ.tr (Fr.a Z (a := 61) (by decide) _ _)).w (by decide) (by decide)) (fun i hi => by
        by_cases e : i = j
        · subst e; simp [mj_ui, upd]
        · have := hZ i (by omega)
          simp [mj_ui, upd, e, this])
      refine ⟨Z', hA, fun v h' hx' => ?_⟩
      refine mj_run 2 rfl trivial ?_
      refine mj_brf rfl rfl (by rw [nI_leI (by omega) (by omega)]; omega) ?_
      refine mj_run 7 rfl ⟨vj, by decide⟩ ?_
      rw [nI_nc (by omega), nI_add]
      exact hx v h' hx'
theorem MO_hands (h : MI I pn pg n Y T t tr kp wn wt yr dn) : ∃ I', mj_call mj_P (d + 5) kn_M_hands [.ref 45] (HP L dy I y y1 n1 w1 c y2 R J) (some (.int (hdA n Y T wt wn dn))) (HP L dy I' y y1 n1 w1 c y2 R J) ∧ MI I' pn pg n Y T t tr kp wn wt yr (if hdB n Y wn dn then dn else dn + 1) ∧ Fr (24 :: wk) wa' I I' := by
  have h0 := h
  obtain ⟨h1, h2, h3, h4, h5, h6, h7⟩ := h
  have hn10 : n ≤ 10 := h2.2.1.1
  have hw8 := h6.2.1
  have hd20 := h7.2.2.2
  have bad : mj_Rd (mj_call mj_P (d + 4)) kc_M_hands 1 (39, [some (.ref 45), none, none, none, none], [], HP L dy I y y1 n1 w1 c y2 R J) (some (.int (Int32.ofInt (-103)))) (HP L dy I y y1 n1 w1 c y2 R J) := by
    refine mj_run 1 rfl trivial ?_
    exact mj_end rfl rfl trivial
  have walk : ∀ (v : Option Value) (h' : mjH), (hdB n Y wn dn = true → mj_Rd (mj_call mj_P (d + 4)) kc_M_hands 1 (39, [some (.ref 45), none, none, none, none], [], HP L dy I y y1 n1 w1 c y2 R J) v h') → (hdB n Y wn dn = false → mj_Rd (mj_call mj_P (d + 4)) kc_M_hands 1 (42, [some (.ref 45), none, none, none, none], [], HP L dy I y y1 n1 w1 c y2 R J) v h') → mj_call mj_P (d + 5) kn_M_hands [.ref 45] (HP L dy I y y1 n1 w1 c y2 R J) v h' := by
    intro v h' k1 k0
    refine mj_ci rfl (Nat.le_of_ble_eq_true rfl) ?_
    refine mj_run 1 rfl trivial ?_
    refine mj_cal rfl rfl (M_lacks h2) ?_
    by_cases hn : n = 0
    · rw [if_pos hn]
      exact mj_brt rfl rfl (by decide) (k1 (by simp [hdB, hn]))
    · rw [if_neg hn]
      refine mj_brf rfl rfl (by decide) ?_
      refine mj_run 1 rfl trivial ?_
      refine mj_cal rfl rfl (M_isStraight h2 (by omega)) ?_
      cases hs : sb Y n n with
      | false => exact mj_brt rfl rfl (by decide) (k1 (by simp [hdB, hs]))
      | true =>
        refine mj_brf rfl rfl (by decide) ?_
        refine mj_run 3 rfl trivial ?_
        rw [h2.1]
        refine mj_bra rfl rfl (fun g => ?_) (fun g => ?_)
        · rw [nI_ltI (by decide) (by omega)] at g
          exact k1 (by simp [hdB, g])
        · rw [nI_ltI (by decide) (by omega)] at g
          refine mj_run 2 rfl trivial ?_
          rw [h6.1]
          refine mj_bra rfl rfl (fun g2 => ?_) (fun g2 => ?_)
          · rw [nI_z (by omega)] at g2
            exact k1 (by simp [hdB, g2])
          · rw [nI_z (by omega)] at g2
            refine mj_run 3 rfl trivial ?_
            rw [h7.2.2.1]
            refine mj_bra rfl rfl (fun g3 => ?_) (fun g3 => ?_)
            · rw [nI_e (by omega) (by decide)] at g3
              exact k0 (by simp [hdB, hn, hs, g, g2, g3])
            · rw [nI_e (by omega) (by decide)] at g3
              exact k1 (by simp [hdB, Classical.not_not.mp g3])
  unfold hdA
  cases hb : hdB n Y wn dn with
  | true =>
    rw [hb] at walk
    rw [if_pos rfl, if_pos rfl]
    exact ⟨I, walk _ _ (fun _ => bad) (fun q => by cases q), h0, (Fr.rf I).w (by simp) (by simp)⟩
  | false =>
    rw [hb] at walk
    rw [if_neg (by decide), if_neg (by decide)]
    have hg : ¬ n = 0 ∧ sb Y n n = true ∧ n ≤ 6 ∧ ¬ wn = 0 ∧ ¬ dn = 20 := by
      simp [hdB] at hb
      exact ⟨hb.1, hb.2.1, hb.2.2.1, hb.2.2.2.1, hb.2.2.2.2⟩
    obtain ⟨hn, hs, hn6, hwn, hdn⟩ := hg
    have hn1 : 1 ≤ n := by omega
    have hO := h2.2.1
    have hpd := pd_46656 hO hn6
    have fu1 := Fr.u I 24 (nI (dn + 1))
    have hY1 : MY (mj_ui I 45 24 (nI (dn + 1))) n Y := h2.fr fu1 (by decide)
    have hS1 : Mst (mj_ui I 45 24 (nI (dn + 1))) n Y T := h3.fr fu1 (by decide)
    -- the rows are laid
    have clr := dn_ind (pd Y n) (fun j => ∀ (Z : mjI), Fr [] [60] (mj_ui I 45 24 (nI (dn + 1))) Z → (∀ i, i < j → Z 60 i = nI 1000000) → ∃ Z', (Fr [] [60] (mj_ui I 45 24 (nI (dn + 1))) Z' ∧ RI Z' 60 (pd Y n) (fun _ => 1000000)) ∧ ∀ (v : Option Value) (h' : mjH), mj_Rd (mj_call mj_P (d + 4)) kc_M_hands 1 (78, [some (.ref 45), some (.int (nI (pd Y n))), some (.int (nI (pd Y n))), none, none], [], HP L dy Z' y y1 n1 w1 c y2 R J) v h' → mj_Rd (mj_call mj_P (d + 4)) kc_M_hands 1 (59, [some (.ref 45), some (.int (nI (pd Y n))), some (.int (nI j)), none, none], [], HP L dy Z y y1 n1 w1 c y2 R J) v h') ?_ ?_ 0 (by omega)
    · obtain ⟨I2, ⟨hf2, h602⟩, hx2⟩ := clr _ ((Fr.rf _).w (by simp) (by simp)) (fun i hi => by omega)
      have fc := Fr.c I2 (dst := 55) (by decide) 53 10
      have hT2 : RI (cpI I2 55 53 10) 55 n T := fun i hi => by
        rw [cpI_at (by omega), hf2.1 53 (by decide) (by decide)]
        exact hS1.1 i hi
      have hen := en_lt h3.2 n (Nat.le_refl n)
      have f3 := (hf2.tr fc).tr (Fr.a (cpI I2 55 53 10) (a := 60) (by decide) (en Y T n) (nI 0))
      obtain ⟨I', hA, hx⟩ := M_handsLoop (d := d) (L := L) (dy := dy) (y := y) (y1 := y1) (n1 := n1) (w1 := w1) (c := c) (y2 := y2) (R := R) (J := J) (I := mj_ui I 45 24 (nI (dn + 1))) (T := T) hn1 hn6 h3.2 (h6.fr fu1 (by decide)) hY1 wn 0 (mj_ui (cpI I2 55 53 10) 60 (en Y T n) (nI 0)) none none rfl (by omega) (f3.w (by decide) (by decide)) (fun i hi => by
        show _ = nI (V0 Y n T i)
        unfold V0
        by_cases e : i = en Y T n
        · subst e; simp [mj_ui, upd, fu]
        · have := h602 i hi
          simp [mj_ui, upd, fu, e, cpI, this])
      have ff := fu1.tr hA
      refine ⟨I', walk _ _ (fun q => by cases q) (fun _ => ?_), ⟨h1.fr ff (by decide), h2.fr ff (by decide), h3.fr ff (by decide), h4.fr ff (by decide), h5.fr ff (by decide), h6.fr ff (by decide), ⟨(ff.2 10 (by decide)).trans h7.1, h7.2.1, by rw [hA.2 24 (by decide)]; simp [mj_ui, upd], by omega⟩⟩, ff.w (by decide) (by decide)⟩
      refine mj_run 7 rfl trivial ?_
      rw [h7.2.2.1, nI_add]
      refine mj_cal rfl rfl (M_standsInAll hY1) ?_
      refine mj_run 3 rfl trivial ?_
      refine hx2 _ _ ?_
      refine mj_run 1 rfl trivial ?_
      refine mj_cal rfl rfl M_layTried ?_
      refine mj_run 3 rfl trivial ?_
      refine mj_cal rfl rfl (M_codeOf (U := T) (hY1.fr (hf2.tr fc) (by decide)) hT2) ?_
      refine mj_run 4 rfl ⟨nI_vi (by omega) (by decide), by decide⟩ ?_
      rw [nI_nc (by omega)]
      exact hx
    · intro Z hfZ hZ
      refine ⟨Z, ⟨hfZ, hZ⟩, fun v h' hx => ?_⟩
      refine mj_run 2 rfl trivial ?_
      refine mj_brt rfl rfl (by rw [nI_leI (by omega) (by omega)]; omega) ?_
      exact hx
    · intro j hj ihj Z hfZ hZ
      have vj : vp_in (nI j) 46656 := nI_vi (by omega) (by decide)
      obtain ⟨Z', hA, hx⟩ := ihj (mj_ui Z 60 j (nI 1000000)) ((hfZ.tr (Fr.a Z (a := 60) (by decide) _ _)).w (by decide) (by decide)) (fun i hi => by
        by_cases e : i = j
        · subst e; simp [mj_ui, upd]
        · have := hZ i (by omega)
          simp [mj_ui, upd, e, this])
      refine ⟨Z', hA, fun v h' hx' => ?_⟩
      refine mj_run 2 rfl trivial ?_
      refine mj_brf rfl rfl (by rw [nI_leI (by omega) (by omega)]; omega) ?_
      refine mj_run 7 rfl ⟨vj, by decide⟩ ?_
      rw [nI_nc (by omega), nI_add]
      exact hx v h' hx'
end MM
end
section
/-! the digest -/
def sy (h : Int64) (v : Int32) : Int64 := lN 31 * h + v.toInt64
def dgA (Y : Yd) (T : Nat → Nat) (p : Nat) : Nat → Int64 → Int64
  | 0, h => h
  | k + 1, h => if k < 5 ∨ 9 < k then sy (dgA Y T p k h) (abF Y T p k) else dgA Y T p k h
def dgN (Y : Yd) (T : Nat → Nat) : Nat → Int64
  | 0 => lN 521
  | p + 1 => dgA Y T p 13 (dgN Y T p)
def dgQ (tr : Nat → Nat) (s : Nat) : Nat → Int64 → Int64
  | 0, h => h
  | k + 1, h => if tr k = s then sy (dgQ tr s k h) (nI k) else dgQ tr s k h
def dgU (tr : Nat → Nat) (t : Nat) : Nat → Int64 → Int64
  | 0, h => h
  | s + 1, h => dgQ tr s t (sy (dgU tr t s h) (nI (cn tr s t)))
def dgE (Y : Yd) (T : Nat → Nat) : Nat → Int64 → Int64
  | 0, h => h
  | s + 1, h => sy (dgE Y T s h) (ef Y T s 201 0)
def dgY (Y : Yd) (n : Nat) (T : Nat → Nat) (h : Int64) : Int64 := sy (dgE Y T 10 (sy (sy h (nI (gt Y none T).2.2)) (nI (if sb Y n n then 1 else 0)))) (noA Y n T false)
def dgW (f : Nat → Int32) : Nat → Int64 → Int64
  | 0, h => h
  | k + 1, h => sy (dgW f k h) (f k)
def dg (pn : Nat) (pg : Nat → Nat) (n : Nat) (Y : Yd) (T : Nat → Nat) (t : Nat) (tr : Nat → Nat) (wn : Nat) (wt : Nat → Nat) (yr dn : Nat) : Int64 := dgW (ctF n t wn pn yr dn) 6 (dgW (fun i => nI (pg i)) pn (dgW (fun i => nI (wt i)) wn (if n = 0 then dgU tr t 10 (dgN Y T n) else dgY Y n T (dgU tr t 10 (dgN Y T n)))))
section MM
variable {d L : Nat} {dy : mjM} {I : mjI} {y y1 n1 w1 c y2 : Option Nat} {R : mjR} {J : mjJ} {pn : Nat} {pg : Nat → Nat} {n : Nat} {Y : Yd} {T : Nat → Nat} {t : Nat} {tr : Nat → Nat} {kp : Kp} {wn : Nat} {wt : Nat → Nat} {yr dn : Nat}
theorem M_say {a v : Int64} (h : J 45 33 = a) : ∃ J', J' 45 33 = lN 31 * a + v ∧ mj_call mj_P (d + 1) kn_M_say [.ref 45, .long v] (HP L dy I y y1 n1 w1 c y2 R J) none (HP L dy I y y1 n1 w1 c y2 R J') := by
  refine ⟨mj_uj J 45 33 (lN 31 * J 45 33 + v), ?_, ?_⟩
  · rw [h]
    simp [mj_uj, pk_uLs]
  · refine mj_ci rfl (Nat.le_of_ble_eq_true rfl) ?_
    refine mj_run 8 rfl trivial ?_
    exact mj_end rfl rfl trivial
theorem M_sayYard {a : Int64} (h2 : MY I n Y) (h3 : Mst I n Y T) (hn : 1 ≤ n) (hJ : J 45 33 = a) : ∃ I' J', (Fr wk wa' I I' ∧ J' 45 33 = dgY Y n T a) ∧ mj_call mj_P (d + 7) kn_M_sayYard [.ref 45] (HP L dy I y y1 n1 w1 c y2 R J) none (HP L dy I' y y1 n1 w1 c y2 R J') := by
  obtain ⟨I1, hc1, hf1⟩ := M_movesOf (d := d + 1) (L := L) (dy := dy) (y := y) (y1 := y1) (n1 := n1) (w1 := w1) (c := c) (y2 := y2) (R := R) (J := J) h2 h3 hn
  obtain ⟨J1, hj1, hs1⟩ := M_say (d := d + 5) (L := L) (dy := dy) (I := I1) (y := y) (y1 := y1) (n1 := n1) (w1 := w1) (c := c) (y2 := y2) (R := R) (v := (nI (gt Y none T).2.2).toInt64) hJ
  have hY1 : MY I1 n Y := h2.fr hf1 (by decide)
  have hS1 : Mst I1 n Y T := h3.fr hf1 (by decide)
  obtain ⟨J2, hj2, hs2⟩ := M_say (d := d + 5) (L := L) (dy := dy) (I := I1) (y := y) (y1 := y1) (n1 := n1) (w1 := w1) (c := c) (y2 := y2) (R := R) (v := (nI (if sb Y n n then 1 else 0)).toInt64) hj1
  have key := dn_ind 10 (fun s => ∀ (X : mjI) (K : mjJ), Fr [19, 20] [55, 56] I X → K 45 33 = dgE Y T s (sy (sy a (nI (gt Y none T).2.2)) (nI (if sb Y n n then 1 else 0))) → ∃ I' J', (Fr wk wa' I I' ∧ J' 45 33 = dgY Y n T a) ∧ mj_Rd (mj_call mj_P (d + 6)) kc_M_sayYard 0 (27, [some (.ref 45), some (.int (nI s))], [], HP L dy X y y1 n1 w1 c y2 R K) none (HP L dy I' y y1 n1 w1 c y2 R J')) ?_ ?_ 0 (by omega)
  · obtain ⟨I', J', hA, hx⟩ := key I1 J2 hf1 hj2
    refine ⟨I', J', hA, ?_⟩
    refine mj_ci rfl (Nat.le_of_ble_eq_true rfl) ?_
    refine mj_run 2 rfl trivial ?_
    refine mj_cal rfl rfl hc1 ?_
    refine mj_run 1 rfl trivial ?_
    refine mj_cal rfl rfl hs1 ?_
    refine mj_run 2 rfl trivial ?_
    refine mj_cal rfl rfl (M_isStraight hY1 hn) ?_
    cases hs : sb Y n n with
    | true =>
      rw [hs] at hs2
      refine mj_brf rfl rfl (by decide) ?_
      refine mj_run 2 rfl trivial ?_
      refine mj_cal rfl rfl hs2 ?_
      refine mj_run 2 rfl trivial ?_
      exact hx
    | false =>
      rw [hs] at hs2
      refine mj_brt rfl rfl (by decide) ?_
      refine mj_run 1 rfl trivial ?_
      refine mj_cal rfl rfl hs2 ?_
      refine mj_run 2 rfl trivial ?_
      exact hx
  · intro X K hf hK
    obtain ⟨I5, hc5, hf5⟩ := M_noticedOf (d := d) (L := L) (dy := dy) (y := y) (y1 := y1) (n1 := n1) (w1 := w1) (c := c) (y2 := y2) (R := R) (J := K) (h2.fr hf (by decide)) (h3.fr hf (by decide)) hn false
    obtain ⟨J5, hj5, hs5⟩ := M_say (d := d + 5) (L := L) (dy := dy) (I := I5) (y := y) (y1 := y1) (n1 := n1) (w1 := w1) (c := c) (y2 := y2) (R := R) (v := (noA Y n T false).toInt64) hK
    refine ⟨I5, J5, ⟨(hf.tr hf5).w (by decide) (by decide), hj5⟩, ?_⟩
    refine mj_run 2 rfl trivial ?_
    refine mj_brt rfl rfl (by decide) ?_
    refine mj_run 3 rfl trivial ?_
    refine mj_cal rfl rfl hc5 ?_
    refine mj_run 1 rfl trivial ?_
    refine mj_cal rfl rfl hs5 ?_
    exact mj_end rfl rfl trivial
  · intro s hs ih X K hf hK
    obtain ⟨I5, hc5, hf5⟩ := M_emptyOf (d := d + 1) (L := L) (dy := dy) (y := y) (y1 := y1) (n1 := n1) (w1 := w1) (c := c) (y2 := y2) (R := R) (J := K) (s := s) (by omega) (h2.fr hf (by decide)) (h3.fr hf (by decide)) hn
    obtain ⟨J5, hj5, hs5⟩ := M_say (d := d + 5) (L := L) (dy := dy) (I := I5) (y := y) (y1 := y1) (n1 := n1) (w1 := w1) (c := c) (y2 := y2) (R := R) (v := (ef Y T s 201 0).toInt64) hK
    obtain ⟨I', J', hA, hx⟩ := ih I5 J5 ((hf.tr hf5).w (by decide) (by decide)) hj5
    refine ⟨I', J', hA, ?_⟩
    refine mj_run 2 rfl trivial ?_
    refine mj_brf rfl rfl (by rw [nI_leI (by decide) (by omega)]; omega) ?_
    refine mj_run 3 rfl trivial ?_
    refine mj_cal rfl rfl hc5 ?_
    refine mj_run 1 rfl trivial ?_
    refine mj_cal rfl rfl hs5 ?_
    refine mj_run 2 rfl trivial ?_
    rw [nI_add]
    exact hx
theorem D_C {I' : mjI} {l2 : Option Value} {HG : Int64} (hM : MI I' pn pg n Y T t tr kp wn wt yr dn) : ∀ k, k ≤ 6 → ∀ (K : mjJ), K 45 33 = dgW (ctF n t wn pn yr dn) k HG → ∃ J', mj_Rd (mj_call mj_P (d + 7)) kc_M_digest 3 (182, [some (.ref 45), some (.int (nI k)), l2], [], HP L dy I' y y1 n1 w1 c y2 R K) (some (.long (dgW (ctF n t wn pn yr dn) 6 HG))) (HP L dy I' y y1 n1 w1 c y2 R J') := by
  obtain ⟨h1, h2, h3, h4, h5, h6, h7⟩ := id hM
  have hn10 : n ≤ 10 := h2.2.1.1
  have hp50 := h1.2.1
  have ht60 := h4.2.1
  have hw8 := h6.2.1
  refine dn_ind 6 (fun k => ∀ (K : mjJ), K 45 33 = dgW (ctF n t wn pn yr dn) k HG → ∃ J', mj_Rd (mj_call mj_P (d + 7)) kc_M_digest 3 (182, [some (.ref 45), some (.int (nI k)), l2], [], HP L dy I' y y1 n1 w1 c y2 R K) (some (.long (dgW (ctF n t wn pn yr dn) 6 HG))) (HP L dy I' y y1 n1 w1 c y2 R J')) ?_ ?_
  · intro K hK
    refine ⟨K, ?_⟩
    refine mj_run 2 rfl trivial ?_
    refine mj_brt rfl rfl (by decide) ?_
    refine mj_run 2 rfl trivial ?_
    rw [hK]
    exact mj_end rfl rfl trivial
  · intro k hk ih K hK
    obtain ⟨J5, hj5, hs5⟩ := M_say (d := d + 6) (L := L) (dy := dy) (I := I') (y := y) (y1 := y1) (n1 := n1) (w1 := w1) (c := c) (y2 := y2) (R := R) (v := (ctF n t wn pn yr dn k).toInt64) hK
    obtain ⟨J', hx⟩ := ih J5 hj5
    refine ⟨J', ?_⟩
    refine mj_run 2 rfl trivial ?_
    refine mj_brf rfl rfl (by rw [nI_leI (by decide) (by omega)]; omega) ?_
    refine mj_run 3 rfl trivial ?_
    refine mj_cal rfl rfl (M_countOf hM _) ?_
    rw [tb_in hk (by decide)]
    refine mj_run 1 rfl trivial ?_
    refine mj_cal rfl rfl hs5 ?_
    refine mj_run 2 rfl trivial ?_
    rw [nI_add]
    exact hx
theorem D_G {I' : mjI} {l2 : Option Value} {HW FV : Int64} (hM : MI I' pn pg n Y T t tr kp wn wt yr dn) (next : ∀ K : mjJ, K 45 33 = dgW (fun i => nI (pg i)) pn HW → ∃ J', mj_Rd (mj_call mj_P (d + 7)) kc_M_digest 3 (182, [some (.ref 45), some (.int (nI 0)), l2], [], HP L dy I' y y1 n1 w1 c y2 R K) (some (.long FV)) (HP L dy I' y y1 n1 w1 c y2 R J')) : ∀ k, k ≤ pn → ∀ (K : mjJ), K 45 33 = dgW (fun i => nI (pg i)) k HW → ∃ J', mj_Rd (mj_call mj_P (d + 7)) kc_M_digest 3 (155, [some (.ref 45), some (.int (nI k)), l2], [], HP L dy I' y y1 n1 w1 c y2 R K) (some (.long FV)) (HP L dy I' y y1 n1 w1 c y2 R J') := by
  obtain ⟨h1, h2, h3, h4, h5, h6, h7⟩ := id hM
  have hn10 : n ≤ 10 := h2.2.1.1
  have hp50 := h1.2.1
  have ht60 := h4.2.1
  have hw8 := h6.2.1
  refine dn_ind pn (fun k => ∀ (K : mjJ), K 45 33 = dgW (fun i => nI (pg i)) k HW → ∃ J', mj_Rd (mj_call mj_P (d + 7)) kc_M_digest 3 (155, [some (.ref 45), some (.int (nI k)), l2], [], HP L dy I' y y1 n1 w1 c y2 R K) (some (.long FV)) (HP L dy I' y y1 n1 w1 c y2 R J')) ?_ ?_
  · intro K hK
    obtain ⟨J', hx⟩ := next K hK
    refine ⟨J', ?_⟩
    refine mj_run 3 rfl trivial ?_
    rw [hM.1.1]
    refine mj_brt rfl rfl (by rw [nI_leI (by omega) (by omega)]; omega) ?_
    refine mj_run 2 rfl trivial ?_
    exact hx
  · intro k hk ih K hK
    obtain ⟨J5, hj5, hs5⟩ := M_say (d := d + 6) (L := L) (dy := dy) (I := I') (y := y) (y1 := y1) (n1 := n1) (w1 := w1) (c := c) (y2 := y2) (R := R) (v := (nI (pg k)).toInt64) hK
    obtain ⟨J', hx⟩ := ih J5 hj5
    refine ⟨J', ?_⟩
    refine mj_run 3 rfl trivial ?_
    rw [hM.1.1]
    refine mj_brf rfl rfl (by rw [nI_leI (by omega) (by omega)]; omega) ?_
    refine mj_run 6 rfl (nI_vi (by omega) (by decide)) ?_
    rw [nI_nc (by omega), (hM.1.2.2 k hk).1]
    refine mj_cal rfl rfl hs5 ?_
    refine mj_run 2 rfl trivial ?_
    rw [nI_add]
    exact hx
theorem D_W {I' : mjI} {l2 : Option Value} {HY FV : Int64} (hM : MI I' pn pg n Y T t tr kp wn wt yr dn) (next : ∀ K : mjJ, K 45 33 = dgW (fun i => nI (wt i)) wn HY → ∃ J', mj_Rd (mj_call mj_P (d + 7)) kc_M_digest 3 (155, [some (.ref 45), some (.int (nI 0)), l2], [], HP L dy I' y y1 n1 w1 c y2 R K) (some (.long FV)) (HP L dy I' y y1 n1 w1 c y2 R J')) : ∀ k, k ≤ wn → ∀ (K : mjJ), K 45 33 = dgW (fun i => nI (wt i)) k HY → ∃ J', mj_Rd (mj_call mj_P (d + 7)) kc_M_digest 3 (128, [some (.ref 45), some (.int (nI k)), l2], [], HP L dy I' y y1 n1 w1 c y2 R K) (some (.long FV)) (HP L dy I' y y1 n1 w1 c y2 R J') := by
  obtain ⟨h1, h2, h3, h4, h5, h6, h7⟩ := id hM
  have hn10 : n ≤ 10 := h2.2.1.1
  have hp50 := h1.2.1
  have ht60 := h4.2.1
  have hw8 := h6.2.1
  refine dn_ind wn (fun k => ∀ (K : mjJ), K 45 33 = dgW (fun i => nI (wt i)) k HY → ∃ J', mj_Rd (mj_call mj_P (d + 7)) kc_M_digest 3 (128, [some (.ref 45), some (.int (nI k)), l2], [], HP L dy I' y y1 n1 w1 c y2 R K) (some (.long FV)) (HP L dy I' y y1 n1 w1 c y2 R J')) ?_ ?_
  · intro K hK
    obtain ⟨J', hx⟩ := next K hK
    refine ⟨J', ?_⟩
    refine mj_run 3 rfl trivial ?_
    rw [hM.2.2.2.2.2.1.1]
    refine mj_brt rfl rfl (by rw [nI_leI (by omega) (by omega)]; omega) ?_
    refine mj_run 2 rfl trivial ?_
    exact hx
  · intro k hk ih K hK
    obtain ⟨J5, hj5, hs5⟩ := M_say (d := d + 6) (L := L) (dy := dy) (I := I') (y := y) (y1 := y1) (n1 := n1) (w1 := w1) (c := c) (y2 := y2) (R := R) (v := (nI (wt k)).toInt64) hK
    obtain ⟨J', hx⟩ := ih J5 hj5
    refine ⟨J', ?_⟩
    refine mj_run 3 rfl trivial ?_
    rw [hM.2.2.2.2.2.1.1]
    refine mj_brf rfl rfl (by rw [nI_leI (by omega) (by omega)]; omega) ?_
    refine mj_run 6 rfl (nI_vi (by omega) (by decide)) ?_
    rw [nI_nc (by omega), (hM.2.2.2.2.2.1.2.2 k hk).1]
    refine mj_cal rfl rfl hs5 ?_
    refine mj_run 2 rfl trivial ?_
    rw [nI_add]
    exact hx
theorem D_Y {l1 l2 : Option Value} {HX FV : Int64} (h0 : MI I pn pg n Y T t tr kp wn wt yr dn) (next : ∀ I', MI I' pn pg n Y T t tr kp wn wt yr dn → ∀ K : mjJ, K 45 33 = (if n = 0 then HX else dgY Y n T HX) → ∃ J', mj_Rd (mj_call mj_P (d + 7)) kc_M_digest 3 (128, [some (.ref 45), some (.int (nI 0)), l2], [], HP L dy I' y y1 n1 w1 c y2 R K) (some (.long FV)) (HP L dy I' y y1 n1 w1 c y2 R J')) (K : mjJ) (g1 : mj_lg l1 = true) (hK : K 45 33 = HX) : ∃ I' J', (MI I' pn pg n Y T t tr kp wn wt yr dn ∧ Fr wk wa' I I') ∧ mj_Rd (mj_call mj_P (d + 7)) kc_M_digest 3 (115, [some (.ref 45), l1, l2], [], HP L dy I y y1 n1 w1 c y2 R K) (some (.long FV)) (HP L dy I' y y1 n1 w1 c y2 R J') := by
  obtain ⟨h1, h2, h3, h4, h5, h6, h7⟩ := id h0
  have hn10 : n ≤ 10 := h2.2.1.1
  have hp50 := h1.2.1
  have ht60 := h4.2.1
  have hw8 := h6.2.1
  by_cases hn : n = 0
  · obtain ⟨J', hx⟩ := next I h0 K (by rw [if_pos hn]; exact hK)
    refine ⟨I, J', ⟨h0, (Fr.rf I).w (by simp) (by simp)⟩, ?_⟩
    refine mj_run 1 rfl trivial ?_
    refine mj_cal rfl rfl (M_lacks h2) ?_
    rw [if_pos hn]
    refine mj_brt rfl rfl (by decide) ?_
    refine mj_run 2 rfl trivial ?_
    exact hx
  · obtain ⟨I1, J1, ⟨hf1, hj1⟩, hc1⟩ := M_sayYard (d := d) (L := L) (dy := dy) (y := y) (y1 := y1) (n1 := n1) (w1 := w1) (c := c) (y2 := y2) (R := R) h2 h3 (by omega) hK
    have hM := h0.work hf1
    obtain ⟨J', hx⟩ := next I1 hM J1 (by rw [if_neg hn]; exact hj1)
    refine ⟨I1, J', ⟨hM, hf1⟩, ?_⟩
    refine mj_run 1 rfl trivial ?_
    refine mj_cal rfl rfl (M_lacks h2) ?_
    rw [if_neg hn]
    refine mj_brf rfl rfl (by decide) ?_
    refine mj_run 1 rfl trivial ?_
    refine mj_cal rfl rfl hc1 ?_
    refine mj_run 2 rfl trivial ?_
    exact hx
theorem D_U {H0 FV : Int64} (h0 : MI I pn pg n Y T t tr kp wn wt yr dn) (next : ∀ (l2 : Option Value) (K : mjJ), K 45 33 = dgU tr t 10 H0 → ∃ I' J', (MI I' pn pg n Y T t tr kp wn wt yr dn ∧ Fr wk wa' I I') ∧ mj_Rd (mj_call mj_P (d + 7)) kc_M_digest 3 (115, [some (.ref 45), some (.int (nI 10)), l2], [], HP L dy I y y1 n1 w1 c y2 R K) (some (.long FV)) (HP L dy I' y y1 n1 w1 c y2 R J')) : ∀ s, s ≤ 10 → ∀ (l2 : Option Value) (K : mjJ), K 45 33 = dgU tr t s H0 → ∃ I' J', (MI I' pn pg n Y T t tr kp wn wt yr dn ∧ Fr wk wa' I I') ∧ mj_Rd (mj_call mj_P (d + 7)) kc_M_digest 3 (61, [some (.ref 45), some (.int (nI s)), l2], [], HP L dy I y y1 n1 w1 c y2 R K) (some (.long FV)) (HP L dy I' y y1 n1 w1 c y2 R J') := by
  obtain ⟨h1, h2, h3, h4, h5, h6, h7⟩ := id h0
  have hn10 : n ≤ 10 := h2.2.1.1
  have hp50 := h1.2.1
  have ht60 := h4.2.1
  have hw8 := h6.2.1
  refine dn_ind 10 (fun s => ∀ (l2 : Option Value) (K : mjJ), K 45 33 = dgU tr t s H0 → ∃ I' J', (MI I' pn pg n Y T t tr kp wn wt yr dn ∧ Fr wk wa' I I') ∧ mj_Rd (mj_call mj_P (d + 7)) kc_M_digest 3 (61, [some (.ref 45), some (.int (nI s)), l2], [], HP L dy I y y1 n1 w1 c y2 R K) (some (.long FV)) (HP L dy I' y y1 n1 w1 c y2 R J')) ?_ ?_
  · intro l2 K hK
    obtain ⟨I', J', hA, hx⟩ := next l2 K hK
    refine ⟨I', J', hA, ?_⟩
    refine mj_run 2 rfl trivial ?_
    refine mj_brt rfl rfl (by decide) ?_
    exact hx
  · intro s hs ih l2 K hK
    obtain ⟨J5, hj5, hs5⟩ := M_say (d := d + 6) (L := L) (dy := dy) (I := I) (y := y) (y1 := y1) (n1 := n1) (w1 := w1) (c := c) (y2 := y2) (R := R) (v := (nI (cn tr s t)).toInt64) hK
    have sQ := dn_ind t (fun k => ∀ (K : mjJ), K 45 33 = dgQ tr s k (sy (dgU tr t s H0) (nI (cn tr s t))) → ∃ I' J', (MI I' pn pg n Y T t tr kp wn wt yr dn ∧ Fr wk wa' I I') ∧ mj_Rd (mj_call mj_P (d + 7)) kc_M_digest 3 (79, [some (.ref 45), some (.int (nI s)), some (.int (nI k))], [], HP L dy I y y1 n1 w1 c y2 R K) (some (.long FV)) (HP L dy I' y y1 n1 w1 c y2 R J')) ?_ ?_ 0 (by omega)
    · obtain ⟨I', J', hA, hx⟩ := sQ J5 hj5
      refine ⟨I', J', hA, ?_⟩
      refine mj_run 2 rfl trivial ?_
      refine mj_brf rfl rfl (by rw [nI_leI (by decide) (by omega)]; omega) ?_
      refine mj_run 3 rfl trivial ?_
      refine mj_cal rfl rfl (M_manyIn hs h4) ?_
      refine mj_run 1 rfl trivial ?_
      refine mj_cal rfl rfl hs5 ?_
      refine mj_run 2 rfl trivial ?_
      exact hx
    · intro K hK
      obtain ⟨I', J', hA, hx⟩ := ih (some (.int (nI t))) K hK
      refine ⟨I', J', hA, ?_⟩
      refine mj_run 3 rfl trivial ?_
      rw [h4.1]
      refine mj_brt rfl rfl (by rw [nI_leI (by omega) (by omega)]; omega) ?_
      refine mj_run 2 rfl trivial ?_
      rw [nI_add]
      exact hx
    · intro k hk ihk K hK
      obtain ⟨t1, t2⟩ := h4.2.2 k hk
      by_cases g : tr k = s
      · obtain ⟨J6, hj6, hs6⟩ := M_say (d := d + 6) (L := L) (dy := dy) (I := I) (y := y) (y1 := y1) (n1 := n1) (w1 := w1) (c := c) (y2 := y2) (R := R) (v := (nI k).toInt64) hK
        obtain ⟨I', J', hA, hx⟩ := ihk J6 (by
          rw [hj6]
          show _ = if _ then _ else _
          rw [if_pos g]
          rfl)
        refine ⟨I', J', hA, ?_⟩
        refine mj_run 3 rfl trivial ?_
        rw [h4.1]
        refine mj_brf rfl rfl (by rw [nI_leI (by omega) (by omega)]; omega) ?_
        refine mj_run 5 rfl (nI_vi (by omega) (by decide)) ?_
        rw [nI_nc (by omega), t1]
        refine mj_brf rfl rfl (fun q => q (by rw [g])) ?_
        refine mj_run 3 rfl trivial ?_
        refine mj_cal rfl rfl hs6 ?_
        refine mj_run 2 rfl trivial ?_
        rw [nI_add]
        exact hx
      · obtain ⟨I', J', hA, hx⟩ := ihk K (by
          rw [hK]
          show _ = if _ then _ else _
          rw [if_neg g])
        refine ⟨I', J', hA, ?_⟩
        refine mj_run 3 rfl trivial ?_
        rw [h4.1]
        refine mj_brf rfl rfl (by rw [nI_leI (by omega) (by omega)]; omega) ?_
        refine mj_run 5 rfl (nI_vi (by omega) (by decide)) ?_
        rw [nI_nc (by omega), t1]
        refine mj_brt rfl rfl (by rw [nI_e (by omega) (by omega)]; exact g) ?_
        refine mj_run 2 rfl trivial ?_
        rw [nI_add]
        exact hx
theorem D_N {FV : Int64} (h0 : MI I pn pg n Y T t tr kp wn wt yr dn) (next : ∀ (l2 : Option Value) (K : mjJ), K 45 33 = dgN Y T n → ∃ I' J', (MI I' pn pg n Y T t tr kp wn wt yr dn ∧ Fr wk wa' I I') ∧ mj_Rd (mj_call mj_P (d + 7)) kc_M_digest 3 (61, [some (.ref 45), some (.int (nI 0)), l2], [], HP L dy I y y1 n1 w1 c y2 R K) (some (.long FV)) (HP L dy I' y y1 n1 w1 c y2 R J')) : ∀ p, p ≤ n → ∀ (l2 : Option Value) (K : mjJ), K 45 33 = dgN Y T p → ∃ I' J', (MI I' pn pg n Y T t tr kp wn wt yr dn ∧ Fr wk wa' I I') ∧ mj_Rd (mj_call mj_P (d + 7)) kc_M_digest 3 (9, [some (.ref 45), some (.int (nI p)), l2], [], HP L dy I y y1 n1 w1 c y2 R K) (some (.long FV)) (HP L dy I' y y1 n1 w1 c y2 R J') := by
  obtain ⟨h1, h2, h3, h4, h5, h6, h7⟩ := id h0
  have hn10 : n ≤ 10 := h2.2.1.1
  have hp50 := h1.2.1
  have ht60 := h4.2.1
  have hw8 := h6.2.1
  refine dn_ind n (fun p => ∀ (l2 : Option Value) (K : mjJ), K 45 33 = dgN Y T p → ∃ I' J', (MI I' pn pg n Y T t tr kp wn wt yr dn ∧ Fr wk wa' I I') ∧ mj_Rd (mj_call mj_P (d + 7)) kc_M_digest 3 (9, [some (.ref 45), some (.int (nI p)), l2], [], HP L dy I y y1 n1 w1 c y2 R K) (some (.long FV)) (HP L dy I' y y1 n1 w1 c y2 R J')) ?_ ?_
  · intro l2 K hK
    obtain ⟨I', J', hA, hx⟩ := next l2 K hK
    refine ⟨I', J', hA, ?_⟩
    refine mj_run 3 rfl trivial ?_
    rw [h2.1]
    refine mj_brt rfl rfl (by rw [nI_leI (by omega) (by omega)]; omega) ?_
    refine mj_run 2 rfl trivial ?_
    exact hx
  · intro p hp ih l2 K hK
    have sA := dn_ind 13 (fun k => ∀ (K : mjJ), K 45 33 = dgA Y T p k (dgN Y T p) → ∃ I' J', (MI I' pn pg n Y T t tr kp wn wt yr dn ∧ Fr wk wa' I I') ∧ mj_Rd (mj_call mj_P (d + 7)) kc_M_digest 3 (19, [some (.ref 45), some (.int (nI p)), some (.int (nI k))], [], HP L dy I y y1 n1 w1 c y2 R K) (some (.long FV)) (HP L dy I' y y1 n1 w1 c y2 R J')) ?_ ?_ 0 (by omega)
    · obtain ⟨I', J', hA, hx⟩ := sA K hK
      refine ⟨I', J', hA, ?_⟩
      refine mj_run 3 rfl trivial ?_
      rw [h2.1]
      refine mj_brf rfl rfl (by rw [nI_leI (by omega) (by omega)]; omega) ?_
      refine mj_run 2 rfl trivial ?_
      exact hx
    · intro K hK
      obtain ⟨I', J', hA, hx⟩ := ih (some (.int (nI 13))) K hK
      refine ⟨I', J', hA, ?_⟩
      refine mj_run 2 rfl trivial ?_
      refine mj_brt rfl rfl (by decide) ?_
      refine mj_run 2 rfl trivial ?_
      rw [nI_add]
      exact hx
    · intro k hk ihk K hK
      by_cases g : k < 5 ∨ 9 < k
      · obtain ⟨J5, hj5, hs5⟩ := M_say (d := d + 6) (L := L) (dy := dy) (I := I) (y := y) (y1 := y1) (n1 := n1) (w1 := w1) (c := c) (y2 := y2) (R := R) (v := (abF Y T p k).toInt64) hK
        obtain ⟨I', J', hA, hx⟩ := ihk J5 (by
          rw [hj5]
          show _ = if _ then _ else _
          rw [if_pos g]
          rfl)
        refine ⟨I', J', hA, ?_⟩
        have go : mj_Rd (mj_call mj_P (d + 7)) kc_M_digest 3 (36, [some (.ref 45), some (.int (nI p)), some (.int (nI k))], [], HP L dy I y y1 n1 w1 c y2 R K) (some (.long FV)) (HP L dy I' y y1 n1 w1 c y2 R J') := by
          refine mj_run 4 rfl trivial ?_
          refine mj_cal rfl rfl (M_aboutOf h2 h3 hp _) ?_
          rw [tb_in hk (by decide)]
          refine mj_run 1 rfl trivial ?_
          refine mj_cal rfl rfl hs5 ?_
          refine mj_run 2 rfl trivial ?_
          rw [nI_add]
          exact hx
        refine mj_run 2 rfl trivial ?_
        refine mj_brf rfl rfl (by rw [nI_leI (by decide) (by omega)]; omega) ?_
        refine mj_run 2 rfl trivial ?_
        refine mj_bra rfl rfl (fun _ => go) (fun q => ?_)
        rw [nI_ltI (by omega) (by decide)] at q
        refine mj_run 2 rfl trivial ?_
        exact mj_brf rfl rfl (by rw [nI_leI (by omega) (by decide)]; omega) go
      · obtain ⟨I', J', hA, hx⟩ := ihk K (by
          rw [hK]
          show _ = if _ then _ else _
          rw [if_neg g])
        refine ⟨I', J', hA, ?_⟩
        refine mj_run 2 rfl trivial ?_
        refine mj_brf rfl rfl (by rw [nI_leI (by decide) (by omega)]; omega) ?_
        refine mj_run 2 rfl trivial ?_
        refine mj_brf rfl rfl (by rw [nI_ltI (by omega) (by decide)]; omega) ?_
        refine mj_run 2 rfl trivial ?_
        refine mj_brt rfl rfl (by rw [nI_leI (by omega) (by decide)]; omega) ?_
        refine mj_run 2 rfl trivial ?_
        rw [nI_add]
        exact hx
theorem dgW_0 (f : Nat → Int32) (h : Int64) : dgW f 0 h = h := rfl
theorem D_all (h : MI I pn pg n Y T t tr kp wn wt yr dn) : ∀ (l2 : Option Value) (K : mjJ), K 45 33 = dgN Y T 0 → ∃ I' J', (MI I' pn pg n Y T t tr kp wn wt yr dn ∧ Fr wk wa' I I') ∧ mj_Rd (mj_call mj_P (d + 7)) kc_M_digest 3 (9, [some (.ref 45), some (.int (nI 0)), l2], [], HP L dy I y y1 n1 w1 c y2 R K) (some (.long (dg pn pg n Y T t tr wn wt yr dn))) (HP L dy I' y y1 n1 w1 c y2 R J') := by
  unfold dg
  refine D_N h ?_ 0 (by omega)
  intro l2 K hK
  refine D_U h ?_ 0 (by omega) l2 K hK
  intro l2 K hK
  refine D_Y h ?_ K rfl hK
  intro I' hM K hK
  refine D_W hM ?_ 0 (by omega) K hK
  intro K hK
  refine D_G hM ?_ 0 (by omega) K hK
  intro K hK
  exact D_C hM 0 (by omega) K (hK.trans (dgW_0 (ctF n t wn pn yr dn) _).symm)
theorem dg_0 {f : Nat → Int32} {x : Int64} : (mj_uj J 45 33 x) 45 33 = x := by simp [mj_uj, pk_uLs]
theorem MO_digest (h : MI I pn pg n Y T t tr kp wn wt yr dn) : ∃ I' J', mj_call mj_P (d + 8) kn_M_digest [.ref 45] (HP L dy I y y1 n1 w1 c y2 R J) (some (.long (dg pn pg n Y T t tr wn wt yr dn))) (HP L dy I' y y1 n1 w1 c y2 R J') ∧ MI I' pn pg n Y T t tr kp wn wt yr dn ∧ Fr wk wa' I I' := by
  obtain ⟨I', J', hA, hx⟩ := D_all (d := d) (L := L) (dy := dy) (y := y) (y1 := y1) (n1 := n1) (w1 := w1) (c := c) (y2 := y2) (R := R) h none (mj_uj J 45 33 (lN 521)) (dg_0 (f := fun _ => 0))
  refine ⟨I', J', ?_, hA⟩
  refine mj_ci rfl (Nat.le_of_ble_eq_true rfl) ?_
  refine mj_run 5 rfl trivial ?_
  exact hx
end MM
end
