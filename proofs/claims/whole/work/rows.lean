section
-- ===== PART A: goes FIRST, ahead of the names: the tables' words, and 'selects' of the private methods out of them =====
/-- a private method of a class that the tables say can be made, by its rows of tables_1 -/
def lw_okq (q : MethodName × Nat) : Prop := (q.1.cls ≠ "java/lang/invoke/MethodHandle" ∧ q.1.cls ≠ "java/lang/invoke/VarHandle") ∧ Cond.instantiable q.1.cls q.2 ∈ tables_1 ∧ Cond.privateMethod q.1 ∈ tables_1 ∧ Cond.instanceMethod q.1 ∈ tables_1
theorem lw_p0 : lw_okq (⟨"PointsThrow$Page", "switchCount", "()I"⟩, 2) := ⟨⟨by decide +kernel, by decide +kernel⟩, List.mem_of_getElem? (i := 27) (by decide +kernel), List.mem_of_getElem? (i := 247) (by decide +kernel), List.mem_of_getElem? (i := 248) (by decide +kernel)⟩
theorem lw_p1 : lw_okq (⟨"PointsThrow$Page", "endFrom", "(I)I"⟩, 2) := ⟨⟨by decide +kernel, by decide +kernel⟩, List.mem_of_getElem? (i := 27) (by decide +kernel), List.mem_of_getElem? (i := 253) (by decide +kernel), List.mem_of_getElem? (i := 254) (by decide +kernel)⟩
theorem lw_p2 : lw_okq (⟨"PointsThrow$Page", "pointIn", "(II)LPointsThrow$Point;"⟩, 2) := ⟨⟨by decide +kernel, by decide +kernel⟩, List.mem_of_getElem? (i := 27) (by decide +kernel), List.mem_of_getElem? (i := 257) (by decide +kernel), List.mem_of_getElem? (i := 258) (by decide +kernel)⟩
theorem lw_p3 : lw_okq (⟨"PointsThrow$Yard", "reachedFrom", "(I)I"⟩, 8) := ⟨⟨by decide +kernel, by decide +kernel⟩, List.mem_of_getElem? (i := 304) (by decide +kernel), List.mem_of_getElem? (i := 313) (by decide +kernel), List.mem_of_getElem? (i := 314) (by decide +kernel)⟩
theorem lw_p4 : lw_okq (⟨"PointsThrow$Yard", "nextOf", "(I)I"⟩, 8) := ⟨⟨by decide +kernel, by decide +kernel⟩, List.mem_of_getElem? (i := 304) (by decide +kernel), List.mem_of_getElem? (i := 317) (by decide +kernel), List.mem_of_getElem? (i := 318) (by decide +kernel)⟩
theorem lw_p5 : lw_okq (⟨"PointsThrow$Yard", "hasLoop", "(I)Z"⟩, 8) := ⟨⟨by decide +kernel, by decide +kernel⟩, List.mem_of_getElem? (i := 304) (by decide +kernel), List.mem_of_getElem? (i := 321) (by decide +kernel), List.mem_of_getElem? (i := 322) (by decide +kernel)⟩
theorem lw_p6 : lw_okq (⟨"PointsThrow$Yard", "ordered", "(I)[I"⟩, 8) := ⟨⟨by decide +kernel, by decide +kernel⟩, List.mem_of_getElem? (i := 304) (by decide +kernel), List.mem_of_getElem? (i := 325) (by decide +kernel), List.mem_of_getElem? (i := 326) (by decide +kernel)⟩
theorem lw_p7 : lw_okq (⟨"PointsThrow$Yard", "tellStands", "(I)V"⟩, 8) := ⟨⟨by decide +kernel, by decide +kernel⟩, List.mem_of_getElem? (i := 304) (by decide +kernel), List.mem_of_getElem? (i := 335) (by decide +kernel), List.mem_of_getElem? (i := 336) (by decide +kernel)⟩
theorem lw_p8 : lw_okq (⟨"PointsThrow$Yard", "tellSidings", "(I)V"⟩, 8) := ⟨⟨by decide +kernel, by decide +kernel⟩, List.mem_of_getElem? (i := 304) (by decide +kernel), List.mem_of_getElem? (i := 397) (by decide +kernel), List.mem_of_getElem? (i := 398) (by decide +kernel)⟩
theorem lw_p9 : lw_okq (⟨"PointsThrow", "isPoint", "(I)Z"⟩, 15) := ⟨⟨by decide +kernel, by decide +kernel⟩, List.mem_of_getElem? (i := 19) (by decide +kernel), List.mem_of_getElem? (i := 448) (by decide +kernel), List.mem_of_getElem? (i := 449) (by decide +kernel)⟩
theorem lw_p10 : lw_okq (⟨"PointsThrow$Roller", "roll", "(LPointsThrow$Yard;[II)I"⟩, 2) := ⟨⟨by decide +kernel, by decide +kernel⟩, List.mem_of_getElem? (i := 61) (by decide +kernel), List.mem_of_getElem? (i := 508) (by decide +kernel), List.mem_of_getElem? (i := 509) (by decide +kernel)⟩
theorem lw_p11 : lw_okq (⟨"PointsThrow", "spareStands", "()[I"⟩, 15) := ⟨⟨by decide +kernel, by decide +kernel⟩, List.mem_of_getElem? (i := 19) (by decide +kernel), List.mem_of_getElem? (i := 541) (by decide +kernel), List.mem_of_getElem? (i := 542) (by decide +kernel)⟩
theorem lw_p12 : lw_okq (⟨"PointsThrow$Roller", "isAsAhead", "([I)Z"⟩, 2) := ⟨⟨by decide +kernel, by decide +kernel⟩, List.mem_of_getElem? (i := 61) (by decide +kernel), List.mem_of_getElem? (i := 554) (by decide +kernel), List.mem_of_getElem? (i := 555) (by decide +kernel)⟩
theorem lw_p13 : lw_okq (⟨"PointsThrow", "isStraightYard", "()Z"⟩, 15) := ⟨⟨by decide +kernel, by decide +kernel⟩, List.mem_of_getElem? (i := 19) (by decide +kernel), List.mem_of_getElem? (i := 566) (by decide +kernel), List.mem_of_getElem? (i := 567) (by decide +kernel)⟩
theorem lw_p14 : lw_okq (⟨"PointsThrow$Yard", "startCount", "(I)V"⟩, 8) := ⟨⟨by decide +kernel, by decide +kernel⟩, List.mem_of_getElem? (i := 304) (by decide +kernel), List.mem_of_getElem? (i := 575) (by decide +kernel), List.mem_of_getElem? (i := 576) (by decide +kernel)⟩
theorem lw_p15 : lw_okq (⟨"PointsThrow$Yard", "share", "(II)V"⟩, 8) := ⟨⟨by decide +kernel, by decide +kernel⟩, List.mem_of_getElem? (i := 304) (by decide +kernel), List.mem_of_getElem? (i := 580) (by decide +kernel), List.mem_of_getElem? (i := 581) (by decide +kernel)⟩
def lw_privs_1 : List (MethodName × Nat) := [(⟨"PointsThrow$Page", "switchCount", "()I"⟩, 2), (⟨"PointsThrow$Page", "endFrom", "(I)I"⟩, 2), (⟨"PointsThrow$Page", "pointIn", "(II)LPointsThrow$Point;"⟩, 2), (⟨"PointsThrow$Yard", "reachedFrom", "(I)I"⟩, 8), (⟨"PointsThrow$Yard", "nextOf", "(I)I"⟩, 8), (⟨"PointsThrow$Yard", "hasLoop", "(I)Z"⟩, 8), (⟨"PointsThrow$Yard", "ordered", "(I)[I"⟩, 8), (⟨"PointsThrow$Yard", "tellStands", "(I)V"⟩, 8), (⟨"PointsThrow$Yard", "tellSidings", "(I)V"⟩, 8), (⟨"PointsThrow", "isPoint", "(I)Z"⟩, 15), (⟨"PointsThrow$Roller", "roll", "(LPointsThrow$Yard;[II)I"⟩, 2), (⟨"PointsThrow", "spareStands", "()[I"⟩, 15), (⟨"PointsThrow$Roller", "isAsAhead", "([I)Z"⟩, 2), (⟨"PointsThrow", "isStraightYard", "()Z"⟩, 15), (⟨"PointsThrow$Yard", "startCount", "(I)V"⟩, 8), (⟨"PointsThrow$Yard", "share", "(II)V"⟩, 8)]
theorem lw_r1 : ∀ q ∈ lw_privs_1, lw_okq q := List.forall_mem_cons.mpr ⟨lw_p0, List.forall_mem_cons.mpr ⟨lw_p1, List.forall_mem_cons.mpr ⟨lw_p2, List.forall_mem_cons.mpr ⟨lw_p3, List.forall_mem_cons.mpr ⟨lw_p4, List.forall_mem_cons.mpr ⟨lw_p5, List.forall_mem_cons.mpr ⟨lw_p6, List.forall_mem_cons.mpr ⟨lw_p7, List.forall_mem_cons.mpr ⟨lw_p8, List.forall_mem_cons.mpr ⟨lw_p9, List.forall_mem_cons.mpr ⟨lw_p10, List.forall_mem_cons.mpr ⟨lw_p11, List.forall_mem_cons.mpr ⟨lw_p12, List.forall_mem_cons.mpr ⟨lw_p13, List.forall_mem_cons.mpr ⟨lw_p14, List.forall_mem_cons.mpr ⟨lw_p15, fun _ h => absurd h List.not_mem_nil⟩⟩⟩⟩⟩⟩⟩⟩⟩⟩⟩⟩⟩⟩⟩⟩
theorem lw_p16 : lw_okq (⟨"PointsThrow", "mayPlan", "()Z"⟩, 15) := ⟨⟨by decide +kernel, by decide +kernel⟩, List.mem_of_getElem? (i := 19) (by decide +kernel), List.mem_of_getElem? (i := 613) (by decide +kernel), List.mem_of_getElem? (i := 614) (by decide +kernel)⟩
theorem lw_p17 : lw_okq (⟨"PointsThrow$Beginning", "follow", "(IIIIII)V"⟩, 8) := ⟨⟨by decide +kernel, by decide +kernel⟩, List.mem_of_getElem? (i := 75) (by decide +kernel), List.mem_of_getElem? (i := 622) (by decide +kernel), List.mem_of_getElem? (i := 623) (by decide +kernel)⟩
theorem lw_p18 : lw_okq (⟨"PointsThrow$Beginning", "keepIfBetter", "(I)V"⟩, 8) := ⟨⟨by decide +kernel, by decide +kernel⟩, List.mem_of_getElem? (i := 75) (by decide +kernel), List.mem_of_getElem? (i := 626) (by decide +kernel), List.mem_of_getElem? (i := 627) (by decide +kernel)⟩
theorem lw_p19 : lw_okq (⟨"PointsThrow$Beginning", "isChosenFirst", "()Z"⟩, 8) := ⟨⟨by decide +kernel, by decide +kernel⟩, List.mem_of_getElem? (i := 75) (by decide +kernel), List.mem_of_getElem? (i := 630) (by decide +kernel), List.mem_of_getElem? (i := 631) (by decide +kernel)⟩
theorem lw_p20 : lw_okq (⟨"PointsThrow$Beginning", "choose", "(IIIIII)V"⟩, 8) := ⟨⟨by decide +kernel, by decide +kernel⟩, List.mem_of_getElem? (i := 75) (by decide +kernel), List.mem_of_getElem? (i := 638) (by decide +kernel), List.mem_of_getElem? (i := 639) (by decide +kernel)⟩
theorem lw_p21 : lw_okq (⟨"PointsThrow$Throwing", "encode", "([I)I"⟩, 5) := ⟨⟨by decide +kernel, by decide +kernel⟩, List.mem_of_getElem? (i := 110) (by decide +kernel), List.mem_of_getElem? (i := 652) (by decide +kernel), List.mem_of_getElem? (i := 653) (by decide +kernel)⟩
theorem lw_p22 : lw_okq (⟨"PointsThrow$Throwing", "makeRoom", "(I)V"⟩, 5) := ⟨⟨by decide +kernel, by decide +kernel⟩, List.mem_of_getElem? (i := 110) (by decide +kernel), List.mem_of_getElem? (i := 657) (by decide +kernel), List.mem_of_getElem? (i := 658) (by decide +kernel)⟩
theorem lw_p23 : lw_okq (⟨"PointsThrow$Throwing", "offer", "(III)V"⟩, 5) := ⟨⟨by decide +kernel, by decide +kernel⟩, List.mem_of_getElem? (i := 110) (by decide +kernel), List.mem_of_getElem? (i := 665) (by decide +kernel), List.mem_of_getElem? (i := 666) (by decide +kernel)⟩
theorem lw_p24 : lw_okq (⟨"PointsThrow$Throwing", "leave", "(II)V"⟩, 5) := ⟨⟨by decide +kernel, by decide +kernel⟩, List.mem_of_getElem? (i := 110) (by decide +kernel), List.mem_of_getElem? (i := 669) (by decide +kernel), List.mem_of_getElem? (i := 670) (by decide +kernel)⟩
theorem lw_p25 : lw_okq (⟨"PointsThrow$Throwing", "goOn", "(IIIII)V"⟩, 5) := ⟨⟨by decide +kernel, by decide +kernel⟩, List.mem_of_getElem? (i := 110) (by decide +kernel), List.mem_of_getElem? (i := 673) (by decide +kernel), List.mem_of_getElem? (i := 674) (by decide +kernel)⟩
theorem lw_p26 : lw_okq (⟨"PointsThrow$Throwing", "startNext", "(I)V"⟩, 5) := ⟨⟨by decide +kernel, by decide +kernel⟩, List.mem_of_getElem? (i := 110) (by decide +kernel), List.mem_of_getElem? (i := 684) (by decide +kernel), List.mem_of_getElem? (i := 685) (by decide +kernel)⟩
theorem lw_p27 : lw_okq (⟨"PointsThrow", "findEmptyAhead", "()V"⟩, 15) := ⟨⟨by decide +kernel, by decide +kernel⟩, List.mem_of_getElem? (i := 19) (by decide +kernel), List.mem_of_getElem? (i := 693) (by decide +kernel), List.mem_of_getElem? (i := 694) (by decide +kernel)⟩
theorem lw_p28 : lw_okq (⟨"PointsThrow", "isExplainedBy", "(I)Z"⟩, 15) := ⟨⟨by decide +kernel, by decide +kernel⟩, List.mem_of_getElem? (i := 19) (by decide +kernel), List.mem_of_getElem? (i := 702) (by decide +kernel), List.mem_of_getElem? (i := 703) (by decide +kernel)⟩
theorem lw_p29 : lw_okq (⟨"PointsThrow$Suspects", "fillStops", "(LPointsThrow$Yard;[II[I)V"⟩, 5) := ⟨⟨by decide +kernel, by decide +kernel⟩, List.mem_of_getElem? (i := 133) (by decide +kernel), List.mem_of_getElem? (i := 722) (by decide +kernel), List.mem_of_getElem? (i := 723) (by decide +kernel)⟩
theorem lw_p30 : lw_okq (⟨"PointsThrow", "digestOfSwitches", "(J)J"⟩, 15) := ⟨⟨by decide +kernel, by decide +kernel⟩, List.mem_of_getElem? (i := 19) (by decide +kernel), List.mem_of_getElem? (i := 772) (by decide +kernel), List.mem_of_getElem? (i := 773) (by decide +kernel)⟩
theorem lw_p31 : lw_okq (⟨"PointsThrow", "digestOfSidings", "(J)J"⟩, 15) := ⟨⟨by decide +kernel, by decide +kernel⟩, List.mem_of_getElem? (i := 19) (by decide +kernel), List.mem_of_getElem? (i := 779) (by decide +kernel), List.mem_of_getElem? (i := 780) (by decide +kernel)⟩
def lw_privs_2 : List (MethodName × Nat) := [(⟨"PointsThrow", "mayPlan", "()Z"⟩, 15), (⟨"PointsThrow$Beginning", "follow", "(IIIIII)V"⟩, 8), (⟨"PointsThrow$Beginning", "keepIfBetter", "(I)V"⟩, 8), (⟨"PointsThrow$Beginning", "isChosenFirst", "()Z"⟩, 8), (⟨"PointsThrow$Beginning", "choose", "(IIIIII)V"⟩, 8), (⟨"PointsThrow$Throwing", "encode", "([I)I"⟩, 5), (⟨"PointsThrow$Throwing", "makeRoom", "(I)V"⟩, 5), (⟨"PointsThrow$Throwing", "offer", "(III)V"⟩, 5), (⟨"PointsThrow$Throwing", "leave", "(II)V"⟩, 5), (⟨"PointsThrow$Throwing", "goOn", "(IIIII)V"⟩, 5), (⟨"PointsThrow$Throwing", "startNext", "(I)V"⟩, 5), (⟨"PointsThrow", "findEmptyAhead", "()V"⟩, 15), (⟨"PointsThrow", "isExplainedBy", "(I)Z"⟩, 15), (⟨"PointsThrow$Suspects", "fillStops", "(LPointsThrow$Yard;[II[I)V"⟩, 5), (⟨"PointsThrow", "digestOfSwitches", "(J)J"⟩, 15), (⟨"PointsThrow", "digestOfSidings", "(J)J"⟩, 15)]
theorem lw_r2 : ∀ q ∈ lw_privs_2, lw_okq q := List.forall_mem_cons.mpr ⟨lw_p16, List.forall_mem_cons.mpr ⟨lw_p17, List.forall_mem_cons.mpr ⟨lw_p18, List.forall_mem_cons.mpr ⟨lw_p19, List.forall_mem_cons.mpr ⟨lw_p20, List.forall_mem_cons.mpr ⟨lw_p21, List.forall_mem_cons.mpr ⟨lw_p22, List.forall_mem_cons.mpr ⟨lw_p23, List.forall_mem_cons.mpr ⟨lw_p24, List.forall_mem_cons.mpr ⟨lw_p25, List.forall_mem_cons.mpr ⟨lw_p26, List.forall_mem_cons.mpr ⟨lw_p27, List.forall_mem_cons.mpr ⟨lw_p28, List.forall_mem_cons.mpr ⟨lw_p29, List.forall_mem_cons.mpr ⟨lw_p30, List.forall_mem_cons.mpr ⟨lw_p31, fun _ h => absurd h List.not_mem_nil⟩⟩⟩⟩⟩⟩⟩⟩⟩⟩⟩⟩⟩⟩⟩⟩
theorem lw_p32 : lw_okq (⟨"PointsThrow", "digestOfTrials", "(J)J"⟩, 15) := ⟨⟨by decide +kernel, by decide +kernel⟩, List.mem_of_getElem? (i := 19) (by decide +kernel), List.mem_of_getElem? (i := 783) (by decide +kernel), List.mem_of_getElem? (i := 784) (by decide +kernel)⟩
theorem lw_p33 : lw_okq (⟨"PointsThrowModel", "faultOf", "()I"⟩, 34) := ⟨⟨by decide +kernel, by decide +kernel⟩, List.mem_of_getElem? (i := 790) (by decide +kernel), List.mem_of_getElem? (i := 913) (by decide +kernel), List.mem_of_getElem? (i := 914) (by decide +kernel)⟩
theorem lw_p34 : lw_okq (⟨"PointsThrowModel", "go", "(I)Z"⟩, 34) := ⟨⟨by decide +kernel, by decide +kernel⟩, List.mem_of_getElem? (i := 790) (by decide +kernel), List.mem_of_getElem? (i := 917) (by decide +kernel), List.mem_of_getElem? (i := 918) (by decide +kernel)⟩
theorem lw_p35 : lw_okq (⟨"PointsThrowModel", "isPoint", "(I)Z"⟩, 34) := ⟨⟨by decide +kernel, by decide +kernel⟩, List.mem_of_getElem? (i := 790) (by decide +kernel), List.mem_of_getElem? (i := 939) (by decide +kernel), List.mem_of_getElem? (i := 940) (by decide +kernel)⟩
theorem lw_p36 : lw_okq (⟨"PointsThrowModel", "aboutOf", "(II)I"⟩, 34) := ⟨⟨by decide +kernel, by decide +kernel⟩, List.mem_of_getElem? (i := 790) (by decide +kernel), List.mem_of_getElem? (i := 943) (by decide +kernel), List.mem_of_getElem? (i := 944) (by decide +kernel)⟩
theorem lw_p37 : lw_okq (⟨"PointsThrowModel", "standMany", "(I)I"⟩, 34) := ⟨⟨by decide +kernel, by decide +kernel⟩, List.mem_of_getElem? (i := 790) (by decide +kernel), List.mem_of_getElem? (i := 947) (by decide +kernel), List.mem_of_getElem? (i := 948) (by decide +kernel)⟩
theorem lw_p38 : lw_okq (⟨"PointsThrowModel", "wayAt", "(II)I"⟩, 34) := ⟨⟨by decide +kernel, by decide +kernel⟩, List.mem_of_getElem? (i := 790) (by decide +kernel), List.mem_of_getElem? (i := 951) (by decide +kernel), List.mem_of_getElem? (i := 952) (by decide +kernel)⟩
theorem lw_p39 : lw_okq (⟨"PointsThrowModel", "leastStand", "(II)I"⟩, 34) := ⟨⟨by decide +kernel, by decide +kernel⟩, List.mem_of_getElem? (i := 790) (by decide +kernel), List.mem_of_getElem? (i := 964) (by decide +kernel), List.mem_of_getElem? (i := 965) (by decide +kernel)⟩
theorem lw_p40 : lw_okq (⟨"PointsThrowModel", "lacks", "()Z"⟩, 34) := ⟨⟨by decide +kernel, by decide +kernel⟩, List.mem_of_getElem? (i := 790) (by decide +kernel), List.mem_of_getElem? (i := 972) (by decide +kernel), List.mem_of_getElem? (i := 973) (by decide +kernel)⟩
theorem lw_p41 : lw_okq (⟨"PointsThrowModel", "layTried", "()V"⟩, 34) := ⟨⟨by decide +kernel, by decide +kernel⟩, List.mem_of_getElem? (i := 790) (by decide +kernel), List.mem_of_getElem? (i := 980) (by decide +kernel), List.mem_of_getElem? (i := 981) (by decide +kernel)⟩
theorem lw_p42 : lw_okq (⟨"PointsThrowModel", "goTruck", "(I)I"⟩, 34) := ⟨⟨by decide +kernel, by decide +kernel⟩, List.mem_of_getElem? (i := 790) (by decide +kernel), List.mem_of_getElem? (i := 984) (by decide +kernel), List.mem_of_getElem? (i := 985) (by decide +kernel)⟩
theorem lw_p43 : lw_okq (⟨"PointsThrowModel", "move", "(I)V"⟩, 34) := ⟨⟨by decide +kernel, by decide +kernel⟩, List.mem_of_getElem? (i := 790) (by decide +kernel), List.mem_of_getElem? (i := 988) (by decide +kernel), List.mem_of_getElem? (i := 989) (by decide +kernel)⟩
theorem lw_p44 : lw_okq (⟨"PointsThrowModel", "turned", "(II)I"⟩, 34) := ⟨⟨by decide +kernel, by decide +kernel⟩, List.mem_of_getElem? (i := 790) (by decide +kernel), List.mem_of_getElem? (i := 992) (by decide +kernel), List.mem_of_getElem? (i := 993) (by decide +kernel)⟩
theorem lw_p45 : lw_okq (⟨"PointsThrowModel", "manyIn", "(I)I"⟩, 34) := ⟨⟨by decide +kernel, by decide +kernel⟩, List.mem_of_getElem? (i := 790) (by decide +kernel), List.mem_of_getElem? (i := 1001) (by decide +kernel), List.mem_of_getElem? (i := 1002) (by decide +kernel)⟩
theorem lw_p46 : lw_okq (⟨"PointsThrowModel", "movesOf", "()I"⟩, 34) := ⟨⟨by decide +kernel, by decide +kernel⟩, List.mem_of_getElem? (i := 790) (by decide +kernel), List.mem_of_getElem? (i := 1014) (by decide +kernel), List.mem_of_getElem? (i := 1015) (by decide +kernel)⟩
theorem lw_p47 : lw_okq (⟨"PointsThrowModel", "isStraight", "()Z"⟩, 34) := ⟨⟨by decide +kernel, by decide +kernel⟩, List.mem_of_getElem? (i := 790) (by decide +kernel), List.mem_of_getElem? (i := 1026) (by decide +kernel), List.mem_of_getElem? (i := 1027) (by decide +kernel)⟩
def lw_privs_3 : List (MethodName × Nat) := [(⟨"PointsThrow", "digestOfTrials", "(J)J"⟩, 15), (⟨"PointsThrowModel", "faultOf", "()I"⟩, 34), (⟨"PointsThrowModel", "go", "(I)Z"⟩, 34), (⟨"PointsThrowModel", "isPoint", "(I)Z"⟩, 34), (⟨"PointsThrowModel", "aboutOf", "(II)I"⟩, 34), (⟨"PointsThrowModel", "standMany", "(I)I"⟩, 34), (⟨"PointsThrowModel", "wayAt", "(II)I"⟩, 34), (⟨"PointsThrowModel", "leastStand", "(II)I"⟩, 34), (⟨"PointsThrowModel", "lacks", "()Z"⟩, 34), (⟨"PointsThrowModel", "layTried", "()V"⟩, 34), (⟨"PointsThrowModel", "goTruck", "(I)I"⟩, 34), (⟨"PointsThrowModel", "move", "(I)V"⟩, 34), (⟨"PointsThrowModel", "turned", "(II)I"⟩, 34), (⟨"PointsThrowModel", "manyIn", "(I)I"⟩, 34), (⟨"PointsThrowModel", "movesOf", "()I"⟩, 34), (⟨"PointsThrowModel", "isStraight", "()Z"⟩, 34)]
theorem lw_r3 : ∀ q ∈ lw_privs_3, lw_okq q := List.forall_mem_cons.mpr ⟨lw_p32, List.forall_mem_cons.mpr ⟨lw_p33, List.forall_mem_cons.mpr ⟨lw_p34, List.forall_mem_cons.mpr ⟨lw_p35, List.forall_mem_cons.mpr ⟨lw_p36, List.forall_mem_cons.mpr ⟨lw_p37, List.forall_mem_cons.mpr ⟨lw_p38, List.forall_mem_cons.mpr ⟨lw_p39, List.forall_mem_cons.mpr ⟨lw_p40, List.forall_mem_cons.mpr ⟨lw_p41, List.forall_mem_cons.mpr ⟨lw_p42, List.forall_mem_cons.mpr ⟨lw_p43, List.forall_mem_cons.mpr ⟨lw_p44, List.forall_mem_cons.mpr ⟨lw_p45, List.forall_mem_cons.mpr ⟨lw_p46, List.forall_mem_cons.mpr ⟨lw_p47, fun _ h => absurd h List.not_mem_nil⟩⟩⟩⟩⟩⟩⟩⟩⟩⟩⟩⟩⟩⟩⟩⟩
theorem lw_p48 : lw_okq (⟨"PointsThrowModel", "reach", "(I)I"⟩, 34) := ⟨⟨by decide +kernel, by decide +kernel⟩, List.mem_of_getElem? (i := 790) (by decide +kernel), List.mem_of_getElem? (i := 1030) (by decide +kernel), List.mem_of_getElem? (i := 1031) (by decide +kernel)⟩
theorem lw_p49 : lw_okq (⟨"PointsThrowModel", "layBehind", "(I)V"⟩, 34) := ⟨⟨by decide +kernel, by decide +kernel⟩, List.mem_of_getElem? (i := 790) (by decide +kernel), List.mem_of_getElem? (i := 1039) (by decide +kernel), List.mem_of_getElem? (i := 1040) (by decide +kernel)⟩
theorem lw_p50 : lw_okq (⟨"PointsThrowModel", "isReady", "(II)Z"⟩, 34) := ⟨⟨by decide +kernel, by decide +kernel⟩, List.mem_of_getElem? (i := 790) (by decide +kernel), List.mem_of_getElem? (i := 1043) (by decide +kernel), List.mem_of_getElem? (i := 1044) (by decide +kernel)⟩
theorem lw_p51 : lw_okq (⟨"PointsThrowModel", "send", "(II)V"⟩, 34) := ⟨⟨by decide +kernel, by decide +kernel⟩, List.mem_of_getElem? (i := 790) (by decide +kernel), List.mem_of_getElem? (i := 1047) (by decide +kernel), List.mem_of_getElem? (i := 1048) (by decide +kernel)⟩
theorem lw_p52 : lw_okq (⟨"PointsThrowModel", "standsInAll", "()I"⟩, 34) := ⟨⟨by decide +kernel, by decide +kernel⟩, List.mem_of_getElem? (i := 790) (by decide +kernel), List.mem_of_getElem? (i := 1073) (by decide +kernel), List.mem_of_getElem? (i := 1074) (by decide +kernel)⟩
theorem lw_p53 : lw_okq (⟨"PointsThrowModel", "layStands", "(I)V"⟩, 34) := ⟨⟨by decide +kernel, by decide +kernel⟩, List.mem_of_getElem? (i := 790) (by decide +kernel), List.mem_of_getElem? (i := 1077) (by decide +kernel), List.mem_of_getElem? (i := 1078) (by decide +kernel)⟩
theorem lw_p54 : lw_okq (⟨"PointsThrowModel", "isTrue", "(I)Z"⟩, 34) := ⟨⟨by decide +kernel, by decide +kernel⟩, List.mem_of_getElem? (i := 790) (by decide +kernel), List.mem_of_getElem? (i := 1081) (by decide +kernel), List.mem_of_getElem? (i := 1082) (by decide +kernel)⟩
theorem lw_p55 : lw_okq (⟨"PointsThrowModel", "codeOf", "()I"⟩, 34) := ⟨⟨by decide +kernel, by decide +kernel⟩, List.mem_of_getElem? (i := 790) (by decide +kernel), List.mem_of_getElem? (i := 1090) (by decide +kernel), List.mem_of_getElem? (i := 1091) (by decide +kernel)⟩
theorem lw_p56 : lw_okq (⟨"PointsThrowModel", "throwAll", "(I)V"⟩, 34) := ⟨⟨by decide +kernel, by decide +kernel⟩, List.mem_of_getElem? (i := 790) (by decide +kernel), List.mem_of_getElem? (i := 1094) (by decide +kernel), List.mem_of_getElem? (i := 1095) (by decide +kernel)⟩
theorem lw_p57 : lw_okq (⟨"PointsThrowModel", "emptyOf", "(I)I"⟩, 34) := ⟨⟨by decide +kernel, by decide +kernel⟩, List.mem_of_getElem? (i := 790) (by decide +kernel), List.mem_of_getElem? (i := 1102) (by decide +kernel), List.mem_of_getElem? (i := 1103) (by decide +kernel)⟩
theorem lw_p58 : lw_okq (⟨"PointsThrowModel", "noticedOf", "(Z)I"⟩, 34) := ⟨⟨by decide +kernel, by decide +kernel⟩, List.mem_of_getElem? (i := 790) (by decide +kernel), List.mem_of_getElem? (i := 1114) (by decide +kernel), List.mem_of_getElem? (i := 1115) (by decide +kernel)⟩
theorem lw_p59 : lw_okq (⟨"PointsThrowModel", "layGoes", "()V"⟩, 34) := ⟨⟨by decide +kernel, by decide +kernel⟩, List.mem_of_getElem? (i := 790) (by decide +kernel), List.mem_of_getElem? (i := 1118) (by decide +kernel), List.mem_of_getElem? (i := 1119) (by decide +kernel)⟩
theorem lw_p60 : lw_okq (⟨"PointsThrowModel", "doesTurn", "(I)Z"⟩, 34) := ⟨⟨by decide +kernel, by decide +kernel⟩, List.mem_of_getElem? (i := 790) (by decide +kernel), List.mem_of_getElem? (i := 1122) (by decide +kernel), List.mem_of_getElem? (i := 1123) (by decide +kernel)⟩
theorem lw_p61 : lw_okq (⟨"PointsThrowModel", "unlike", "(II)I"⟩, 34) := ⟨⟨by decide +kernel, by decide +kernel⟩, List.mem_of_getElem? (i := 790) (by decide +kernel), List.mem_of_getElem? (i := 1126) (by decide +kernel), List.mem_of_getElem? (i := 1127) (by decide +kernel)⟩
theorem lw_p62 : lw_okq (⟨"PointsThrowModel", "countOf", "(I)I"⟩, 34) := ⟨⟨by decide +kernel, by decide +kernel⟩, List.mem_of_getElem? (i := 790) (by decide +kernel), List.mem_of_getElem? (i := 1146) (by decide +kernel), List.mem_of_getElem? (i := 1147) (by decide +kernel)⟩
theorem lw_p63 : lw_okq (⟨"PointsThrowModel", "say", "(J)V"⟩, 34) := ⟨⟨by decide +kernel, by decide +kernel⟩, List.mem_of_getElem? (i := 790) (by decide +kernel), List.mem_of_getElem? (i := 1155) (by decide +kernel), List.mem_of_getElem? (i := 1156) (by decide +kernel)⟩
def lw_privs_4 : List (MethodName × Nat) := [(⟨"PointsThrowModel", "reach", "(I)I"⟩, 34), (⟨"PointsThrowModel", "layBehind", "(I)V"⟩, 34), (⟨"PointsThrowModel", "isReady", "(II)Z"⟩, 34), (⟨"PointsThrowModel", "send", "(II)V"⟩, 34), (⟨"PointsThrowModel", "standsInAll", "()I"⟩, 34), (⟨"PointsThrowModel", "layStands", "(I)V"⟩, 34), (⟨"PointsThrowModel", "isTrue", "(I)Z"⟩, 34), (⟨"PointsThrowModel", "codeOf", "()I"⟩, 34), (⟨"PointsThrowModel", "throwAll", "(I)V"⟩, 34), (⟨"PointsThrowModel", "emptyOf", "(I)I"⟩, 34), (⟨"PointsThrowModel", "noticedOf", "(Z)I"⟩, 34), (⟨"PointsThrowModel", "layGoes", "()V"⟩, 34), (⟨"PointsThrowModel", "doesTurn", "(I)Z"⟩, 34), (⟨"PointsThrowModel", "unlike", "(II)I"⟩, 34), (⟨"PointsThrowModel", "countOf", "(I)I"⟩, 34), (⟨"PointsThrowModel", "say", "(J)V"⟩, 34)]
theorem lw_r4 : ∀ q ∈ lw_privs_4, lw_okq q := List.forall_mem_cons.mpr ⟨lw_p48, List.forall_mem_cons.mpr ⟨lw_p49, List.forall_mem_cons.mpr ⟨lw_p50, List.forall_mem_cons.mpr ⟨lw_p51, List.forall_mem_cons.mpr ⟨lw_p52, List.forall_mem_cons.mpr ⟨lw_p53, List.forall_mem_cons.mpr ⟨lw_p54, List.forall_mem_cons.mpr ⟨lw_p55, List.forall_mem_cons.mpr ⟨lw_p56, List.forall_mem_cons.mpr ⟨lw_p57, List.forall_mem_cons.mpr ⟨lw_p58, List.forall_mem_cons.mpr ⟨lw_p59, List.forall_mem_cons.mpr ⟨lw_p60, List.forall_mem_cons.mpr ⟨lw_p61, List.forall_mem_cons.mpr ⟨lw_p62, List.forall_mem_cons.mpr ⟨lw_p63, fun _ h => absurd h List.not_mem_nil⟩⟩⟩⟩⟩⟩⟩⟩⟩⟩⟩⟩⟩⟩⟩⟩
theorem lw_p64 : lw_okq (⟨"PointsThrowModel", "sayYard", "()V"⟩, 34) := ⟨⟨by decide +kernel, by decide +kernel⟩, List.mem_of_getElem? (i := 790) (by decide +kernel), List.mem_of_getElem? (i := 1160) (by decide +kernel), List.mem_of_getElem? (i := 1161) (by decide +kernel)⟩
def lw_privs_5 : List (MethodName × Nat) := [(⟨"PointsThrowModel", "sayYard", "()V"⟩, 34)]
theorem lw_r5 : ∀ q ∈ lw_privs_5, lw_okq q := List.forall_mem_cons.mpr ⟨lw_p64, fun _ h => absurd h List.not_mem_nil⟩
def lw_privs : List (MethodName × Nat) := lw_privs_1 ++ (lw_privs_2 ++ (lw_privs_3 ++ (lw_privs_4 ++ (lw_privs_5))))
def lw_tbl : List Cond := k2_sels lw_privs ++ tables_1
theorem lw_privs_ok : ∀ q ∈ lw_privs, lw_okq q := by
  show ∀ q ∈ lw_privs_1 ++ (lw_privs_2 ++ (lw_privs_3 ++ (lw_privs_4 ++ (lw_privs_5)))), lw_okq q
  exact List.forall_mem_append.mpr ⟨lw_r1, List.forall_mem_append.mpr ⟨lw_r2, List.forall_mem_append.mpr ⟨lw_r3, List.forall_mem_append.mpr ⟨lw_r4, lw_r5⟩⟩⟩⟩
end
section
def RX0 : String := "PointsThrow$Beginning"
def TX0 : u_T := fun k => match k with
  | 0 => ("PointsThrow$Beginning", "standsAt", "[[I", true)
  | 1 => ("PointsThrow$Beginning", "chosen", "[I", true)
  | 2 => ("PointsThrow$Beginning", "best", "[I", true)
  | 3 => ("PointsThrow$Beginning", "fewest", "I", false)
  | 4 => ("PointsThrow$Beginning", "yard", "LPointsThrow$Yard;", false)
  | 5 => ("PointsThrow$Beginning", "now", "[I", false)
  | 6 => ("PointsThrow$Beginning", "wanted", "[I", false)
  | _ => ("PointsThrow$Beginning", "wantedCount", "I", false)
def tyX0 : Nat → FieldType := fun k => match k with
  | 0 => .array (.array .int)
  | 1 => .array .int
  | 2 => .array .int
  | 3 => .int
  | 4 => .object "PointsThrow$Yard"
  | 5 => .array .int
  | 6 => .array .int
  | _ => .int
abbrev wsX00 : List Cond := u_ws RX0 TX0 8
theorem nmX0 : ∀ a, a < 8 → ∀ b, b < 8 → a ≠ b → (TX0 a).2.1 ≠ (TX0 b).2.1 := by decide +kernel
theorem tyX0_ok : ∀ k, k < 8 → parseFieldDescriptor (TX0 k).2.2.1 = some (tyX0 k) := by decide +kernel
abbrev cX0_init : ByteArray := prog_2_method_1_code
def yX0_init : MethodName := ⟨RX0, "<init>", "()V"⟩
abbrev cX0_search : ByteArray := prog_2_method_2_code
def yX0_search : MethodName := ⟨RX0, "search", "(LPointsThrow$Yard;[I[II)Z"⟩
abbrev cX0_follow : ByteArray := prog_2_method_3_code
def yX0_follow : MethodName := ⟨RX0, "follow", "(IIIIII)V"⟩
abbrev cX0_choose : ByteArray := prog_2_method_4_code
def yX0_choose : MethodName := ⟨RX0, "choose", "(IIIIII)V"⟩
abbrev cX0_keepIfBetter : ByteArray := prog_2_method_5_code
def yX0_keepIfBetter : MethodName := ⟨RX0, "keepIfBetter", "(I)V"⟩
abbrev cX0_isChosenFirst : ByteArray := prog_2_method_6_code
def yX0_isChosenFirst : MethodName := ⟨RX0, "isChosenFirst", "()Z"⟩
def RX1 : String := "PointsThrow$Held"
def TX1 : u_T := fun k => match k with
  | _ => ("PointsThrow$Point", "ways", "[I", true)
def tyX1 : Nat → FieldType := fun k => match k with
  | _ => .array .int
abbrev wsX10 : List Cond := u_ws RX1 TX1 1
theorem nmX1 : ∀ a, a < 1 → ∀ b, b < 1 → a ≠ b → (TX1 a).2.1 ≠ (TX1 b).2.1 := by decide +kernel
theorem tyX1_ok : ∀ k, k < 1 → parseFieldDescriptor (TX1 k).2.2.1 = some (tyX1 k) := by decide +kernel
abbrev cX1_init : ByteArray := prog_3_method_1_code
def yX1_init : MethodName := ⟨RX1, "<init>", "([I)V"⟩
abbrev cX1_kind : ByteArray := prog_3_method_2_code
def yX1_kind : MethodName := ⟨RX1, "kind", "()I"⟩
abbrev cX1_period : ByteArray := prog_3_method_3_code
def yX1_period : MethodName := ⟨RX1, "period", "()I"⟩
def RX2 : String := "PointsThrow$Lazy"
def TX2 : u_T := fun k => match k with
  | _ => ("PointsThrow$Point", "ways", "[I", true)
def tyX2 : Nat → FieldType := fun k => match k with
  | _ => .array .int
abbrev wsX20 : List Cond := u_ws RX2 TX2 1
theorem nmX2 : ∀ a, a < 1 → ∀ b, b < 1 → a ≠ b → (TX2 a).2.1 ≠ (TX2 b).2.1 := by decide +kernel
theorem tyX2_ok : ∀ k, k < 1 → parseFieldDescriptor (TX2 k).2.2.1 = some (tyX2 k) := by decide +kernel
abbrev cX2_init : ByteArray := prog_4_method_1_code
def yX2_init : MethodName := ⟨RX2, "<init>", "([I)V"⟩
abbrev cX2_kind : ByteArray := prog_4_method_2_code
def yX2_kind : MethodName := ⟨RX2, "kind", "()I"⟩
abbrev cX2_standCount : ByteArray := prog_4_method_3_code
def yX2_standCount : MethodName := ⟨RX2, "standCount", "()I"⟩
abbrev cX2_wayAt : ByteArray := prog_4_method_4_code
def yX2_wayAt : MethodName := ⟨RX2, "wayAt", "(I)I"⟩
abbrev cX2_firstStandAt : ByteArray := prog_4_method_5_code
def yX2_firstStandAt : MethodName := ⟨RX2, "firstStandAt", "(I)I"⟩
abbrev cX2_period : ByteArray := prog_4_method_6_code
def yX2_period : MethodName := ⟨RX2, "period", "()I"⟩
def RX3 : String := "PointsThrow$Page"
def TX3 : u_T := fun k => match k with
  | 0 => ("PointsThrow$Page", "row", "[I", true)
  | _ => ("PointsThrow$Page", "size", "I", false)
def tyX3 : Nat → FieldType := fun k => match k with
  | 0 => .array .int
  | _ => .int
abbrev wsX30 : List Cond := u_ws RX3 TX3 2
theorem nmX3 : ∀ a, a < 2 → ∀ b, b < 2 → a ≠ b → (TX3 a).2.1 ≠ (TX3 b).2.1 := by decide +kernel
theorem tyX3_ok : ∀ k, k < 2 → parseFieldDescriptor (TX3 k).2.2.1 = some (tyX3 k) := by decide +kernel
abbrev cX3_init : ByteArray := prog_5_method_1_code
def yX3_init : MethodName := ⟨RX3, "<init>", "()V"⟩
abbrev cX3_append : ByteArray := prog_5_method_2_code
def yX3_append : MethodName := ⟨RX3, "append", "(J)I"⟩
abbrev cX3_wipe : ByteArray := prog_5_method_3_code
def yX3_wipe : MethodName := ⟨RX3, "wipe", "()I"⟩
abbrev cX3_faultPlace : ByteArray := prog_5_method_4_code
def yX3_faultPlace : MethodName := ⟨RX3, "faultPlace", "()I"⟩
abbrev cX3_read : ByteArray := prog_5_method_5_code
def yX3_read : MethodName := ⟨RX3, "read", "()LPointsThrow$Yard;"⟩
abbrev cX3_switchCount : ByteArray := prog_5_method_6_code
def yX3_switchCount : MethodName := ⟨RX3, "switchCount", "()I"⟩
abbrev cX3_endFrom : ByteArray := prog_5_method_7_code
def yX3_endFrom : MethodName := ⟨RX3, "endFrom", "(I)I"⟩
abbrev cX3_pointIn : ByteArray := prog_5_method_8_code
def yX3_pointIn : MethodName := ⟨RX3, "pointIn", "(II)LPointsThrow$Point;"⟩
abbrev cX3_codeIn : ByteArray := prog_5_method_9_code
def yX3_codeIn : MethodName := ⟨RX3, "codeIn", "(JI)I"⟩
abbrev cX3_lettersIn : ByteArray := prog_5_method_10_code
def yX3_lettersIn : MethodName := ⟨RX3, "lettersIn", "(J)I"⟩
abbrev cX3_kindOf : ByteArray := prog_5_method_11_code
def yX3_kindOf : MethodName := ⟨RX3, "kindOf", "(I)I"⟩
abbrev cX3_placeOf : ByteArray := prog_5_method_12_code
def yX3_placeOf : MethodName := ⟨RX3, "placeOf", "(I)I"⟩
def RX4 : String := "PointsThrow$Point"
def TX4 : u_T := fun k => match k with
  | _ => ("PointsThrow$Point", "ways", "[I", true)
def tyX4 : Nat → FieldType := fun k => match k with
  | _ => .array .int
abbrev wsX40 : List Cond := u_ws RX4 TX4 1
theorem nmX4 : ∀ a, a < 1 → ∀ b, b < 1 → a ≠ b → (TX4 a).2.1 ≠ (TX4 b).2.1 := by decide +kernel
theorem tyX4_ok : ∀ k, k < 1 → parseFieldDescriptor (TX4 k).2.2.1 = some (tyX4 k) := by decide +kernel
abbrev cX4_init : ByteArray := prog_6_method_1_code
def yX4_init : MethodName := ⟨RX4, "<init>", "([I)V"⟩
abbrev cX4_kind : ByteArray := prog_6_method_2_code
def yX4_kind : MethodName := ⟨RX4, "kind", "()I"⟩
abbrev cX4_standCount : ByteArray := prog_6_method_3_code
def yX4_standCount : MethodName := ⟨RX4, "standCount", "()I"⟩
abbrev cX4_wayAt : ByteArray := prog_6_method_4_code
def yX4_wayAt : MethodName := ⟨RX4, "wayAt", "(I)I"⟩
abbrev cX4_firstStandAt : ByteArray := prog_6_method_5_code
def yX4_firstStandAt : MethodName := ⟨RX4, "firstStandAt", "(I)I"⟩
abbrev cX4_period : ByteArray := prog_6_method_6_code
def yX4_period : MethodName := ⟨RX4, "period", "()I"⟩
abbrev cX4_turned : ByteArray := prog_6_method_7_code
def yX4_turned : MethodName := ⟨RX4, "turned", "(II)I"⟩
abbrev cX4_placeBy : ByteArray := prog_6_method_8_code
def yX4_placeBy : MethodName := ⟨RX4, "placeBy", "(I)I"⟩
abbrev cX4_canTurn : ByteArray := prog_6_method_9_code
def yX4_canTurn : MethodName := ⟨RX4, "canTurn", "()Z"⟩
def RX5 : String := "PointsThrow$Roller"
def TX5 : u_T := fun k => match k with
  | 0 => ("PointsThrow$Roller", "ahead", "[I", true)
  | _ => ("PointsThrow$Roller", "lastMoves", "I", false)
def tyX5 : Nat → FieldType := fun k => match k with
  | 0 => .array .int
  | _ => .int
abbrev wsX50 : List Cond := u_ws RX5 TX5 2
theorem nmX5 : ∀ a, a < 2 → ∀ b, b < 2 → a ≠ b → (TX5 a).2.1 ≠ (TX5 b).2.1 := by decide +kernel
theorem tyX5_ok : ∀ k, k < 2 → parseFieldDescriptor (TX5 k).2.2.1 = some (tyX5 k) := by decide +kernel
abbrev cX5_init : ByteArray := prog_7_method_1_code
def yX5_init : MethodName := ⟨RX5, "<init>", "()V"⟩
abbrev cX5_send : ByteArray := prog_7_method_2_code
def yX5_send : MethodName := ⟨RX5, "send", "(LPointsThrow$Yard;[II)I"⟩
abbrev cX5_roundOf : ByteArray := prog_7_method_3_code
def yX5_roundOf : MethodName := ⟨RX5, "roundOf", "(LPointsThrow$Yard;[I)I"⟩
abbrev cX5_roll : ByteArray := prog_7_method_4_code
def yX5_roll : MethodName := ⟨RX5, "roll", "(LPointsThrow$Yard;[II)I"⟩
abbrev cX5_isAsAhead : ByteArray := prog_7_method_5_code
def yX5_isAsAhead : MethodName := ⟨RX5, "isAsAhead", "([I)Z"⟩
def RX6 : String := "PointsThrow$Scene"
def TX6 : u_T := fun k => match k with
  | 0 => ("PointsThrow$Scene", "stands", "[I", true)
  | 1 => ("PointsThrow$Scene", "sidingOf", "[I", true)
  | _ => ("PointsThrow$Scene", "trucks", "I", false)
def tyX6 : Nat → FieldType := fun k => match k with
  | 0 => .array .int
  | 1 => .array .int
  | _ => .int
abbrev wsX60 : List Cond := u_ws RX6 TX6 3
theorem nmX6 : ∀ a, a < 3 → ∀ b, b < 3 → a ≠ b → (TX6 a).2.1 ≠ (TX6 b).2.1 := by decide +kernel
theorem tyX6_ok : ∀ k, k < 3 → parseFieldDescriptor (TX6 k).2.2.1 = some (tyX6 k) := by decide +kernel
abbrev cX6_init : ByteArray := prog_8_method_1_code
def yX6_init : MethodName := ⟨RX6, "<init>", "()V"⟩
abbrev cX6_reset : ByteArray := prog_8_method_2_code
def yX6_reset : MethodName := ⟨RX6, "reset", "()V"⟩
abbrev cX6_copyFrom : ByteArray := prog_8_method_3_code
def yX6_copyFrom : MethodName := ⟨RX6, "copyFrom", "(LPointsThrow$Scene;)V"⟩
abbrev cX6_put : ByteArray := prog_8_method_4_code
def yX6_put : MethodName := ⟨RX6, "put", "(I)V"⟩
abbrev cX6_trucksIn : ByteArray := prog_8_method_5_code
def yX6_trucksIn : MethodName := ⟨RX6, "trucksIn", "(I)I"⟩
abbrev cX6_truckIn : ByteArray := prog_8_method_6_code
def yX6_truckIn : MethodName := ⟨RX6, "truckIn", "(II)I"⟩
def RX7 : String := "PointsThrow$Suspects"
def TX7 : u_T := fun k => match k with
  | 0 => ("PointsThrow$Suspects", "roller", "LPointsThrow$Roller;", true)
  | 1 => ("PointsThrow$Suspects", "stops", "[[I", true)
  | 2 => ("PointsThrow$Suspects", "stands", "[I", true)
  | 3 => ("PointsThrow$Suspects", "suspected", "[I", true)
  | _ => ("PointsThrow$Suspects", "count", "I", false)
def tyX7 : Nat → FieldType := fun k => match k with
  | 0 => .object "PointsThrow$Roller"
  | 1 => .array (.array .int)
  | 2 => .array .int
  | 3 => .array .int
  | _ => .int
abbrev wsX70 : List Cond := u_ws RX7 TX7 5
theorem nmX7 : ∀ a, a < 5 → ∀ b, b < 5 → a ≠ b → (TX7 a).2.1 ≠ (TX7 b).2.1 := by decide +kernel
theorem tyX7_ok : ∀ k, k < 5 → parseFieldDescriptor (TX7 k).2.2.1 = some (tyX7 k) := by decide +kernel
abbrev cX7_init : ByteArray := prog_9_method_1_code
def yX7_init : MethodName := ⟨RX7, "<init>", "(LPointsThrow$Roller;)V"⟩
abbrev cX7_watch : ByteArray := prog_9_method_2_code
def yX7_watch : MethodName := ⟨RX7, "watch", "(LPointsThrow$Yard;[I)V"⟩
abbrev cX7_trucksToNotice : ByteArray := prog_9_method_3_code
def yX7_trucksToNotice : MethodName := ⟨RX7, "trucksToNotice", "()I"⟩
abbrev cX7_trucksToTellApart : ByteArray := prog_9_method_4_code
def yX7_trucksToTellApart : MethodName := ⟨RX7, "trucksToTellApart", "()I"⟩
abbrev cX7_orNone : ByteArray := prog_9_method_5_code
def yX7_orNone : MethodName := ⟨RX7, "orNone", "(I)I"⟩
abbrev cX7_fillStops : ByteArray := prog_9_method_6_code
def yX7_fillStops : MethodName := ⟨RX7, "fillStops", "(LPointsThrow$Yard;[II[I)V"⟩
abbrev cX7_firstDifference : ByteArray := prog_9_method_7_code
def yX7_firstDifference : MethodName := ⟨RX7, "firstDifference", "([I[I)I"⟩
def RX8 : String := "PointsThrow$Swinging"
def TX8 : u_T := fun k => match k with
  | _ => ("PointsThrow$Point", "ways", "[I", true)
def tyX8 : Nat → FieldType := fun k => match k with
  | _ => .array .int
abbrev wsX80 : List Cond := u_ws RX8 TX8 1
theorem nmX8 : ∀ a, a < 1 → ∀ b, b < 1 → a ≠ b → (TX8 a).2.1 ≠ (TX8 b).2.1 := by decide +kernel
theorem tyX8_ok : ∀ k, k < 1 → parseFieldDescriptor (TX8 k).2.2.1 = some (tyX8 k) := by decide +kernel
abbrev cX8_init : ByteArray := prog_10_method_1_code
def yX8_init : MethodName := ⟨RX8, "<init>", "([I)V"⟩
abbrev cX8_kind : ByteArray := prog_10_method_2_code
def yX8_kind : MethodName := ⟨RX8, "kind", "()I"⟩
abbrev cX8_standCount : ByteArray := prog_10_method_3_code
def yX8_standCount : MethodName := ⟨RX8, "standCount", "()I"⟩
abbrev cX8_wayAt : ByteArray := prog_10_method_4_code
def yX8_wayAt : MethodName := ⟨RX8, "wayAt", "(I)I"⟩
def RX9 : String := "PointsThrow$Throwing"
def TX9 : u_T := fun k => match k with
  | 0 => ("PointsThrow$Throwing", "costs", "[B", false)
  | 1 => ("PointsThrow$Throwing", "rowOf", "[I", true)
  | 2 => ("PointsThrow$Throwing", "weights", "[I", true)
  | 3 => ("PointsThrow$Throwing", "yard", "LPointsThrow$Yard;", false)
  | _ => ("PointsThrow$Throwing", "codes", "I", false)
def tyX9 : Nat → FieldType := fun k => match k with
  | 0 => .array .byte
  | 1 => .array .int
  | 2 => .array .int
  | 3 => .object "PointsThrow$Yard"
  | _ => .int
abbrev wsX90 : List Cond := u_ws RX9 TX9 5
theorem nmX9 : ∀ a, a < 5 → ∀ b, b < 5 → a ≠ b → (TX9 a).2.1 ≠ (TX9 b).2.1 := by decide +kernel
theorem tyX9_ok : ∀ k, k < 5 → parseFieldDescriptor (TX9 k).2.2.1 = some (tyX9 k) := by decide +kernel
abbrev cX9_init : ByteArray := prog_11_method_1_code
def yX9_init : MethodName := ⟨RX9, "<init>", "()V"⟩
abbrev cX9_fewest : ByteArray := prog_11_method_2_code
def yX9_fewest : MethodName := ⟨RX9, "fewest", "(LPointsThrow$Yard;[I[II)I"⟩
abbrev cX9_encode : ByteArray := prog_11_method_3_code
def yX9_encode : MethodName := ⟨RX9, "encode", "([I)I"⟩
abbrev cX9_makeRoom : ByteArray := prog_11_method_4_code
def yX9_makeRoom : MethodName := ⟨RX9, "makeRoom", "(I)V"⟩
abbrev cX9_leave : ByteArray := prog_11_method_5_code
def yX9_leave : MethodName := ⟨RX9, "leave", "(II)V"⟩
abbrev cX9_goOn : ByteArray := prog_11_method_6_code
def yX9_goOn : MethodName := ⟨RX9, "goOn", "(IIIII)V"⟩
abbrev cX9_offer : ByteArray := prog_11_method_7_code
def yX9_offer : MethodName := ⟨RX9, "offer", "(III)V"⟩
abbrev cX9_startNext : ByteArray := prog_11_method_8_code
def yX9_startNext : MethodName := ⟨RX9, "startNext", "(I)V"⟩
def RX10 : String := "PointsThrow$Yard"
def TX10 : u_T := fun k => match k with
  | 0 => ("PointsThrow$Yard", "points", "[LPointsThrow$Point;", true)
  | 1 => ("PointsThrow$Yard", "size", "I", true)
  | 2 => ("PointsThrow$Yard", "isStraight", "Z", true)
  | 3 => ("PointsThrow$Yard", "order", "[I", true)
  | 4 => ("PointsThrow$Yard", "places", "[I", true)
  | 5 => ("PointsThrow$Yard", "nextStands", "[I", true)
  | 6 => ("PointsThrow$Yard", "leadingTo", "[I", true)
  | _ => ("PointsThrow$Yard", "passing", "[I", true)
def tyX10 : Nat → FieldType := fun k => match k with
  | 0 => .array (.object "PointsThrow$Point")
  | 1 => .int
  | 2 => .boolean
  | 3 => .array .int
  | 4 => .array .int
  | 5 => .array .int
  | 6 => .array .int
  | _ => .array .int
abbrev wsX100 : List Cond := u_ws RX10 TX10 8
theorem nmX10 : ∀ a, a < 8 → ∀ b, b < 8 → a ≠ b → (TX10 a).2.1 ≠ (TX10 b).2.1 := by decide +kernel
theorem tyX10_ok : ∀ k, k < 8 → parseFieldDescriptor (TX10 k).2.2.1 = some (tyX10 k) := by decide +kernel
abbrev cX10_init : ByteArray := prog_12_method_1_code
def yX10_init : MethodName := ⟨RX10, "<init>", "([LPointsThrow$Point;)V"⟩
abbrev cX10_pass : ByteArray := prog_12_method_2_code
def yX10_pass : MethodName := ⟨RX10, "pass", "(I[II)I"⟩
abbrev cX10_placeFrom : ByteArray := prog_12_method_3_code
def yX10_placeFrom : MethodName := ⟨RX10, "placeFrom", "(II)I"⟩
abbrev cX10_standAfter : ByteArray := prog_12_method_4_code
def yX10_standAfter : MethodName := ⟨RX10, "standAfter", "(II)I"⟩
abbrev cX10_canLead : ByteArray := prog_12_method_5_code
def yX10_canLead : MethodName := ⟨RX10, "canLead", "(II)Z"⟩
abbrev cX10_tellStands : ByteArray := prog_12_method_6_code
def yX10_tellStands : MethodName := ⟨RX10, "tellStands", "(I)V"⟩
abbrev cX10_tellSidings : ByteArray := prog_12_method_7_code
def yX10_tellSidings : MethodName := ⟨RX10, "tellSidings", "(I)V"⟩
abbrev cX10_countOn : ByteArray := prog_12_method_8_code
def yX10_countOn : MethodName := ⟨RX10, "countOn", "(I[I)V"⟩
abbrev cX10_countBack : ByteArray := prog_12_method_9_code
def yX10_countBack : MethodName := ⟨RX10, "countBack", "(I[I)V"⟩
abbrev cX10_startCount : ByteArray := prog_12_method_10_code
def yX10_startCount : MethodName := ⟨RX10, "startCount", "(I)V"⟩
abbrev cX10_share : ByteArray := prog_12_method_11_code
def yX10_share : MethodName := ⟨RX10, "share", "(II)V"⟩
abbrev cX10_nextOf : ByteArray := prog_12_method_12_code
def yX10_nextOf : MethodName := ⟨RX10, "nextOf", "(I)I"⟩
abbrev cX10_reachedFrom : ByteArray := prog_12_method_13_code
def yX10_reachedFrom : MethodName := ⟨RX10, "reachedFrom", "(I)I"⟩
abbrev cX10_hasLoop : ByteArray := prog_12_method_14_code
def yX10_hasLoop : MethodName := ⟨RX10, "hasLoop", "(I)Z"⟩
abbrev cX10_ordered : ByteArray := prog_12_method_15_code
def yX10_ordered : MethodName := ⟨RX10, "ordered", "(I)[I"⟩
def RX11 : String := "PointsThrow"
def TX11 : u_T := fun k => match k with
  | 0 => ("PointsThrow", "page", "LPointsThrow$Page;", true)
  | 1 => ("PointsThrow", "scene", "LPointsThrow$Scene;", true)
  | 2 => ("PointsThrow", "kept", "LPointsThrow$Scene;", true)
  | 3 => ("PointsThrow", "roller", "LPointsThrow$Roller;", true)
  | 4 => ("PointsThrow", "beginning", "LPointsThrow$Beginning;", true)
  | 5 => ("PointsThrow", "throwing", "LPointsThrow$Throwing;", true)
  | 6 => ("PointsThrow", "suspects", "LPointsThrow$Suspects;", true)
  | 7 => ("PointsThrow", "wanted", "[I", true)
  | 8 => ("PointsThrow", "spare", "[I", true)
  | 9 => ("PointsThrow", "emptyAhead", "[I", true)
  | 10 => ("PointsThrow", "theYard", "LPointsThrow$Yard;", false)
  | 11 => ("PointsThrow", "isKept", "Z", false)
  | 12 => ("PointsThrow", "wantedCount", "I", false)
  | 13 => ("PointsThrow", "yardsRead", "I", false)
  | _ => ("PointsThrow", "plansDone", "I", false)
def tyX11 : Nat → FieldType := fun k => match k with
  | 0 => .object "PointsThrow$Page"
  | 1 => .object "PointsThrow$Scene"
  | 2 => .object "PointsThrow$Scene"
  | 3 => .object "PointsThrow$Roller"
  | 4 => .object "PointsThrow$Beginning"
  | 5 => .object "PointsThrow$Throwing"
  | 6 => .object "PointsThrow$Suspects"
  | 7 => .array .int
  | 8 => .array .int
  | 9 => .array .int
  | 10 => .object "PointsThrow$Yard"
  | 11 => .boolean
  | 12 => .int
  | 13 => .int
  | _ => .int
abbrev wsX110 : List Cond := u_ws RX11 TX11 15
theorem nmX11 : ∀ a, a < 15 → ∀ b, b < 15 → a ≠ b → (TX11 a).2.1 ≠ (TX11 b).2.1 := by decide +kernel
theorem tyX11_ok : ∀ k, k < 15 → parseFieldDescriptor (TX11 k).2.2.1 = some (tyX11 k) := by decide +kernel
abbrev cX11_init : ByteArray := prog_1_method_1_code
def yX11_init : MethodName := ⟨RX11, "<init>", "()V"⟩
abbrev cX11_letters : ByteArray := prog_1_method_2_code
def yX11_letters : MethodName := ⟨RX11, "letters", "(J)I"⟩
abbrev cX11_blank : ByteArray := prog_1_method_3_code
def yX11_blank : MethodName := ⟨RX11, "blank", "()I"⟩
abbrev cX11_fault : ByteArray := prog_1_method_4_code
def yX11_fault : MethodName := ⟨RX11, "fault", "()I"⟩
abbrev cX11_yard : ByteArray := prog_1_method_5_code
def yX11_yard : MethodName := ⟨RX11, "yard", "()I"⟩
abbrev cX11_about : ByteArray := prog_1_method_6_code
def yX11_about : MethodName := ⟨RX11, "about", "(II)I"⟩
abbrev cX11_as : ByteArray := prog_1_method_7_code
def yX11_as : MethodName := ⟨RX11, "as", "(II)I"⟩
abbrev cX11_lever : ByteArray := prog_1_method_8_code
def yX11_lever : MethodName := ⟨RX11, "lever", "(II)I"⟩
abbrev cX11_anew : ByteArray := prog_1_method_9_code
def yX11_anew : MethodName := ⟨RX11, "anew", "()I"⟩
abbrev cX11_down : ByteArray := prog_1_method_10_code
def yX11_down : MethodName := ⟨RX11, "down", "()I"⟩
abbrev cX11_many : ByteArray := prog_1_method_11_code
def yX11_many : MethodName := ⟨RX11, "many", "(I)I"⟩
abbrev cX11_truck : ByteArray := prog_1_method_12_code
def yX11_truck : MethodName := ⟨RX11, "truck", "(II)I"⟩
abbrev cX11_moves : ByteArray := prog_1_method_13_code
def yX11_moves : MethodName := ⟨RX11, "moves", "()I"⟩
abbrev cX11_round : ByteArray := prog_1_method_14_code
def yX11_round : MethodName := ⟨RX11, "round", "()I"⟩
abbrev cX11_straight : ByteArray := prog_1_method_15_code
def yX11_straight : MethodName := ⟨RX11, "straight", "()I"⟩
abbrev cX11_nth : ByteArray := prog_1_method_16_code
def yX11_nth : MethodName := ⟨RX11, "nth", "(I)I"⟩
abbrev cX11_behind : ByteArray := prog_1_method_17_code
def yX11_behind : MethodName := ⟨RX11, "behind", "(II)I"⟩
abbrev cX11_ago : ByteArray := prog_1_method_18_code
def yX11_ago : MethodName := ⟨RX11, "ago", "(II)I"⟩
abbrev cX11_want : ByteArray := prog_1_method_19_code
def yX11_want : MethodName := ⟨RX11, "want", "(I)I"⟩
abbrev cX11_clear : ByteArray := prog_1_method_20_code
def yX11_clear : MethodName := ⟨RX11, "clear", "()I"⟩
abbrev cX11_begin : ByteArray := prog_1_method_21_code
def yX11_begin : MethodName := ⟨RX11, "begin", "(I)I"⟩
abbrev cX11_hands : ByteArray := prog_1_method_22_code
def yX11_hands : MethodName := ⟨RX11, "hands", "()I"⟩
abbrev cX11_empty : ByteArray := prog_1_method_23_code
def yX11_empty : MethodName := ⟨RX11, "empty", "(I)I"⟩
abbrev cX11_which : ByteArray := prog_1_method_24_code
def yX11_which : MethodName := ⟨RX11, "which", "()I"⟩
abbrev cX11_noticed : ByteArray := prog_1_method_25_code
def yX11_noticed : MethodName := ⟨RX11, "noticed", "()I"⟩
abbrev cX11_apart : ByteArray := prog_1_method_26_code
def yX11_apart : MethodName := ⟨RX11, "apart", "()I"⟩
abbrev cX11_image : ByteArray := prog_1_method_27_code
def yX11_image : MethodName := ⟨RX11, "image", "()I"⟩
abbrev cX11_restore : ByteArray := prog_1_method_28_code
def yX11_restore : MethodName := ⟨RX11, "restore", "()I"⟩
abbrev cX11_count : ByteArray := prog_1_method_29_code
def yX11_count : MethodName := ⟨RX11, "count", "(I)I"⟩
abbrev cX11_digest : ByteArray := prog_1_method_30_code
def yX11_digest : MethodName := ⟨RX11, "digest", "()J"⟩
abbrev cX11_digestOfSwitches : ByteArray := prog_1_method_31_code
def yX11_digestOfSwitches : MethodName := ⟨RX11, "digestOfSwitches", "(J)J"⟩
abbrev cX11_digestOfSidings : ByteArray := prog_1_method_32_code
def yX11_digestOfSidings : MethodName := ⟨RX11, "digestOfSidings", "(J)J"⟩
abbrev cX11_digestOfTrials : ByteArray := prog_1_method_33_code
def yX11_digestOfTrials : MethodName := ⟨RX11, "digestOfTrials", "(J)J"⟩
abbrev cX11_isPoint : ByteArray := prog_1_method_34_code
def yX11_isPoint : MethodName := ⟨RX11, "isPoint", "(I)Z"⟩
abbrev cX11_isStraightYard : ByteArray := prog_1_method_35_code
def yX11_isStraightYard : MethodName := ⟨RX11, "isStraightYard", "()Z"⟩
abbrev cX11_mayPlan : ByteArray := prog_1_method_36_code
def yX11_mayPlan : MethodName := ⟨RX11, "mayPlan", "()Z"⟩
abbrev cX11_spareStands : ByteArray := prog_1_method_37_code
def yX11_spareStands : MethodName := ⟨RX11, "spareStands", "()[I"⟩
abbrev cX11_findEmptyAhead : ByteArray := prog_1_method_38_code
def yX11_findEmptyAhead : MethodName := ⟨RX11, "findEmptyAhead", "()V"⟩
abbrev cX11_isExplainedBy : ByteArray := prog_1_method_39_code
def yX11_isExplainedBy : MethodName := ⟨RX11, "isExplainedBy", "(I)Z"⟩
abbrev cX11_isSiding : ByteArray := prog_1_method_40_code
def yX11_isSiding : MethodName := ⟨RX11, "isSiding", "(I)Z"⟩
abbrev cX11_canBeTakenAs : ByteArray := prog_1_method_41_code
def yX11_canBeTakenAs : MethodName := ⟨RX11, "canBeTakenAs", "(LPointsThrow$Point;I)Z"⟩
def RX12 : String := "PointsThrowModel"
def TX12 : u_T := fun k => match k with
  | 0 => ("PointsThrowModel", "page", "[I", true)
  | 1 => ("PointsThrowModel", "pageMany", "I", false)
  | 2 => ("PointsThrowModel", "readMany", "I", false)
  | 3 => ("PointsThrowModel", "readWays", "I", false)
  | 4 => ("PointsThrowModel", "isSigned", "Z", false)
  | 5 => ("PointsThrowModel", "readMost", "I", false)
  | 6 => ("PointsThrowModel", "readKinds", "[I", true)
  | 7 => ("PointsThrowModel", "readCount", "[I", true)
  | 8 => ("PointsThrowModel", "readRows", "[I", true)
  | 9 => ("PointsThrowModel", "points", "I", false)
  | 10 => ("PointsThrowModel", "yardsRead", "I", false)
  | 11 => ("PointsThrowModel", "kinds", "[I", true)
  | 12 => ("PointsThrowModel", "wayMany", "[I", true)
  | 13 => ("PointsThrowModel", "ways", "[I", true)
  | 14 => ("PointsThrowModel", "stands", "[I", true)
  | 15 => ("PointsThrowModel", "trucks", "I", false)
  | 16 => ("PointsThrowModel", "sidings", "[I", true)
  | 17 => ("PointsThrowModel", "tried", "[I", true)
  | 18 => ("PointsThrowModel", "ahead", "[I", true)
  | 19 => ("PointsThrowModel", "placeNow", "I", false)
  | 20 => ("PointsThrowModel", "movesNow", "I", false)
  | 21 => ("PointsThrowModel", "counts", "[I", true)
  | 22 => ("PointsThrowModel", "wanted", "I", false)
  | 23 => ("PointsThrowModel", "wants", "[I", true)
  | 24 => ("PointsThrowModel", "done", "I", false)
  | 25 => ("PointsThrowModel", "bestStands", "[I", true)
  | 26 => ("PointsThrowModel", "throwsNow", "[I", true)
  | 27 => ("PointsThrowModel", "throwsNext", "[I", true)
  | 28 => ("PointsThrowModel", "goes", "[I", true)
  | 29 => ("PointsThrowModel", "keptTrucks", "I", false)
  | 30 => ("PointsThrowModel", "keptYard", "I", false)
  | 31 => ("PointsThrowModel", "keptStands", "[I", true)
  | 32 => ("PointsThrowModel", "keptSidings", "[I", true)
  | _ => ("PointsThrowModel", "hash", "J", false)
def tyX12 : Nat → FieldType := fun k => match k with
  | 0 => .array .int
  | 1 => .int
  | 2 => .int
  | 3 => .int
  | 4 => .boolean
  | 5 => .int
  | 6 => .array .int
  | 7 => .array .int
  | 8 => .array .int
  | 9 => .int
  | 10 => .int
  | 11 => .array .int
  | 12 => .array .int
  | 13 => .array .int
  | 14 => .array .int
  | 15 => .int
  | 16 => .array .int
  | 17 => .array .int
  | 18 => .array .int
  | 19 => .int
  | 20 => .int
  | 21 => .array .int
  | 22 => .int
  | 23 => .array .int
  | 24 => .int
  | 25 => .array .int
  | 26 => .array .int
  | 27 => .array .int
  | 28 => .array .int
  | 29 => .int
  | 30 => .int
  | 31 => .array .int
  | 32 => .array .int
  | _ => .long
abbrev wsX120 : List Cond := u_ws RX12 TX12 34
theorem nmX12 : ∀ a, a < 34 → ∀ b, b < 34 → a ≠ b → (TX12 a).2.1 ≠ (TX12 b).2.1 := by decide +kernel
theorem tyX12_ok : ∀ k, k < 34 → parseFieldDescriptor (TX12 k).2.2.1 = some (tyX12 k) := by decide +kernel
abbrev cX12_init : ByteArray := prog_14_method_1_code
def yX12_init : MethodName := ⟨RX12, "<init>", "()V"⟩
abbrev cX12_in : ByteArray := prog_14_method_2_code
def yX12_in : MethodName := ⟨RX12, "in", "(JJJ)Z"⟩
abbrev cX12_letters : ByteArray := prog_14_method_3_code
def yX12_letters : MethodName := ⟨RX12, "letters", "(J)I"⟩
abbrev cX12_blank : ByteArray := prog_14_method_4_code
def yX12_blank : MethodName := ⟨RX12, "blank", "()I"⟩
abbrev cX12_signOf : ByteArray := prog_14_method_5_code
def yX12_signOf : MethodName := ⟨RX12, "signOf", "(I)I"⟩
abbrev cX12_go : ByteArray := prog_14_method_6_code
def yX12_go : MethodName := ⟨RX12, "go", "(I)Z"⟩
abbrev cX12_faultOf : ByteArray := prog_14_method_7_code
def yX12_faultOf : MethodName := ⟨RX12, "faultOf", "()I"⟩
abbrev cX12_fault : ByteArray := prog_14_method_8_code
def yX12_fault : MethodName := ⟨RX12, "fault", "()I"⟩
abbrev cX12_yard : ByteArray := prog_14_method_9_code
def yX12_yard : MethodName := ⟨RX12, "yard", "()I"⟩
abbrev cX12_isPoint : ByteArray := prog_14_method_10_code
def yX12_isPoint : MethodName := ⟨RX12, "isPoint", "(I)Z"⟩
abbrev cX12_lacks : ByteArray := prog_14_method_11_code
def yX12_lacks : MethodName := ⟨RX12, "lacks", "()Z"⟩
abbrev cX12_standMany : ByteArray := prog_14_method_12_code
def yX12_standMany : MethodName := ⟨RX12, "standMany", "(I)I"⟩
abbrev cX12_wayAt : ByteArray := prog_14_method_13_code
def yX12_wayAt : MethodName := ⟨RX12, "wayAt", "(II)I"⟩
abbrev cX12_turned : ByteArray := prog_14_method_14_code
def yX12_turned : MethodName := ⟨RX12, "turned", "(II)I"⟩
abbrev cX12_aboutOf : ByteArray := prog_14_method_15_code
def yX12_aboutOf : MethodName := ⟨RX12, "aboutOf", "(II)I"⟩
abbrev cX12_about : ByteArray := prog_14_method_16_code
def yX12_about : MethodName := ⟨RX12, "about", "(II)I"⟩
abbrev cX12_as : ByteArray := prog_14_method_17_code
def yX12_as : MethodName := ⟨RX12, "as", "(II)I"⟩
abbrev cX12_leastStand : ByteArray := prog_14_method_18_code
def yX12_leastStand : MethodName := ⟨RX12, "leastStand", "(II)I"⟩
abbrev cX12_lever : ByteArray := prog_14_method_19_code
def yX12_lever : MethodName := ⟨RX12, "lever", "(II)I"⟩
abbrev cX12_anew : ByteArray := prog_14_method_20_code
def yX12_anew : MethodName := ⟨RX12, "anew", "()I"⟩
abbrev cX12_layTried : ByteArray := prog_14_method_21_code
def yX12_layTried : MethodName := ⟨RX12, "layTried", "()V"⟩
abbrev cX12_move : ByteArray := prog_14_method_22_code
def yX12_move : MethodName := ⟨RX12, "move", "(I)V"⟩
abbrev cX12_goTruck : ByteArray := prog_14_method_23_code
def yX12_goTruck : MethodName := ⟨RX12, "goTruck", "(I)I"⟩
abbrev cX12_down : ByteArray := prog_14_method_24_code
def yX12_down : MethodName := ⟨RX12, "down", "()I"⟩
abbrev cX12_manyIn : ByteArray := prog_14_method_25_code
def yX12_manyIn : MethodName := ⟨RX12, "manyIn", "(I)I"⟩
abbrev cX12_many : ByteArray := prog_14_method_26_code
def yX12_many : MethodName := ⟨RX12, "many", "(I)I"⟩
abbrev cX12_truck : ByteArray := prog_14_method_27_code
def yX12_truck : MethodName := ⟨RX12, "truck", "(II)I"⟩
abbrev cX12_movesOf : ByteArray := prog_14_method_28_code
def yX12_movesOf : MethodName := ⟨RX12, "movesOf", "()I"⟩
abbrev cX12_moves : ByteArray := prog_14_method_29_code
def yX12_moves : MethodName := ⟨RX12, "moves", "()I"⟩
abbrev cX12_round : ByteArray := prog_14_method_30_code
def yX12_round : MethodName := ⟨RX12, "round", "()I"⟩
abbrev cX12_reach : ByteArray := prog_14_method_31_code
def yX12_reach : MethodName := ⟨RX12, "reach", "(I)I"⟩
abbrev cX12_isStraight : ByteArray := prog_14_method_32_code
def yX12_isStraight : MethodName := ⟨RX12, "isStraight", "()Z"⟩
abbrev cX12_straight : ByteArray := prog_14_method_33_code
def yX12_straight : MethodName := ⟨RX12, "straight", "()I"⟩
abbrev cX12_isReady : ByteArray := prog_14_method_34_code
def yX12_isReady : MethodName := ⟨RX12, "isReady", "(II)Z"⟩
abbrev cX12_send : ByteArray := prog_14_method_35_code
def yX12_send : MethodName := ⟨RX12, "send", "(II)V"⟩
abbrev cX12_layBehind : ByteArray := prog_14_method_36_code
def yX12_layBehind : MethodName := ⟨RX12, "layBehind", "(I)V"⟩
abbrev cX12_nth : ByteArray := prog_14_method_37_code
def yX12_nth : MethodName := ⟨RX12, "nth", "(I)I"⟩
abbrev cX12_behind : ByteArray := prog_14_method_38_code
def yX12_behind : MethodName := ⟨RX12, "behind", "(II)I"⟩
abbrev cX12_ago : ByteArray := prog_14_method_39_code
def yX12_ago : MethodName := ⟨RX12, "ago", "(II)I"⟩
abbrev cX12_want : ByteArray := prog_14_method_40_code
def yX12_want : MethodName := ⟨RX12, "want", "(I)I"⟩
abbrev cX12_clear : ByteArray := prog_14_method_41_code
def yX12_clear : MethodName := ⟨RX12, "clear", "()I"⟩
abbrev cX12_isTrue : ByteArray := prog_14_method_42_code
def yX12_isTrue : MethodName := ⟨RX12, "isTrue", "(I)Z"⟩
abbrev cX12_standsInAll : ByteArray := prog_14_method_43_code
def yX12_standsInAll : MethodName := ⟨RX12, "standsInAll", "()I"⟩
abbrev cX12_layStands : ByteArray := prog_14_method_44_code
def yX12_layStands : MethodName := ⟨RX12, "layStands", "(I)V"⟩
abbrev cX12_codeOf : ByteArray := prog_14_method_45_code
def yX12_codeOf : MethodName := ⟨RX12, "codeOf", "()I"⟩
abbrev cX12_begin : ByteArray := prog_14_method_46_code
def yX12_begin : MethodName := ⟨RX12, "begin", "(I)I"⟩
abbrev cX12_throwAll : ByteArray := prog_14_method_47_code
def yX12_throwAll : MethodName := ⟨RX12, "throwAll", "(I)V"⟩
abbrev cX12_hands : ByteArray := prog_14_method_48_code
def yX12_hands : MethodName := ⟨RX12, "hands", "()I"⟩
abbrev cX12_emptyOf : ByteArray := prog_14_method_49_code
def yX12_emptyOf : MethodName := ⟨RX12, "emptyOf", "(I)I"⟩
abbrev cX12_empty : ByteArray := prog_14_method_50_code
def yX12_empty : MethodName := ⟨RX12, "empty", "(I)I"⟩
abbrev cX12_which : ByteArray := prog_14_method_51_code
def yX12_which : MethodName := ⟨RX12, "which", "()I"⟩
abbrev cX12_doesTurn : ByteArray := prog_14_method_52_code
def yX12_doesTurn : MethodName := ⟨RX12, "doesTurn", "(I)Z"⟩
abbrev cX12_layGoes : ByteArray := prog_14_method_53_code
def yX12_layGoes : MethodName := ⟨RX12, "layGoes", "()V"⟩
abbrev cX12_unlike : ByteArray := prog_14_method_54_code
def yX12_unlike : MethodName := ⟨RX12, "unlike", "(II)I"⟩
abbrev cX12_noticedOf : ByteArray := prog_14_method_55_code
def yX12_noticedOf : MethodName := ⟨RX12, "noticedOf", "(Z)I"⟩
abbrev cX12_noticed : ByteArray := prog_14_method_56_code
def yX12_noticed : MethodName := ⟨RX12, "noticed", "()I"⟩
abbrev cX12_apart : ByteArray := prog_14_method_57_code
def yX12_apart : MethodName := ⟨RX12, "apart", "()I"⟩
abbrev cX12_image : ByteArray := prog_14_method_58_code
def yX12_image : MethodName := ⟨RX12, "image", "()I"⟩
abbrev cX12_restore : ByteArray := prog_14_method_59_code
def yX12_restore : MethodName := ⟨RX12, "restore", "()I"⟩
abbrev cX12_countOf : ByteArray := prog_14_method_60_code
def yX12_countOf : MethodName := ⟨RX12, "countOf", "(I)I"⟩
abbrev cX12_count : ByteArray := prog_14_method_61_code
def yX12_count : MethodName := ⟨RX12, "count", "(I)I"⟩
abbrev cX12_say : ByteArray := prog_14_method_62_code
def yX12_say : MethodName := ⟨RX12, "say", "(J)V"⟩
abbrev cX12_sayYard : ByteArray := prog_14_method_63_code
def yX12_sayYard : MethodName := ⟨RX12, "sayYard", "()V"⟩
abbrev cX12_digest : ByteArray := prog_14_method_64_code
def yX12_digest : MethodName := ⟨RX12, "digest", "()J"⟩
def RJ6 : String := "java/lang/Integer"
def TJ6 : u_T := fun k => match k with
  | _ => ("", "", "", false)
def tyJ6 : Nat → FieldType := fun k => match k with
  | _ => .int
abbrev wsJ60 : List Cond := u_ws RJ6 TJ6 0
theorem nmJ6 : ∀ a, a < 0 → ∀ b, b < 0 → a ≠ b → (TJ6 a).2.1 ≠ (TJ6 b).2.1 := by decide +kernel
theorem tyJ6_ok : ∀ k, k < 0 → parseFieldDescriptor (TJ6 k).2.2.1 = some (tyJ6 k) := by decide +kernel
abbrev cJ6_bitCount_0f7a4 : ByteArray := prog_15_method_49_code
def yJ6_bitCount_0f7a4 : MethodName := ⟨RJ6, "bitCount", "(I)I"⟩
def RJ9 : String := "java/lang/Math"
def TJ9 : u_T := fun k => match k with
  | _ => ("", "", "", false)
def tyJ9 : Nat → FieldType := fun k => match k with
  | _ => .int
abbrev wsJ90 : List Cond := u_ws RJ9 TJ9 0
theorem nmJ9 : ∀ a, a < 0 → ∀ b, b < 0 → a ≠ b → (TJ9 a).2.1 ≠ (TJ9 b).2.1 := by decide +kernel
theorem tyJ9_ok : ∀ k, k < 0 → parseFieldDescriptor (TJ9 k).2.2.1 = some (tyJ9 k) := by decide +kernel
abbrev cJ9_floorMod_7cf53 : ByteArray := prog_16_method_50_code
def yJ9_floorMod_7cf53 : MethodName := ⟨RJ9, "floorMod", "(II)I"⟩
abbrev cJ9_max_7cf53 : ByteArray := prog_16_method_65_code
def yJ9_max_7cf53 : MethodName := ⟨RJ9, "max", "(II)I"⟩
abbrev cJ9_min_7cf53 : ByteArray := prog_16_method_69_code
def yJ9_min_7cf53 : MethodName := ⟨RJ9, "min", "(II)I"⟩
def RJ10 : String := "java/lang/System"
def TJ10 : u_T := fun k => match k with
  | _ => ("", "", "", false)
def tyJ10 : Nat → FieldType := fun k => match k with
  | _ => .int
abbrev wsJ100 : List Cond := u_ws RJ10 TJ10 0
theorem nmJ10 : ∀ a, a < 0 → ∀ b, b < 0 → a ≠ b → (TJ10 a).2.1 ≠ (TJ10 b).2.1 := by decide +kernel
theorem tyJ10_ok : ∀ k, k < 0 → parseFieldDescriptor (TJ10 k).2.2.1 = some (tyJ10 k) := by decide +kernel
def RJ7 : String := "java/util/Arrays"
def TJ7 : u_T := fun k => match k with
  | _ => ("", "", "", false)
def tyJ7 : Nat → FieldType := fun k => match k with
  | _ => .int
abbrev wsJ70 : List Cond := u_ws RJ7 TJ7 0
theorem nmJ7 : ∀ a, a < 0 → ∀ b, b < 0 → a ≠ b → (TJ7 a).2.1 ≠ (TJ7 b).2.1 := by decide +kernel
theorem tyJ7_ok : ∀ k, k < 0 → parseFieldDescriptor (TJ7 k).2.2.1 = some (tyJ7 k) := by decide +kernel
abbrev cJ7_fill_53178 : ByteArray := prog_18_method_103_code
def yJ7_fill_53178 : MethodName := ⟨RJ7, "fill", "([II)V"⟩
abbrev cJ7_fill_031fb : ByteArray := prog_18_method_109_code
def yJ7_fill_031fb : MethodName := ⟨RJ7, "fill", "([BB)V"⟩
def RL : String := "PointsThrowLaw"
abbrev cL_law : ByteArray := code
def yL_law : MethodName := ⟨RL, "law", "([I)Z"⟩
abbrev vwCl : List vw_C := [(RX0, TX0, 8), (RX1, TX1, 1), (RX2, TX2, 1), (RX3, TX3, 2), (RX4, TX4, 1), (RX5, TX5, 2), (RX6, TX6, 3), (RX7, TX7, 5), (RX8, TX8, 1), (RX9, TX9, 5), (RX10, TX10, 8), (RX11, TX11, 15), (RX12, TX12, 34)]
end
section
/-! A SMALL MACHINE: methods run over an abstract heap (a row of tags and lengths, and three functions: ints, references, longs). Its steps are sound for the machine of the Statement (part 05). -/
abbrev mjM : Type := List (Nat × Nat)
abbrev mjI : Type := Nat → Nat → Int32
abbrev mjR : Type := Nat → Nat → Option Nat
abbrev mjJ : Type := Nat → Nat → Int64
abbrev mjH : Type := mjM × mjI × mjR × mjJ
abbrev mjC : Type := Nat × List (Option Value) × List Value × mjH
abbrev mjE : Type := Instr × Nat × List Nat
def mj_ui (f : mjI) (a i : Nat) (x : Int32) : mjI := fun b => if b = a then upd (f a) i x else f b
def mj_ur (f : mjR) (a i : Nat) (x : Option Nat) : mjR := fun b => if b = a then va_up (f a) i x else f b
def mj_uj (f : mjJ) (a i : Nat) (x : Int64) : mjJ := fun b => if b = a then vp_updL (f a) i x else f b
def mj_row (f : mjI) (a : Nat) (g : Nat → Int32) : mjI := fun b => if b = a then g else f b
def mj_rowR (f : mjR) (a : Nat) (g : Nat → Option Nat) : mjR := fun b => if b = a then g else f b
def mj_rowJ (f : mjJ) (a : Nat) (g : Nat → Int64) : mjJ := fun b => if b = a then g else f b
def mj_rows (f : mjI) (a n : Nat) : mjI := fun b => if a ≤ b ∧ b < a + n then (fun _ => 0) else f b
/-! locals -/
def mj_get : Nat → List (Option Value) → Option Value
  | _, [] => none
  | 0, x :: _ => x
  | i + 1, _ :: xs => mj_get i xs
def mj_set {α : Type} (v : Option Value) : Nat → List (Option Value) → (List (Option Value) → Option α) → Option α
  | _, [], _ => none
  | 0, _ :: xs, k => k (v :: xs)
  | i + 1, x :: xs, k => mj_set v i xs (fun ys => k (x :: ys))
def mj_lg : Option Value → Bool
  | some (.long _) => false
  | some (.double _) => false
  | _ => true
def mj_pl : Nat → List (Option Value) → Bool
  | _, [] => true
  | 0, _ => true
  | 1, x :: _ => mj_lg x
  | i + 2, _ :: xs => mj_pl (i + 1) xs
def mj_mt : Nat → mjM → Option (Nat × Nat)
  | _, [] => none
  | 0, x :: _ => some x
  | i + 1, _ :: xs => mj_mt i xs
def mj_at : Nat → List (Option mjE) → Option mjE
  | _, [] => none
  | 0, x :: _ => x
  | i + 1, _ :: xs => mj_at i xs
def mj_any (t : Nat) : List Nat → Bool
  | [] => false
  | c :: cs => match Nat.beq c t with
    | true => true
    | false => mj_any t cs
def mj_sel (t : Nat) : List Nat → Option Nat
  | c :: m :: cs => match Nat.beq c t with
    | true => some m
    | false => mj_sel t cs
  | _ => none
def mj_pop {α : Type} : Nat → List Value → List Value → (List Value → List Value → Option α) → Option α
  | 0, st, acc, k => k acc st
  | n + 1, v :: st, acc, k => mj_pop n st (v :: acc) k
  | _ + 1, [], _, _ => none
def mj_sum : List Value → Nat
  | [] => 0
  | v :: st => v.category + mj_sum st
abbrev mjO : Type := Option (Option Prop × mjC)
def mj_st1 (n i : Nat) (v : Value) (ls : List (Option Value)) (st : List Value) (h : mjH) : mjO := match mj_pl i ls with
  | true => mj_set (some v) i ls (fun ls' => some (none, n, ls', st, h))
  | false => none
def mj_st2 (n i : Nat) (v : Value) (ls : List (Option Value)) (st : List Value) (h : mjH) : mjO := match mj_pl i ls with
  | true => mj_set (some v) i ls (fun l1 => mj_set none (i + 1) l1 (fun l2 => some (none, n, l2, st, h)))
  | false => none
def mj_ild (n i : Nat) (ls : List (Option Value)) (st : List Value) (h : mjH) : mjO := match mj_get i ls with
  | some (.int x) => some (none, n, ls, .int x :: st, h)
  | _ => none
def mj_lld (n i : Nat) (ls : List (Option Value)) (st : List Value) (h : mjH) : mjO := match mj_get i ls with
  | some (.long x) => some (none, n, ls, .long x :: st, h)
  | _ => none
def mj_ald (n i : Nat) (ls : List (Option Value)) (st : List Value) (h : mjH) : mjO := match mj_get i ls with
  | some (.ref x) => some (none, n, ls, .ref x :: st, h)
  | some .null => some (none, n, ls, .null :: st, h)
  | _ => none
def mj_ist (n i : Nat) (ls : List (Option Value)) (st : List Value) (h : mjH) : mjO := match st with
  | .int x :: st => mj_st1 n i (.int x) ls st h
  | _ => none
def mj_lst (n i : Nat) (ls : List (Option Value)) (st : List Value) (h : mjH) : mjO := match st with
  | .long x :: st => mj_st2 n i (.long x) ls st h
  | _ => none
def mj_ast (n i : Nat) (ls : List (Option Value)) (st : List Value) (h : mjH) : mjO := match st with
  | .ref x :: st => mj_st1 n i (.ref x) ls st h
  | .null :: st => mj_st1 n i .null ls st h
  | _ => none
def mj_cst (n : Nat) (d : List Nat) (v : Int32) (ls : List (Option Value)) (st : List Value) (h : mjH) : mjO := match d with
  | [k] => some (none, n, ls, .int (nI k) :: st, h)
  | _ => some (none, n, ls, .int v :: st, h)
def mj_i2 (n : Nat) (f : Int32 → Int32 → Int32) (ls : List (Option Value)) (st : List Value) (h : mjH) : mjO := match st with
  | .int y :: .int x :: st => some (none, n, ls, .int (f x y) :: st, h)
  | _ => none
def mj_l2 (n : Nat) (f : Int64 → Int64 → Int64) (ls : List (Option Value)) (st : List Value) (h : mjH) : mjO := match st with
  | .long y :: .long x :: st => some (none, n, ls, .long (f x y) :: st, h)
  | _ => none
/-! fields: data = place, type (0 int, 1 boolean, 2 reference, 3 long), tags -/
def mj_gf (n : Nat) (d : List Nat) (ls : List (Option Value)) (st : List Value) (h : mjH) : mjO := match d, st with
  | k :: ty :: cs, .ref a :: st => match mj_mt a h.1 with
    | some (t, _) => match mj_any t cs with
      | true => match ty with
        | 0 => some (none, n, ls, .int (h.2.1 a k) :: st, h)
        | 1 => some (none, n, ls, .int (h.2.1 a k) :: st, h)
        | 2 => match h.2.2.1 a k with
          | some b => some (none, n, ls, .ref b :: st, h)
          | none => some (none, n, ls, .null :: st, h)
        | 3 => some (none, n, ls, .long (h.2.2.2 a k) :: st, h)
        | _ => none
      | false => none
    | none => none
  | _, _ => none
def mj_pf (n : Nat) (d : List Nat) (ls : List (Option Value)) (st : List Value) (h : mjH) : mjO := match d, st with
  | k :: ty :: cs, v :: .ref a :: st => match mj_mt a h.1 with
    | some (t, _) => match mj_any t cs with
      | true => match ty, v with
        | 0, .int x => some (none, n, ls, st, h.1, mj_ui h.2.1 a k x, h.2.2.1, h.2.2.2)
        | 1, .int x => some (some (x = 0 ∨ x = 1), n, ls, st, h.1, mj_ui h.2.1 a k x, h.2.2.1, h.2.2.2)
        | 2, .ref b => some (none, n, ls, st, h.1, h.2.1, mj_ur h.2.2.1 a k (some b), h.2.2.2)
        | 2, .null => some (none, n, ls, st, h.1, h.2.1, mj_ur h.2.2.1 a k none, h.2.2.2)
        | 3, .long x => some (none, n, ls, st, h.1, h.2.1, h.2.2.1, mj_uj h.2.2.2 a k x)
        | _, _ => none
      | false => none
    | none => none
  | _, _ => none
/-! arrays: tag 0 int[], 1 byte[], 2 int[][], 3 of points; objects: 10 and the number of the kind -/
def mj_xld (tag n : Nat) (ls : List (Option Value)) (st : List Value) (h : mjH) : mjO := match st with
  | .int i :: .ref a :: st => match mj_mt a h.1 with
    | some (t, m) => match Nat.beq t tag with
      | true => some (some (vp_in i m), n, ls, .int (h.2.1 a i.toNatClampNeg) :: st, h)
      | false => none
    | none => none
  | _ => none
def mj_xst (tag n : Nat) (f : Int32 → Int32) (ls : List (Option Value)) (st : List Value) (h : mjH) : mjO := match st with
  | .int x :: .int i :: .ref a :: st => match mj_mt a h.1 with
    | some (t, m) => match Nat.beq t tag with
      | true => some (some (vp_in i m ∧ 0 < a), n, ls, st, h.1, mj_ui h.2.1 a i.toNatClampNeg (f x), h.2.2.1, h.2.2.2)
      | false => none
    | none => none
  | _ => none
def mj_aald (n : Nat) (ls : List (Option Value)) (st : List Value) (h : mjH) : mjO := match st with
  | .int i :: .ref a :: st => match mj_mt a h.1 with
    | some (t, m) => match Nat.beq t 2 || Nat.beq t 3 with
      | true => match h.2.2.1 a i.toNatClampNeg with
        | some b => some (some (vp_in i m), n, ls, .ref b :: st, h)
        | none => some (some (vp_in i m), n, ls, .null :: st, h)
      | false => none
    | none => none
  | _ => none
def mj_aast (n : Nat) (d : List Nat) (ls : List (Option Value)) (st : List Value) (h : mjH) : mjO := match st with
  | .ref v :: .int i :: .ref a :: st => match mj_mt a h.1, mj_mt v h.1 with
    | some (t, m), some (tv, _) => match Nat.beq t 3 && mj_any tv d with
      | true => some (some (vp_in i m), n, ls, st, h.1, h.2.1, mj_ur h.2.2.1 a i.toNatClampNeg (some v), h.2.2.2)
      | false => none
    | _, _ => none
  | _ => none
def mj_aln (n : Nat) (ls : List (Option Value)) (st : List Value) (h : mjH) : mjO := match st with
  | .ref a :: st => match mj_mt a h.1 with
    | some (t, m) => match Nat.ble t 3 with
      | true => some (none, n, ls, .int (nI m) :: st, h)
      | false => none
    | none => none
  | _ => none
def mj_newa (tag n : Nat) (ls : List (Option Value)) (st : List Value) (h : mjH) : mjO := match st with
  | .int x :: st => some (some (¬ x < 0 ∧ x.toNatClampNeg ≤ 1000000), n, ls, .ref h.1.length :: st, h.1 ++ [(tag, x.toNatClampNeg)], mj_row h.2.1 h.1.length (fun _ => 0), h.2.2.1, h.2.2.2)
  | _ => none
def mj_newq (n : Nat) (ls : List (Option Value)) (st : List Value) (h : mjH) : mjO := match st with
  | .int x :: st => some (some (¬ x < 0 ∧ x.toNatClampNeg ≤ 1000000), n, ls, .ref h.1.length :: st, h.1 ++ [(3, x.toNatClampNeg)], h.2.1, mj_rowR h.2.2.1 h.1.length (fun _ => none), h.2.2.2)
  | _ => none
def mj_newm (n : Nat) (ls : List (Option Value)) (st : List Value) (h : mjH) : mjO := match st with
  | .int k :: .int x :: st => some (some (¬ x < 0 ∧ ¬ k < 0 ∧ x.toNatClampNeg ≤ 1000 ∧ k.toNatClampNeg ≤ 1000), n, ls, .ref h.1.length :: st, h.1 ++ (2, x.toNatClampNeg) :: List.replicate x.toNatClampNeg (0, k.toNatClampNeg), mj_rows h.2.1 (h.1.length + 1) x.toNatClampNeg, mj_rowR h.2.2.1 h.1.length (fun j => if j < x.toNatClampNeg then some (h.1.length + 1 + j) else none), h.2.2.2)
  | _ => none
def mj_new (n : Nat) (d : List Nat) (ls : List (Option Value)) (st : List Value) (h : mjH) : mjO := match d with
  | [t, k] => some (none, n, ls, .ref h.1.length :: st, h.1 ++ [(t, k)], mj_row h.2.1 h.1.length (fun _ => 0), mj_rowR h.2.2.1 h.1.length (fun _ => none), mj_rowJ h.2.2.2 h.1.length (fun _ => 0))
  | _ => none
def mj_inst (n : Nat) (d : List Nat) (ls : List (Option Value)) (st : List Value) (h : mjH) : mjO := match st with
  | .ref a :: st => match mj_mt a h.1 with
    | some (t, _) => match mj_sel t d with
      | some 0 => some (none, n, ls, .int (nI 0) :: st, h)
      | some 1 => some (none, n, ls, .int (nI 1) :: st, h)
      | _ => none
    | none => none
  | _ => none
def mj_copy (n : Nat) (ls : List (Option Value)) (st : List Value) (h : mjH) : mjO := match st with
  | .int k :: .int dp :: .ref a :: .int sp :: .ref b :: st => match mj_mt a h.1, mj_mt b h.1 with
    | some (0, m), some (0, m0) => match Nat.ble (mj_sum st) 8 with
      | true => some (some (¬ sp < 0 ∧ ¬ dp < 0 ∧ ¬ k < 0 ∧ sp.toNatClampNeg + k.toNatClampNeg ≤ m0 ∧ dp.toNatClampNeg + k.toNatClampNeg ≤ m ∧ 0 < a ∧ 0 < b), n, ls, st, h.1, mj_row h.2.1 a (va_cpy (h.2.1 b) (h.2.1 a) sp.toNatClampNeg dp.toNatClampNeg k.toNatClampNeg), h.2.2.1, h.2.2.2)
      | false => none
    | _, _ => none
  | _ => none
def mj_sw (lo : Int) (df : Nat) (ts : List Nat) (x : Int32) : Nat := if x.toInt < lo then df else match ts[(x.toInt - lo).toNat]? with
  | some t => t
  | none => df
def mj_lk (df : Nat) : List Nat → Int32 → Nat
  | k :: t :: ts, x => if x = nI k then t else mj_lk df ts x
  | _, _ => df
def mj_step (e : mjE) (c : mjC) : mjO := match c with
  | (_, ls, st, h) => match e.1 with
    | .iconst i => mj_cst e.2.1 e.2.2 (Int32.ofInt i) ls st h
    | .bipush i => mj_cst e.2.1 e.2.2 (Int8.ofInt i).toInt32 ls st h
    | .sipush i => mj_cst e.2.1 e.2.2 (Int16.ofInt i).toInt32 ls st h
    | .lconst i => some (none, e.2.1, ls, .long (lN i) :: st, h)
    | .ldc _ => match e.2.2 with
      | [v] => some (none, e.2.1, ls, .int (nI v) :: st, h)
      | _ => none
    | .ldc_w _ => match e.2.2 with
      | [v] => some (none, e.2.1, ls, .int (nI v) :: st, h)
      | _ => none
    | .ldc2_w _ => match e.2.2 with
      | [v] => some (none, e.2.1, ls, .long (lN v) :: st, h)
      | _ => none
    | .aconst_null => some (none, e.2.1, ls, .null :: st, h)
    | .iload i => mj_ild e.2.1 i ls st h
    | .iload_n i => mj_ild e.2.1 i ls st h
    | .lload i => mj_lld e.2.1 i ls st h
    | .lload_n i => mj_lld e.2.1 i ls st h
    | .aload i => mj_ald e.2.1 i ls st h
    | .aload_n i => mj_ald e.2.1 i ls st h
    | .istore i => mj_ist e.2.1 i ls st h
    | .istore_n i => mj_ist e.2.1 i ls st h
    | .lstore i => mj_lst e.2.1 i ls st h
    | .lstore_n i => mj_lst e.2.1 i ls st h
    | .astore i => mj_ast e.2.1 i ls st h
    | .astore_n i => mj_ast e.2.1 i ls st h
    | .iinc i k => match mj_get i ls with
      | some (.int x) => match e.2.2 with
        | [d] => mj_st1 e.2.1 i (.int (x + nI d)) ls st h
        | _ => mj_st1 e.2.1 i (.int (x + Int32.ofInt k)) ls st h
      | _ => none
    | .iadd => mj_i2 e.2.1 (fun x y => x + y) ls st h
    | .isub => mj_i2 e.2.1 (fun x y => x - y) ls st h
    | .imul => mj_i2 e.2.1 (fun x y => x * y) ls st h
    | .iand => mj_i2 e.2.1 (fun x y => x &&& y) ls st h
    | .ior => mj_i2 e.2.1 (fun x y => x ||| y) ls st h
    | .ixor => mj_i2 e.2.1 (fun x y => x ^^^ y) ls st h
    | .ishl => mj_i2 e.2.1 (fun x y => x <<< (y &&& 31)) ls st h
    | .ishr => mj_i2 e.2.1 (fun x y => x >>> (y &&& 31)) ls st h
    | .iushr => mj_i2 e.2.1 (fun x y => (x.toUInt32 >>> (y.toUInt32 &&& Int32.toUInt32 31)).toInt32) ls st h
    | .idiv => match st with
      | .int y :: .int x :: st => some (some (¬ y = 0), e.2.1, ls, .int (x / y) :: st, h)
      | _ => none
    | .irem => match st with
      | .int y :: .int x :: st => some (some (¬ y = 0), e.2.1, ls, .int (x - x / y * y) :: st, h)
      | _ => none
    | .ineg => match st with
      | .int x :: st => some (none, e.2.1, ls, .int (-x) :: st, h)
      | _ => none
    | .ladd => mj_l2 e.2.1 (fun x y => x + y) ls st h
    | .lmul => mj_l2 e.2.1 (fun x y => x * y) ls st h
    | .land => mj_l2 e.2.1 (fun x y => x &&& y) ls st h
    | .lor => mj_l2 e.2.1 (fun x y => x ||| y) ls st h
    | .lshl => match st with
      | .int y :: .long x :: st => some (none, e.2.1, ls, .long (x <<< (y.toInt64 &&& 63)) :: st, h)
      | _ => none
    | .lushr => match st with
      | .int y :: .long x :: st => some (none, e.2.1, ls, .long (x.toUInt64 >>> (y.toInt64.toUInt64 &&& Int64.toUInt64 63)).toInt64 :: st, h)
      | _ => none
    | .lcmp => match st with
      | .long y :: .long x :: st => some (none, e.2.1, ls, .int (lg_cmp x y) :: st, h)
      | _ => none
    | .i2l => match st with
      | .int x :: st => some (none, e.2.1, ls, .long x.toInt64 :: st, h)
      | _ => none
    | .l2i => match st with
      | .long x :: st => some (none, e.2.1, ls, .int x.toInt32 :: st, h)
      | _ => none
    | .i2b => match st with
      | .int x :: st => some (none, e.2.1, ls, .int x.toInt8.toInt32 :: st, h)
      | _ => none
    | .dup => match st with
      | .int x :: st => some (none, e.2.1, ls, .int x :: .int x :: st, h)
      | .ref x :: st => some (none, e.2.1, ls, .ref x :: .ref x :: st, h)
      | _ => none
    | .dup2 => match st with
      | .int x :: .ref y :: st => some (none, e.2.1, ls, .int x :: .ref y :: .int x :: .ref y :: st, h)
      | _ => none
    | .pop => match st with
      | .int _ :: st => some (none, e.2.1, ls, st, h)
      | .ref _ :: st => some (none, e.2.1, ls, st, h)
      | _ => none
    | .goto _ => match e.2.2 with
      | [t] => some (none, t, ls, st, h)
      | _ => none
    | .ifnull _ => match e.2.2, st with
      | [_], .ref _ :: st => some (none, e.2.1, ls, st, h)
      | [t], .null :: st => some (none, t, ls, st, h)
      | _, _ => none
    | .ifnonnull _ => match e.2.2, st with
      | [t], .ref _ :: st => some (none, t, ls, st, h)
      | [_], .null :: st => some (none, e.2.1, ls, st, h)
      | _, _ => none
    | .tableswitch _ lo _ _ => match e.2.2, st with
      | df :: ts, .int x :: st => some (none, mj_sw lo df ts x, ls, st, h)
      | _, _ => none
    | .lookupswitch _ _ => match e.2.2, st with
      | df :: ts, .int x :: st => some (none, mj_lk df ts x, ls, st, h)
      | _, _ => none
    | .getfield _ => mj_gf e.2.1 e.2.2 ls st h
    | .putfield _ => mj_pf e.2.1 e.2.2 ls st h
    | .iaload => mj_xld 0 e.2.1 ls st h
    | .baload => mj_xld 1 e.2.1 ls st h
    | .iastore => mj_xst 0 e.2.1 (fun x => x) ls st h
    | .bastore => mj_xst 1 e.2.1 (fun x => x.toInt8.toInt32) ls st h
    | .aaload => mj_aald e.2.1 ls st h
    | .aastore => mj_aast e.2.1 e.2.2 ls st h
    | .arraylength => mj_aln e.2.1 ls st h
    | .newarray .int => mj_newa 0 e.2.1 ls st h
    | .newarray .byte => mj_newa 1 e.2.1 ls st h
    | .anewarray _ => mj_newq e.2.1 ls st h
    | .multianewarray _ _ => mj_newm e.2.1 ls st h
    | .new _ => mj_new e.2.1 e.2.2 ls st h
    | .instanceof _ => mj_inst e.2.1 e.2.2 ls st h
    | .invokespecial _ => match e.2.2, st with
      | [5], .ref _ :: st => match Nat.ble (mj_sum st) 8 with
        | true => some (none, e.2.1, ls, st, h)
        | false => none
      | _, _ => none
    | .invokestatic _ => match e.2.2 with
      | [6] => mj_copy e.2.1 ls st h
      | _ => none
    | _ => none
def mj_br1 (e : mjE) (P : Int32 → Prop) (ls : List (Option Value)) (st : List Value) (h : mjH) : Option (Prop × mjC × mjC) := match e.2.2, st with
  | [t], .int x :: st => some (P x, (t, ls, st, h), (e.2.1, ls, st, h))
  | _, _ => none
def mj_br2 (e : mjE) (P : Int32 → Int32 → Prop) (ls : List (Option Value)) (st : List Value) (h : mjH) : Option (Prop × mjC × mjC) := match e.2.2, st with
  | [t], .int y :: .int x :: st => some (P x y, (t, ls, st, h), (e.2.1, ls, st, h))
  | _, _ => none
def mj_br (e : mjE) (c : mjC) : Option (Prop × mjC × mjC) := match c with
  | (_, ls, st, h) => match e.1 with
    | .ifCond .eq _ => mj_br1 e (fun x => x = 0) ls st h
    | .ifCond .ne _ => mj_br1 e (fun x => ¬ x = 0) ls st h
    | .ifCond .lt _ => mj_br1 e (fun x => x < 0) ls st h
    | .ifCond .ge _ => mj_br1 e (fun x => 0 ≤ x) ls st h
    | .ifCond .gt _ => mj_br1 e (fun x => 0 < x) ls st h
    | .ifCond .le _ => mj_br1 e (fun x => x ≤ 0) ls st h
    | .if_icmp .eq _ => mj_br2 e (fun x y => x = y) ls st h
    | .if_icmp .ne _ => mj_br2 e (fun x y => ¬ x = y) ls st h
    | .if_icmp .lt _ => mj_br2 e (fun x y => x < y) ls st h
    | .if_icmp .ge _ => mj_br2 e (fun x y => y ≤ x) ls st h
    | .if_icmp .gt _ => mj_br2 e (fun x y => y < x) ls st h
    | .if_icmp .le _ => mj_br2 e (fun x y => x ≤ y) ls st h
    | _ => none
/-! calls: data = 0, number of arguments, method (static); 1, number, tag, method ..; 2, number, method (a constructor) -/
abbrev mjQ : Type := Option (Nat × List Value × List Value)
def mj_inv (e : mjE) (c : mjC) : mjQ := match c with
  | (_, _, st, h) => match e.1 with
    | .invokestatic _ => match e.2.2 with
      | [0, n, m] => mj_pop n st [] (fun as st => match Nat.ble (mj_sum st) 8 with
        | true => some (m, as, st)
        | false => none)
      | _ => none
    | .invokevirtual _ => match e.2.2 with
      | 1 :: n :: ts => mj_pop n st [] (fun as st => match st with
        | .ref a :: st => match mj_mt a h.1 with
          | some (t, _) => match mj_sel t ts, Nat.ble (mj_sum st) 8 with
            | some m, true => some (m, .ref a :: as, st)
            | _, _ => none
          | none => none
        | _ => none)
      | _ => none
    | .invokespecial _ => match e.2.2 with
      | [2, n, m] => mj_pop n st [] (fun as st => match st with
        | .ref a :: st => match Nat.ble (mj_sum st) 8 with
          | true => some (m, .ref a :: as, st)
          | false => none
        | _ => none)
      | _ => none
    | _ => none
/-! ends: 0 none, 1 int, 2 boolean, 3 long, 4 reference -/
def mj_ret (rt : Nat) (e : mjE) (c : mjC) : Option (Option Prop × Option Value × mjH) := match c with
  | (_, _, st, h) => match e.1, rt, st with
    | .return_, 0, [] => some (none, none, h)
    | .ireturn, 1, [.int x] => some (none, some (.int x), h)
    | .ireturn, 2, [.int x] => some (some (x = 0 ∨ x = 1), some (.int x), h)
    | .lreturn, 3, [.long x] => some (none, some (.long x), h)
    | .areturn, 4, [.ref a] => some (none, some (.ref a), h)
    | .areturn, 4, [.null] => some (none, some .null, h)
    | _, _, _ => none
def mj_ok : Option Prop → Prop
  | none => True
  | some p => p
def mj_psh : Option Value → List Value → List Value
  | none, st => st
  | some v, st => v :: st
abbrev mjK : Type := Nat → List Value → mjH → Option Value → mjH → Prop
def mj_go (K : mjK) (cd : List (Option mjE)) (rt : Nat) : Nat → mjC → Option Value → mjH → Prop
  | 0, _, _, _ => False
  | n + 1, c, v, h' => ∃ e, mj_at c.1 cd = some e ∧ (
      (∃ o c', mj_step e c = some (o, c') ∧ mj_ok o ∧ mj_go K cd rt n c' v h') ∨
      (∃ P c1 c2, mj_br e c = some (P, c1, c2) ∧ (P → mj_go K cd rt n c1 v h') ∧ (¬ P → mj_go K cd rt n c2 v h')) ∨
      (∃ m as st w h1, mj_inv e c = some (m, as, st) ∧ K m as c.2.2.2 w h1 ∧ mj_go K cd rt n (e.2.1, c.2.1, mj_psh w st, h1) v h') ∨
      (∃ o, mj_ret rt e c = some (o, v, h') ∧ mj_ok o))
/-- a method: its kind's number, its places for locals, what it ends with, its code -/
abbrev mjT : Type := Nat × Nat × Nat × List (Option mjE)
def mj_ent : List Value → List (Option Value)
  | [] => []
  | .long x :: vs => some (.long x) :: none :: mj_ent vs
  | v :: vs => some v :: mj_ent vs
def mj_pad : Nat → List (Option Value) → List (Option Value)
  | 0, _ => []
  | n + 1, [] => none :: mj_pad n []
  | n + 1, x :: xs => x :: mj_pad n xs
def mj_call (P : List mjT) : Nat → mjK
  | 0 => fun _ _ _ _ _ => False
  | d + 1 => fun m as h v h' => ∃ t, P[m]? = some t ∧ (mj_ent as).length ≤ t.2.1 ∧ ∃ n, mj_go (mj_call P d) t.2.2.2 t.2.2.1 n (0, mj_pad t.2.1 (mj_ent as), [], h) v h'
end
