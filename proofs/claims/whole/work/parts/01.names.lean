def lw_okq (q : MethodName × Nat) : Prop := (q.1.cls ≠ "java/lang/invoke/MethodHandle" ∧ q.1.cls ≠ "java/lang/invoke/VarHandle") ∧ Cond.instantiable q.1.cls q.2 ∈ tables_1 ∧ Cond.privateMethod q.1 ∈ tables_1 ∧ Cond.instanceMethod q.1 ∈ tables_1
theorem lw_p0 : lw_okq (⟨"LabelledFlows$Program", "renumber", "()V"⟩, 12) := ⟨⟨by decide +kernel, by decide +kernel⟩, List.mem_of_getElem? (i := 19) (by decide +kernel), List.mem_of_getElem? (i := 234) (by decide +kernel), List.mem_of_getElem? (i := 235) (by decide +kernel)⟩
theorem lw_p1 : lw_okq (⟨"LabelledFlows", "forget", "()V"⟩, 5) := ⟨⟨by decide +kernel, by decide +kernel⟩, List.mem_of_getElem? (i := 11) (by decide +kernel), List.mem_of_getElem? (i := 238) (by decide +kernel), List.mem_of_getElem? (i := 239) (by decide +kernel)⟩
theorem lw_p2 : lw_okq (⟨"LabelledFlows$Pointing", "sweep", "()V"⟩, 6) := ⟨⟨by decide +kernel, by decide +kernel⟩, List.mem_of_getElem? (i := 91) (by decide +kernel), List.mem_of_getElem? (i := 280) (by decide +kernel), List.mem_of_getElem? (i := 281) (by decide +kernel)⟩
theorem lw_p3 : lw_okq (⟨"LabelledFlows$Pointing", "follow", "(II)V"⟩, 6) := ⟨⟨by decide +kernel, by decide +kernel⟩, List.mem_of_getElem? (i := 91) (by decide +kernel), List.mem_of_getElem? (i := 287) (by decide +kernel), List.mem_of_getElem? (i := 288) (by decide +kernel)⟩
theorem lw_p4 : lw_okq (⟨"LabelledFlows$Pointing", "growLocal", "(III)V"⟩, 6) := ⟨⟨by decide +kernel, by decide +kernel⟩, List.mem_of_getElem? (i := 91) (by decide +kernel), List.mem_of_getElem? (i := 291) (by decide +kernel), List.mem_of_getElem? (i := 292) (by decide +kernel)⟩
theorem lw_p5 : lw_okq (⟨"LabelledFlows$Pointing", "fieldOfAll", "(II)I"⟩, 6) := ⟨⟨by decide +kernel, by decide +kernel⟩, List.mem_of_getElem? (i := 91) (by decide +kernel), List.mem_of_getElem? (i := 295) (by decide +kernel), List.mem_of_getElem? (i := 296) (by decide +kernel)⟩
theorem lw_p6 : lw_okq (⟨"LabelledFlows$Pointing", "growFields", "(III)V"⟩, 6) := ⟨⟨by decide +kernel, by decide +kernel⟩, List.mem_of_getElem? (i := 91) (by decide +kernel), List.mem_of_getElem? (i := 299) (by decide +kernel), List.mem_of_getElem? (i := 300) (by decide +kernel)⟩
theorem lw_p7 : lw_okq (⟨"LabelledFlows$Pointing", "followCall", "(II)V"⟩, 6) := ⟨⟨by decide +kernel, by decide +kernel⟩, List.mem_of_getElem? (i := 91) (by decide +kernel), List.mem_of_getElem? (i := 303) (by decide +kernel), List.mem_of_getElem? (i := 304) (by decide +kernel)⟩
theorem lw_p8 : lw_okq (⟨"LabelledFlows$Pointing", "reach", "(II)V"⟩, 6) := ⟨⟨by decide +kernel, by decide +kernel⟩, List.mem_of_getElem? (i := 91) (by decide +kernel), List.mem_of_getElem? (i := 308) (by decide +kernel), List.mem_of_getElem? (i := 309) (by decide +kernel)⟩
theorem lw_p9 : lw_okq (⟨"LabelledFlows$Pointing", "returned", "(I)I"⟩, 6) := ⟨⟨by decide +kernel, by decide +kernel⟩, List.mem_of_getElem? (i := 91) (by decide +kernel), List.mem_of_getElem? (i := 312) (by decide +kernel), List.mem_of_getElem? (i := 313) (by decide +kernel)⟩
theorem lw_p10 : lw_okq (⟨"LabelledFlows$Flow", "clear", "()V"⟩, 7) := ⟨⟨by decide +kernel, by decide +kernel⟩, List.mem_of_getElem? (i := 120) (by decide +kernel), List.mem_of_getElem? (i := 320) (by decide +kernel), List.mem_of_getElem? (i := 321) (by decide +kernel)⟩
theorem lw_p11 : lw_okq (⟨"LabelledFlows$Flow", "sweep", "(I)V"⟩, 7) := ⟨⟨by decide +kernel, by decide +kernel⟩, List.mem_of_getElem? (i := 120) (by decide +kernel), List.mem_of_getElem? (i := 326) (by decide +kernel), List.mem_of_getElem? (i := 327) (by decide +kernel)⟩
theorem lw_p12 : lw_okq (⟨"LabelledFlows$Flow", "passZero", "(II)V"⟩, 7) := ⟨⟨by decide +kernel, by decide +kernel⟩, List.mem_of_getElem? (i := 120) (by decide +kernel), List.mem_of_getElem? (i := 331) (by decide +kernel), List.mem_of_getElem? (i := 332) (by decide +kernel)⟩
theorem lw_p13 : lw_okq (⟨"LabelledFlows$Flow", "growZero", "(II)V"⟩, 7) := ⟨⟨by decide +kernel, by decide +kernel⟩, List.mem_of_getElem? (i := 120) (by decide +kernel), List.mem_of_getElem? (i := 335) (by decide +kernel), List.mem_of_getElem? (i := 336) (by decide +kernel)⟩
theorem lw_p14 : lw_okq (⟨"LabelledFlows$Flow", "growHeld", "(III)V"⟩, 7) := ⟨⟨by decide +kernel, by decide +kernel⟩, List.mem_of_getElem? (i := 120) (by decide +kernel), List.mem_of_getElem? (i := 346) (by decide +kernel), List.mem_of_getElem? (i := 347) (by decide +kernel)⟩
theorem lw_p15 : lw_okq (⟨"LabelledFlows$Flow", "callZero", "(I)V"⟩, 7) := ⟨⟨by decide +kernel, by decide +kernel⟩, List.mem_of_getElem? (i := 120) (by decide +kernel), List.mem_of_getElem? (i := 350) (by decide +kernel), List.mem_of_getElem? (i := 351) (by decide +kernel)⟩
def lw_privs_1 : List (MethodName × Nat) := [(⟨"LabelledFlows$Program", "renumber", "()V"⟩, 12), (⟨"LabelledFlows", "forget", "()V"⟩, 5), (⟨"LabelledFlows$Pointing", "sweep", "()V"⟩, 6), (⟨"LabelledFlows$Pointing", "follow", "(II)V"⟩, 6), (⟨"LabelledFlows$Pointing", "growLocal", "(III)V"⟩, 6), (⟨"LabelledFlows$Pointing", "fieldOfAll", "(II)I"⟩, 6), (⟨"LabelledFlows$Pointing", "growFields", "(III)V"⟩, 6), (⟨"LabelledFlows$Pointing", "followCall", "(II)V"⟩, 6), (⟨"LabelledFlows$Pointing", "reach", "(II)V"⟩, 6), (⟨"LabelledFlows$Pointing", "returned", "(I)I"⟩, 6), (⟨"LabelledFlows$Flow", "clear", "()V"⟩, 7), (⟨"LabelledFlows$Flow", "sweep", "(I)V"⟩, 7), (⟨"LabelledFlows$Flow", "passZero", "(II)V"⟩, 7), (⟨"LabelledFlows$Flow", "growZero", "(II)V"⟩, 7), (⟨"LabelledFlows$Flow", "growHeld", "(III)V"⟩, 7), (⟨"LabelledFlows$Flow", "callZero", "(I)V"⟩, 7)]
theorem lw_r1 : ∀ q ∈ lw_privs_1, lw_okq q := List.forall_mem_cons.mpr ⟨lw_p0, List.forall_mem_cons.mpr ⟨lw_p1, List.forall_mem_cons.mpr ⟨lw_p2, List.forall_mem_cons.mpr ⟨lw_p3, List.forall_mem_cons.mpr ⟨lw_p4, List.forall_mem_cons.mpr ⟨lw_p5, List.forall_mem_cons.mpr ⟨lw_p6, List.forall_mem_cons.mpr ⟨lw_p7, List.forall_mem_cons.mpr ⟨lw_p8, List.forall_mem_cons.mpr ⟨lw_p9, List.forall_mem_cons.mpr ⟨lw_p10, List.forall_mem_cons.mpr ⟨lw_p11, List.forall_mem_cons.mpr ⟨lw_p12, List.forall_mem_cons.mpr ⟨lw_p13, List.forall_mem_cons.mpr ⟨lw_p14, List.forall_mem_cons.mpr ⟨lw_p15, fun _ h => absurd h List.not_mem_nil⟩⟩⟩⟩⟩⟩⟩⟩⟩⟩⟩⟩⟩⟩⟩⟩
theorem lw_p16 : lw_okq (⟨"LabelledFlows$Flow", "comeBack", "(III)V"⟩, 7) := ⟨⟨by decide +kernel, by decide +kernel⟩, List.mem_of_getElem? (i := 120) (by decide +kernel), List.mem_of_getElem? (i := 354) (by decide +kernel), List.mem_of_getElem? (i := 355) (by decide +kernel)⟩
theorem lw_p17 : lw_okq (⟨"LabelledFlows$Flow", "pass", "(IIII)V"⟩, 7) := ⟨⟨by decide +kernel, by decide +kernel⟩, List.mem_of_getElem? (i := 120) (by decide +kernel), List.mem_of_getElem? (i := 359) (by decide +kernel), List.mem_of_getElem? (i := 360) (by decide +kernel)⟩
theorem lw_p18 : lw_okq (⟨"LabelledFlows$Flow", "call", "(IIII)V"⟩, 7) := ⟨⟨by decide +kernel, by decide +kernel⟩, List.mem_of_getElem? (i := 120) (by decide +kernel), List.mem_of_getElem? (i := 363) (by decide +kernel), List.mem_of_getElem? (i := 364) (by decide +kernel)⟩
theorem lw_p19 : lw_okq (⟨"LabelledFlows$Flow", "enter", "(III)V"⟩, 7) := ⟨⟨by decide +kernel, by decide +kernel⟩, List.mem_of_getElem? (i := 120) (by decide +kernel), List.mem_of_getElem? (i := 367) (by decide +kernel), List.mem_of_getElem? (i := 368) (by decide +kernel)⟩
theorem lw_p20 : lw_okq (⟨"LabelledFlows$Flow", "exitsOfAll", "(II)I"⟩, 7) := ⟨⟨by decide +kernel, by decide +kernel⟩, List.mem_of_getElem? (i := 120) (by decide +kernel), List.mem_of_getElem? (i := 371) (by decide +kernel), List.mem_of_getElem? (i := 372) (by decide +kernel)⟩
theorem lw_p21 : lw_okq (⟨"LabelledFlows$Flow", "growExit", "(III)V"⟩, 7) := ⟨⟨by decide +kernel, by decide +kernel⟩, List.mem_of_getElem? (i := 120) (by decide +kernel), List.mem_of_getElem? (i := 375) (by decide +kernel), List.mem_of_getElem? (i := 376) (by decide +kernel)⟩
theorem lw_p22 : lw_okq (⟨"LabelledFlows$Flow", "changed", "(III)I"⟩, 7) := ⟨⟨by decide +kernel, by decide +kernel⟩, List.mem_of_getElem? (i := 120) (by decide +kernel), List.mem_of_getElem? (i := 379) (by decide +kernel), List.mem_of_getElem? (i := 380) (by decide +kernel)⟩
theorem lw_p23 : lw_okq (⟨"LabelledFlows$Flow", "endAll", "(II)V"⟩, 7) := ⟨⟨by decide +kernel, by decide +kernel⟩, List.mem_of_getElem? (i := 120) (by decide +kernel), List.mem_of_getElem? (i := 386) (by decide +kernel), List.mem_of_getElem? (i := 387) (by decide +kernel)⟩
theorem lw_p24 : lw_okq (⟨"LabelledFlows$Flow", "countHeld", "(II)I"⟩, 7) := ⟨⟨by decide +kernel, by decide +kernel⟩, List.mem_of_getElem? (i := 120) (by decide +kernel), List.mem_of_getElem? (i := 400) (by decide +kernel), List.mem_of_getElem? (i := 401) (by decide +kernel)⟩
theorem lw_p25 : lw_okq (⟨"LabelledFlows", "isSource", "(I)Z"⟩, 5) := ⟨⟨by decide +kernel, by decide +kernel⟩, List.mem_of_getElem? (i := 11) (by decide +kernel), List.mem_of_getElem? (i := 412) (by decide +kernel), List.mem_of_getElem? (i := 413) (by decide +kernel)⟩
theorem lw_p26 : lw_okq (⟨"LabelledFlows", "isSink", "(I)Z"⟩, 5) := ⟨⟨by decide +kernel, by decide +kernel⟩, List.mem_of_getElem? (i := 11) (by decide +kernel), List.mem_of_getElem? (i := 416) (by decide +kernel), List.mem_of_getElem? (i := 417) (by decide +kernel)⟩
theorem lw_p27 : lw_okq (⟨"LabelledFlows$Machine", "reset", "(I)V"⟩, 13) := ⟨⟨by decide +kernel, by decide +kernel⟩, List.mem_of_getElem? (i := 148) (by decide +kernel), List.mem_of_getElem? (i := 456) (by decide +kernel), List.mem_of_getElem? (i := 457) (by decide +kernel)⟩
theorem lw_p28 : lw_okq (⟨"LabelledFlows$Machine", "begin", "(III)V"⟩, 13) := ⟨⟨by decide +kernel, by decide +kernel⟩, List.mem_of_getElem? (i := 148) (by decide +kernel), List.mem_of_getElem? (i := 461) (by decide +kernel), List.mem_of_getElem? (i := 462) (by decide +kernel)⟩
theorem lw_p29 : lw_okq (⟨"LabelledFlows$Machine", "endMethods", "()V"⟩, 13) := ⟨⟨by decide +kernel, by decide +kernel⟩, List.mem_of_getElem? (i := 148) (by decide +kernel), List.mem_of_getElem? (i := 465) (by decide +kernel), List.mem_of_getElem? (i := 466) (by decide +kernel)⟩
theorem lw_p30 : lw_okq (⟨"LabelledFlows$Machine", "standsAtEnd", "()Z"⟩, 13) := ⟨⟨by decide +kernel, by decide +kernel⟩, List.mem_of_getElem? (i := 148) (by decide +kernel), List.mem_of_getElem? (i := 469) (by decide +kernel), List.mem_of_getElem? (i := 470) (by decide +kernel)⟩
theorem lw_p31 : lw_okq (⟨"LabelledFlows$Machine", "endMethod", "(I)V"⟩, 13) := ⟨⟨by decide +kernel, by decide +kernel⟩, List.mem_of_getElem? (i := 148) (by decide +kernel), List.mem_of_getElem? (i := 473) (by decide +kernel), List.mem_of_getElem? (i := 474) (by decide +kernel)⟩
def lw_privs_2 : List (MethodName × Nat) := [(⟨"LabelledFlows$Flow", "comeBack", "(III)V"⟩, 7), (⟨"LabelledFlows$Flow", "pass", "(IIII)V"⟩, 7), (⟨"LabelledFlows$Flow", "call", "(IIII)V"⟩, 7), (⟨"LabelledFlows$Flow", "enter", "(III)V"⟩, 7), (⟨"LabelledFlows$Flow", "exitsOfAll", "(II)I"⟩, 7), (⟨"LabelledFlows$Flow", "growExit", "(III)V"⟩, 7), (⟨"LabelledFlows$Flow", "changed", "(III)I"⟩, 7), (⟨"LabelledFlows$Flow", "endAll", "(II)V"⟩, 7), (⟨"LabelledFlows$Flow", "countHeld", "(II)I"⟩, 7), (⟨"LabelledFlows", "isSource", "(I)Z"⟩, 5), (⟨"LabelledFlows", "isSink", "(I)Z"⟩, 5), (⟨"LabelledFlows$Machine", "reset", "(I)V"⟩, 13), (⟨"LabelledFlows$Machine", "begin", "(III)V"⟩, 13), (⟨"LabelledFlows$Machine", "endMethods", "()V"⟩, 13), (⟨"LabelledFlows$Machine", "standsAtEnd", "()Z"⟩, 13), (⟨"LabelledFlows$Machine", "endMethod", "(I)V"⟩, 13)]
theorem lw_r2 : ∀ q ∈ lw_privs_2, lw_okq q := List.forall_mem_cons.mpr ⟨lw_p16, List.forall_mem_cons.mpr ⟨lw_p17, List.forall_mem_cons.mpr ⟨lw_p18, List.forall_mem_cons.mpr ⟨lw_p19, List.forall_mem_cons.mpr ⟨lw_p20, List.forall_mem_cons.mpr ⟨lw_p21, List.forall_mem_cons.mpr ⟨lw_p22, List.forall_mem_cons.mpr ⟨lw_p23, List.forall_mem_cons.mpr ⟨lw_p24, List.forall_mem_cons.mpr ⟨lw_p25, List.forall_mem_cons.mpr ⟨lw_p26, List.forall_mem_cons.mpr ⟨lw_p27, List.forall_mem_cons.mpr ⟨lw_p28, List.forall_mem_cons.mpr ⟨lw_p29, List.forall_mem_cons.mpr ⟨lw_p30, List.forall_mem_cons.mpr ⟨lw_p31, fun _ h => absurd h List.not_mem_nil⟩⟩⟩⟩⟩⟩⟩⟩⟩⟩⟩⟩⟩⟩⟩⟩
theorem lw_p32 : lw_okq (⟨"LabelledFlows$Machine", "endingBeforeStep", "(I)I"⟩, 13) := ⟨⟨by decide +kernel, by decide +kernel⟩, List.mem_of_getElem? (i := 148) (by decide +kernel), List.mem_of_getElem? (i := 477) (by decide +kernel), List.mem_of_getElem? (i := 478) (by decide +kernel)⟩
theorem lw_p33 : lw_okq (⟨"LabelledFlows$Machine", "objectOf", "(I)I"⟩, 13) := ⟨⟨by decide +kernel, by decide +kernel⟩, List.mem_of_getElem? (i := 148) (by decide +kernel), List.mem_of_getElem? (i := 481) (by decide +kernel), List.mem_of_getElem? (i := 482) (by decide +kernel)⟩
theorem lw_p34 : lw_okq (⟨"LabelledFlows$Machine", "calledMethod", "(I)I"⟩, 13) := ⟨⟨by decide +kernel, by decide +kernel⟩, List.mem_of_getElem? (i := 148) (by decide +kernel), List.mem_of_getElem? (i := 485) (by decide +kernel), List.mem_of_getElem? (i := 486) (by decide +kernel)⟩
theorem lw_p35 : lw_okq (⟨"LabelledFlows$Machine", "step", "()V"⟩, 13) := ⟨⟨by decide +kernel, by decide +kernel⟩, List.mem_of_getElem? (i := 148) (by decide +kernel), List.mem_of_getElem? (i := 490) (by decide +kernel), List.mem_of_getElem? (i := 491) (by decide +kernel)⟩
theorem lw_p36 : lw_okq (⟨"LabelledFlows$Machine", "changeValues", "(III)V"⟩, 13) := ⟨⟨by decide +kernel, by decide +kernel⟩, List.mem_of_getElem? (i := 148) (by decide +kernel), List.mem_of_getElem? (i := 496) (by decide +kernel), List.mem_of_getElem? (i := 497) (by decide +kernel)⟩
theorem lw_p37 : lw_okq (⟨"LabelledFlows$Machine", "makeObject", "(I)I"⟩, 13) := ⟨⟨by decide +kernel, by decide +kernel⟩, List.mem_of_getElem? (i := 148) (by decide +kernel), List.mem_of_getElem? (i := 500) (by decide +kernel), List.mem_of_getElem? (i := 501) (by decide +kernel)⟩
theorem lw_p38 : lw_okq (⟨"LabelledFlows$Machine", "countHits", "(II)V"⟩, 13) := ⟨⟨by decide +kernel, by decide +kernel⟩, List.mem_of_getElem? (i := 148) (by decide +kernel), List.mem_of_getElem? (i := 504) (by decide +kernel), List.mem_of_getElem? (i := 505) (by decide +kernel)⟩
theorem lw_p39 : lw_okq (⟨"LabelledFlowsModel", "before", "(III)I"⟩, 30) := ⟨⟨by decide +kernel, by decide +kernel⟩, List.mem_of_getElem? (i := 520) (by decide +kernel), List.mem_of_getElem? (i := 629) (by decide +kernel), List.mem_of_getElem? (i := 630) (by decide +kernel)⟩
theorem lw_p40 : lw_okq (⟨"LabelledFlowsModel", "change", "()V"⟩, 30) := ⟨⟨by decide +kernel, by decide +kernel⟩, List.mem_of_getElem? (i := 520) (by decide +kernel), List.mem_of_getElem? (i := 633) (by decide +kernel), List.mem_of_getElem? (i := 634) (by decide +kernel)⟩
theorem lw_p41 : lw_okq (⟨"LabelledFlowsModel", "workPoints", "()V"⟩, 30) := ⟨⟨by decide +kernel, by decide +kernel⟩, List.mem_of_getElem? (i := 520) (by decide +kernel), List.mem_of_getElem? (i := 661) (by decide +kernel), List.mem_of_getElem? (i := 662) (by decide +kernel)⟩
theorem lw_p42 : lw_okq (⟨"LabelledFlowsModel", "pointsOf", "(II)V"⟩, 30) := ⟨⟨by decide +kernel, by decide +kernel⟩, List.mem_of_getElem? (i := 520) (by decide +kernel), List.mem_of_getElem? (i := 666) (by decide +kernel), List.mem_of_getElem? (i := 667) (by decide +kernel)⟩
theorem lw_p43 : lw_okq (⟨"LabelledFlowsModel", "grow", "(III)V"⟩, 30) := ⟨⟨by decide +kernel, by decide +kernel⟩, List.mem_of_getElem? (i := 520) (by decide +kernel), List.mem_of_getElem? (i := 670) (by decide +kernel), List.mem_of_getElem? (i := 671) (by decide +kernel)⟩
theorem lw_p44 : lw_okq (⟨"LabelledFlowsModel", "callPoints", "(II)V"⟩, 30) := ⟨⟨by decide +kernel, by decide +kernel⟩, List.mem_of_getElem? (i := 520) (by decide +kernel), List.mem_of_getElem? (i := 674) (by decide +kernel), List.mem_of_getElem? (i := 675) (by decide +kernel)⟩
theorem lw_p45 : lw_okq (⟨"LabelledFlowsModel", "calls", "(III)Z"⟩, 30) := ⟨⟨by decide +kernel, by decide +kernel⟩, List.mem_of_getElem? (i := 520) (by decide +kernel), List.mem_of_getElem? (i := 678) (by decide +kernel), List.mem_of_getElem? (i := 679) (by decide +kernel)⟩
theorem lw_p46 : lw_okq (⟨"LabelledFlowsModel", "classOf", "(I)I"⟩, 30) := ⟨⟨by decide +kernel, by decide +kernel⟩, List.mem_of_getElem? (i := 520) (by decide +kernel), List.mem_of_getElem? (i := 682) (by decide +kernel), List.mem_of_getElem? (i := 683) (by decide +kernel)⟩
theorem lw_p47 : lw_okq (⟨"LabelledFlowsModel", "workTargets", "()V"⟩, 30) := ⟨⟨by decide +kernel, by decide +kernel⟩, List.mem_of_getElem? (i := 520) (by decide +kernel), List.mem_of_getElem? (i := 687) (by decide +kernel), List.mem_of_getElem? (i := 688) (by decide +kernel)⟩
def lw_privs_3 : List (MethodName × Nat) := [(⟨"LabelledFlows$Machine", "endingBeforeStep", "(I)I"⟩, 13), (⟨"LabelledFlows$Machine", "objectOf", "(I)I"⟩, 13), (⟨"LabelledFlows$Machine", "calledMethod", "(I)I"⟩, 13), (⟨"LabelledFlows$Machine", "step", "()V"⟩, 13), (⟨"LabelledFlows$Machine", "changeValues", "(III)V"⟩, 13), (⟨"LabelledFlows$Machine", "makeObject", "(I)I"⟩, 13), (⟨"LabelledFlows$Machine", "countHits", "(II)V"⟩, 13), (⟨"LabelledFlowsModel", "before", "(III)I"⟩, 30), (⟨"LabelledFlowsModel", "change", "()V"⟩, 30), (⟨"LabelledFlowsModel", "workPoints", "()V"⟩, 30), (⟨"LabelledFlowsModel", "pointsOf", "(II)V"⟩, 30), (⟨"LabelledFlowsModel", "grow", "(III)V"⟩, 30), (⟨"LabelledFlowsModel", "callPoints", "(II)V"⟩, 30), (⟨"LabelledFlowsModel", "calls", "(III)Z"⟩, 30), (⟨"LabelledFlowsModel", "classOf", "(I)I"⟩, 30), (⟨"LabelledFlowsModel", "workTargets", "()V"⟩, 30)]
theorem lw_r3 : ∀ q ∈ lw_privs_3, lw_okq q := List.forall_mem_cons.mpr ⟨lw_p32, List.forall_mem_cons.mpr ⟨lw_p33, List.forall_mem_cons.mpr ⟨lw_p34, List.forall_mem_cons.mpr ⟨lw_p35, List.forall_mem_cons.mpr ⟨lw_p36, List.forall_mem_cons.mpr ⟨lw_p37, List.forall_mem_cons.mpr ⟨lw_p38, List.forall_mem_cons.mpr ⟨lw_p39, List.forall_mem_cons.mpr ⟨lw_p40, List.forall_mem_cons.mpr ⟨lw_p41, List.forall_mem_cons.mpr ⟨lw_p42, List.forall_mem_cons.mpr ⟨lw_p43, List.forall_mem_cons.mpr ⟨lw_p44, List.forall_mem_cons.mpr ⟨lw_p45, List.forall_mem_cons.mpr ⟨lw_p46, List.forall_mem_cons.mpr ⟨lw_p47, fun _ h => absurd h List.not_mem_nil⟩⟩⟩⟩⟩⟩⟩⟩⟩⟩⟩⟩⟩⟩⟩⟩
theorem lw_p48 : lw_okq (⟨"LabelledFlowsModel", "workFacts", "()V"⟩, 30) := ⟨⟨by decide +kernel, by decide +kernel⟩, List.mem_of_getElem? (i := 520) (by decide +kernel), List.mem_of_getElem? (i := 691) (by decide +kernel), List.mem_of_getElem? (i := 692) (by decide +kernel)⟩
theorem lw_p49 : lw_okq (⟨"LabelledFlowsModel", "isEntry", "(II)Z"⟩, 30) := ⟨⟨by decide +kernel, by decide +kernel⟩, List.mem_of_getElem? (i := 520) (by decide +kernel), List.mem_of_getElem? (i := 696) (by decide +kernel), List.mem_of_getElem? (i := 697) (by decide +kernel)⟩
theorem lw_p50 : lw_okq (⟨"LabelledFlowsModel", "allFrom", "(II)V"⟩, 30) := ⟨⟨by decide +kernel, by decide +kernel⟩, List.mem_of_getElem? (i := 520) (by decide +kernel), List.mem_of_getElem? (i := 700) (by decide +kernel), List.mem_of_getElem? (i := 701) (by decide +kernel)⟩
theorem lw_p51 : lw_okq (⟨"LabelledFlowsModel", "putZero", "(II)V"⟩, 30) := ⟨⟨by decide +kernel, by decide +kernel⟩, List.mem_of_getElem? (i := 520) (by decide +kernel), List.mem_of_getElem? (i := 704) (by decide +kernel), List.mem_of_getElem? (i := 705) (by decide +kernel)⟩
theorem lw_p52 : lw_okq (⟨"LabelledFlowsModel", "put", "(IIIJ)V"⟩, 30) := ⟨⟨by decide +kernel, by decide +kernel⟩, List.mem_of_getElem? (i := 520) (by decide +kernel), List.mem_of_getElem? (i := 708) (by decide +kernel), List.mem_of_getElem? (i := 709) (by decide +kernel)⟩
theorem lw_p53 : lw_okq (⟨"LabelledFlowsModel", "cellOf", "(III)I"⟩, 30) := ⟨⟨by decide +kernel, by decide +kernel⟩, List.mem_of_getElem? (i := 520) (by decide +kernel), List.mem_of_getElem? (i := 712) (by decide +kernel), List.mem_of_getElem? (i := 713) (by decide +kernel)⟩
theorem lw_p54 : lw_okq (⟨"LabelledFlowsModel", "follow", "(IIII)V"⟩, 30) := ⟨⟨by decide +kernel, by decide +kernel⟩, List.mem_of_getElem? (i := 520) (by decide +kernel), List.mem_of_getElem? (i := 716) (by decide +kernel), List.mem_of_getElem? (i := 717) (by decide +kernel)⟩
theorem lw_p55 : lw_okq (⟨"LabelledFlowsModel", "callFacts", "(IIII)V"⟩, 30) := ⟨⟨by decide +kernel, by decide +kernel⟩, List.mem_of_getElem? (i := 520) (by decide +kernel), List.mem_of_getElem? (i := 720) (by decide +kernel), List.mem_of_getElem? (i := 721) (by decide +kernel)⟩
theorem lw_p56 : lw_okq (⟨"LabelledFlowsModel", "give", "(IIIII)V"⟩, 30) := ⟨⟨by decide +kernel, by decide +kernel⟩, List.mem_of_getElem? (i := 520) (by decide +kernel), List.mem_of_getElem? (i := 724) (by decide +kernel), List.mem_of_getElem? (i := 725) (by decide +kernel)⟩
theorem lw_p57 : lw_okq (⟨"LabelledFlowsModel", "back", "(IIIII)V"⟩, 30) := ⟨⟨by decide +kernel, by decide +kernel⟩, List.mem_of_getElem? (i := 520) (by decide +kernel), List.mem_of_getElem? (i := 728) (by decide +kernel), List.mem_of_getElem? (i := 729) (by decide +kernel)⟩
theorem lw_p58 : lw_okq (⟨"LabelledFlowsModel", "onwards", "(IIII)V"⟩, 30) := ⟨⟨by decide +kernel, by decide +kernel⟩, List.mem_of_getElem? (i := 520) (by decide +kernel), List.mem_of_getElem? (i := 733) (by decide +kernel), List.mem_of_getElem? (i := 734) (by decide +kernel)⟩
theorem lw_p59 : lw_okq (⟨"LabelledFlowsModel", "followFact", "(IIII)V"⟩, 30) := ⟨⟨by decide +kernel, by decide +kernel⟩, List.mem_of_getElem? (i := 520) (by decide +kernel), List.mem_of_getElem? (i := 737) (by decide +kernel), List.mem_of_getElem? (i := 738) (by decide +kernel)⟩
theorem lw_p60 : lw_okq (⟨"LabelledFlowsModel", "enter", "(III)V"⟩, 30) := ⟨⟨by decide +kernel, by decide +kernel⟩, List.mem_of_getElem? (i := 520) (by decide +kernel), List.mem_of_getElem? (i := 773) (by decide +kernel), List.mem_of_getElem? (i := 774) (by decide +kernel)⟩
theorem lw_p61 : lw_okq (⟨"LabelledFlowsModel", "assign", "(III)V"⟩, 30) := ⟨⟨by decide +kernel, by decide +kernel⟩, List.mem_of_getElem? (i := 520) (by decide +kernel), List.mem_of_getElem? (i := 777) (by decide +kernel), List.mem_of_getElem? (i := 778) (by decide +kernel)⟩
theorem lw_p62 : lw_okq (⟨"LabelledFlowsModel", "leave", "(I)V"⟩, 30) := ⟨⟨by decide +kernel, by decide +kernel⟩, List.mem_of_getElem? (i := 520) (by decide +kernel), List.mem_of_getElem? (i := 781) (by decide +kernel), List.mem_of_getElem? (i := 782) (by decide +kernel)⟩
theorem lw_p63 : lw_okq (⟨"LabelledFlowsModel", "hindrance", "()I"⟩, 30) := ⟨⟨by decide +kernel, by decide +kernel⟩, List.mem_of_getElem? (i := 520) (by decide +kernel), List.mem_of_getElem? (i := 785) (by decide +kernel), List.mem_of_getElem? (i := 786) (by decide +kernel)⟩
def lw_privs_4 : List (MethodName × Nat) := [(⟨"LabelledFlowsModel", "workFacts", "()V"⟩, 30), (⟨"LabelledFlowsModel", "isEntry", "(II)Z"⟩, 30), (⟨"LabelledFlowsModel", "allFrom", "(II)V"⟩, 30), (⟨"LabelledFlowsModel", "putZero", "(II)V"⟩, 30), (⟨"LabelledFlowsModel", "put", "(IIIJ)V"⟩, 30), (⟨"LabelledFlowsModel", "cellOf", "(III)I"⟩, 30), (⟨"LabelledFlowsModel", "follow", "(IIII)V"⟩, 30), (⟨"LabelledFlowsModel", "callFacts", "(IIII)V"⟩, 30), (⟨"LabelledFlowsModel", "give", "(IIIII)V"⟩, 30), (⟨"LabelledFlowsModel", "back", "(IIIII)V"⟩, 30), (⟨"LabelledFlowsModel", "onwards", "(IIII)V"⟩, 30), (⟨"LabelledFlowsModel", "followFact", "(IIII)V"⟩, 30), (⟨"LabelledFlowsModel", "enter", "(III)V"⟩, 30), (⟨"LabelledFlowsModel", "assign", "(III)V"⟩, 30), (⟨"LabelledFlowsModel", "leave", "(I)V"⟩, 30), (⟨"LabelledFlowsModel", "hindrance", "()I"⟩, 30)]
theorem lw_r4 : ∀ q ∈ lw_privs_4, lw_okq q := List.forall_mem_cons.mpr ⟨lw_p48, List.forall_mem_cons.mpr ⟨lw_p49, List.forall_mem_cons.mpr ⟨lw_p50, List.forall_mem_cons.mpr ⟨lw_p51, List.forall_mem_cons.mpr ⟨lw_p52, List.forall_mem_cons.mpr ⟨lw_p53, List.forall_mem_cons.mpr ⟨lw_p54, List.forall_mem_cons.mpr ⟨lw_p55, List.forall_mem_cons.mpr ⟨lw_p56, List.forall_mem_cons.mpr ⟨lw_p57, List.forall_mem_cons.mpr ⟨lw_p58, List.forall_mem_cons.mpr ⟨lw_p59, List.forall_mem_cons.mpr ⟨lw_p60, List.forall_mem_cons.mpr ⟨lw_p61, List.forall_mem_cons.mpr ⟨lw_p62, List.forall_mem_cons.mpr ⟨lw_p63, fun _ h => absurd h List.not_mem_nil⟩⟩⟩⟩⟩⟩⟩⟩⟩⟩⟩⟩⟩⟩⟩⟩
theorem lw_p64 : lw_okq (⟨"LabelledFlowsModel", "step", "(I)V"⟩, 30) := ⟨⟨by decide +kernel, by decide +kernel⟩, List.mem_of_getElem? (i := 520) (by decide +kernel), List.mem_of_getElem? (i := 789) (by decide +kernel), List.mem_of_getElem? (i := 790) (by decide +kernel)⟩
theorem lw_p65 : lw_okq (⟨"LabelledFlowsModel", "plain", "(II)V"⟩, 30) := ⟨⟨by decide +kernel, by decide +kernel⟩, List.mem_of_getElem? (i := 520) (by decide +kernel), List.mem_of_getElem? (i := 793) (by decide +kernel), List.mem_of_getElem? (i := 794) (by decide +kernel)⟩
def lw_privs_5 : List (MethodName × Nat) := [(⟨"LabelledFlowsModel", "step", "(I)V"⟩, 30), (⟨"LabelledFlowsModel", "plain", "(II)V"⟩, 30)]
theorem lw_r5 : ∀ q ∈ lw_privs_5, lw_okq q := List.forall_mem_cons.mpr ⟨lw_p64, List.forall_mem_cons.mpr ⟨lw_p65, fun _ h => absurd h List.not_mem_nil⟩⟩
def lw_privs : List (MethodName × Nat) := lw_privs_1 ++ (lw_privs_2 ++ (lw_privs_3 ++ (lw_privs_4 ++ (lw_privs_5))))
def lw_tbl : List Cond := k2_sels lw_privs ++ tables_1
theorem lw_privs_ok : ∀ q ∈ lw_privs, lw_okq q := by
  show ∀ q ∈ lw_privs_1 ++ (lw_privs_2 ++ (lw_privs_3 ++ (lw_privs_4 ++ (lw_privs_5)))), lw_okq q
  exact List.forall_mem_append.mpr ⟨lw_r1, List.forall_mem_append.mpr ⟨lw_r2, List.forall_mem_append.mpr ⟨lw_r3, List.forall_mem_append.mpr ⟨lw_r4, lw_r5⟩⟩⟩⟩
def mb_pw (w : Cond) : Bool := goodWord w || (match w with
  | .privateMethod _ => true
  | .methodLinkNest _ _ _ _ => true
  | _ => false)
def lw_w : List Cond := lw_tbl.filter mb_pw
theorem mb_lw {w : Cond} (h : w ∈ lw_tbl ∧ ((w.onTables && w.keeps) = true ∨ ∃ ty, w = .arrayClass ty)) : w ∈ lw_w := by
  refine List.mem_filter.mpr ⟨h.1, ?_⟩
  rcases h.2 with h | ⟨ty, rfl⟩
  · have e : goodWord w = true := by cases w <;> first | rfl | exact h
    unfold mb_pw
    rw [e]; rfl
  · rfl
def cnX : String := "LabelledFlows"
def fTX : u_T := fun k => match k with
  | 0 => ("LabelledFlows", "program", "LLabelledFlows$Program;", true)
  | 1 => ("LabelledFlows", "pointing", "LLabelledFlows$Pointing;", true)
  | 2 => ("LabelledFlows", "flow", "LLabelledFlows$Flow;", true)
  | 3 => ("LabelledFlows", "machine", "LLabelledFlows$Machine;", true)
  | _ => ("LabelledFlows", "latestVerdict", "I", false)
def fyX : Nat → FieldType := fun k => match k with
  | 0 => .object "LabelledFlows$Program"
  | 1 => .object "LabelledFlows$Pointing"
  | 2 => .object "LabelledFlows$Flow"
  | 3 => .object "LabelledFlows$Machine"
  | _ => .int
theorem fnX : ∀ a, a < 5 → ∀ b, b < 5 → a ≠ b → (fTX a).2.1 ≠ (fTX b).2.1 := by decide +kernel
theorem fyX_ok : ∀ k, k < 5 → parseFieldDescriptor (fTX k).2.2.1 = some (fyX k) := by decide +kernel
set_option maxRecDepth 100000 in
theorem uwX : ∀ w ∈ u_ws cnX fTX 5, w ∈ lw_w := fun w h => mb_lw (goodIn_p (big := lw_tbl) (u_ws cnX fTX 5) [] (by decide +kernel) (by decide +kernel) w h)
def cnP : String := "LabelledFlows$Program"
def fTP : u_T := fun k => match k with
  | 0 => ("LabelledFlows$Program", "kinds", "[I", true)
  | 1 => ("LabelledFlows$Program", "as", "[I", true)
  | 2 => ("LabelledFlows$Program", "bs", "[I", true)
  | 3 => ("LabelledFlows$Program", "cs", "[I", true)
  | 4 => ("LabelledFlows$Program", "numbers", "[I", true)
  | 5 => ("LabelledFlows$Program", "sizes", "[I", true)
  | 6 => ("LabelledFlows$Program", "counts", "[I", true)
  | 7 => ("LabelledFlows$Program", "siteClasses", "[I", true)
  | 8 => ("LabelledFlows$Program", "sinkSpots", "[I", true)
  | 9 => ("LabelledFlows$Program", "parents", "[I", true)
  | 10 => ("LabelledFlows$Program", "bound", "[I", true)
  | _ => ("LabelledFlows$Program", "total", "I", false)
def fyP : Nat → FieldType := fun k => match k with
  | 0 => .array .int
  | 1 => .array .int
  | 2 => .array .int
  | 3 => .array .int
  | 4 => .array .int
  | 5 => .array .int
  | 6 => .array .int
  | 7 => .array .int
  | 8 => .array .int
  | 9 => .array .int
  | 10 => .array .int
  | _ => .int
theorem fnP : ∀ a, a < 12 → ∀ b, b < 12 → a ≠ b → (fTP a).2.1 ≠ (fTP b).2.1 := by decide +kernel
theorem fyP_ok : ∀ k, k < 12 → parseFieldDescriptor (fTP k).2.2.1 = some (fyP k) := by decide +kernel
set_option maxRecDepth 100000 in
theorem uwP : ∀ w ∈ u_ws cnP fTP 12, w ∈ lw_w := fun w h => mb_lw (goodIn_p (big := lw_tbl) (u_ws cnP fTP 12) [] (by decide +kernel) (by decide +kernel) w h)
def cnQ : String := "LabelledFlows$Pointing"
def fTQ : u_T := fun k => match k with
  | 0 => ("LabelledFlows$Pointing", "program", "LLabelledFlows$Program;", true)
  | 1 => ("LabelledFlows$Pointing", "locals", "[I", true)
  | 2 => ("LabelledFlows$Pointing", "cells", "[I", true)
  | 3 => ("LabelledFlows$Pointing", "targets", "[I", true)
  | 4 => ("LabelledFlows$Pointing", "reached", "I", false)
  | _ => ("LabelledFlows$Pointing", "grew", "Z", false)
def fyQ : Nat → FieldType := fun k => match k with
  | 0 => .object "LabelledFlows$Program"
  | 1 => .array .int
  | 2 => .array .int
  | 3 => .array .int
  | 4 => .int
  | _ => .boolean
theorem fnQ : ∀ a, a < 6 → ∀ b, b < 6 → a ≠ b → (fTQ a).2.1 ≠ (fTQ b).2.1 := by decide +kernel
theorem fyQ_ok : ∀ k, k < 6 → parseFieldDescriptor (fTQ k).2.2.1 = some (fyQ k) := by decide +kernel
set_option maxRecDepth 100000 in
theorem uwQ : ∀ w ∈ u_ws cnQ fTQ 6, w ∈ lw_w := fun w h => mb_lw (goodIn_p (big := lw_tbl) (u_ws cnQ fTQ 6) [] (by decide +kernel) (by decide +kernel) w h)
def cnF : String := "LabelledFlows$Flow"
def fTF : u_T := fun k => match k with
  | 0 => ("LabelledFlows$Flow", "program", "LLabelledFlows$Program;", true)
  | 1 => ("LabelledFlows$Flow", "pointing", "LLabelledFlows$Pointing;", true)
  | 2 => ("LabelledFlows$Flow", "held", "[I", true)
  | 3 => ("LabelledFlows$Flow", "exits", "[I", true)
  | 4 => ("LabelledFlows$Flow", "labels", "[I", true)
  | 5 => ("LabelledFlows$Flow", "zeroPlaces", "[I", true)
  | _ => ("LabelledFlows$Flow", "grew", "Z", false)
def fyF : Nat → FieldType := fun k => match k with
  | 0 => .object "LabelledFlows$Program"
  | 1 => .object "LabelledFlows$Pointing"
  | 2 => .array .int
  | 3 => .array .int
  | 4 => .array .int
  | 5 => .array .int
  | _ => .boolean
theorem fnF : ∀ a, a < 7 → ∀ b, b < 7 → a ≠ b → (fTF a).2.1 ≠ (fTF b).2.1 := by decide +kernel
theorem fyF_ok : ∀ k, k < 7 → parseFieldDescriptor (fTF k).2.2.1 = some (fyF k) := by decide +kernel
set_option maxRecDepth 100000 in
theorem uwF : ∀ w ∈ u_ws cnF fTF 7, w ∈ lw_w := fun w h => mb_lw (goodIn_p (big := lw_tbl) (u_ws cnF fTF 7) [] (by decide +kernel) (by decide +kernel) w h)
def cnA : String := "LabelledFlows$Machine"
def fTA : u_T := fun k => match k with
  | 0 => ("LabelledFlows$Machine", "program", "LLabelledFlows$Program;", true)
  | 1 => ("LabelledFlows$Machine", "openMethods", "[I", true)
  | 2 => ("LabelledFlows$Machine", "openSpots", "[I", true)
  | 3 => ("LabelledFlows$Machine", "open", "I", false)
  | 4 => ("LabelledFlows$Machine", "locals", "[I", true)
  | 5 => ("LabelledFlows$Machine", "objectClasses", "[I", true)
  | 6 => ("LabelledFlows$Machine", "fields", "[I", true)
  | 7 => ("LabelledFlows$Machine", "choices", "I", false)
  | 8 => ("LabelledFlows$Machine", "branches", "I", false)
  | 9 => ("LabelledFlows$Machine", "steps", "I", false)
  | 10 => ("LabelledFlows$Machine", "objects", "I", false)
  | 11 => ("LabelledFlows$Machine", "hitCounts", "[I", true)
  | _ => ("LabelledFlows$Machine", "ending", "I", false)
def fyA : Nat → FieldType := fun k => match k with
  | 0 => .object "LabelledFlows$Program"
  | 1 => .array .int
  | 2 => .array .int
  | 3 => .int
  | 4 => .array .int
  | 5 => .array .int
  | 6 => .array .int
  | 7 => .int
  | 8 => .int
  | 9 => .int
  | 10 => .int
  | 11 => .array .int
  | _ => .int
theorem fnA : ∀ a, a < 13 → ∀ b, b < 13 → a ≠ b → (fTA a).2.1 ≠ (fTA b).2.1 := by decide +kernel
theorem fyA_ok : ∀ k, k < 13 → parseFieldDescriptor (fTA k).2.2.1 = some (fyA k) := by decide +kernel
set_option maxRecDepth 100000 in
theorem uwA : ∀ w ∈ u_ws cnA fTA 13, w ∈ lw_w := fun w h => mb_lw (goodIn_p (big := lw_tbl) (u_ws cnA fTA 13) [] (by decide +kernel) (by decide +kernel) w h)
def cnM : String := "LabelledFlowsModel"
def fTM : u_T := fun k => match k with
  | 0 => ("LabelledFlowsModel", "length", "[I", false)
  | 1 => ("LabelledFlowsModel", "kinds", "[I", false)
  | 2 => ("LabelledFlowsModel", "first", "[I", false)
  | 3 => ("LabelledFlowsModel", "second", "[I", false)
  | 4 => ("LabelledFlowsModel", "third", "[I", false)
  | 5 => ("LabelledFlowsModel", "parent", "[I", false)
  | 6 => ("LabelledFlowsModel", "bound", "[I", false)
  | 7 => ("LabelledFlowsModel", "verdict", "I", false)
  | 8 => ("LabelledFlowsModel", "changed", "Z", false)
  | 9 => ("LabelledFlowsModel", "local", "[I", false)
  | 10 => ("LabelledFlowsModel", "field", "[I", false)
  | 11 => ("LabelledFlowsModel", "reached", "[Z", false)
  | 12 => ("LabelledFlowsModel", "targets", "[I", false)
  | 13 => ("LabelledFlowsModel", "hold", "[J", false)
  | 14 => ("LabelledFlowsModel", "zero", "[Z", false)
  | 15 => ("LabelledFlowsModel", "entry", "[J", false)
  | 16 => ("LabelledFlowsModel", "zeroEntry", "[Z", false)
  | 17 => ("LabelledFlowsModel", "outcome", "I", false)
  | 18 => ("LabelledFlowsModel", "made", "I", false)
  | 19 => ("LabelledFlowsModel", "hits", "[I", false)
  | 20 => ("LabelledFlowsModel", "steps", "I", false)
  | 21 => ("LabelledFlowsModel", "branches", "I", false)
  | 22 => ("LabelledFlowsModel", "depth", "I", false)
  | 23 => ("LabelledFlowsModel", "method", "[I", false)
  | 24 => ("LabelledFlowsModel", "place", "[I", false)
  | 25 => ("LabelledFlowsModel", "object", "[I", false)
  | 26 => ("LabelledFlowsModel", "label", "[I", false)
  | 27 => ("LabelledFlowsModel", "kindOf", "[I", false)
  | 28 => ("LabelledFlowsModel", "held", "[I", false)
  | _ => ("LabelledFlowsModel", "heldLabel", "[I", false)
def fyM : Nat → FieldType := fun k => match k with
  | 0 => .array .int
  | 1 => .array .int
  | 2 => .array .int
  | 3 => .array .int
  | 4 => .array .int
  | 5 => .array .int
  | 6 => .array .int
  | 7 => .int
  | 8 => .boolean
  | 9 => .array .int
  | 10 => .array .int
  | 11 => .array .boolean
  | 12 => .array .int
  | 13 => .array .long
  | 14 => .array .boolean
  | 15 => .array .long
  | 16 => .array .boolean
  | 17 => .int
  | 18 => .int
  | 19 => .array .int
  | 20 => .int
  | 21 => .int
  | 22 => .int
  | 23 => .array .int
  | 24 => .array .int
  | 25 => .array .int
  | 26 => .array .int
  | 27 => .array .int
  | 28 => .array .int
  | _ => .array .int
theorem fnM : ∀ a, a < 30 → ∀ b, b < 30 → a ≠ b → (fTM a).2.1 ≠ (fTM b).2.1 := by decide +kernel
theorem fyM_ok : ∀ k, k < 30 → parseFieldDescriptor (fTM k).2.2.1 = some (fyM k) := by decide +kernel
set_option maxRecDepth 100000 in
theorem uwM : ∀ w ∈ u_ws cnM fTM 30, w ∈ lw_w := fun w h => mb_lw (goodIn_p (big := lw_tbl) (u_ws cnM fTM 30) [] (by decide +kernel) (by decide +kernel) w h)
abbrev vwCl : List vw_C := [(cnX, fTX, 5), (cnP, fTP, 12), (cnQ, fTQ, 6), (cnF, fTF, 7), (cnA, fTA, 13), (cnM, fTM, 30)]
theorem wd_1 : (Jvm.Cond.initialized "LabelledFlows") ∈ lw_w := List.mem_filter.mpr ⟨List.mem_append_right _ (List.mem_of_getElem? (i := 1) (by decide +kernel)), rfl⟩
theorem wd_2 : (Jvm.Cond.initialized "LabelledFlows$Program") ∈ lw_w := List.mem_filter.mpr ⟨List.mem_append_right _ (List.mem_of_getElem? (i := 2) (by decide +kernel)), rfl⟩
theorem wd_3 : (Jvm.Cond.initialized "java/util/Arrays") ∈ lw_w := List.mem_filter.mpr ⟨List.mem_append_right _ (List.mem_of_getElem? (i := 3) (by decide +kernel)), rfl⟩
theorem wd_4 : (Jvm.Cond.initialized "LabelledFlows$Pointing") ∈ lw_w := List.mem_filter.mpr ⟨List.mem_append_right _ (List.mem_of_getElem? (i := 4) (by decide +kernel)), rfl⟩
theorem wd_5 : (Jvm.Cond.initialized "LabelledFlows$Flow") ∈ lw_w := List.mem_filter.mpr ⟨List.mem_append_right _ (List.mem_of_getElem? (i := 5) (by decide +kernel)), rfl⟩
theorem wd_6 : (Jvm.Cond.initialized "LabelledFlows$Machine") ∈ lw_w := List.mem_filter.mpr ⟨List.mem_append_right _ (List.mem_of_getElem? (i := 6) (by decide +kernel)), rfl⟩
theorem wd_7 : (Jvm.Cond.initialized "LabelledFlowsModel") ∈ lw_w := List.mem_filter.mpr ⟨List.mem_append_right _ (List.mem_of_getElem? (i := 7) (by decide +kernel)), rfl⟩
theorem wd_8 : (Jvm.Cond.initialized "java/lang/Math") ∈ lw_w := List.mem_filter.mpr ⟨List.mem_append_right _ (List.mem_of_getElem? (i := 8) (by decide +kernel)), rfl⟩
theorem wd_9 : (Jvm.Cond.initialized "java/lang/Integer") ∈ lw_w := List.mem_filter.mpr ⟨List.mem_append_right _ (List.mem_of_getElem? (i := 9) (by decide +kernel)), rfl⟩
theorem wd_24 : (Jvm.Cond.methodLink "LabelledFlows$Program" (45 : Nat) ({ cls := "java/util/Arrays", name := "fill", desc := "([II)V" } : Jvm.MethodName)) ∈ lw_w := List.mem_filter.mpr ⟨List.mem_append_right _ (List.mem_of_getElem? (i := 24) (by decide +kernel)), rfl⟩
theorem wd_25 : (Jvm.Cond.static ({ cls := "java/util/Arrays", name := "fill", desc := "([II)V" } : Jvm.MethodName)) ∈ lw_w := List.mem_filter.mpr ⟨List.mem_append_right _ (List.mem_of_getElem? (i := 25) (by decide +kernel)), rfl⟩
theorem wd_26 : (Jvm.Cond.code ({ cls := "java/util/Arrays", name := "fill", desc := "([II)V" } : Jvm.MethodName) prog_10_method_103_code (4 : Nat) (Option.none : Option Jvm.ClassFile.FieldType)) ∈ lw_w := List.mem_filter.mpr ⟨List.mem_append_right _ (List.mem_of_getElem? (i := 26) (by decide +kernel)), rfl⟩
theorem wd_27 : (Jvm.Cond.fieldLink "LabelledFlows$Program" (9 : Nat) "LabelledFlows$Program" "kinds" "[I") ∈ lw_w := List.mem_filter.mpr ⟨List.mem_append_right _ (List.mem_of_getElem? (i := 27) (by decide +kernel)), rfl⟩
theorem wd_28 : (Jvm.Cond.fieldLink "LabelledFlows$Pointing" (65 : Nat) "LabelledFlows$Program" "kinds" "[I") ∈ lw_w := List.mem_filter.mpr ⟨List.mem_append_right _ (List.mem_of_getElem? (i := 28) (by decide +kernel)), rfl⟩
theorem wd_29 : (Jvm.Cond.fieldLink "LabelledFlows$Flow" (75 : Nat) "LabelledFlows$Program" "kinds" "[I") ∈ lw_w := List.mem_filter.mpr ⟨List.mem_append_right _ (List.mem_of_getElem? (i := 29) (by decide +kernel)), rfl⟩
theorem wd_30 : (Jvm.Cond.fieldLink "LabelledFlows$Machine" (101 : Nat) "LabelledFlows$Program" "kinds" "[I") ∈ lw_w := List.mem_filter.mpr ⟨List.mem_append_right _ (List.mem_of_getElem? (i := 30) (by decide +kernel)), rfl⟩
theorem wd_31 : (Jvm.Cond.fieldLink "LabelledFlows$Program" (15 : Nat) "LabelledFlows$Program" "as" "[I") ∈ lw_w := List.mem_filter.mpr ⟨List.mem_append_right _ (List.mem_of_getElem? (i := 31) (by decide +kernel)), rfl⟩
theorem wd_32 : (Jvm.Cond.fieldLink "LabelledFlows$Pointing" (56 : Nat) "LabelledFlows$Program" "as" "[I") ∈ lw_w := List.mem_filter.mpr ⟨List.mem_append_right _ (List.mem_of_getElem? (i := 32) (by decide +kernel)), rfl⟩
theorem wd_33 : (Jvm.Cond.fieldLink "LabelledFlows$Flow" (88 : Nat) "LabelledFlows$Program" "as" "[I") ∈ lw_w := List.mem_filter.mpr ⟨List.mem_append_right _ (List.mem_of_getElem? (i := 33) (by decide +kernel)), rfl⟩
theorem wd_34 : (Jvm.Cond.fieldLink "LabelledFlows$Machine" (98 : Nat) "LabelledFlows$Program" "as" "[I") ∈ lw_w := List.mem_filter.mpr ⟨List.mem_append_right _ (List.mem_of_getElem? (i := 34) (by decide +kernel)), rfl⟩
theorem wd_35 : (Jvm.Cond.fieldLink "LabelledFlows" (99 : Nat) "LabelledFlows$Program" "as" "[I") ∈ lw_w := List.mem_filter.mpr ⟨List.mem_append_right _ (List.mem_of_getElem? (i := 35) (by decide +kernel)), rfl⟩
theorem wd_36 : (Jvm.Cond.fieldLink "LabelledFlows$Program" (18 : Nat) "LabelledFlows$Program" "bs" "[I") ∈ lw_w := List.mem_filter.mpr ⟨List.mem_append_right _ (List.mem_of_getElem? (i := 36) (by decide +kernel)), rfl⟩
theorem wd_37 : (Jvm.Cond.fieldLink "LabelledFlows$Pointing" (59 : Nat) "LabelledFlows$Program" "bs" "[I") ∈ lw_w := List.mem_filter.mpr ⟨List.mem_append_right _ (List.mem_of_getElem? (i := 37) (by decide +kernel)), rfl⟩
theorem wd_38 : (Jvm.Cond.fieldLink "LabelledFlows$Machine" (104 : Nat) "LabelledFlows$Program" "bs" "[I") ∈ lw_w := List.mem_filter.mpr ⟨List.mem_append_right _ (List.mem_of_getElem? (i := 38) (by decide +kernel)), rfl⟩
theorem wd_39 : (Jvm.Cond.fieldLink "LabelledFlows$Flow" (112 : Nat) "LabelledFlows$Program" "bs" "[I") ∈ lw_w := List.mem_filter.mpr ⟨List.mem_append_right _ (List.mem_of_getElem? (i := 39) (by decide +kernel)), rfl⟩
theorem wd_40 : (Jvm.Cond.fieldLink "LabelledFlows$Program" (21 : Nat) "LabelledFlows$Program" "cs" "[I") ∈ lw_w := List.mem_filter.mpr ⟨List.mem_append_right _ (List.mem_of_getElem? (i := 40) (by decide +kernel)), rfl⟩
theorem wd_41 : (Jvm.Cond.fieldLink "LabelledFlows$Pointing" (62 : Nat) "LabelledFlows$Program" "cs" "[I") ∈ lw_w := List.mem_filter.mpr ⟨List.mem_append_right _ (List.mem_of_getElem? (i := 41) (by decide +kernel)), rfl⟩
theorem wd_42 : (Jvm.Cond.fieldLink "LabelledFlows$Flow" (115 : Nat) "LabelledFlows$Program" "cs" "[I") ∈ lw_w := List.mem_filter.mpr ⟨List.mem_append_right _ (List.mem_of_getElem? (i := 42) (by decide +kernel)), rfl⟩
theorem wd_43 : (Jvm.Cond.fieldLink "LabelledFlows$Machine" (113 : Nat) "LabelledFlows$Program" "cs" "[I") ∈ lw_w := List.mem_filter.mpr ⟨List.mem_append_right _ (List.mem_of_getElem? (i := 43) (by decide +kernel)), rfl⟩
theorem wd_44 : (Jvm.Cond.fieldLink "LabelledFlows$Program" (24 : Nat) "LabelledFlows$Program" "numbers" "[I") ∈ lw_w := List.mem_filter.mpr ⟨List.mem_append_right _ (List.mem_of_getElem? (i := 44) (by decide +kernel)), rfl⟩
theorem wd_45 : (Jvm.Cond.fieldLink "LabelledFlows$Pointing" (68 : Nat) "LabelledFlows$Program" "numbers" "[I") ∈ lw_w := List.mem_filter.mpr ⟨List.mem_append_right _ (List.mem_of_getElem? (i := 45) (by decide +kernel)), rfl⟩
theorem wd_46 : (Jvm.Cond.fieldLink "LabelledFlows$Flow" (85 : Nat) "LabelledFlows$Program" "numbers" "[I") ∈ lw_w := List.mem_filter.mpr ⟨List.mem_append_right _ (List.mem_of_getElem? (i := 46) (by decide +kernel)), rfl⟩
theorem wd_47 : (Jvm.Cond.fieldLink "LabelledFlows$Machine" (132 : Nat) "LabelledFlows$Program" "numbers" "[I") ∈ lw_w := List.mem_filter.mpr ⟨List.mem_append_right _ (List.mem_of_getElem? (i := 47) (by decide +kernel)), rfl⟩
theorem wd_48 : (Jvm.Cond.fieldLink "LabelledFlows$Program" (27 : Nat) "LabelledFlows$Program" "sizes" "[I") ∈ lw_w := List.mem_filter.mpr ⟨List.mem_append_right _ (List.mem_of_getElem? (i := 48) (by decide +kernel)), rfl⟩
theorem wd_49 : (Jvm.Cond.fieldLink "LabelledFlows" (63 : Nat) "LabelledFlows$Program" "sizes" "[I") ∈ lw_w := List.mem_filter.mpr ⟨List.mem_append_right _ (List.mem_of_getElem? (i := 49) (by decide +kernel)), rfl⟩
theorem wd_50 : (Jvm.Cond.fieldLink "LabelledFlows$Pointing" (47 : Nat) "LabelledFlows$Program" "sizes" "[I") ∈ lw_w := List.mem_filter.mpr ⟨List.mem_append_right _ (List.mem_of_getElem? (i := 50) (by decide +kernel)), rfl⟩
theorem wd_51 : (Jvm.Cond.fieldLink "LabelledFlows$Flow" (50 : Nat) "LabelledFlows$Program" "sizes" "[I") ∈ lw_w := List.mem_filter.mpr ⟨List.mem_append_right _ (List.mem_of_getElem? (i := 51) (by decide +kernel)), rfl⟩
theorem wd_52 : (Jvm.Cond.fieldLink "LabelledFlows$Machine" (93 : Nat) "LabelledFlows$Program" "sizes" "[I") ∈ lw_w := List.mem_filter.mpr ⟨List.mem_append_right _ (List.mem_of_getElem? (i := 52) (by decide +kernel)), rfl⟩
theorem wd_53 : (Jvm.Cond.fieldLink "LabelledFlows$Program" (30 : Nat) "LabelledFlows$Program" "counts" "[I") ∈ lw_w := List.mem_filter.mpr ⟨List.mem_append_right _ (List.mem_of_getElem? (i := 53) (by decide +kernel)), rfl⟩
theorem wd_54 : (Jvm.Cond.fieldLink "LabelledFlows" (127 : Nat) "LabelledFlows$Program" "counts" "[I") ∈ lw_w := List.mem_filter.mpr ⟨List.mem_append_right _ (List.mem_of_getElem? (i := 54) (by decide +kernel)), rfl⟩
theorem wd_55 : (Jvm.Cond.fieldLink "LabelledFlows$Program" (33 : Nat) "LabelledFlows$Program" "siteClasses" "[I") ∈ lw_w := List.mem_filter.mpr ⟨List.mem_append_right _ (List.mem_of_getElem? (i := 55) (by decide +kernel)), rfl⟩
theorem wd_56 : (Jvm.Cond.fieldLink "LabelledFlows$Pointing" (85 : Nat) "LabelledFlows$Program" "siteClasses" "[I") ∈ lw_w := List.mem_filter.mpr ⟨List.mem_append_right _ (List.mem_of_getElem? (i := 56) (by decide +kernel)), rfl⟩
theorem wd_57 : (Jvm.Cond.fieldLink "LabelledFlows$Program" (36 : Nat) "LabelledFlows$Program" "sinkSpots" "[I") ∈ lw_w := List.mem_filter.mpr ⟨List.mem_append_right _ (List.mem_of_getElem? (i := 57) (by decide +kernel)), rfl⟩
theorem wd_58 : (Jvm.Cond.fieldLink "LabelledFlows" (96 : Nat) "LabelledFlows$Program" "sinkSpots" "[I") ∈ lw_w := List.mem_filter.mpr ⟨List.mem_append_right _ (List.mem_of_getElem? (i := 58) (by decide +kernel)), rfl⟩
theorem wd_59 : (Jvm.Cond.fieldLink "LabelledFlows$Program" (39 : Nat) "LabelledFlows$Program" "parents" "[I") ∈ lw_w := List.mem_filter.mpr ⟨List.mem_append_right _ (List.mem_of_getElem? (i := 59) (by decide +kernel)), rfl⟩
theorem wd_60 : (Jvm.Cond.fieldLink "LabelledFlows" (71 : Nat) "LabelledFlows$Program" "parents" "[I") ∈ lw_w := List.mem_filter.mpr ⟨List.mem_append_right _ (List.mem_of_getElem? (i := 60) (by decide +kernel)), rfl⟩
theorem wd_61 : (Jvm.Cond.fieldLink "LabelledFlows$Program" (42 : Nat) "LabelledFlows$Program" "bound" "[I") ∈ lw_w := List.mem_filter.mpr ⟨List.mem_append_right _ (List.mem_of_getElem? (i := 61) (by decide +kernel)), rfl⟩
theorem wd_62 : (Jvm.Cond.fieldLink "LabelledFlows" (74 : Nat) "LabelledFlows$Program" "bound" "[I") ∈ lw_w := List.mem_filter.mpr ⟨List.mem_append_right _ (List.mem_of_getElem? (i := 62) (by decide +kernel)), rfl⟩
theorem wd_63 : (Jvm.Cond.fieldLink "LabelledFlows$Program" (55 : Nat) "LabelledFlows$Program" "total" "I") ∈ lw_w := List.mem_filter.mpr ⟨List.mem_append_right _ (List.mem_of_getElem? (i := 63) (by decide +kernel)), rfl⟩
theorem wd_96 : (Jvm.Cond.fieldLink "LabelledFlows$Pointing" (9 : Nat) "LabelledFlows$Pointing" "program" "LLabelledFlows$Program;") ∈ lw_w := List.mem_filter.mpr ⟨List.mem_append_right _ (List.mem_of_getElem? (i := 96) (by decide +kernel)), rfl⟩
theorem wd_97 : (Jvm.Cond.fieldLink "LabelledFlows$Pointing" (15 : Nat) "LabelledFlows$Pointing" "locals" "[I") ∈ lw_w := List.mem_filter.mpr ⟨List.mem_append_right _ (List.mem_of_getElem? (i := 97) (by decide +kernel)), rfl⟩
theorem wd_98 : (Jvm.Cond.fieldLink "LabelledFlows$Flow" (118 : Nat) "LabelledFlows$Pointing" "locals" "[I") ∈ lw_w := List.mem_filter.mpr ⟨List.mem_append_right _ (List.mem_of_getElem? (i := 98) (by decide +kernel)), rfl⟩
theorem wd_99 : (Jvm.Cond.fieldLink "LabelledFlows" (109 : Nat) "LabelledFlows$Pointing" "locals" "[I") ∈ lw_w := List.mem_filter.mpr ⟨List.mem_append_right _ (List.mem_of_getElem? (i := 99) (by decide +kernel)), rfl⟩
theorem wd_100 : (Jvm.Cond.fieldLink "LabelledFlows$Pointing" (19 : Nat) "LabelledFlows$Pointing" "cells" "[I") ∈ lw_w := List.mem_filter.mpr ⟨List.mem_append_right _ (List.mem_of_getElem? (i := 100) (by decide +kernel)), rfl⟩
theorem wd_101 : (Jvm.Cond.fieldLink "LabelledFlows" (112 : Nat) "LabelledFlows$Pointing" "cells" "[I") ∈ lw_w := List.mem_filter.mpr ⟨List.mem_append_right _ (List.mem_of_getElem? (i := 101) (by decide +kernel)), rfl⟩
theorem wd_102 : (Jvm.Cond.fieldLink "LabelledFlows$Pointing" (22 : Nat) "LabelledFlows$Pointing" "targets" "[I") ∈ lw_w := List.mem_filter.mpr ⟨List.mem_append_right _ (List.mem_of_getElem? (i := 102) (by decide +kernel)), rfl⟩
theorem wd_103 : (Jvm.Cond.fieldLink "LabelledFlows$Flow" (97 : Nat) "LabelledFlows$Pointing" "targets" "[I") ∈ lw_w := List.mem_filter.mpr ⟨List.mem_append_right _ (List.mem_of_getElem? (i := 103) (by decide +kernel)), rfl⟩
theorem wd_104 : (Jvm.Cond.fieldLink "LabelledFlows$Pointing" (31 : Nat) "LabelledFlows$Pointing" "reached" "I") ∈ lw_w := List.mem_filter.mpr ⟨List.mem_append_right _ (List.mem_of_getElem? (i := 104) (by decide +kernel)), rfl⟩
theorem wd_105 : (Jvm.Cond.fieldLink "LabelledFlows$Pointing" (35 : Nat) "LabelledFlows$Pointing" "grew" "Z") ∈ lw_w := List.mem_filter.mpr ⟨List.mem_append_right _ (List.mem_of_getElem? (i := 105) (by decide +kernel)), rfl⟩
theorem wd_125 : (Jvm.Cond.fieldLink "LabelledFlows$Flow" (11 : Nat) "LabelledFlows$Flow" "program" "LLabelledFlows$Program;") ∈ lw_w := List.mem_filter.mpr ⟨List.mem_append_right _ (List.mem_of_getElem? (i := 125) (by decide +kernel)), rfl⟩
theorem wd_126 : (Jvm.Cond.fieldLink "LabelledFlows$Flow" (15 : Nat) "LabelledFlows$Flow" "pointing" "LLabelledFlows$Pointing;") ∈ lw_w := List.mem_filter.mpr ⟨List.mem_append_right _ (List.mem_of_getElem? (i := 126) (by decide +kernel)), rfl⟩
theorem wd_127 : (Jvm.Cond.fieldLink "LabelledFlows$Flow" (19 : Nat) "LabelledFlows$Flow" "held" "[I") ∈ lw_w := List.mem_filter.mpr ⟨List.mem_append_right _ (List.mem_of_getElem? (i := 127) (by decide +kernel)), rfl⟩
theorem wd_128 : (Jvm.Cond.fieldLink "LabelledFlows$Flow" (23 : Nat) "LabelledFlows$Flow" "exits" "[I") ∈ lw_w := List.mem_filter.mpr ⟨List.mem_append_right _ (List.mem_of_getElem? (i := 128) (by decide +kernel)), rfl⟩
theorem wd_129 : (Jvm.Cond.fieldLink "LabelledFlows$Flow" (26 : Nat) "LabelledFlows$Flow" "labels" "[I") ∈ lw_w := List.mem_filter.mpr ⟨List.mem_append_right _ (List.mem_of_getElem? (i := 129) (by decide +kernel)), rfl⟩
theorem wd_130 : (Jvm.Cond.fieldLink "LabelledFlows$Flow" (29 : Nat) "LabelledFlows$Flow" "zeroPlaces" "[I") ∈ lw_w := List.mem_filter.mpr ⟨List.mem_append_right _ (List.mem_of_getElem? (i := 130) (by decide +kernel)), rfl⟩
theorem wd_131 : (Jvm.Cond.fieldLink "LabelledFlows$Flow" (35 : Nat) "LabelledFlows$Flow" "grew" "Z") ∈ lw_w := List.mem_filter.mpr ⟨List.mem_append_right _ (List.mem_of_getElem? (i := 131) (by decide +kernel)), rfl⟩
theorem wd_153 : (Jvm.Cond.fieldLink "LabelledFlows$Machine" (9 : Nat) "LabelledFlows$Machine" "program" "LLabelledFlows$Program;") ∈ lw_w := List.mem_filter.mpr ⟨List.mem_append_right _ (List.mem_of_getElem? (i := 153) (by decide +kernel)), rfl⟩
theorem wd_154 : (Jvm.Cond.fieldLink "LabelledFlows$Machine" (15 : Nat) "LabelledFlows$Machine" "openMethods" "[I") ∈ lw_w := List.mem_filter.mpr ⟨List.mem_append_right _ (List.mem_of_getElem? (i := 154) (by decide +kernel)), rfl⟩
theorem wd_155 : (Jvm.Cond.fieldLink "LabelledFlows$Machine" (19 : Nat) "LabelledFlows$Machine" "openSpots" "[I") ∈ lw_w := List.mem_filter.mpr ⟨List.mem_append_right _ (List.mem_of_getElem? (i := 155) (by decide +kernel)), rfl⟩
theorem wd_156 : (Jvm.Cond.fieldLink "LabelledFlows$Machine" (79 : Nat) "LabelledFlows$Machine" "open" "I") ∈ lw_w := List.mem_filter.mpr ⟨List.mem_append_right _ (List.mem_of_getElem? (i := 156) (by decide +kernel)), rfl⟩
theorem wd_157 : (Jvm.Cond.fieldLink "LabelledFlows$Machine" (22 : Nat) "LabelledFlows$Machine" "locals" "[I") ∈ lw_w := List.mem_filter.mpr ⟨List.mem_append_right _ (List.mem_of_getElem? (i := 157) (by decide +kernel)), rfl⟩
theorem wd_158 : (Jvm.Cond.fieldLink "LabelledFlows$Machine" (25 : Nat) "LabelledFlows$Machine" "objectClasses" "[I") ∈ lw_w := List.mem_filter.mpr ⟨List.mem_append_right _ (List.mem_of_getElem? (i := 158) (by decide +kernel)), rfl⟩
theorem wd_159 : (Jvm.Cond.fieldLink "LabelledFlows$Machine" (28 : Nat) "LabelledFlows$Machine" "fields" "[I") ∈ lw_w := List.mem_filter.mpr ⟨List.mem_append_right _ (List.mem_of_getElem? (i := 159) (by decide +kernel)), rfl⟩
theorem wd_160 : (Jvm.Cond.fieldLink "LabelledFlows$Machine" (70 : Nat) "LabelledFlows$Machine" "choices" "I") ∈ lw_w := List.mem_filter.mpr ⟨List.mem_append_right _ (List.mem_of_getElem? (i := 160) (by decide +kernel)), rfl⟩
theorem wd_161 : (Jvm.Cond.fieldLink "LabelledFlows$Machine" (73 : Nat) "LabelledFlows$Machine" "branches" "I") ∈ lw_w := List.mem_filter.mpr ⟨List.mem_append_right _ (List.mem_of_getElem? (i := 161) (by decide +kernel)), rfl⟩
theorem wd_162 : (Jvm.Cond.fieldLink "LabelledFlows$Machine" (61 : Nat) "LabelledFlows$Machine" "steps" "I") ∈ lw_w := List.mem_filter.mpr ⟨List.mem_append_right _ (List.mem_of_getElem? (i := 162) (by decide +kernel)), rfl⟩
theorem wd_163 : (Jvm.Cond.fieldLink "LabelledFlows$Machine" (76 : Nat) "LabelledFlows$Machine" "objects" "I") ∈ lw_w := List.mem_filter.mpr ⟨List.mem_append_right _ (List.mem_of_getElem? (i := 163) (by decide +kernel)), rfl⟩
theorem wd_164 : (Jvm.Cond.fieldLink "LabelledFlows" (124 : Nat) "LabelledFlows$Machine" "objects" "I") ∈ lw_w := List.mem_filter.mpr ⟨List.mem_append_right _ (List.mem_of_getElem? (i := 164) (by decide +kernel)), rfl⟩
theorem wd_165 : (Jvm.Cond.fieldLink "LabelledFlows$Machine" (31 : Nat) "LabelledFlows$Machine" "hitCounts" "[I") ∈ lw_w := List.mem_filter.mpr ⟨List.mem_append_right _ (List.mem_of_getElem? (i := 165) (by decide +kernel)), rfl⟩
theorem wd_166 : (Jvm.Cond.fieldLink "LabelledFlows" (121 : Nat) "LabelledFlows$Machine" "hitCounts" "[I") ∈ lw_w := List.mem_filter.mpr ⟨List.mem_append_right _ (List.mem_of_getElem? (i := 166) (by decide +kernel)), rfl⟩
theorem wd_167 : (Jvm.Cond.fieldLink "LabelledFlows$Machine" (34 : Nat) "LabelledFlows$Machine" "ending" "I") ∈ lw_w := List.mem_filter.mpr ⟨List.mem_append_right _ (List.mem_of_getElem? (i := 167) (by decide +kernel)), rfl⟩
theorem wd_168 : (Jvm.Cond.fieldLink "LabelledFlows" (118 : Nat) "LabelledFlows$Machine" "ending" "I") ∈ lw_w := List.mem_filter.mpr ⟨List.mem_append_right _ (List.mem_of_getElem? (i := 168) (by decide +kernel)), rfl⟩
theorem wd_196 : (Jvm.Cond.fieldLink "LabelledFlows" (12 : Nat) "LabelledFlows" "program" "LLabelledFlows$Program;") ∈ lw_w := List.mem_filter.mpr ⟨List.mem_append_right _ (List.mem_of_getElem? (i := 196) (by decide +kernel)), rfl⟩
theorem wd_197 : (Jvm.Cond.fieldLink "LabelledFlows" (21 : Nat) "LabelledFlows" "pointing" "LLabelledFlows$Pointing;") ∈ lw_w := List.mem_filter.mpr ⟨List.mem_append_right _ (List.mem_of_getElem? (i := 197) (by decide +kernel)), rfl⟩
theorem wd_198 : (Jvm.Cond.fieldLink "LabelledFlows" (30 : Nat) "LabelledFlows" "flow" "LLabelledFlows$Flow;") ∈ lw_w := List.mem_filter.mpr ⟨List.mem_append_right _ (List.mem_of_getElem? (i := 198) (by decide +kernel)), rfl⟩
theorem wd_199 : (Jvm.Cond.fieldLink "LabelledFlows" (37 : Nat) "LabelledFlows" "machine" "LLabelledFlows$Machine;") ∈ lw_w := List.mem_filter.mpr ⟨List.mem_append_right _ (List.mem_of_getElem? (i := 199) (by decide +kernel)), rfl⟩
theorem wd_200 : (Jvm.Cond.fieldLink "LabelledFlows" (41 : Nat) "LabelledFlows" "latestVerdict" "I") ∈ lw_w := List.mem_filter.mpr ⟨List.mem_append_right _ (List.mem_of_getElem? (i := 200) (by decide +kernel)), rfl⟩
theorem wd_216 : (Jvm.Cond.methodLink "LabelledFlows" (45 : Nat) ({ cls := "LabelledFlows$Program", name := "takes", desc := "(II)Z" } : Jvm.MethodName)) ∈ lw_w := List.mem_filter.mpr ⟨List.mem_append_right _ (List.mem_of_getElem? (i := 216) (by decide +kernel)), rfl⟩
theorem wd_217 : (Jvm.Cond.instanceMethod ({ cls := "LabelledFlows$Program", name := "takes", desc := "(II)Z" } : Jvm.MethodName)) ∈ lw_w := List.mem_filter.mpr ⟨List.mem_append_right _ (List.mem_of_getElem? (i := 217) (by decide +kernel)), rfl⟩
theorem wd_218 : (Jvm.Cond.selects "LabelledFlows$Program" ({ cls := "LabelledFlows$Program", name := "takes", desc := "(II)Z" } : Jvm.MethodName) ({ cls := "LabelledFlows$Program", name := "takes", desc := "(II)Z" } : Jvm.MethodName)) ∈ lw_w := List.mem_filter.mpr ⟨List.mem_append_right _ (List.mem_of_getElem? (i := 218) (by decide +kernel)), rfl⟩
theorem wd_219 : (Jvm.Cond.code ({ cls := "LabelledFlows$Program", name := "takes", desc := "(II)Z" } : Jvm.MethodName) prog_5_method_2_code (3 : Nat) (Option.some Jvm.ClassFile.FieldType.boolean)) ∈ lw_w := List.mem_filter.mpr ⟨List.mem_append_right _ (List.mem_of_getElem? (i := 219) (by decide +kernel)), rfl⟩
theorem wd_220 : (Jvm.Cond.methodLinkNest "LabelledFlows$Program" (51 : Nat) ({ cls := "LabelledFlows", name := "isBelow", desc := "(II)Z" } : Jvm.MethodName) "LabelledFlows") ∈ lw_w := List.mem_filter.mpr ⟨List.mem_append_right _ (List.mem_of_getElem? (i := 220) (by decide +kernel)), rfl⟩
theorem wd_221 : (Jvm.Cond.static ({ cls := "LabelledFlows", name := "isBelow", desc := "(II)Z" } : Jvm.MethodName)) ∈ lw_w := List.mem_filter.mpr ⟨List.mem_append_right _ (List.mem_of_getElem? (i := 221) (by decide +kernel)), rfl⟩
theorem wd_222 : (Jvm.Cond.code ({ cls := "LabelledFlows", name := "isBelow", desc := "(II)Z" } : Jvm.MethodName) prog_1_method_22_code (2 : Nat) (Option.some Jvm.ClassFile.FieldType.boolean)) ∈ lw_w := List.mem_filter.mpr ⟨List.mem_append_right _ (List.mem_of_getElem? (i := 222) (by decide +kernel)), rfl⟩
theorem wd_223 : (Jvm.Cond.fieldLink "LabelledFlows$Program" (59 : Nat) "LabelledFlows$Program" "MOST_OF_KIND" "[I") ∈ lw_w := List.mem_filter.mpr ⟨List.mem_append_right _ (List.mem_of_getElem? (i := 223) (by decide +kernel)), rfl⟩
theorem wd_225 : (Jvm.Cond.methodLink "LabelledFlows" (49 : Nat) ({ cls := "LabelledFlows", name := "operandsFit", desc := "(IIII)Z" } : Jvm.MethodName)) ∈ lw_w := List.mem_filter.mpr ⟨List.mem_append_right _ (List.mem_of_getElem? (i := 225) (by decide +kernel)), rfl⟩
theorem wd_226 : (Jvm.Cond.static ({ cls := "LabelledFlows", name := "operandsFit", desc := "(IIII)Z" } : Jvm.MethodName)) ∈ lw_w := List.mem_filter.mpr ⟨List.mem_append_right _ (List.mem_of_getElem? (i := 226) (by decide +kernel)), rfl⟩
theorem wd_227 : (Jvm.Cond.code ({ cls := "LabelledFlows", name := "operandsFit", desc := "(IIII)Z" } : Jvm.MethodName) prog_1_method_24_code (4 : Nat) (Option.some Jvm.ClassFile.FieldType.boolean)) ∈ lw_w := List.mem_filter.mpr ⟨List.mem_append_right _ (List.mem_of_getElem? (i := 227) (by decide +kernel)), rfl⟩
theorem wd_228 : (Jvm.Cond.methodLink "LabelledFlows" (60 : Nat) ({ cls := "LabelledFlows", name := "isBelow", desc := "(II)Z" } : Jvm.MethodName)) ∈ lw_w := List.mem_filter.mpr ⟨List.mem_append_right _ (List.mem_of_getElem? (i := 228) (by decide +kernel)), rfl⟩
theorem wd_229 : (Jvm.Cond.methodLink "LabelledFlows" (53 : Nat) ({ cls := "LabelledFlows$Program", name := "append", desc := "(IIIII)I" } : Jvm.MethodName)) ∈ lw_w := List.mem_filter.mpr ⟨List.mem_append_right _ (List.mem_of_getElem? (i := 229) (by decide +kernel)), rfl⟩
theorem wd_230 : (Jvm.Cond.instanceMethod ({ cls := "LabelledFlows$Program", name := "append", desc := "(IIIII)I" } : Jvm.MethodName)) ∈ lw_w := List.mem_filter.mpr ⟨List.mem_append_right _ (List.mem_of_getElem? (i := 230) (by decide +kernel)), rfl⟩
theorem wd_231 : (Jvm.Cond.selects "LabelledFlows$Program" ({ cls := "LabelledFlows$Program", name := "append", desc := "(IIIII)I" } : Jvm.MethodName) ({ cls := "LabelledFlows$Program", name := "append", desc := "(IIIII)I" } : Jvm.MethodName)) ∈ lw_w := List.mem_filter.mpr ⟨List.mem_append_right _ (List.mem_of_getElem? (i := 231) (by decide +kernel)), rfl⟩
theorem wd_232 : (Jvm.Cond.code ({ cls := "LabelledFlows$Program", name := "append", desc := "(IIIII)I" } : Jvm.MethodName) prog_5_method_3_code (8 : Nat) (Option.some Jvm.ClassFile.FieldType.int)) ∈ lw_w := List.mem_filter.mpr ⟨List.mem_append_right _ (List.mem_of_getElem? (i := 232) (by decide +kernel)), rfl⟩
theorem wd_233 : (Jvm.Cond.methodLink "LabelledFlows$Program" (62 : Nat) ({ cls := "LabelledFlows$Program", name := "renumber", desc := "()V" } : Jvm.MethodName)) ∈ lw_w := List.mem_filter.mpr ⟨List.mem_append_right _ (List.mem_of_getElem? (i := 233) (by decide +kernel)), rfl⟩
theorem wd_235 : (Jvm.Cond.instanceMethod ({ cls := "LabelledFlows$Program", name := "renumber", desc := "()V" } : Jvm.MethodName)) ∈ lw_w := List.mem_filter.mpr ⟨List.mem_append_right _ (List.mem_of_getElem? (i := 235) (by decide +kernel)), rfl⟩
theorem wd_236 : (Jvm.Cond.code ({ cls := "LabelledFlows$Program", name := "renumber", desc := "()V" } : Jvm.MethodName) prog_5_method_5_code (6 : Nat) (Option.none : Option Jvm.ClassFile.FieldType)) ∈ lw_w := List.mem_filter.mpr ⟨List.mem_append_right _ (List.mem_of_getElem? (i := 236) (by decide +kernel)), rfl⟩
theorem wd_237 : (Jvm.Cond.methodLink "LabelledFlows" (57 : Nat) ({ cls := "LabelledFlows", name := "forget", desc := "()V" } : Jvm.MethodName)) ∈ lw_w := List.mem_filter.mpr ⟨List.mem_append_right _ (List.mem_of_getElem? (i := 237) (by decide +kernel)), rfl⟩
theorem wd_239 : (Jvm.Cond.instanceMethod ({ cls := "LabelledFlows", name := "forget", desc := "()V" } : Jvm.MethodName)) ∈ lw_w := List.mem_filter.mpr ⟨List.mem_append_right _ (List.mem_of_getElem? (i := 239) (by decide +kernel)), rfl⟩
theorem wd_240 : (Jvm.Cond.code ({ cls := "LabelledFlows", name := "forget", desc := "()V" } : Jvm.MethodName) prog_1_method_19_code (1 : Nat) (Option.none : Option Jvm.ClassFile.FieldType)) ∈ lw_w := List.mem_filter.mpr ⟨List.mem_append_right _ (List.mem_of_getElem? (i := 240) (by decide +kernel)), rfl⟩
theorem wd_245 : (Jvm.Cond.methodLink "LabelledFlows" (67 : Nat) ({ cls := "LabelledFlows$Program", name := "cutLast", desc := "(I)V" } : Jvm.MethodName)) ∈ lw_w := List.mem_filter.mpr ⟨List.mem_append_right _ (List.mem_of_getElem? (i := 245) (by decide +kernel)), rfl⟩
theorem wd_246 : (Jvm.Cond.instanceMethod ({ cls := "LabelledFlows$Program", name := "cutLast", desc := "(I)V" } : Jvm.MethodName)) ∈ lw_w := List.mem_filter.mpr ⟨List.mem_append_right _ (List.mem_of_getElem? (i := 246) (by decide +kernel)), rfl⟩
theorem wd_247 : (Jvm.Cond.selects "LabelledFlows$Program" ({ cls := "LabelledFlows$Program", name := "cutLast", desc := "(I)V" } : Jvm.MethodName) ({ cls := "LabelledFlows$Program", name := "cutLast", desc := "(I)V" } : Jvm.MethodName)) ∈ lw_w := List.mem_filter.mpr ⟨List.mem_append_right _ (List.mem_of_getElem? (i := 247) (by decide +kernel)), rfl⟩
theorem wd_248 : (Jvm.Cond.code ({ cls := "LabelledFlows$Program", name := "cutLast", desc := "(I)V" } : Jvm.MethodName) prog_5_method_4_code (2 : Nat) (Option.none : Option Jvm.ClassFile.FieldType)) ∈ lw_w := List.mem_filter.mpr ⟨List.mem_append_right _ (List.mem_of_getElem? (i := 248) (by decide +kernel)), rfl⟩
theorem wd_261 : (Jvm.Cond.methodLink "LabelledFlows" (77 : Nat) ({ cls := "LabelledFlows$Program", name := "targetOf", desc := "(II)I" } : Jvm.MethodName)) ∈ lw_w := List.mem_filter.mpr ⟨List.mem_append_right _ (List.mem_of_getElem? (i := 261) (by decide +kernel)), rfl⟩
theorem wd_262 : (Jvm.Cond.instanceMethod ({ cls := "LabelledFlows$Program", name := "targetOf", desc := "(II)I" } : Jvm.MethodName)) ∈ lw_w := List.mem_filter.mpr ⟨List.mem_append_right _ (List.mem_of_getElem? (i := 262) (by decide +kernel)), rfl⟩
theorem wd_263 : (Jvm.Cond.selects "LabelledFlows$Program" ({ cls := "LabelledFlows$Program", name := "targetOf", desc := "(II)I" } : Jvm.MethodName) ({ cls := "LabelledFlows$Program", name := "targetOf", desc := "(II)I" } : Jvm.MethodName)) ∈ lw_w := List.mem_filter.mpr ⟨List.mem_append_right _ (List.mem_of_getElem? (i := 263) (by decide +kernel)), rfl⟩
theorem wd_264 : (Jvm.Cond.code ({ cls := "LabelledFlows$Program", name := "targetOf", desc := "(II)I" } : Jvm.MethodName) prog_5_method_6_code (6 : Nat) (Option.some Jvm.ClassFile.FieldType.int)) ∈ lw_w := List.mem_filter.mpr ⟨List.mem_append_right _ (List.mem_of_getElem? (i := 264) (by decide +kernel)), rfl⟩
theorem wd_273 : (Jvm.Cond.methodLink "LabelledFlows" (81 : Nat) ({ cls := "LabelledFlows$Pointing", name := "workOut", desc := "()V" } : Jvm.MethodName)) ∈ lw_w := List.mem_filter.mpr ⟨List.mem_append_right _ (List.mem_of_getElem? (i := 273) (by decide +kernel)), rfl⟩
theorem wd_274 : (Jvm.Cond.instanceMethod ({ cls := "LabelledFlows$Pointing", name := "workOut", desc := "()V" } : Jvm.MethodName)) ∈ lw_w := List.mem_filter.mpr ⟨List.mem_append_right _ (List.mem_of_getElem? (i := 274) (by decide +kernel)), rfl⟩
theorem wd_275 : (Jvm.Cond.selects "LabelledFlows$Pointing" ({ cls := "LabelledFlows$Pointing", name := "workOut", desc := "()V" } : Jvm.MethodName) ({ cls := "LabelledFlows$Pointing", name := "workOut", desc := "()V" } : Jvm.MethodName)) ∈ lw_w := List.mem_filter.mpr ⟨List.mem_append_right _ (List.mem_of_getElem? (i := 275) (by decide +kernel)), rfl⟩
theorem wd_276 : (Jvm.Cond.code ({ cls := "LabelledFlows$Pointing", name := "workOut", desc := "()V" } : Jvm.MethodName) prog_4_method_2_code (2 : Nat) (Option.none : Option Jvm.ClassFile.FieldType)) ∈ lw_w := List.mem_filter.mpr ⟨List.mem_append_right _ (List.mem_of_getElem? (i := 276) (by decide +kernel)), rfl⟩
theorem wd_277 : (Jvm.Cond.methodLink "LabelledFlows$Pointing" (25 : Nat) ({ cls := "java/util/Arrays", name := "fill", desc := "([II)V" } : Jvm.MethodName)) ∈ lw_w := List.mem_filter.mpr ⟨List.mem_append_right _ (List.mem_of_getElem? (i := 277) (by decide +kernel)), rfl⟩
theorem wd_278 : (Jvm.Cond.constant "LabelledFlows$Pointing" (39 : Nat) (1000000 : Int32)) ∈ lw_w := List.mem_filter.mpr ⟨List.mem_append_right _ (List.mem_of_getElem? (i := 278) (by decide +kernel)), rfl⟩
theorem wd_279 : (Jvm.Cond.methodLink "LabelledFlows$Pointing" (40 : Nat) ({ cls := "LabelledFlows$Pointing", name := "sweep", desc := "()V" } : Jvm.MethodName)) ∈ lw_w := List.mem_filter.mpr ⟨List.mem_append_right _ (List.mem_of_getElem? (i := 279) (by decide +kernel)), rfl⟩
theorem wd_281 : (Jvm.Cond.instanceMethod ({ cls := "LabelledFlows$Pointing", name := "sweep", desc := "()V" } : Jvm.MethodName)) ∈ lw_w := List.mem_filter.mpr ⟨List.mem_append_right _ (List.mem_of_getElem? (i := 281) (by decide +kernel)), rfl⟩
theorem wd_282 : (Jvm.Cond.code ({ cls := "LabelledFlows$Pointing", name := "sweep", desc := "()V" } : Jvm.MethodName) prog_4_method_3_code (3 : Nat) (Option.none : Option Jvm.ClassFile.FieldType)) ∈ lw_w := List.mem_filter.mpr ⟨List.mem_append_right _ (List.mem_of_getElem? (i := 282) (by decide +kernel)), rfl⟩
theorem wd_283 : (Jvm.Cond.methodLinkNest "LabelledFlows$Pointing" (43 : Nat) ({ cls := "LabelledFlows", name := "has", desc := "(II)Z" } : Jvm.MethodName) "LabelledFlows") ∈ lw_w := List.mem_filter.mpr ⟨List.mem_append_right _ (List.mem_of_getElem? (i := 283) (by decide +kernel)), rfl⟩
theorem wd_284 : (Jvm.Cond.static ({ cls := "LabelledFlows", name := "has", desc := "(II)Z" } : Jvm.MethodName)) ∈ lw_w := List.mem_filter.mpr ⟨List.mem_append_right _ (List.mem_of_getElem? (i := 284) (by decide +kernel)), rfl⟩
theorem wd_285 : (Jvm.Cond.code ({ cls := "LabelledFlows", name := "has", desc := "(II)Z" } : Jvm.MethodName) prog_1_method_23_code (2 : Nat) (Option.some Jvm.ClassFile.FieldType.boolean)) ∈ lw_w := List.mem_filter.mpr ⟨List.mem_append_right _ (List.mem_of_getElem? (i := 285) (by decide +kernel)), rfl⟩
theorem wd_286 : (Jvm.Cond.methodLink "LabelledFlows$Pointing" (52 : Nat) ({ cls := "LabelledFlows$Pointing", name := "follow", desc := "(II)V" } : Jvm.MethodName)) ∈ lw_w := List.mem_filter.mpr ⟨List.mem_append_right _ (List.mem_of_getElem? (i := 286) (by decide +kernel)), rfl⟩
theorem wd_288 : (Jvm.Cond.instanceMethod ({ cls := "LabelledFlows$Pointing", name := "follow", desc := "(II)V" } : Jvm.MethodName)) ∈ lw_w := List.mem_filter.mpr ⟨List.mem_append_right _ (List.mem_of_getElem? (i := 288) (by decide +kernel)), rfl⟩
theorem wd_289 : (Jvm.Cond.code ({ cls := "LabelledFlows$Pointing", name := "follow", desc := "(II)V" } : Jvm.MethodName) prog_4_method_4_code (6 : Nat) (Option.none : Option Jvm.ClassFile.FieldType)) ∈ lw_w := List.mem_filter.mpr ⟨List.mem_append_right _ (List.mem_of_getElem? (i := 289) (by decide +kernel)), rfl⟩
theorem wd_290 : (Jvm.Cond.methodLink "LabelledFlows$Pointing" (71 : Nat) ({ cls := "LabelledFlows$Pointing", name := "growLocal", desc := "(III)V" } : Jvm.MethodName)) ∈ lw_w := List.mem_filter.mpr ⟨List.mem_append_right _ (List.mem_of_getElem? (i := 290) (by decide +kernel)), rfl⟩
theorem wd_292 : (Jvm.Cond.instanceMethod ({ cls := "LabelledFlows$Pointing", name := "growLocal", desc := "(III)V" } : Jvm.MethodName)) ∈ lw_w := List.mem_filter.mpr ⟨List.mem_append_right _ (List.mem_of_getElem? (i := 292) (by decide +kernel)), rfl⟩
theorem wd_293 : (Jvm.Cond.code ({ cls := "LabelledFlows$Pointing", name := "growLocal", desc := "(III)V" } : Jvm.MethodName) prog_4_method_7_code (5 : Nat) (Option.none : Option Jvm.ClassFile.FieldType)) ∈ lw_w := List.mem_filter.mpr ⟨List.mem_append_right _ (List.mem_of_getElem? (i := 293) (by decide +kernel)), rfl⟩
theorem wd_294 : (Jvm.Cond.methodLink "LabelledFlows$Pointing" (75 : Nat) ({ cls := "LabelledFlows$Pointing", name := "fieldOfAll", desc := "(II)I" } : Jvm.MethodName)) ∈ lw_w := List.mem_filter.mpr ⟨List.mem_append_right _ (List.mem_of_getElem? (i := 294) (by decide +kernel)), rfl⟩
theorem wd_296 : (Jvm.Cond.instanceMethod ({ cls := "LabelledFlows$Pointing", name := "fieldOfAll", desc := "(II)I" } : Jvm.MethodName)) ∈ lw_w := List.mem_filter.mpr ⟨List.mem_append_right _ (List.mem_of_getElem? (i := 296) (by decide +kernel)), rfl⟩
theorem wd_297 : (Jvm.Cond.code ({ cls := "LabelledFlows$Pointing", name := "fieldOfAll", desc := "(II)I" } : Jvm.MethodName) prog_4_method_9_code (5 : Nat) (Option.some Jvm.ClassFile.FieldType.int)) ∈ lw_w := List.mem_filter.mpr ⟨List.mem_append_right _ (List.mem_of_getElem? (i := 297) (by decide +kernel)), rfl⟩
theorem wd_298 : (Jvm.Cond.methodLink "LabelledFlows$Pointing" (79 : Nat) ({ cls := "LabelledFlows$Pointing", name := "growFields", desc := "(III)V" } : Jvm.MethodName)) ∈ lw_w := List.mem_filter.mpr ⟨List.mem_append_right _ (List.mem_of_getElem? (i := 298) (by decide +kernel)), rfl⟩
theorem wd_300 : (Jvm.Cond.instanceMethod ({ cls := "LabelledFlows$Pointing", name := "growFields", desc := "(III)V" } : Jvm.MethodName)) ∈ lw_w := List.mem_filter.mpr ⟨List.mem_append_right _ (List.mem_of_getElem? (i := 300) (by decide +kernel)), rfl⟩
theorem wd_301 : (Jvm.Cond.code ({ cls := "LabelledFlows$Pointing", name := "growFields", desc := "(III)V" } : Jvm.MethodName) prog_4_method_8_code (6 : Nat) (Option.none : Option Jvm.ClassFile.FieldType)) ∈ lw_w := List.mem_filter.mpr ⟨List.mem_append_right _ (List.mem_of_getElem? (i := 301) (by decide +kernel)), rfl⟩
theorem wd_302 : (Jvm.Cond.methodLink "LabelledFlows$Pointing" (82 : Nat) ({ cls := "LabelledFlows$Pointing", name := "followCall", desc := "(II)V" } : Jvm.MethodName)) ∈ lw_w := List.mem_filter.mpr ⟨List.mem_append_right _ (List.mem_of_getElem? (i := 302) (by decide +kernel)), rfl⟩
theorem wd_304 : (Jvm.Cond.instanceMethod ({ cls := "LabelledFlows$Pointing", name := "followCall", desc := "(II)V" } : Jvm.MethodName)) ∈ lw_w := List.mem_filter.mpr ⟨List.mem_append_right _ (List.mem_of_getElem? (i := 304) (by decide +kernel)), rfl⟩
theorem wd_305 : (Jvm.Cond.code ({ cls := "LabelledFlows$Pointing", name := "followCall", desc := "(II)V" } : Jvm.MethodName) prog_4_method_5_code (8 : Nat) (Option.none : Option Jvm.ClassFile.FieldType)) ∈ lw_w := List.mem_filter.mpr ⟨List.mem_append_right _ (List.mem_of_getElem? (i := 305) (by decide +kernel)), rfl⟩
theorem wd_306 : (Jvm.Cond.methodLink "LabelledFlows$Pointing" (88 : Nat) ({ cls := "LabelledFlows$Program", name := "targetOf", desc := "(II)I" } : Jvm.MethodName)) ∈ lw_w := List.mem_filter.mpr ⟨List.mem_append_right _ (List.mem_of_getElem? (i := 306) (by decide +kernel)), rfl⟩
theorem wd_307 : (Jvm.Cond.methodLink "LabelledFlows$Pointing" (91 : Nat) ({ cls := "LabelledFlows$Pointing", name := "reach", desc := "(II)V" } : Jvm.MethodName)) ∈ lw_w := List.mem_filter.mpr ⟨List.mem_append_right _ (List.mem_of_getElem? (i := 307) (by decide +kernel)), rfl⟩
theorem wd_309 : (Jvm.Cond.instanceMethod ({ cls := "LabelledFlows$Pointing", name := "reach", desc := "(II)V" } : Jvm.MethodName)) ∈ lw_w := List.mem_filter.mpr ⟨List.mem_append_right _ (List.mem_of_getElem? (i := 309) (by decide +kernel)), rfl⟩
theorem wd_310 : (Jvm.Cond.code ({ cls := "LabelledFlows$Pointing", name := "reach", desc := "(II)V" } : Jvm.MethodName) prog_4_method_6_code (3 : Nat) (Option.none : Option Jvm.ClassFile.FieldType)) ∈ lw_w := List.mem_filter.mpr ⟨List.mem_append_right _ (List.mem_of_getElem? (i := 310) (by decide +kernel)), rfl⟩
theorem wd_311 : (Jvm.Cond.methodLink "LabelledFlows$Pointing" (94 : Nat) ({ cls := "LabelledFlows$Pointing", name := "returned", desc := "(I)I" } : Jvm.MethodName)) ∈ lw_w := List.mem_filter.mpr ⟨List.mem_append_right _ (List.mem_of_getElem? (i := 311) (by decide +kernel)), rfl⟩
theorem wd_313 : (Jvm.Cond.instanceMethod ({ cls := "LabelledFlows$Pointing", name := "returned", desc := "(I)I" } : Jvm.MethodName)) ∈ lw_w := List.mem_filter.mpr ⟨List.mem_append_right _ (List.mem_of_getElem? (i := 313) (by decide +kernel)), rfl⟩
theorem wd_314 : (Jvm.Cond.code ({ cls := "LabelledFlows$Pointing", name := "returned", desc := "(I)I" } : Jvm.MethodName) prog_4_method_10_code (5 : Nat) (Option.some Jvm.ClassFile.FieldType.int)) ∈ lw_w := List.mem_filter.mpr ⟨List.mem_append_right _ (List.mem_of_getElem? (i := 314) (by decide +kernel)), rfl⟩
theorem wd_315 : (Jvm.Cond.methodLink "LabelledFlows" (84 : Nat) ({ cls := "LabelledFlows$Flow", name := "workOut", desc := "()V" } : Jvm.MethodName)) ∈ lw_w := List.mem_filter.mpr ⟨List.mem_append_right _ (List.mem_of_getElem? (i := 315) (by decide +kernel)), rfl⟩
theorem wd_316 : (Jvm.Cond.instanceMethod ({ cls := "LabelledFlows$Flow", name := "workOut", desc := "()V" } : Jvm.MethodName)) ∈ lw_w := List.mem_filter.mpr ⟨List.mem_append_right _ (List.mem_of_getElem? (i := 316) (by decide +kernel)), rfl⟩
theorem wd_317 : (Jvm.Cond.selects "LabelledFlows$Flow" ({ cls := "LabelledFlows$Flow", name := "workOut", desc := "()V" } : Jvm.MethodName) ({ cls := "LabelledFlows$Flow", name := "workOut", desc := "()V" } : Jvm.MethodName)) ∈ lw_w := List.mem_filter.mpr ⟨List.mem_append_right _ (List.mem_of_getElem? (i := 317) (by decide +kernel)), rfl⟩
theorem wd_318 : (Jvm.Cond.code ({ cls := "LabelledFlows$Flow", name := "workOut", desc := "()V" } : Jvm.MethodName) prog_2_method_2_code (3 : Nat) (Option.none : Option Jvm.ClassFile.FieldType)) ∈ lw_w := List.mem_filter.mpr ⟨List.mem_append_right _ (List.mem_of_getElem? (i := 318) (by decide +kernel)), rfl⟩
theorem wd_319 : (Jvm.Cond.methodLink "LabelledFlows$Flow" (32 : Nat) ({ cls := "LabelledFlows$Flow", name := "clear", desc := "()V" } : Jvm.MethodName)) ∈ lw_w := List.mem_filter.mpr ⟨List.mem_append_right _ (List.mem_of_getElem? (i := 319) (by decide +kernel)), rfl⟩
theorem wd_321 : (Jvm.Cond.instanceMethod ({ cls := "LabelledFlows$Flow", name := "clear", desc := "()V" } : Jvm.MethodName)) ∈ lw_w := List.mem_filter.mpr ⟨List.mem_append_right _ (List.mem_of_getElem? (i := 321) (by decide +kernel)), rfl⟩
theorem wd_322 : (Jvm.Cond.code ({ cls := "LabelledFlows$Flow", name := "clear", desc := "()V" } : Jvm.MethodName) prog_2_method_3_code (3 : Nat) (Option.none : Option Jvm.ClassFile.FieldType)) ∈ lw_w := List.mem_filter.mpr ⟨List.mem_append_right _ (List.mem_of_getElem? (i := 322) (by decide +kernel)), rfl⟩
theorem wd_323 : (Jvm.Cond.methodLink "LabelledFlows$Flow" (44 : Nat) ({ cls := "java/util/Arrays", name := "fill", desc := "([II)V" } : Jvm.MethodName)) ∈ lw_w := List.mem_filter.mpr ⟨List.mem_append_right _ (List.mem_of_getElem? (i := 323) (by decide +kernel)), rfl⟩
theorem wd_324 : (Jvm.Cond.constant "LabelledFlows$Flow" (39 : Nat) (1000000 : Int32)) ∈ lw_w := List.mem_filter.mpr ⟨List.mem_append_right _ (List.mem_of_getElem? (i := 324) (by decide +kernel)), rfl⟩
theorem wd_325 : (Jvm.Cond.methodLink "LabelledFlows$Flow" (40 : Nat) ({ cls := "LabelledFlows$Flow", name := "sweep", desc := "(I)V" } : Jvm.MethodName)) ∈ lw_w := List.mem_filter.mpr ⟨List.mem_append_right _ (List.mem_of_getElem? (i := 325) (by decide +kernel)), rfl⟩
theorem wd_327 : (Jvm.Cond.instanceMethod ({ cls := "LabelledFlows$Flow", name := "sweep", desc := "(I)V" } : Jvm.MethodName)) ∈ lw_w := List.mem_filter.mpr ⟨List.mem_append_right _ (List.mem_of_getElem? (i := 327) (by decide +kernel)), rfl⟩
theorem wd_328 : (Jvm.Cond.code ({ cls := "LabelledFlows$Flow", name := "sweep", desc := "(I)V" } : Jvm.MethodName) prog_2_method_4_code (7 : Nat) (Option.none : Option Jvm.ClassFile.FieldType)) ∈ lw_w := List.mem_filter.mpr ⟨List.mem_append_right _ (List.mem_of_getElem? (i := 328) (by decide +kernel)), rfl⟩
theorem wd_329 : (Jvm.Cond.methodLinkNest "LabelledFlows$Flow" (55 : Nat) ({ cls := "LabelledFlows", name := "has", desc := "(II)Z" } : Jvm.MethodName) "LabelledFlows") ∈ lw_w := List.mem_filter.mpr ⟨List.mem_append_right _ (List.mem_of_getElem? (i := 329) (by decide +kernel)), rfl⟩
theorem wd_330 : (Jvm.Cond.methodLink "LabelledFlows$Flow" (59 : Nat) ({ cls := "LabelledFlows$Flow", name := "passZero", desc := "(II)V" } : Jvm.MethodName)) ∈ lw_w := List.mem_filter.mpr ⟨List.mem_append_right _ (List.mem_of_getElem? (i := 330) (by decide +kernel)), rfl⟩
theorem wd_332 : (Jvm.Cond.instanceMethod ({ cls := "LabelledFlows$Flow", name := "passZero", desc := "(II)V" } : Jvm.MethodName)) ∈ lw_w := List.mem_filter.mpr ⟨List.mem_append_right _ (List.mem_of_getElem? (i := 332) (by decide +kernel)), rfl⟩
theorem wd_333 : (Jvm.Cond.code ({ cls := "LabelledFlows$Flow", name := "passZero", desc := "(II)V" } : Jvm.MethodName) prog_2_method_6_code (5 : Nat) (Option.none : Option Jvm.ClassFile.FieldType)) ∈ lw_w := List.mem_filter.mpr ⟨List.mem_append_right _ (List.mem_of_getElem? (i := 333) (by decide +kernel)), rfl⟩
theorem wd_334 : (Jvm.Cond.methodLink "LabelledFlows$Flow" (78 : Nat) ({ cls := "LabelledFlows$Flow", name := "growZero", desc := "(II)V" } : Jvm.MethodName)) ∈ lw_w := List.mem_filter.mpr ⟨List.mem_append_right _ (List.mem_of_getElem? (i := 334) (by decide +kernel)), rfl⟩
theorem wd_336 : (Jvm.Cond.instanceMethod ({ cls := "LabelledFlows$Flow", name := "growZero", desc := "(II)V" } : Jvm.MethodName)) ∈ lw_w := List.mem_filter.mpr ⟨List.mem_append_right _ (List.mem_of_getElem? (i := 336) (by decide +kernel)), rfl⟩
theorem wd_337 : (Jvm.Cond.code ({ cls := "LabelledFlows$Flow", name := "growZero", desc := "(II)V" } : Jvm.MethodName) prog_2_method_17_code (3 : Nat) (Option.none : Option Jvm.ClassFile.FieldType)) ∈ lw_w := List.mem_filter.mpr ⟨List.mem_append_right _ (List.mem_of_getElem? (i := 337) (by decide +kernel)), rfl⟩
theorem wd_338 : (Jvm.Cond.methodLink "LabelledFlows$Flow" (81 : Nat) ({ cls := "LabelledFlows$Program", name := "jumpSpot", desc := "(II)I" } : Jvm.MethodName)) ∈ lw_w := List.mem_filter.mpr ⟨List.mem_append_right _ (List.mem_of_getElem? (i := 338) (by decide +kernel)), rfl⟩
theorem wd_339 : (Jvm.Cond.instanceMethod ({ cls := "LabelledFlows$Program", name := "jumpSpot", desc := "(II)I" } : Jvm.MethodName)) ∈ lw_w := List.mem_filter.mpr ⟨List.mem_append_right _ (List.mem_of_getElem? (i := 339) (by decide +kernel)), rfl⟩
theorem wd_340 : (Jvm.Cond.selects "LabelledFlows$Program" ({ cls := "LabelledFlows$Program", name := "jumpSpot", desc := "(II)I" } : Jvm.MethodName) ({ cls := "LabelledFlows$Program", name := "jumpSpot", desc := "(II)I" } : Jvm.MethodName)) ∈ lw_w := List.mem_filter.mpr ⟨List.mem_append_right _ (List.mem_of_getElem? (i := 340) (by decide +kernel)), rfl⟩
theorem wd_341 : (Jvm.Cond.code ({ cls := "LabelledFlows$Program", name := "jumpSpot", desc := "(II)I" } : Jvm.MethodName) prog_5_method_7_code (3 : Nat) (Option.some Jvm.ClassFile.FieldType.int)) ∈ lw_w := List.mem_filter.mpr ⟨List.mem_append_right _ (List.mem_of_getElem? (i := 341) (by decide +kernel)), rfl⟩
theorem wd_342 : (Jvm.Cond.methodLink "LabelledFlows$Program" (65 : Nat) ({ cls := "java/lang/Math", name := "min", desc := "(II)I" } : Jvm.MethodName)) ∈ lw_w := List.mem_filter.mpr ⟨List.mem_append_right _ (List.mem_of_getElem? (i := 342) (by decide +kernel)), rfl⟩
theorem wd_343 : (Jvm.Cond.static ({ cls := "java/lang/Math", name := "min", desc := "(II)I" } : Jvm.MethodName)) ∈ lw_w := List.mem_filter.mpr ⟨List.mem_append_right _ (List.mem_of_getElem? (i := 343) (by decide +kernel)), rfl⟩
theorem wd_344 : (Jvm.Cond.code ({ cls := "java/lang/Math", name := "min", desc := "(II)I" } : Jvm.MethodName) prog_9_method_69_code (2 : Nat) (Option.some Jvm.ClassFile.FieldType.int)) ∈ lw_w := List.mem_filter.mpr ⟨List.mem_append_right _ (List.mem_of_getElem? (i := 344) (by decide +kernel)), rfl⟩
theorem wd_345 : (Jvm.Cond.methodLink "LabelledFlows$Flow" (91 : Nat) ({ cls := "LabelledFlows$Flow", name := "growHeld", desc := "(III)V" } : Jvm.MethodName)) ∈ lw_w := List.mem_filter.mpr ⟨List.mem_append_right _ (List.mem_of_getElem? (i := 345) (by decide +kernel)), rfl⟩
theorem wd_347 : (Jvm.Cond.instanceMethod ({ cls := "LabelledFlows$Flow", name := "growHeld", desc := "(III)V" } : Jvm.MethodName)) ∈ lw_w := List.mem_filter.mpr ⟨List.mem_append_right _ (List.mem_of_getElem? (i := 347) (by decide +kernel)), rfl⟩
theorem wd_348 : (Jvm.Cond.code ({ cls := "LabelledFlows$Flow", name := "growHeld", desc := "(III)V" } : Jvm.MethodName) prog_2_method_15_code (5 : Nat) (Option.none : Option Jvm.ClassFile.FieldType)) ∈ lw_w := List.mem_filter.mpr ⟨List.mem_append_right _ (List.mem_of_getElem? (i := 348) (by decide +kernel)), rfl⟩
theorem wd_349 : (Jvm.Cond.methodLink "LabelledFlows$Flow" (94 : Nat) ({ cls := "LabelledFlows$Flow", name := "callZero", desc := "(I)V" } : Jvm.MethodName)) ∈ lw_w := List.mem_filter.mpr ⟨List.mem_append_right _ (List.mem_of_getElem? (i := 349) (by decide +kernel)), rfl⟩
theorem wd_351 : (Jvm.Cond.instanceMethod ({ cls := "LabelledFlows$Flow", name := "callZero", desc := "(I)V" } : Jvm.MethodName)) ∈ lw_w := List.mem_filter.mpr ⟨List.mem_append_right _ (List.mem_of_getElem? (i := 351) (by decide +kernel)), rfl⟩
theorem wd_352 : (Jvm.Cond.code ({ cls := "LabelledFlows$Flow", name := "callZero", desc := "(I)V" } : Jvm.MethodName) prog_2_method_7_code (4 : Nat) (Option.none : Option Jvm.ClassFile.FieldType)) ∈ lw_w := List.mem_filter.mpr ⟨List.mem_append_right _ (List.mem_of_getElem? (i := 352) (by decide +kernel)), rfl⟩
theorem wd_353 : (Jvm.Cond.methodLink "LabelledFlows$Flow" (102 : Nat) ({ cls := "LabelledFlows$Flow", name := "comeBack", desc := "(III)V" } : Jvm.MethodName)) ∈ lw_w := List.mem_filter.mpr ⟨List.mem_append_right _ (List.mem_of_getElem? (i := 353) (by decide +kernel)), rfl⟩
theorem wd_355 : (Jvm.Cond.instanceMethod ({ cls := "LabelledFlows$Flow", name := "comeBack", desc := "(III)V" } : Jvm.MethodName)) ∈ lw_w := List.mem_filter.mpr ⟨List.mem_append_right _ (List.mem_of_getElem? (i := 355) (by decide +kernel)), rfl⟩
theorem wd_356 : (Jvm.Cond.code ({ cls := "LabelledFlows$Flow", name := "comeBack", desc := "(III)V" } : Jvm.MethodName) prog_2_method_14_code (5 : Nat) (Option.none : Option Jvm.ClassFile.FieldType)) ∈ lw_w := List.mem_filter.mpr ⟨List.mem_append_right _ (List.mem_of_getElem? (i := 356) (by decide +kernel)), rfl⟩
theorem wd_357 : (Jvm.Cond.constant "LabelledFlows$Flow" (70 : Nat) (65520 : Int32)) ∈ lw_w := List.mem_filter.mpr ⟨List.mem_append_right _ (List.mem_of_getElem? (i := 357) (by decide +kernel)), rfl⟩
theorem wd_358 : (Jvm.Cond.methodLink "LabelledFlows$Flow" (63 : Nat) ({ cls := "LabelledFlows$Flow", name := "pass", desc := "(IIII)V" } : Jvm.MethodName)) ∈ lw_w := List.mem_filter.mpr ⟨List.mem_append_right _ (List.mem_of_getElem? (i := 358) (by decide +kernel)), rfl⟩
theorem wd_360 : (Jvm.Cond.instanceMethod ({ cls := "LabelledFlows$Flow", name := "pass", desc := "(IIII)V" } : Jvm.MethodName)) ∈ lw_w := List.mem_filter.mpr ⟨List.mem_append_right _ (List.mem_of_getElem? (i := 360) (by decide +kernel)), rfl⟩
theorem wd_361 : (Jvm.Cond.code ({ cls := "LabelledFlows$Flow", name := "pass", desc := "(IIII)V" } : Jvm.MethodName) prog_2_method_8_code (7 : Nat) (Option.none : Option Jvm.ClassFile.FieldType)) ∈ lw_w := List.mem_filter.mpr ⟨List.mem_append_right _ (List.mem_of_getElem? (i := 361) (by decide +kernel)), rfl⟩
theorem wd_362 : (Jvm.Cond.methodLink "LabelledFlows$Flow" (105 : Nat) ({ cls := "LabelledFlows$Flow", name := "call", desc := "(IIII)V" } : Jvm.MethodName)) ∈ lw_w := List.mem_filter.mpr ⟨List.mem_append_right _ (List.mem_of_getElem? (i := 362) (by decide +kernel)), rfl⟩
theorem wd_364 : (Jvm.Cond.instanceMethod ({ cls := "LabelledFlows$Flow", name := "call", desc := "(IIII)V" } : Jvm.MethodName)) ∈ lw_w := List.mem_filter.mpr ⟨List.mem_append_right _ (List.mem_of_getElem? (i := 364) (by decide +kernel)), rfl⟩
theorem wd_365 : (Jvm.Cond.code ({ cls := "LabelledFlows$Flow", name := "call", desc := "(IIII)V" } : Jvm.MethodName) prog_2_method_11_code (7 : Nat) (Option.none : Option Jvm.ClassFile.FieldType)) ∈ lw_w := List.mem_filter.mpr ⟨List.mem_append_right _ (List.mem_of_getElem? (i := 365) (by decide +kernel)), rfl⟩
theorem wd_366 : (Jvm.Cond.methodLink "LabelledFlows$Flow" (124 : Nat) ({ cls := "LabelledFlows$Flow", name := "enter", desc := "(III)V" } : Jvm.MethodName)) ∈ lw_w := List.mem_filter.mpr ⟨List.mem_append_right _ (List.mem_of_getElem? (i := 366) (by decide +kernel)), rfl⟩
theorem wd_368 : (Jvm.Cond.instanceMethod ({ cls := "LabelledFlows$Flow", name := "enter", desc := "(III)V" } : Jvm.MethodName)) ∈ lw_w := List.mem_filter.mpr ⟨List.mem_append_right _ (List.mem_of_getElem? (i := 368) (by decide +kernel)), rfl⟩
theorem wd_369 : (Jvm.Cond.code ({ cls := "LabelledFlows$Flow", name := "enter", desc := "(III)V" } : Jvm.MethodName) prog_2_method_12_code (6 : Nat) (Option.none : Option Jvm.ClassFile.FieldType)) ∈ lw_w := List.mem_filter.mpr ⟨List.mem_append_right _ (List.mem_of_getElem? (i := 369) (by decide +kernel)), rfl⟩
theorem wd_370 : (Jvm.Cond.methodLink "LabelledFlows$Flow" (127 : Nat) ({ cls := "LabelledFlows$Flow", name := "exitsOfAll", desc := "(II)I" } : Jvm.MethodName)) ∈ lw_w := List.mem_filter.mpr ⟨List.mem_append_right _ (List.mem_of_getElem? (i := 370) (by decide +kernel)), rfl⟩
theorem wd_372 : (Jvm.Cond.instanceMethod ({ cls := "LabelledFlows$Flow", name := "exitsOfAll", desc := "(II)I" } : Jvm.MethodName)) ∈ lw_w := List.mem_filter.mpr ⟨List.mem_append_right _ (List.mem_of_getElem? (i := 372) (by decide +kernel)), rfl⟩
theorem wd_373 : (Jvm.Cond.code ({ cls := "LabelledFlows$Flow", name := "exitsOfAll", desc := "(II)I" } : Jvm.MethodName) prog_2_method_13_code (5 : Nat) (Option.some Jvm.ClassFile.FieldType.int)) ∈ lw_w := List.mem_filter.mpr ⟨List.mem_append_right _ (List.mem_of_getElem? (i := 373) (by decide +kernel)), rfl⟩
theorem wd_374 : (Jvm.Cond.methodLink "LabelledFlows$Flow" (71 : Nat) ({ cls := "LabelledFlows$Flow", name := "growExit", desc := "(III)V" } : Jvm.MethodName)) ∈ lw_w := List.mem_filter.mpr ⟨List.mem_append_right _ (List.mem_of_getElem? (i := 374) (by decide +kernel)), rfl⟩
theorem wd_376 : (Jvm.Cond.instanceMethod ({ cls := "LabelledFlows$Flow", name := "growExit", desc := "(III)V" } : Jvm.MethodName)) ∈ lw_w := List.mem_filter.mpr ⟨List.mem_append_right _ (List.mem_of_getElem? (i := 376) (by decide +kernel)), rfl⟩
theorem wd_377 : (Jvm.Cond.code ({ cls := "LabelledFlows$Flow", name := "growExit", desc := "(III)V" } : Jvm.MethodName) prog_2_method_16_code (5 : Nat) (Option.none : Option Jvm.ClassFile.FieldType)) ∈ lw_w := List.mem_filter.mpr ⟨List.mem_append_right _ (List.mem_of_getElem? (i := 377) (by decide +kernel)), rfl⟩
theorem wd_378 : (Jvm.Cond.methodLink "LabelledFlows$Flow" (108 : Nat) ({ cls := "LabelledFlows$Flow", name := "changed", desc := "(III)I" } : Jvm.MethodName)) ∈ lw_w := List.mem_filter.mpr ⟨List.mem_append_right _ (List.mem_of_getElem? (i := 378) (by decide +kernel)), rfl⟩
theorem wd_380 : (Jvm.Cond.instanceMethod ({ cls := "LabelledFlows$Flow", name := "changed", desc := "(III)I" } : Jvm.MethodName)) ∈ lw_w := List.mem_filter.mpr ⟨List.mem_append_right _ (List.mem_of_getElem? (i := 380) (by decide +kernel)), rfl⟩
theorem wd_381 : (Jvm.Cond.code ({ cls := "LabelledFlows$Flow", name := "changed", desc := "(III)I" } : Jvm.MethodName) prog_2_method_9_code (10 : Nat) (Option.some Jvm.ClassFile.FieldType.int)) ∈ lw_w := List.mem_filter.mpr ⟨List.mem_append_right _ (List.mem_of_getElem? (i := 381) (by decide +kernel)), rfl⟩
theorem wd_382 : (Jvm.Cond.methodLink "LabelledFlows$Flow" (121 : Nat) ({ cls := "LabelledFlows$Flow", name := "fieldsOf", desc := "(II)I" } : Jvm.MethodName)) ∈ lw_w := List.mem_filter.mpr ⟨List.mem_append_right _ (List.mem_of_getElem? (i := 382) (by decide +kernel)), rfl⟩
theorem wd_383 : (Jvm.Cond.static ({ cls := "LabelledFlows$Flow", name := "fieldsOf", desc := "(II)I" } : Jvm.MethodName)) ∈ lw_w := List.mem_filter.mpr ⟨List.mem_append_right _ (List.mem_of_getElem? (i := 383) (by decide +kernel)), rfl⟩
theorem wd_384 : (Jvm.Cond.code ({ cls := "LabelledFlows$Flow", name := "fieldsOf", desc := "(II)I" } : Jvm.MethodName) prog_2_method_10_code (4 : Nat) (Option.some Jvm.ClassFile.FieldType.int)) ∈ lw_w := List.mem_filter.mpr ⟨List.mem_append_right _ (List.mem_of_getElem? (i := 384) (by decide +kernel)), rfl⟩
theorem wd_385 : (Jvm.Cond.methodLink "LabelledFlows$Flow" (67 : Nat) ({ cls := "LabelledFlows$Flow", name := "endAll", desc := "(II)V" } : Jvm.MethodName)) ∈ lw_w := List.mem_filter.mpr ⟨List.mem_append_right _ (List.mem_of_getElem? (i := 385) (by decide +kernel)), rfl⟩
theorem wd_387 : (Jvm.Cond.instanceMethod ({ cls := "LabelledFlows$Flow", name := "endAll", desc := "(II)V" } : Jvm.MethodName)) ∈ lw_w := List.mem_filter.mpr ⟨List.mem_append_right _ (List.mem_of_getElem? (i := 387) (by decide +kernel)), rfl⟩
theorem wd_388 : (Jvm.Cond.code ({ cls := "LabelledFlows$Flow", name := "endAll", desc := "(II)V" } : Jvm.MethodName) prog_2_method_5_code (4 : Nat) (Option.none : Option Jvm.ClassFile.FieldType)) ∈ lw_w := List.mem_filter.mpr ⟨List.mem_append_right _ (List.mem_of_getElem? (i := 388) (by decide +kernel)), rfl⟩
theorem wd_389 : (Jvm.Cond.methodLink "LabelledFlows" (85 : Nat) ({ cls := "LabelledFlows$Flow", name := "countPaths", desc := "()I" } : Jvm.MethodName)) ∈ lw_w := List.mem_filter.mpr ⟨List.mem_append_right _ (List.mem_of_getElem? (i := 389) (by decide +kernel)), rfl⟩
theorem wd_390 : (Jvm.Cond.instanceMethod ({ cls := "LabelledFlows$Flow", name := "countPaths", desc := "()I" } : Jvm.MethodName)) ∈ lw_w := List.mem_filter.mpr ⟨List.mem_append_right _ (List.mem_of_getElem? (i := 390) (by decide +kernel)), rfl⟩
theorem wd_391 : (Jvm.Cond.selects "LabelledFlows$Flow" ({ cls := "LabelledFlows$Flow", name := "countPaths", desc := "()I" } : Jvm.MethodName) ({ cls := "LabelledFlows$Flow", name := "countPaths", desc := "()I" } : Jvm.MethodName)) ∈ lw_w := List.mem_filter.mpr ⟨List.mem_append_right _ (List.mem_of_getElem? (i := 391) (by decide +kernel)), rfl⟩
theorem wd_392 : (Jvm.Cond.code ({ cls := "LabelledFlows$Flow", name := "countPaths", desc := "()I" } : Jvm.MethodName) prog_2_method_18_code (5 : Nat) (Option.some Jvm.ClassFile.FieldType.int)) ∈ lw_w := List.mem_filter.mpr ⟨List.mem_append_right _ (List.mem_of_getElem? (i := 392) (by decide +kernel)), rfl⟩
theorem wd_393 : (Jvm.Cond.methodLink "LabelledFlows$Flow" (130 : Nat) ({ cls := "java/lang/Integer", name := "bitCount", desc := "(I)I" } : Jvm.MethodName)) ∈ lw_w := List.mem_filter.mpr ⟨List.mem_append_right _ (List.mem_of_getElem? (i := 393) (by decide +kernel)), rfl⟩
theorem wd_394 : (Jvm.Cond.static ({ cls := "java/lang/Integer", name := "bitCount", desc := "(I)I" } : Jvm.MethodName)) ∈ lw_w := List.mem_filter.mpr ⟨List.mem_append_right _ (List.mem_of_getElem? (i := 394) (by decide +kernel)), rfl⟩
theorem wd_395 : (Jvm.Cond.code ({ cls := "java/lang/Integer", name := "bitCount", desc := "(I)I" } : Jvm.MethodName) prog_8_method_49_code (1 : Nat) (Option.some Jvm.ClassFile.FieldType.int)) ∈ lw_w := List.mem_filter.mpr ⟨List.mem_append_right _ (List.mem_of_getElem? (i := 395) (by decide +kernel)), rfl⟩
theorem wd_396 : (Jvm.Cond.constant "java/lang/Integer" (265 : Nat) (1431655765 : Int32)) ∈ lw_w := List.mem_filter.mpr ⟨List.mem_append_right _ (List.mem_of_getElem? (i := 396) (by decide +kernel)), rfl⟩
theorem wd_397 : (Jvm.Cond.constant "java/lang/Integer" (266 : Nat) (858993459 : Int32)) ∈ lw_w := List.mem_filter.mpr ⟨List.mem_append_right _ (List.mem_of_getElem? (i := 397) (by decide +kernel)), rfl⟩
theorem wd_398 : (Jvm.Cond.constant "java/lang/Integer" (267 : Nat) (252645135 : Int32)) ∈ lw_w := List.mem_filter.mpr ⟨List.mem_append_right _ (List.mem_of_getElem? (i := 398) (by decide +kernel)), rfl⟩
theorem wd_399 : (Jvm.Cond.methodLink "LabelledFlows$Flow" (136 : Nat) ({ cls := "LabelledFlows$Flow", name := "countHeld", desc := "(II)I" } : Jvm.MethodName)) ∈ lw_w := List.mem_filter.mpr ⟨List.mem_append_right _ (List.mem_of_getElem? (i := 399) (by decide +kernel)), rfl⟩
theorem wd_401 : (Jvm.Cond.instanceMethod ({ cls := "LabelledFlows$Flow", name := "countHeld", desc := "(II)I" } : Jvm.MethodName)) ∈ lw_w := List.mem_filter.mpr ⟨List.mem_append_right _ (List.mem_of_getElem? (i := 401) (by decide +kernel)), rfl⟩
theorem wd_402 : (Jvm.Cond.code ({ cls := "LabelledFlows$Flow", name := "countHeld", desc := "(II)I" } : Jvm.MethodName) prog_2_method_19_code (5 : Nat) (Option.some Jvm.ClassFile.FieldType.int)) ∈ lw_w := List.mem_filter.mpr ⟨List.mem_append_right _ (List.mem_of_getElem? (i := 402) (by decide +kernel)), rfl⟩
theorem wd_411 : (Jvm.Cond.methodLink "LabelledFlows" (89 : Nat) ({ cls := "LabelledFlows", name := "isSource", desc := "(I)Z" } : Jvm.MethodName)) ∈ lw_w := List.mem_filter.mpr ⟨List.mem_append_right _ (List.mem_of_getElem? (i := 411) (by decide +kernel)), rfl⟩
theorem wd_413 : (Jvm.Cond.instanceMethod ({ cls := "LabelledFlows", name := "isSource", desc := "(I)Z" } : Jvm.MethodName)) ∈ lw_w := List.mem_filter.mpr ⟨List.mem_append_right _ (List.mem_of_getElem? (i := 413) (by decide +kernel)), rfl⟩
theorem wd_414 : (Jvm.Cond.code ({ cls := "LabelledFlows", name := "isSource", desc := "(I)Z" } : Jvm.MethodName) prog_1_method_20_code (2 : Nat) (Option.some Jvm.ClassFile.FieldType.boolean)) ∈ lw_w := List.mem_filter.mpr ⟨List.mem_append_right _ (List.mem_of_getElem? (i := 414) (by decide +kernel)), rfl⟩
theorem wd_415 : (Jvm.Cond.methodLink "LabelledFlows" (93 : Nat) ({ cls := "LabelledFlows", name := "isSink", desc := "(I)Z" } : Jvm.MethodName)) ∈ lw_w := List.mem_filter.mpr ⟨List.mem_append_right _ (List.mem_of_getElem? (i := 415) (by decide +kernel)), rfl⟩
theorem wd_417 : (Jvm.Cond.instanceMethod ({ cls := "LabelledFlows", name := "isSink", desc := "(I)Z" } : Jvm.MethodName)) ∈ lw_w := List.mem_filter.mpr ⟨List.mem_append_right _ (List.mem_of_getElem? (i := 417) (by decide +kernel)), rfl⟩
theorem wd_418 : (Jvm.Cond.code ({ cls := "LabelledFlows", name := "isSink", desc := "(I)Z" } : Jvm.MethodName) prog_1_method_21_code (2 : Nat) (Option.some Jvm.ClassFile.FieldType.boolean)) ∈ lw_w := List.mem_filter.mpr ⟨List.mem_append_right _ (List.mem_of_getElem? (i := 418) (by decide +kernel)), rfl⟩
theorem wd_419 : (Jvm.Cond.methodLink "LabelledFlows" (102 : Nat) ({ cls := "LabelledFlows$Flow", name := "mayHold", desc := "(IIII)Z" } : Jvm.MethodName)) ∈ lw_w := List.mem_filter.mpr ⟨List.mem_append_right _ (List.mem_of_getElem? (i := 419) (by decide +kernel)), rfl⟩
theorem wd_420 : (Jvm.Cond.instanceMethod ({ cls := "LabelledFlows$Flow", name := "mayHold", desc := "(IIII)Z" } : Jvm.MethodName)) ∈ lw_w := List.mem_filter.mpr ⟨List.mem_append_right _ (List.mem_of_getElem? (i := 420) (by decide +kernel)), rfl⟩
theorem wd_421 : (Jvm.Cond.selects "LabelledFlows$Flow" ({ cls := "LabelledFlows$Flow", name := "mayHold", desc := "(IIII)Z" } : Jvm.MethodName) ({ cls := "LabelledFlows$Flow", name := "mayHold", desc := "(IIII)Z" } : Jvm.MethodName)) ∈ lw_w := List.mem_filter.mpr ⟨List.mem_append_right _ (List.mem_of_getElem? (i := 421) (by decide +kernel)), rfl⟩
theorem wd_422 : (Jvm.Cond.code ({ cls := "LabelledFlows$Flow", name := "mayHold", desc := "(IIII)Z" } : Jvm.MethodName) prog_2_method_21_code (6 : Nat) (Option.some Jvm.ClassFile.FieldType.boolean)) ∈ lw_w := List.mem_filter.mpr ⟨List.mem_append_right _ (List.mem_of_getElem? (i := 422) (by decide +kernel)), rfl⟩
theorem wd_431 : (Jvm.Cond.methodLink "LabelledFlows" (105 : Nat) ({ cls := "LabelledFlows$Flow", name := "countEntries", desc := "(I)I" } : Jvm.MethodName)) ∈ lw_w := List.mem_filter.mpr ⟨List.mem_append_right _ (List.mem_of_getElem? (i := 431) (by decide +kernel)), rfl⟩
theorem wd_432 : (Jvm.Cond.instanceMethod ({ cls := "LabelledFlows$Flow", name := "countEntries", desc := "(I)I" } : Jvm.MethodName)) ∈ lw_w := List.mem_filter.mpr ⟨List.mem_append_right _ (List.mem_of_getElem? (i := 432) (by decide +kernel)), rfl⟩
theorem wd_433 : (Jvm.Cond.selects "LabelledFlows$Flow" ({ cls := "LabelledFlows$Flow", name := "countEntries", desc := "(I)I" } : Jvm.MethodName) ({ cls := "LabelledFlows$Flow", name := "countEntries", desc := "(I)I" } : Jvm.MethodName)) ∈ lw_w := List.mem_filter.mpr ⟨List.mem_append_right _ (List.mem_of_getElem? (i := 433) (by decide +kernel)), rfl⟩
theorem wd_434 : (Jvm.Cond.code ({ cls := "LabelledFlows$Flow", name := "countEntries", desc := "(I)I" } : Jvm.MethodName) prog_2_method_20_code (4 : Nat) (Option.some Jvm.ClassFile.FieldType.int)) ∈ lw_w := List.mem_filter.mpr ⟨List.mem_append_right _ (List.mem_of_getElem? (i := 434) (by decide +kernel)), rfl⟩
theorem wd_447 : (Jvm.Cond.methodLink "LabelledFlows" (115 : Nat) ({ cls := "LabelledFlows$Machine", name := "start", desc := "(II)I" } : Jvm.MethodName)) ∈ lw_w := List.mem_filter.mpr ⟨List.mem_append_right _ (List.mem_of_getElem? (i := 447) (by decide +kernel)), rfl⟩
theorem wd_448 : (Jvm.Cond.instanceMethod ({ cls := "LabelledFlows$Machine", name := "start", desc := "(II)I" } : Jvm.MethodName)) ∈ lw_w := List.mem_filter.mpr ⟨List.mem_append_right _ (List.mem_of_getElem? (i := 448) (by decide +kernel)), rfl⟩
theorem wd_449 : (Jvm.Cond.selects "LabelledFlows$Machine" ({ cls := "LabelledFlows$Machine", name := "start", desc := "(II)I" } : Jvm.MethodName) ({ cls := "LabelledFlows$Machine", name := "start", desc := "(II)I" } : Jvm.MethodName)) ∈ lw_w := List.mem_filter.mpr ⟨List.mem_append_right _ (List.mem_of_getElem? (i := 449) (by decide +kernel)), rfl⟩
theorem wd_450 : (Jvm.Cond.code ({ cls := "LabelledFlows$Machine", name := "start", desc := "(II)I" } : Jvm.MethodName) prog_3_method_2_code (5 : Nat) (Option.some Jvm.ClassFile.FieldType.int)) ∈ lw_w := List.mem_filter.mpr ⟨List.mem_append_right _ (List.mem_of_getElem? (i := 450) (by decide +kernel)), rfl⟩
theorem wd_451 : (Jvm.Cond.methodLink "LabelledFlows$Machine" (38 : Nat) ({ cls := "java/lang/Math", name := "min", desc := "(II)I" } : Jvm.MethodName)) ∈ lw_w := List.mem_filter.mpr ⟨List.mem_append_right _ (List.mem_of_getElem? (i := 451) (by decide +kernel)), rfl⟩
theorem wd_452 : (Jvm.Cond.methodLink "LabelledFlows$Machine" (44 : Nat) ({ cls := "java/lang/Math", name := "max", desc := "(II)I" } : Jvm.MethodName)) ∈ lw_w := List.mem_filter.mpr ⟨List.mem_append_right _ (List.mem_of_getElem? (i := 452) (by decide +kernel)), rfl⟩
theorem wd_453 : (Jvm.Cond.static ({ cls := "java/lang/Math", name := "max", desc := "(II)I" } : Jvm.MethodName)) ∈ lw_w := List.mem_filter.mpr ⟨List.mem_append_right _ (List.mem_of_getElem? (i := 453) (by decide +kernel)), rfl⟩
theorem wd_454 : (Jvm.Cond.code ({ cls := "java/lang/Math", name := "max", desc := "(II)I" } : Jvm.MethodName) prog_9_method_65_code (2 : Nat) (Option.some Jvm.ClassFile.FieldType.int)) ∈ lw_w := List.mem_filter.mpr ⟨List.mem_append_right _ (List.mem_of_getElem? (i := 454) (by decide +kernel)), rfl⟩
theorem wd_455 : (Jvm.Cond.methodLink "LabelledFlows$Machine" (47 : Nat) ({ cls := "LabelledFlows$Machine", name := "reset", desc := "(I)V" } : Jvm.MethodName)) ∈ lw_w := List.mem_filter.mpr ⟨List.mem_append_right _ (List.mem_of_getElem? (i := 455) (by decide +kernel)), rfl⟩
theorem wd_457 : (Jvm.Cond.instanceMethod ({ cls := "LabelledFlows$Machine", name := "reset", desc := "(I)V" } : Jvm.MethodName)) ∈ lw_w := List.mem_filter.mpr ⟨List.mem_append_right _ (List.mem_of_getElem? (i := 457) (by decide +kernel)), rfl⟩
theorem wd_458 : (Jvm.Cond.code ({ cls := "LabelledFlows$Machine", name := "reset", desc := "(I)V" } : Jvm.MethodName) prog_3_method_3_code (2 : Nat) (Option.none : Option Jvm.ClassFile.FieldType)) ∈ lw_w := List.mem_filter.mpr ⟨List.mem_append_right _ (List.mem_of_getElem? (i := 458) (by decide +kernel)), rfl⟩
theorem wd_459 : (Jvm.Cond.methodLink "LabelledFlows$Machine" (64 : Nat) ({ cls := "java/util/Arrays", name := "fill", desc := "([II)V" } : Jvm.MethodName)) ∈ lw_w := List.mem_filter.mpr ⟨List.mem_append_right _ (List.mem_of_getElem? (i := 459) (by decide +kernel)), rfl⟩
theorem wd_460 : (Jvm.Cond.methodLink "LabelledFlows$Machine" (82 : Nat) ({ cls := "LabelledFlows$Machine", name := "begin", desc := "(III)V" } : Jvm.MethodName)) ∈ lw_w := List.mem_filter.mpr ⟨List.mem_append_right _ (List.mem_of_getElem? (i := 460) (by decide +kernel)), rfl⟩
theorem wd_462 : (Jvm.Cond.instanceMethod ({ cls := "LabelledFlows$Machine", name := "begin", desc := "(III)V" } : Jvm.MethodName)) ∈ lw_w := List.mem_filter.mpr ⟨List.mem_append_right _ (List.mem_of_getElem? (i := 462) (by decide +kernel)), rfl⟩
theorem wd_463 : (Jvm.Cond.code ({ cls := "LabelledFlows$Machine", name := "begin", desc := "(III)V" } : Jvm.MethodName) prog_3_method_4_code (4 : Nat) (Option.none : Option Jvm.ClassFile.FieldType)) ∈ lw_w := List.mem_filter.mpr ⟨List.mem_append_right _ (List.mem_of_getElem? (i := 463) (by decide +kernel)), rfl⟩
theorem wd_464 : (Jvm.Cond.methodLink "LabelledFlows$Machine" (51 : Nat) ({ cls := "LabelledFlows$Machine", name := "endMethods", desc := "()V" } : Jvm.MethodName)) ∈ lw_w := List.mem_filter.mpr ⟨List.mem_append_right _ (List.mem_of_getElem? (i := 464) (by decide +kernel)), rfl⟩
theorem wd_466 : (Jvm.Cond.instanceMethod ({ cls := "LabelledFlows$Machine", name := "endMethods", desc := "()V" } : Jvm.MethodName)) ∈ lw_w := List.mem_filter.mpr ⟨List.mem_append_right _ (List.mem_of_getElem? (i := 466) (by decide +kernel)), rfl⟩
theorem wd_467 : (Jvm.Cond.code ({ cls := "LabelledFlows$Machine", name := "endMethods", desc := "()V" } : Jvm.MethodName) prog_3_method_5_code (2 : Nat) (Option.none : Option Jvm.ClassFile.FieldType)) ∈ lw_w := List.mem_filter.mpr ⟨List.mem_append_right _ (List.mem_of_getElem? (i := 467) (by decide +kernel)), rfl⟩
theorem wd_468 : (Jvm.Cond.methodLink "LabelledFlows$Machine" (86 : Nat) ({ cls := "LabelledFlows$Machine", name := "standsAtEnd", desc := "()Z" } : Jvm.MethodName)) ∈ lw_w := List.mem_filter.mpr ⟨List.mem_append_right _ (List.mem_of_getElem? (i := 468) (by decide +kernel)), rfl⟩
theorem wd_470 : (Jvm.Cond.instanceMethod ({ cls := "LabelledFlows$Machine", name := "standsAtEnd", desc := "()Z" } : Jvm.MethodName)) ∈ lw_w := List.mem_filter.mpr ⟨List.mem_append_right _ (List.mem_of_getElem? (i := 470) (by decide +kernel)), rfl⟩
theorem wd_471 : (Jvm.Cond.code ({ cls := "LabelledFlows$Machine", name := "standsAtEnd", desc := "()Z" } : Jvm.MethodName) prog_3_method_6_code (2 : Nat) (Option.some Jvm.ClassFile.FieldType.boolean)) ∈ lw_w := List.mem_filter.mpr ⟨List.mem_append_right _ (List.mem_of_getElem? (i := 471) (by decide +kernel)), rfl⟩
theorem wd_472 : (Jvm.Cond.methodLink "LabelledFlows$Machine" (90 : Nat) ({ cls := "LabelledFlows$Machine", name := "endMethod", desc := "(I)V" } : Jvm.MethodName)) ∈ lw_w := List.mem_filter.mpr ⟨List.mem_append_right _ (List.mem_of_getElem? (i := 472) (by decide +kernel)), rfl⟩
theorem wd_474 : (Jvm.Cond.instanceMethod ({ cls := "LabelledFlows$Machine", name := "endMethod", desc := "(I)V" } : Jvm.MethodName)) ∈ lw_w := List.mem_filter.mpr ⟨List.mem_append_right _ (List.mem_of_getElem? (i := 474) (by decide +kernel)), rfl⟩
theorem wd_475 : (Jvm.Cond.code ({ cls := "LabelledFlows$Machine", name := "endMethod", desc := "(I)V" } : Jvm.MethodName) prog_3_method_7_code (3 : Nat) (Option.none : Option Jvm.ClassFile.FieldType)) ∈ lw_w := List.mem_filter.mpr ⟨List.mem_append_right _ (List.mem_of_getElem? (i := 475) (by decide +kernel)), rfl⟩
theorem wd_476 : (Jvm.Cond.methodLink "LabelledFlows$Machine" (54 : Nat) ({ cls := "LabelledFlows$Machine", name := "endingBeforeStep", desc := "(I)I" } : Jvm.MethodName)) ∈ lw_w := List.mem_filter.mpr ⟨List.mem_append_right _ (List.mem_of_getElem? (i := 476) (by decide +kernel)), rfl⟩
theorem wd_478 : (Jvm.Cond.instanceMethod ({ cls := "LabelledFlows$Machine", name := "endingBeforeStep", desc := "(I)I" } : Jvm.MethodName)) ∈ lw_w := List.mem_filter.mpr ⟨List.mem_append_right _ (List.mem_of_getElem? (i := 478) (by decide +kernel)), rfl⟩
theorem wd_479 : (Jvm.Cond.code ({ cls := "LabelledFlows$Machine", name := "endingBeforeStep", desc := "(I)I" } : Jvm.MethodName) prog_3_method_8_code (3 : Nat) (Option.some Jvm.ClassFile.FieldType.int)) ∈ lw_w := List.mem_filter.mpr ⟨List.mem_append_right _ (List.mem_of_getElem? (i := 479) (by decide +kernel)), rfl⟩
theorem wd_480 : (Jvm.Cond.methodLink "LabelledFlows$Machine" (107 : Nat) ({ cls := "LabelledFlows$Machine", name := "objectOf", desc := "(I)I" } : Jvm.MethodName)) ∈ lw_w := List.mem_filter.mpr ⟨List.mem_append_right _ (List.mem_of_getElem? (i := 480) (by decide +kernel)), rfl⟩
theorem wd_482 : (Jvm.Cond.instanceMethod ({ cls := "LabelledFlows$Machine", name := "objectOf", desc := "(I)I" } : Jvm.MethodName)) ∈ lw_w := List.mem_filter.mpr ⟨List.mem_append_right _ (List.mem_of_getElem? (i := 482) (by decide +kernel)), rfl⟩
theorem wd_483 : (Jvm.Cond.code ({ cls := "LabelledFlows$Machine", name := "objectOf", desc := "(I)I" } : Jvm.MethodName) prog_3_method_9_code (2 : Nat) (Option.some Jvm.ClassFile.FieldType.int)) ∈ lw_w := List.mem_filter.mpr ⟨List.mem_append_right _ (List.mem_of_getElem? (i := 483) (by decide +kernel)), rfl⟩
theorem wd_484 : (Jvm.Cond.methodLink "LabelledFlows$Machine" (110 : Nat) ({ cls := "LabelledFlows$Machine", name := "calledMethod", desc := "(I)I" } : Jvm.MethodName)) ∈ lw_w := List.mem_filter.mpr ⟨List.mem_append_right _ (List.mem_of_getElem? (i := 484) (by decide +kernel)), rfl⟩
theorem wd_486 : (Jvm.Cond.instanceMethod ({ cls := "LabelledFlows$Machine", name := "calledMethod", desc := "(I)I" } : Jvm.MethodName)) ∈ lw_w := List.mem_filter.mpr ⟨List.mem_append_right _ (List.mem_of_getElem? (i := 486) (by decide +kernel)), rfl⟩
theorem wd_487 : (Jvm.Cond.code ({ cls := "LabelledFlows$Machine", name := "calledMethod", desc := "(I)I" } : Jvm.MethodName) prog_3_method_10_code (3 : Nat) (Option.some Jvm.ClassFile.FieldType.int)) ∈ lw_w := List.mem_filter.mpr ⟨List.mem_append_right _ (List.mem_of_getElem? (i := 487) (by decide +kernel)), rfl⟩
theorem wd_488 : (Jvm.Cond.methodLink "LabelledFlows$Machine" (116 : Nat) ({ cls := "LabelledFlows$Program", name := "targetOf", desc := "(II)I" } : Jvm.MethodName)) ∈ lw_w := List.mem_filter.mpr ⟨List.mem_append_right _ (List.mem_of_getElem? (i := 488) (by decide +kernel)), rfl⟩
theorem wd_489 : (Jvm.Cond.methodLink "LabelledFlows$Machine" (58 : Nat) ({ cls := "LabelledFlows$Machine", name := "step", desc := "()V" } : Jvm.MethodName)) ∈ lw_w := List.mem_filter.mpr ⟨List.mem_append_right _ (List.mem_of_getElem? (i := 489) (by decide +kernel)), rfl⟩
theorem wd_491 : (Jvm.Cond.instanceMethod ({ cls := "LabelledFlows$Machine", name := "step", desc := "()V" } : Jvm.MethodName)) ∈ lw_w := List.mem_filter.mpr ⟨List.mem_append_right _ (List.mem_of_getElem? (i := 491) (by decide +kernel)), rfl⟩
theorem wd_492 : (Jvm.Cond.code ({ cls := "LabelledFlows$Machine", name := "step", desc := "()V" } : Jvm.MethodName) prog_3_method_11_code (6 : Nat) (Option.none : Option Jvm.ClassFile.FieldType)) ∈ lw_w := List.mem_filter.mpr ⟨List.mem_append_right _ (List.mem_of_getElem? (i := 492) (by decide +kernel)), rfl⟩
theorem wd_493 : (Jvm.Cond.methodLinkNest "LabelledFlows$Machine" (119 : Nat) ({ cls := "LabelledFlows", name := "has", desc := "(II)Z" } : Jvm.MethodName) "LabelledFlows") ∈ lw_w := List.mem_filter.mpr ⟨List.mem_append_right _ (List.mem_of_getElem? (i := 493) (by decide +kernel)), rfl⟩
theorem wd_494 : (Jvm.Cond.methodLink "LabelledFlows$Machine" (123 : Nat) ({ cls := "LabelledFlows$Program", name := "jumpSpot", desc := "(II)I" } : Jvm.MethodName)) ∈ lw_w := List.mem_filter.mpr ⟨List.mem_append_right _ (List.mem_of_getElem? (i := 494) (by decide +kernel)), rfl⟩
theorem wd_495 : (Jvm.Cond.methodLink "LabelledFlows$Machine" (126 : Nat) ({ cls := "LabelledFlows$Machine", name := "changeValues", desc := "(III)V" } : Jvm.MethodName)) ∈ lw_w := List.mem_filter.mpr ⟨List.mem_append_right _ (List.mem_of_getElem? (i := 495) (by decide +kernel)), rfl⟩
theorem wd_497 : (Jvm.Cond.instanceMethod ({ cls := "LabelledFlows$Machine", name := "changeValues", desc := "(III)V" } : Jvm.MethodName)) ∈ lw_w := List.mem_filter.mpr ⟨List.mem_append_right _ (List.mem_of_getElem? (i := 497) (by decide +kernel)), rfl⟩
theorem wd_498 : (Jvm.Cond.code ({ cls := "LabelledFlows$Machine", name := "changeValues", desc := "(III)V" } : Jvm.MethodName) prog_3_method_12_code (6 : Nat) (Option.none : Option Jvm.ClassFile.FieldType)) ∈ lw_w := List.mem_filter.mpr ⟨List.mem_append_right _ (List.mem_of_getElem? (i := 498) (by decide +kernel)), rfl⟩
theorem wd_499 : (Jvm.Cond.methodLink "LabelledFlows$Machine" (129 : Nat) ({ cls := "LabelledFlows$Machine", name := "makeObject", desc := "(I)I" } : Jvm.MethodName)) ∈ lw_w := List.mem_filter.mpr ⟨List.mem_append_right _ (List.mem_of_getElem? (i := 499) (by decide +kernel)), rfl⟩
theorem wd_501 : (Jvm.Cond.instanceMethod ({ cls := "LabelledFlows$Machine", name := "makeObject", desc := "(I)I" } : Jvm.MethodName)) ∈ lw_w := List.mem_filter.mpr ⟨List.mem_append_right _ (List.mem_of_getElem? (i := 501) (by decide +kernel)), rfl⟩
theorem wd_502 : (Jvm.Cond.code ({ cls := "LabelledFlows$Machine", name := "makeObject", desc := "(I)I" } : Jvm.MethodName) prog_3_method_13_code (2 : Nat) (Option.some Jvm.ClassFile.FieldType.int)) ∈ lw_w := List.mem_filter.mpr ⟨List.mem_append_right _ (List.mem_of_getElem? (i := 502) (by decide +kernel)), rfl⟩
theorem wd_503 : (Jvm.Cond.methodLink "LabelledFlows$Machine" (135 : Nat) ({ cls := "LabelledFlows$Machine", name := "countHits", desc := "(II)V" } : Jvm.MethodName)) ∈ lw_w := List.mem_filter.mpr ⟨List.mem_append_right _ (List.mem_of_getElem? (i := 503) (by decide +kernel)), rfl⟩
theorem wd_505 : (Jvm.Cond.instanceMethod ({ cls := "LabelledFlows$Machine", name := "countHits", desc := "(II)V" } : Jvm.MethodName)) ∈ lw_w := List.mem_filter.mpr ⟨List.mem_append_right _ (List.mem_of_getElem? (i := 505) (by decide +kernel)), rfl⟩
theorem wd_506 : (Jvm.Cond.code ({ cls := "LabelledFlows$Machine", name := "countHits", desc := "(II)V" } : Jvm.MethodName) prog_3_method_14_code (4 : Nat) (Option.none : Option Jvm.ClassFile.FieldType)) ∈ lw_w := List.mem_filter.mpr ⟨List.mem_append_right _ (List.mem_of_getElem? (i := 506) (by decide +kernel)), rfl⟩
theorem wd_525 : (Jvm.Cond.fieldLink "LabelledFlowsModel" (7 : Nat) "LabelledFlowsModel" "length" "[I") ∈ lw_w := List.mem_filter.mpr ⟨List.mem_append_right _ (List.mem_of_getElem? (i := 525) (by decide +kernel)), rfl⟩
theorem wd_526 : (Jvm.Cond.fieldLink "LabelledFlowsModel" (13 : Nat) "LabelledFlowsModel" "kinds" "[I") ∈ lw_w := List.mem_filter.mpr ⟨List.mem_append_right _ (List.mem_of_getElem? (i := 526) (by decide +kernel)), rfl⟩
theorem wd_527 : (Jvm.Cond.fieldLink "LabelledFlowsModel" (16 : Nat) "LabelledFlowsModel" "first" "[I") ∈ lw_w := List.mem_filter.mpr ⟨List.mem_append_right _ (List.mem_of_getElem? (i := 527) (by decide +kernel)), rfl⟩
theorem wd_528 : (Jvm.Cond.fieldLink "LabelledFlowsModel" (19 : Nat) "LabelledFlowsModel" "second" "[I") ∈ lw_w := List.mem_filter.mpr ⟨List.mem_append_right _ (List.mem_of_getElem? (i := 528) (by decide +kernel)), rfl⟩
theorem wd_529 : (Jvm.Cond.fieldLink "LabelledFlowsModel" (22 : Nat) "LabelledFlowsModel" "third" "[I") ∈ lw_w := List.mem_filter.mpr ⟨List.mem_append_right _ (List.mem_of_getElem? (i := 529) (by decide +kernel)), rfl⟩
theorem wd_530 : (Jvm.Cond.fieldLink "LabelledFlowsModel" (25 : Nat) "LabelledFlowsModel" "parent" "[I") ∈ lw_w := List.mem_filter.mpr ⟨List.mem_append_right _ (List.mem_of_getElem? (i := 530) (by decide +kernel)), rfl⟩
theorem wd_531 : (Jvm.Cond.fieldLink "LabelledFlowsModel" (28 : Nat) "LabelledFlowsModel" "bound" "[I") ∈ lw_w := List.mem_filter.mpr ⟨List.mem_append_right _ (List.mem_of_getElem? (i := 531) (by decide +kernel)), rfl⟩
theorem wd_532 : (Jvm.Cond.fieldLink "LabelledFlowsModel" (85 : Nat) "LabelledFlowsModel" "verdict" "I") ∈ lw_w := List.mem_filter.mpr ⟨List.mem_append_right _ (List.mem_of_getElem? (i := 532) (by decide +kernel)), rfl⟩
theorem wd_533 : (Jvm.Cond.fieldLink "LabelledFlowsModel" (111 : Nat) "LabelledFlowsModel" "changed" "Z") ∈ lw_w := List.mem_filter.mpr ⟨List.mem_append_right _ (List.mem_of_getElem? (i := 533) (by decide +kernel)), rfl⟩
theorem wd_534 : (Jvm.Cond.fieldLink "LabelledFlowsModel" (31 : Nat) "LabelledFlowsModel" "local" "[I") ∈ lw_w := List.mem_filter.mpr ⟨List.mem_append_right _ (List.mem_of_getElem? (i := 534) (by decide +kernel)), rfl⟩
theorem wd_535 : (Jvm.Cond.fieldLink "LabelledFlowsModel" (34 : Nat) "LabelledFlowsModel" "field" "[I") ∈ lw_w := List.mem_filter.mpr ⟨List.mem_append_right _ (List.mem_of_getElem? (i := 535) (by decide +kernel)), rfl⟩
theorem wd_536 : (Jvm.Cond.fieldLink "LabelledFlowsModel" (37 : Nat) "LabelledFlowsModel" "reached" "[Z") ∈ lw_w := List.mem_filter.mpr ⟨List.mem_append_right _ (List.mem_of_getElem? (i := 536) (by decide +kernel)), rfl⟩
theorem wd_537 : (Jvm.Cond.fieldLink "LabelledFlowsModel" (41 : Nat) "LabelledFlowsModel" "targets" "[I") ∈ lw_w := List.mem_filter.mpr ⟨List.mem_append_right _ (List.mem_of_getElem? (i := 537) (by decide +kernel)), rfl⟩
theorem wd_538 : (Jvm.Cond.fieldLink "LabelledFlowsModel" (44 : Nat) "LabelledFlowsModel" "hold" "[J") ∈ lw_w := List.mem_filter.mpr ⟨List.mem_append_right _ (List.mem_of_getElem? (i := 538) (by decide +kernel)), rfl⟩
theorem wd_539 : (Jvm.Cond.fieldLink "LabelledFlowsModel" (48 : Nat) "LabelledFlowsModel" "zero" "[Z") ∈ lw_w := List.mem_filter.mpr ⟨List.mem_append_right _ (List.mem_of_getElem? (i := 539) (by decide +kernel)), rfl⟩
theorem wd_540 : (Jvm.Cond.fieldLink "LabelledFlowsModel" (51 : Nat) "LabelledFlowsModel" "entry" "[J") ∈ lw_w := List.mem_filter.mpr ⟨List.mem_append_right _ (List.mem_of_getElem? (i := 540) (by decide +kernel)), rfl⟩
theorem wd_541 : (Jvm.Cond.fieldLink "LabelledFlowsModel" (54 : Nat) "LabelledFlowsModel" "zeroEntry" "[Z") ∈ lw_w := List.mem_filter.mpr ⟨List.mem_append_right _ (List.mem_of_getElem? (i := 541) (by decide +kernel)), rfl⟩
theorem wd_542 : (Jvm.Cond.fieldLink "LabelledFlowsModel" (89 : Nat) "LabelledFlowsModel" "outcome" "I") ∈ lw_w := List.mem_filter.mpr ⟨List.mem_append_right _ (List.mem_of_getElem? (i := 542) (by decide +kernel)), rfl⟩
theorem wd_543 : (Jvm.Cond.fieldLink "LabelledFlowsModel" (192 : Nat) "LabelledFlowsModel" "made" "I") ∈ lw_w := List.mem_filter.mpr ⟨List.mem_append_right _ (List.mem_of_getElem? (i := 543) (by decide +kernel)), rfl⟩
theorem wd_544 : (Jvm.Cond.fieldLink "LabelledFlowsModel" (57 : Nat) "LabelledFlowsModel" "hits" "[I") ∈ lw_w := List.mem_filter.mpr ⟨List.mem_append_right _ (List.mem_of_getElem? (i := 544) (by decide +kernel)), rfl⟩
theorem wd_545 : (Jvm.Cond.fieldLink "LabelledFlowsModel" (208 : Nat) "LabelledFlowsModel" "steps" "I") ∈ lw_w := List.mem_filter.mpr ⟨List.mem_append_right _ (List.mem_of_getElem? (i := 545) (by decide +kernel)), rfl⟩
theorem wd_546 : (Jvm.Cond.fieldLink "LabelledFlowsModel" (202 : Nat) "LabelledFlowsModel" "branches" "I") ∈ lw_w := List.mem_filter.mpr ⟨List.mem_append_right _ (List.mem_of_getElem? (i := 546) (by decide +kernel)), rfl⟩
theorem wd_547 : (Jvm.Cond.fieldLink "LabelledFlowsModel" (186 : Nat) "LabelledFlowsModel" "depth" "I") ∈ lw_w := List.mem_filter.mpr ⟨List.mem_append_right _ (List.mem_of_getElem? (i := 547) (by decide +kernel)), rfl⟩
theorem wd_548 : (Jvm.Cond.fieldLink "LabelledFlowsModel" (60 : Nat) "LabelledFlowsModel" "method" "[I") ∈ lw_w := List.mem_filter.mpr ⟨List.mem_append_right _ (List.mem_of_getElem? (i := 548) (by decide +kernel)), rfl⟩
theorem wd_549 : (Jvm.Cond.fieldLink "LabelledFlowsModel" (63 : Nat) "LabelledFlowsModel" "place" "[I") ∈ lw_w := List.mem_filter.mpr ⟨List.mem_append_right _ (List.mem_of_getElem? (i := 549) (by decide +kernel)), rfl⟩
theorem wd_550 : (Jvm.Cond.fieldLink "LabelledFlowsModel" (66 : Nat) "LabelledFlowsModel" "object" "[I") ∈ lw_w := List.mem_filter.mpr ⟨List.mem_append_right _ (List.mem_of_getElem? (i := 550) (by decide +kernel)), rfl⟩
theorem wd_551 : (Jvm.Cond.fieldLink "LabelledFlowsModel" (69 : Nat) "LabelledFlowsModel" "label" "[I") ∈ lw_w := List.mem_filter.mpr ⟨List.mem_append_right _ (List.mem_of_getElem? (i := 551) (by decide +kernel)), rfl⟩
theorem wd_552 : (Jvm.Cond.fieldLink "LabelledFlowsModel" (72 : Nat) "LabelledFlowsModel" "kindOf" "[I") ∈ lw_w := List.mem_filter.mpr ⟨List.mem_append_right _ (List.mem_of_getElem? (i := 552) (by decide +kernel)), rfl⟩
theorem wd_553 : (Jvm.Cond.fieldLink "LabelledFlowsModel" (75 : Nat) "LabelledFlowsModel" "held" "[I") ∈ lw_w := List.mem_filter.mpr ⟨List.mem_append_right _ (List.mem_of_getElem? (i := 553) (by decide +kernel)), rfl⟩
theorem wd_554 : (Jvm.Cond.fieldLink "LabelledFlowsModel" (78 : Nat) "LabelledFlowsModel" "heldLabel" "[I") ∈ lw_w := List.mem_filter.mpr ⟨List.mem_append_right _ (List.mem_of_getElem? (i := 554) (by decide +kernel)), rfl⟩
theorem wd_622 : (Jvm.Cond.methodLink "LabelledFlowsModel" (81 : Nat) ({ cls := "LabelledFlowsModel", name := "within", desc := "(III)Z" } : Jvm.MethodName)) ∈ lw_w := List.mem_filter.mpr ⟨List.mem_append_right _ (List.mem_of_getElem? (i := 622) (by decide +kernel)), rfl⟩
theorem wd_623 : (Jvm.Cond.static ({ cls := "LabelledFlowsModel", name := "within", desc := "(III)Z" } : Jvm.MethodName)) ∈ lw_w := List.mem_filter.mpr ⟨List.mem_append_right _ (List.mem_of_getElem? (i := 623) (by decide +kernel)), rfl⟩
theorem wd_624 : (Jvm.Cond.code ({ cls := "LabelledFlowsModel", name := "within", desc := "(III)Z" } : Jvm.MethodName) prog_7_method_2_code (3 : Nat) (Option.some Jvm.ClassFile.FieldType.boolean)) ∈ lw_w := List.mem_filter.mpr ⟨List.mem_append_right _ (List.mem_of_getElem? (i := 624) (by decide +kernel)), rfl⟩
theorem wd_625 : (Jvm.Cond.methodLink "LabelledFlowsModel" (92 : Nat) ({ cls := "LabelledFlowsModel", name := "operands", desc := "(IIII)Z" } : Jvm.MethodName)) ∈ lw_w := List.mem_filter.mpr ⟨List.mem_append_right _ (List.mem_of_getElem? (i := 625) (by decide +kernel)), rfl⟩
theorem wd_626 : (Jvm.Cond.static ({ cls := "LabelledFlowsModel", name := "operands", desc := "(IIII)Z" } : Jvm.MethodName)) ∈ lw_w := List.mem_filter.mpr ⟨List.mem_append_right _ (List.mem_of_getElem? (i := 626) (by decide +kernel)), rfl⟩
theorem wd_627 : (Jvm.Cond.code ({ cls := "LabelledFlowsModel", name := "operands", desc := "(IIII)Z" } : Jvm.MethodName) prog_7_method_4_code (5 : Nat) (Option.some Jvm.ClassFile.FieldType.boolean)) ∈ lw_w := List.mem_filter.mpr ⟨List.mem_append_right _ (List.mem_of_getElem? (i := 627) (by decide +kernel)), rfl⟩
theorem wd_628 : (Jvm.Cond.methodLink "LabelledFlowsModel" (96 : Nat) ({ cls := "LabelledFlowsModel", name := "before", desc := "(III)I" } : Jvm.MethodName)) ∈ lw_w := List.mem_filter.mpr ⟨List.mem_append_right _ (List.mem_of_getElem? (i := 628) (by decide +kernel)), rfl⟩
theorem wd_630 : (Jvm.Cond.instanceMethod ({ cls := "LabelledFlowsModel", name := "before", desc := "(III)I" } : Jvm.MethodName)) ∈ lw_w := List.mem_filter.mpr ⟨List.mem_append_right _ (List.mem_of_getElem? (i := 630) (by decide +kernel)), rfl⟩
theorem wd_631 : (Jvm.Cond.code ({ cls := "LabelledFlowsModel", name := "before", desc := "(III)I" } : Jvm.MethodName) prog_7_method_3_code (7 : Nat) (Option.some Jvm.ClassFile.FieldType.int)) ∈ lw_w := List.mem_filter.mpr ⟨List.mem_append_right _ (List.mem_of_getElem? (i := 631) (by decide +kernel)), rfl⟩
theorem wd_632 : (Jvm.Cond.methodLink "LabelledFlowsModel" (100 : Nat) ({ cls := "LabelledFlowsModel", name := "change", desc := "()V" } : Jvm.MethodName)) ∈ lw_w := List.mem_filter.mpr ⟨List.mem_append_right _ (List.mem_of_getElem? (i := 632) (by decide +kernel)), rfl⟩
theorem wd_634 : (Jvm.Cond.instanceMethod ({ cls := "LabelledFlowsModel", name := "change", desc := "()V" } : Jvm.MethodName)) ∈ lw_w := List.mem_filter.mpr ⟨List.mem_append_right _ (List.mem_of_getElem? (i := 634) (by decide +kernel)), rfl⟩
theorem wd_635 : (Jvm.Cond.code ({ cls := "LabelledFlowsModel", name := "change", desc := "()V" } : Jvm.MethodName) prog_7_method_5_code (1 : Nat) (Option.none : Option Jvm.ClassFile.FieldType)) ∈ lw_w := List.mem_filter.mpr ⟨List.mem_append_right _ (List.mem_of_getElem? (i := 635) (by decide +kernel)), rfl⟩
theorem wd_649 : (Jvm.Cond.instanceMethod ({ cls := "LabelledFlowsModel", name := "target", desc := "(II)I" } : Jvm.MethodName)) ∈ lw_w := List.mem_filter.mpr ⟨List.mem_append_right _ (List.mem_of_getElem? (i := 649) (by decide +kernel)), rfl⟩
theorem wd_650 : (Jvm.Cond.selects "LabelledFlowsModel" ({ cls := "LabelledFlowsModel", name := "target", desc := "(II)I" } : Jvm.MethodName) ({ cls := "LabelledFlowsModel", name := "target", desc := "(II)I" } : Jvm.MethodName)) ∈ lw_w := List.mem_filter.mpr ⟨List.mem_append_right _ (List.mem_of_getElem? (i := 650) (by decide +kernel)), rfl⟩
theorem wd_651 : (Jvm.Cond.code ({ cls := "LabelledFlowsModel", name := "target", desc := "(II)I" } : Jvm.MethodName) prog_7_method_10_code (5 : Nat) (Option.some Jvm.ClassFile.FieldType.int)) ∈ lw_w := List.mem_filter.mpr ⟨List.mem_append_right _ (List.mem_of_getElem? (i := 651) (by decide +kernel)), rfl⟩
theorem wd_660 : (Jvm.Cond.methodLink "LabelledFlowsModel" (170 : Nat) ({ cls := "LabelledFlowsModel", name := "workPoints", desc := "()V" } : Jvm.MethodName)) ∈ lw_w := List.mem_filter.mpr ⟨List.mem_append_right _ (List.mem_of_getElem? (i := 660) (by decide +kernel)), rfl⟩
theorem wd_662 : (Jvm.Cond.instanceMethod ({ cls := "LabelledFlowsModel", name := "workPoints", desc := "()V" } : Jvm.MethodName)) ∈ lw_w := List.mem_filter.mpr ⟨List.mem_append_right _ (List.mem_of_getElem? (i := 662) (by decide +kernel)), rfl⟩
theorem wd_663 : (Jvm.Cond.code ({ cls := "LabelledFlowsModel", name := "workPoints", desc := "()V" } : Jvm.MethodName) prog_7_method_17_code (4 : Nat) (Option.none : Option Jvm.ClassFile.FieldType)) ∈ lw_w := List.mem_filter.mpr ⟨List.mem_append_right _ (List.mem_of_getElem? (i := 663) (by decide +kernel)), rfl⟩
theorem wd_664 : (Jvm.Cond.constant "LabelledFlowsModel" (126 : Nat) (100000 : Int32)) ∈ lw_w := List.mem_filter.mpr ⟨List.mem_append_right _ (List.mem_of_getElem? (i := 664) (by decide +kernel)), rfl⟩
theorem wd_665 : (Jvm.Cond.methodLink "LabelledFlowsModel" (127 : Nat) ({ cls := "LabelledFlowsModel", name := "pointsOf", desc := "(II)V" } : Jvm.MethodName)) ∈ lw_w := List.mem_filter.mpr ⟨List.mem_append_right _ (List.mem_of_getElem? (i := 665) (by decide +kernel)), rfl⟩
theorem wd_667 : (Jvm.Cond.instanceMethod ({ cls := "LabelledFlowsModel", name := "pointsOf", desc := "(II)V" } : Jvm.MethodName)) ∈ lw_w := List.mem_filter.mpr ⟨List.mem_append_right _ (List.mem_of_getElem? (i := 667) (by decide +kernel)), rfl⟩
theorem wd_668 : (Jvm.Cond.code ({ cls := "LabelledFlowsModel", name := "pointsOf", desc := "(II)V" } : Jvm.MethodName) prog_7_method_16_code (10 : Nat) (Option.none : Option Jvm.ClassFile.FieldType)) ∈ lw_w := List.mem_filter.mpr ⟨List.mem_append_right _ (List.mem_of_getElem? (i := 668) (by decide +kernel)), rfl⟩
theorem wd_669 : (Jvm.Cond.methodLink "LabelledFlowsModel" (118 : Nat) ({ cls := "LabelledFlowsModel", name := "grow", desc := "(III)V" } : Jvm.MethodName)) ∈ lw_w := List.mem_filter.mpr ⟨List.mem_append_right _ (List.mem_of_getElem? (i := 669) (by decide +kernel)), rfl⟩
theorem wd_671 : (Jvm.Cond.instanceMethod ({ cls := "LabelledFlowsModel", name := "grow", desc := "(III)V" } : Jvm.MethodName)) ∈ lw_w := List.mem_filter.mpr ⟨List.mem_append_right _ (List.mem_of_getElem? (i := 671) (by decide +kernel)), rfl⟩
theorem wd_672 : (Jvm.Cond.code ({ cls := "LabelledFlowsModel", name := "grow", desc := "(III)V" } : Jvm.MethodName) prog_7_method_14_code (5 : Nat) (Option.none : Option Jvm.ClassFile.FieldType)) ∈ lw_w := List.mem_filter.mpr ⟨List.mem_append_right _ (List.mem_of_getElem? (i := 672) (by decide +kernel)), rfl⟩
theorem wd_673 : (Jvm.Cond.methodLink "LabelledFlowsModel" (122 : Nat) ({ cls := "LabelledFlowsModel", name := "callPoints", desc := "(II)V" } : Jvm.MethodName)) ∈ lw_w := List.mem_filter.mpr ⟨List.mem_append_right _ (List.mem_of_getElem? (i := 673) (by decide +kernel)), rfl⟩
theorem wd_675 : (Jvm.Cond.instanceMethod ({ cls := "LabelledFlowsModel", name := "callPoints", desc := "(II)V" } : Jvm.MethodName)) ∈ lw_w := List.mem_filter.mpr ⟨List.mem_append_right _ (List.mem_of_getElem? (i := 675) (by decide +kernel)), rfl⟩
theorem wd_676 : (Jvm.Cond.code ({ cls := "LabelledFlowsModel", name := "callPoints", desc := "(II)V" } : Jvm.MethodName) prog_7_method_15_code (6 : Nat) (Option.none : Option Jvm.ClassFile.FieldType)) ∈ lw_w := List.mem_filter.mpr ⟨List.mem_append_right _ (List.mem_of_getElem? (i := 676) (by decide +kernel)), rfl⟩
theorem wd_677 : (Jvm.Cond.methodLink "LabelledFlowsModel" (115 : Nat) ({ cls := "LabelledFlowsModel", name := "calls", desc := "(III)Z" } : Jvm.MethodName)) ∈ lw_w := List.mem_filter.mpr ⟨List.mem_append_right _ (List.mem_of_getElem? (i := 677) (by decide +kernel)), rfl⟩
theorem wd_679 : (Jvm.Cond.instanceMethod ({ cls := "LabelledFlowsModel", name := "calls", desc := "(III)Z" } : Jvm.MethodName)) ∈ lw_w := List.mem_filter.mpr ⟨List.mem_append_right _ (List.mem_of_getElem? (i := 679) (by decide +kernel)), rfl⟩
theorem wd_680 : (Jvm.Cond.code ({ cls := "LabelledFlowsModel", name := "calls", desc := "(III)Z" } : Jvm.MethodName) prog_7_method_13_code (6 : Nat) (Option.some Jvm.ClassFile.FieldType.boolean)) ∈ lw_w := List.mem_filter.mpr ⟨List.mem_append_right _ (List.mem_of_getElem? (i := 680) (by decide +kernel)), rfl⟩
theorem wd_681 : (Jvm.Cond.methodLink "LabelledFlowsModel" (103 : Nat) ({ cls := "LabelledFlowsModel", name := "classOf", desc := "(I)I" } : Jvm.MethodName)) ∈ lw_w := List.mem_filter.mpr ⟨List.mem_append_right _ (List.mem_of_getElem? (i := 681) (by decide +kernel)), rfl⟩
theorem wd_683 : (Jvm.Cond.instanceMethod ({ cls := "LabelledFlowsModel", name := "classOf", desc := "(I)I" } : Jvm.MethodName)) ∈ lw_w := List.mem_filter.mpr ⟨List.mem_append_right _ (List.mem_of_getElem? (i := 683) (by decide +kernel)), rfl⟩
theorem wd_684 : (Jvm.Cond.code ({ cls := "LabelledFlowsModel", name := "classOf", desc := "(I)I" } : Jvm.MethodName) prog_7_method_12_code (5 : Nat) (Option.some Jvm.ClassFile.FieldType.int)) ∈ lw_w := List.mem_filter.mpr ⟨List.mem_append_right _ (List.mem_of_getElem? (i := 684) (by decide +kernel)), rfl⟩
theorem wd_685 : (Jvm.Cond.methodLink "LabelledFlowsModel" (107 : Nat) ({ cls := "LabelledFlowsModel", name := "target", desc := "(II)I" } : Jvm.MethodName)) ∈ lw_w := List.mem_filter.mpr ⟨List.mem_append_right _ (List.mem_of_getElem? (i := 685) (by decide +kernel)), rfl⟩
theorem wd_686 : (Jvm.Cond.methodLink "LabelledFlowsModel" (173 : Nat) ({ cls := "LabelledFlowsModel", name := "workTargets", desc := "()V" } : Jvm.MethodName)) ∈ lw_w := List.mem_filter.mpr ⟨List.mem_append_right _ (List.mem_of_getElem? (i := 686) (by decide +kernel)), rfl⟩
theorem wd_688 : (Jvm.Cond.instanceMethod ({ cls := "LabelledFlowsModel", name := "workTargets", desc := "()V" } : Jvm.MethodName)) ∈ lw_w := List.mem_filter.mpr ⟨List.mem_append_right _ (List.mem_of_getElem? (i := 688) (by decide +kernel)), rfl⟩
theorem wd_689 : (Jvm.Cond.code ({ cls := "LabelledFlowsModel", name := "workTargets", desc := "()V" } : Jvm.MethodName) prog_7_method_18_code (4 : Nat) (Option.none : Option Jvm.ClassFile.FieldType)) ∈ lw_w := List.mem_filter.mpr ⟨List.mem_append_right _ (List.mem_of_getElem? (i := 689) (by decide +kernel)), rfl⟩
theorem wd_690 : (Jvm.Cond.methodLink "LabelledFlowsModel" (176 : Nat) ({ cls := "LabelledFlowsModel", name := "workFacts", desc := "()V" } : Jvm.MethodName)) ∈ lw_w := List.mem_filter.mpr ⟨List.mem_append_right _ (List.mem_of_getElem? (i := 690) (by decide +kernel)), rfl⟩
theorem wd_692 : (Jvm.Cond.instanceMethod ({ cls := "LabelledFlowsModel", name := "workFacts", desc := "()V" } : Jvm.MethodName)) ∈ lw_w := List.mem_filter.mpr ⟨List.mem_append_right _ (List.mem_of_getElem? (i := 692) (by decide +kernel)), rfl⟩
theorem wd_693 : (Jvm.Cond.code ({ cls := "LabelledFlowsModel", name := "workFacts", desc := "()V" } : Jvm.MethodName) prog_7_method_30_code (4 : Nat) (Option.none : Option Jvm.ClassFile.FieldType)) ∈ lw_w := List.mem_filter.mpr ⟨List.mem_append_right _ (List.mem_of_getElem? (i := 693) (by decide +kernel)), rfl⟩
theorem wd_694 : (Jvm.Cond.constant "LabelledFlowsModel" (162 : Nat) (1000000 : Int32)) ∈ lw_w := List.mem_filter.mpr ⟨List.mem_append_right _ (List.mem_of_getElem? (i := 694) (by decide +kernel)), rfl⟩
theorem wd_695 : (Jvm.Cond.methodLink "LabelledFlowsModel" (163 : Nat) ({ cls := "LabelledFlowsModel", name := "isEntry", desc := "(II)Z" } : Jvm.MethodName)) ∈ lw_w := List.mem_filter.mpr ⟨List.mem_append_right _ (List.mem_of_getElem? (i := 695) (by decide +kernel)), rfl⟩
theorem wd_697 : (Jvm.Cond.instanceMethod ({ cls := "LabelledFlowsModel", name := "isEntry", desc := "(II)Z" } : Jvm.MethodName)) ∈ lw_w := List.mem_filter.mpr ⟨List.mem_append_right _ (List.mem_of_getElem? (i := 697) (by decide +kernel)), rfl⟩
theorem wd_698 : (Jvm.Cond.code ({ cls := "LabelledFlowsModel", name := "isEntry", desc := "(II)Z" } : Jvm.MethodName) prog_7_method_28_code (3 : Nat) (Option.some Jvm.ClassFile.FieldType.boolean)) ∈ lw_w := List.mem_filter.mpr ⟨List.mem_append_right _ (List.mem_of_getElem? (i := 698) (by decide +kernel)), rfl⟩
theorem wd_699 : (Jvm.Cond.methodLink "LabelledFlowsModel" (167 : Nat) ({ cls := "LabelledFlowsModel", name := "allFrom", desc := "(II)V" } : Jvm.MethodName)) ∈ lw_w := List.mem_filter.mpr ⟨List.mem_append_right _ (List.mem_of_getElem? (i := 699) (by decide +kernel)), rfl⟩
theorem wd_701 : (Jvm.Cond.instanceMethod ({ cls := "LabelledFlowsModel", name := "allFrom", desc := "(II)V" } : Jvm.MethodName)) ∈ lw_w := List.mem_filter.mpr ⟨List.mem_append_right _ (List.mem_of_getElem? (i := 701) (by decide +kernel)), rfl⟩
theorem wd_702 : (Jvm.Cond.code ({ cls := "LabelledFlowsModel", name := "allFrom", desc := "(II)V" } : Jvm.MethodName) prog_7_method_29_code (7 : Nat) (Option.none : Option Jvm.ClassFile.FieldType)) ∈ lw_w := List.mem_filter.mpr ⟨List.mem_append_right _ (List.mem_of_getElem? (i := 702) (by decide +kernel)), rfl⟩
theorem wd_703 : (Jvm.Cond.methodLink "LabelledFlowsModel" (133 : Nat) ({ cls := "LabelledFlowsModel", name := "putZero", desc := "(II)V" } : Jvm.MethodName)) ∈ lw_w := List.mem_filter.mpr ⟨List.mem_append_right _ (List.mem_of_getElem? (i := 703) (by decide +kernel)), rfl⟩
theorem wd_705 : (Jvm.Cond.instanceMethod ({ cls := "LabelledFlowsModel", name := "putZero", desc := "(II)V" } : Jvm.MethodName)) ∈ lw_w := List.mem_filter.mpr ⟨List.mem_append_right _ (List.mem_of_getElem? (i := 705) (by decide +kernel)), rfl⟩
theorem wd_706 : (Jvm.Cond.code ({ cls := "LabelledFlowsModel", name := "putZero", desc := "(II)V" } : Jvm.MethodName) prog_7_method_21_code (4 : Nat) (Option.none : Option Jvm.ClassFile.FieldType)) ∈ lw_w := List.mem_filter.mpr ⟨List.mem_append_right _ (List.mem_of_getElem? (i := 706) (by decide +kernel)), rfl⟩
theorem wd_707 : (Jvm.Cond.methodLink "LabelledFlowsModel" (136 : Nat) ({ cls := "LabelledFlowsModel", name := "put", desc := "(IIIJ)V" } : Jvm.MethodName)) ∈ lw_w := List.mem_filter.mpr ⟨List.mem_append_right _ (List.mem_of_getElem? (i := 707) (by decide +kernel)), rfl⟩
theorem wd_709 : (Jvm.Cond.instanceMethod ({ cls := "LabelledFlowsModel", name := "put", desc := "(IIIJ)V" } : Jvm.MethodName)) ∈ lw_w := List.mem_filter.mpr ⟨List.mem_append_right _ (List.mem_of_getElem? (i := 709) (by decide +kernel)), rfl⟩
theorem wd_710 : (Jvm.Cond.code ({ cls := "LabelledFlowsModel", name := "put", desc := "(IIIJ)V" } : Jvm.MethodName) prog_7_method_20_code (10 : Nat) (Option.none : Option Jvm.ClassFile.FieldType)) ∈ lw_w := List.mem_filter.mpr ⟨List.mem_append_right _ (List.mem_of_getElem? (i := 710) (by decide +kernel)), rfl⟩
theorem wd_711 : (Jvm.Cond.methodLink "LabelledFlowsModel" (130 : Nat) ({ cls := "LabelledFlowsModel", name := "cellOf", desc := "(III)I" } : Jvm.MethodName)) ∈ lw_w := List.mem_filter.mpr ⟨List.mem_append_right _ (List.mem_of_getElem? (i := 711) (by decide +kernel)), rfl⟩
theorem wd_713 : (Jvm.Cond.instanceMethod ({ cls := "LabelledFlowsModel", name := "cellOf", desc := "(III)I" } : Jvm.MethodName)) ∈ lw_w := List.mem_filter.mpr ⟨List.mem_append_right _ (List.mem_of_getElem? (i := 713) (by decide +kernel)), rfl⟩
theorem wd_714 : (Jvm.Cond.code ({ cls := "LabelledFlowsModel", name := "cellOf", desc := "(III)I" } : Jvm.MethodName) prog_7_method_19_code (4 : Nat) (Option.some Jvm.ClassFile.FieldType.int)) ∈ lw_w := List.mem_filter.mpr ⟨List.mem_append_right _ (List.mem_of_getElem? (i := 714) (by decide +kernel)), rfl⟩
theorem wd_715 : (Jvm.Cond.methodLink "LabelledFlowsModel" (159 : Nat) ({ cls := "LabelledFlowsModel", name := "follow", desc := "(IIII)V" } : Jvm.MethodName)) ∈ lw_w := List.mem_filter.mpr ⟨List.mem_append_right _ (List.mem_of_getElem? (i := 715) (by decide +kernel)), rfl⟩
theorem wd_717 : (Jvm.Cond.instanceMethod ({ cls := "LabelledFlowsModel", name := "follow", desc := "(IIII)V" } : Jvm.MethodName)) ∈ lw_w := List.mem_filter.mpr ⟨List.mem_append_right _ (List.mem_of_getElem? (i := 717) (by decide +kernel)), rfl⟩
theorem wd_718 : (Jvm.Cond.code ({ cls := "LabelledFlowsModel", name := "follow", desc := "(IIII)V" } : Jvm.MethodName) prog_7_method_26_code (8 : Nat) (Option.none : Option Jvm.ClassFile.FieldType)) ∈ lw_w := List.mem_filter.mpr ⟨List.mem_append_right _ (List.mem_of_getElem? (i := 718) (by decide +kernel)), rfl⟩
theorem wd_719 : (Jvm.Cond.methodLink "LabelledFlowsModel" (149 : Nat) ({ cls := "LabelledFlowsModel", name := "callFacts", desc := "(IIII)V" } : Jvm.MethodName)) ∈ lw_w := List.mem_filter.mpr ⟨List.mem_append_right _ (List.mem_of_getElem? (i := 719) (by decide +kernel)), rfl⟩
theorem wd_721 : (Jvm.Cond.instanceMethod ({ cls := "LabelledFlowsModel", name := "callFacts", desc := "(IIII)V" } : Jvm.MethodName)) ∈ lw_w := List.mem_filter.mpr ⟨List.mem_append_right _ (List.mem_of_getElem? (i := 721) (by decide +kernel)), rfl⟩
theorem wd_722 : (Jvm.Cond.code ({ cls := "LabelledFlowsModel", name := "callFacts", desc := "(IIII)V" } : Jvm.MethodName) prog_7_method_25_code (9 : Nat) (Option.none : Option Jvm.ClassFile.FieldType)) ∈ lw_w := List.mem_filter.mpr ⟨List.mem_append_right _ (List.mem_of_getElem? (i := 722) (by decide +kernel)), rfl⟩
theorem wd_723 : (Jvm.Cond.methodLink "LabelledFlowsModel" (146 : Nat) ({ cls := "LabelledFlowsModel", name := "give", desc := "(IIIII)V" } : Jvm.MethodName)) ∈ lw_w := List.mem_filter.mpr ⟨List.mem_append_right _ (List.mem_of_getElem? (i := 723) (by decide +kernel)), rfl⟩
theorem wd_725 : (Jvm.Cond.instanceMethod ({ cls := "LabelledFlowsModel", name := "give", desc := "(IIIII)V" } : Jvm.MethodName)) ∈ lw_w := List.mem_filter.mpr ⟨List.mem_append_right _ (List.mem_of_getElem? (i := 725) (by decide +kernel)), rfl⟩
theorem wd_726 : (Jvm.Cond.code ({ cls := "LabelledFlowsModel", name := "give", desc := "(IIIII)V" } : Jvm.MethodName) prog_7_method_24_code (8 : Nat) (Option.none : Option Jvm.ClassFile.FieldType)) ∈ lw_w := List.mem_filter.mpr ⟨List.mem_append_right _ (List.mem_of_getElem? (i := 726) (by decide +kernel)), rfl⟩
theorem wd_727 : (Jvm.Cond.methodLink "LabelledFlowsModel" (142 : Nat) ({ cls := "LabelledFlowsModel", name := "back", desc := "(IIIII)V" } : Jvm.MethodName)) ∈ lw_w := List.mem_filter.mpr ⟨List.mem_append_right _ (List.mem_of_getElem? (i := 727) (by decide +kernel)), rfl⟩
theorem wd_729 : (Jvm.Cond.instanceMethod ({ cls := "LabelledFlowsModel", name := "back", desc := "(IIIII)V" } : Jvm.MethodName)) ∈ lw_w := List.mem_filter.mpr ⟨List.mem_append_right _ (List.mem_of_getElem? (i := 729) (by decide +kernel)), rfl⟩
theorem wd_730 : (Jvm.Cond.code ({ cls := "LabelledFlowsModel", name := "back", desc := "(IIIII)V" } : Jvm.MethodName) prog_7_method_23_code (14 : Nat) (Option.none : Option Jvm.ClassFile.FieldType)) ∈ lw_w := List.mem_filter.mpr ⟨List.mem_append_right _ (List.mem_of_getElem? (i := 730) (by decide +kernel)), rfl⟩
theorem wd_731 : (Jvm.Cond.constantLong "LabelledFlowsModel" (140 : Nat) (-4222189076152336 : Int64)) ∈ lw_w := List.mem_filter.mpr ⟨List.mem_append_right _ (List.mem_of_getElem? (i := 731) (by decide +kernel)), rfl⟩
theorem wd_732 : (Jvm.Cond.methodLink "LabelledFlowsModel" (153 : Nat) ({ cls := "LabelledFlowsModel", name := "onwards", desc := "(IIII)V" } : Jvm.MethodName)) ∈ lw_w := List.mem_filter.mpr ⟨List.mem_append_right _ (List.mem_of_getElem? (i := 732) (by decide +kernel)), rfl⟩
theorem wd_734 : (Jvm.Cond.instanceMethod ({ cls := "LabelledFlowsModel", name := "onwards", desc := "(IIII)V" } : Jvm.MethodName)) ∈ lw_w := List.mem_filter.mpr ⟨List.mem_append_right _ (List.mem_of_getElem? (i := 734) (by decide +kernel)), rfl⟩
theorem wd_735 : (Jvm.Cond.code ({ cls := "LabelledFlowsModel", name := "onwards", desc := "(IIII)V" } : Jvm.MethodName) prog_7_method_22_code (7 : Nat) (Option.none : Option Jvm.ClassFile.FieldType)) ∈ lw_w := List.mem_filter.mpr ⟨List.mem_append_right _ (List.mem_of_getElem? (i := 735) (by decide +kernel)), rfl⟩
theorem wd_736 : (Jvm.Cond.methodLink "LabelledFlowsModel" (156 : Nat) ({ cls := "LabelledFlowsModel", name := "followFact", desc := "(IIII)V" } : Jvm.MethodName)) ∈ lw_w := List.mem_filter.mpr ⟨List.mem_append_right _ (List.mem_of_getElem? (i := 736) (by decide +kernel)), rfl⟩
theorem wd_738 : (Jvm.Cond.instanceMethod ({ cls := "LabelledFlowsModel", name := "followFact", desc := "(IIII)V" } : Jvm.MethodName)) ∈ lw_w := List.mem_filter.mpr ⟨List.mem_append_right _ (List.mem_of_getElem? (i := 738) (by decide +kernel)), rfl⟩
theorem wd_739 : (Jvm.Cond.code ({ cls := "LabelledFlowsModel", name := "followFact", desc := "(IIII)V" } : Jvm.MethodName) prog_7_method_27_code (14 : Nat) (Option.none : Option Jvm.ClassFile.FieldType)) ∈ lw_w := List.mem_filter.mpr ⟨List.mem_append_right _ (List.mem_of_getElem? (i := 739) (by decide +kernel)), rfl⟩
theorem wd_740 : (Jvm.Cond.methodLink "LabelledFlowsModel" (179 : Nat) ({ cls := "LabelledFlowsModel", name := "bits", desc := "(J)I" } : Jvm.MethodName)) ∈ lw_w := List.mem_filter.mpr ⟨List.mem_append_right _ (List.mem_of_getElem? (i := 740) (by decide +kernel)), rfl⟩
theorem wd_741 : (Jvm.Cond.static ({ cls := "LabelledFlowsModel", name := "bits", desc := "(J)I" } : Jvm.MethodName)) ∈ lw_w := List.mem_filter.mpr ⟨List.mem_append_right _ (List.mem_of_getElem? (i := 741) (by decide +kernel)), rfl⟩
theorem wd_742 : (Jvm.Cond.code ({ cls := "LabelledFlowsModel", name := "bits", desc := "(J)I" } : Jvm.MethodName) prog_7_method_31_code (4 : Nat) (Option.some Jvm.ClassFile.FieldType.int)) ∈ lw_w := List.mem_filter.mpr ⟨List.mem_append_right _ (List.mem_of_getElem? (i := 742) (by decide +kernel)), rfl⟩
theorem wd_751 : (Jvm.Cond.methodLink "LabelledFlowsModel" (183 : Nat) ({ cls := "LabelledFlowsModel", name := "may", desc := "(IIII)Z" } : Jvm.MethodName)) ∈ lw_w := List.mem_filter.mpr ⟨List.mem_append_right _ (List.mem_of_getElem? (i := 751) (by decide +kernel)), rfl⟩
theorem wd_752 : (Jvm.Cond.instanceMethod ({ cls := "LabelledFlowsModel", name := "may", desc := "(IIII)Z" } : Jvm.MethodName)) ∈ lw_w := List.mem_filter.mpr ⟨List.mem_append_right _ (List.mem_of_getElem? (i := 752) (by decide +kernel)), rfl⟩
theorem wd_753 : (Jvm.Cond.selects "LabelledFlowsModel" ({ cls := "LabelledFlowsModel", name := "may", desc := "(IIII)Z" } : Jvm.MethodName) ({ cls := "LabelledFlowsModel", name := "may", desc := "(IIII)Z" } : Jvm.MethodName)) ∈ lw_w := List.mem_filter.mpr ⟨List.mem_append_right _ (List.mem_of_getElem? (i := 753) (by decide +kernel)), rfl⟩
theorem wd_754 : (Jvm.Cond.code ({ cls := "LabelledFlowsModel", name := "may", desc := "(IIII)Z" } : Jvm.MethodName) prog_7_method_35_code (10 : Nat) (Option.some Jvm.ClassFile.FieldType.boolean)) ∈ lw_w := List.mem_filter.mpr ⟨List.mem_append_right _ (List.mem_of_getElem? (i := 754) (by decide +kernel)), rfl⟩
theorem wd_772 : (Jvm.Cond.methodLink "LabelledFlowsModel" (195 : Nat) ({ cls := "LabelledFlowsModel", name := "enter", desc := "(III)V" } : Jvm.MethodName)) ∈ lw_w := List.mem_filter.mpr ⟨List.mem_append_right _ (List.mem_of_getElem? (i := 772) (by decide +kernel)), rfl⟩
theorem wd_774 : (Jvm.Cond.instanceMethod ({ cls := "LabelledFlowsModel", name := "enter", desc := "(III)V" } : Jvm.MethodName)) ∈ lw_w := List.mem_filter.mpr ⟨List.mem_append_right _ (List.mem_of_getElem? (i := 774) (by decide +kernel)), rfl⟩
theorem wd_775 : (Jvm.Cond.code ({ cls := "LabelledFlowsModel", name := "enter", desc := "(III)V" } : Jvm.MethodName) prog_7_method_40_code (8 : Nat) (Option.none : Option Jvm.ClassFile.FieldType)) ∈ lw_w := List.mem_filter.mpr ⟨List.mem_append_right _ (List.mem_of_getElem? (i := 775) (by decide +kernel)), rfl⟩
theorem wd_776 : (Jvm.Cond.methodLink "LabelledFlowsModel" (189 : Nat) ({ cls := "LabelledFlowsModel", name := "assign", desc := "(III)V" } : Jvm.MethodName)) ∈ lw_w := List.mem_filter.mpr ⟨List.mem_append_right _ (List.mem_of_getElem? (i := 776) (by decide +kernel)), rfl⟩
theorem wd_778 : (Jvm.Cond.instanceMethod ({ cls := "LabelledFlowsModel", name := "assign", desc := "(III)V" } : Jvm.MethodName)) ∈ lw_w := List.mem_filter.mpr ⟨List.mem_append_right _ (List.mem_of_getElem? (i := 778) (by decide +kernel)), rfl⟩
theorem wd_779 : (Jvm.Cond.code ({ cls := "LabelledFlowsModel", name := "assign", desc := "(III)V" } : Jvm.MethodName) prog_7_method_39_code (4 : Nat) (Option.none : Option Jvm.ClassFile.FieldType)) ∈ lw_w := List.mem_filter.mpr ⟨List.mem_append_right _ (List.mem_of_getElem? (i := 779) (by decide +kernel)), rfl⟩
theorem wd_780 : (Jvm.Cond.methodLink "LabelledFlowsModel" (198 : Nat) ({ cls := "LabelledFlowsModel", name := "leave", desc := "(I)V" } : Jvm.MethodName)) ∈ lw_w := List.mem_filter.mpr ⟨List.mem_append_right _ (List.mem_of_getElem? (i := 780) (by decide +kernel)), rfl⟩
theorem wd_782 : (Jvm.Cond.instanceMethod ({ cls := "LabelledFlowsModel", name := "leave", desc := "(I)V" } : Jvm.MethodName)) ∈ lw_w := List.mem_filter.mpr ⟨List.mem_append_right _ (List.mem_of_getElem? (i := 782) (by decide +kernel)), rfl⟩
theorem wd_783 : (Jvm.Cond.code ({ cls := "LabelledFlowsModel", name := "leave", desc := "(I)V" } : Jvm.MethodName) prog_7_method_41_code (5 : Nat) (Option.none : Option Jvm.ClassFile.FieldType)) ∈ lw_w := List.mem_filter.mpr ⟨List.mem_append_right _ (List.mem_of_getElem? (i := 783) (by decide +kernel)), rfl⟩
theorem wd_784 : (Jvm.Cond.methodLink "LabelledFlowsModel" (211 : Nat) ({ cls := "LabelledFlowsModel", name := "hindrance", desc := "()I" } : Jvm.MethodName)) ∈ lw_w := List.mem_filter.mpr ⟨List.mem_append_right _ (List.mem_of_getElem? (i := 784) (by decide +kernel)), rfl⟩
theorem wd_786 : (Jvm.Cond.instanceMethod ({ cls := "LabelledFlowsModel", name := "hindrance", desc := "()I" } : Jvm.MethodName)) ∈ lw_w := List.mem_filter.mpr ⟨List.mem_append_right _ (List.mem_of_getElem? (i := 786) (by decide +kernel)), rfl⟩
theorem wd_787 : (Jvm.Cond.code ({ cls := "LabelledFlowsModel", name := "hindrance", desc := "()I" } : Jvm.MethodName) prog_7_method_42_code (5 : Nat) (Option.some Jvm.ClassFile.FieldType.int)) ∈ lw_w := List.mem_filter.mpr ⟨List.mem_append_right _ (List.mem_of_getElem? (i := 787) (by decide +kernel)), rfl⟩
theorem wd_788 : (Jvm.Cond.methodLink "LabelledFlowsModel" (215 : Nat) ({ cls := "LabelledFlowsModel", name := "step", desc := "(I)V" } : Jvm.MethodName)) ∈ lw_w := List.mem_filter.mpr ⟨List.mem_append_right _ (List.mem_of_getElem? (i := 788) (by decide +kernel)), rfl⟩
theorem wd_790 : (Jvm.Cond.instanceMethod ({ cls := "LabelledFlowsModel", name := "step", desc := "(I)V" } : Jvm.MethodName)) ∈ lw_w := List.mem_filter.mpr ⟨List.mem_append_right _ (List.mem_of_getElem? (i := 790) (by decide +kernel)), rfl⟩
theorem wd_791 : (Jvm.Cond.code ({ cls := "LabelledFlowsModel", name := "step", desc := "(I)V" } : Jvm.MethodName) prog_7_method_43_code (10 : Nat) (Option.none : Option Jvm.ClassFile.FieldType)) ∈ lw_w := List.mem_filter.mpr ⟨List.mem_append_right _ (List.mem_of_getElem? (i := 791) (by decide +kernel)), rfl⟩
theorem wd_792 : (Jvm.Cond.methodLink "LabelledFlowsModel" (205 : Nat) ({ cls := "LabelledFlowsModel", name := "plain", desc := "(II)V" } : Jvm.MethodName)) ∈ lw_w := List.mem_filter.mpr ⟨List.mem_append_right _ (List.mem_of_getElem? (i := 792) (by decide +kernel)), rfl⟩
theorem wd_794 : (Jvm.Cond.instanceMethod ({ cls := "LabelledFlowsModel", name := "plain", desc := "(II)V" } : Jvm.MethodName)) ∈ lw_w := List.mem_filter.mpr ⟨List.mem_append_right _ (List.mem_of_getElem? (i := 794) (by decide +kernel)), rfl⟩
theorem wd_795 : (Jvm.Cond.code ({ cls := "LabelledFlowsModel", name := "plain", desc := "(II)V" } : Jvm.MethodName) prog_7_method_44_code (9 : Nat) (Option.none : Option Jvm.ClassFile.FieldType)) ∈ lw_w := List.mem_filter.mpr ⟨List.mem_append_right _ (List.mem_of_getElem? (i := 795) (by decide +kernel)), rfl⟩
theorem sel_0 : Cond.selects "LabelledFlows$Program" ⟨"LabelledFlows$Program", "renumber", "()V"⟩ ⟨"LabelledFlows$Program", "renumber", "()V"⟩ ∈ lw_w := List.mem_filter.mpr ⟨List.mem_append_left _ (List.mem_of_getElem? (i := 0) (by decide +kernel)), rfl⟩
theorem sel_1 : Cond.selects "LabelledFlows" ⟨"LabelledFlows", "forget", "()V"⟩ ⟨"LabelledFlows", "forget", "()V"⟩ ∈ lw_w := List.mem_filter.mpr ⟨List.mem_append_left _ (List.mem_of_getElem? (i := 1) (by decide +kernel)), rfl⟩
theorem sel_2 : Cond.selects "LabelledFlows$Pointing" ⟨"LabelledFlows$Pointing", "sweep", "()V"⟩ ⟨"LabelledFlows$Pointing", "sweep", "()V"⟩ ∈ lw_w := List.mem_filter.mpr ⟨List.mem_append_left _ (List.mem_of_getElem? (i := 2) (by decide +kernel)), rfl⟩
theorem sel_3 : Cond.selects "LabelledFlows$Pointing" ⟨"LabelledFlows$Pointing", "follow", "(II)V"⟩ ⟨"LabelledFlows$Pointing", "follow", "(II)V"⟩ ∈ lw_w := List.mem_filter.mpr ⟨List.mem_append_left _ (List.mem_of_getElem? (i := 3) (by decide +kernel)), rfl⟩
theorem sel_4 : Cond.selects "LabelledFlows$Pointing" ⟨"LabelledFlows$Pointing", "growLocal", "(III)V"⟩ ⟨"LabelledFlows$Pointing", "growLocal", "(III)V"⟩ ∈ lw_w := List.mem_filter.mpr ⟨List.mem_append_left _ (List.mem_of_getElem? (i := 4) (by decide +kernel)), rfl⟩
theorem sel_5 : Cond.selects "LabelledFlows$Pointing" ⟨"LabelledFlows$Pointing", "fieldOfAll", "(II)I"⟩ ⟨"LabelledFlows$Pointing", "fieldOfAll", "(II)I"⟩ ∈ lw_w := List.mem_filter.mpr ⟨List.mem_append_left _ (List.mem_of_getElem? (i := 5) (by decide +kernel)), rfl⟩
theorem sel_6 : Cond.selects "LabelledFlows$Pointing" ⟨"LabelledFlows$Pointing", "growFields", "(III)V"⟩ ⟨"LabelledFlows$Pointing", "growFields", "(III)V"⟩ ∈ lw_w := List.mem_filter.mpr ⟨List.mem_append_left _ (List.mem_of_getElem? (i := 6) (by decide +kernel)), rfl⟩
theorem sel_7 : Cond.selects "LabelledFlows$Pointing" ⟨"LabelledFlows$Pointing", "followCall", "(II)V"⟩ ⟨"LabelledFlows$Pointing", "followCall", "(II)V"⟩ ∈ lw_w := List.mem_filter.mpr ⟨List.mem_append_left _ (List.mem_of_getElem? (i := 7) (by decide +kernel)), rfl⟩
theorem sel_8 : Cond.selects "LabelledFlows$Pointing" ⟨"LabelledFlows$Pointing", "reach", "(II)V"⟩ ⟨"LabelledFlows$Pointing", "reach", "(II)V"⟩ ∈ lw_w := List.mem_filter.mpr ⟨List.mem_append_left _ (List.mem_of_getElem? (i := 8) (by decide +kernel)), rfl⟩
theorem sel_9 : Cond.selects "LabelledFlows$Pointing" ⟨"LabelledFlows$Pointing", "returned", "(I)I"⟩ ⟨"LabelledFlows$Pointing", "returned", "(I)I"⟩ ∈ lw_w := List.mem_filter.mpr ⟨List.mem_append_left _ (List.mem_of_getElem? (i := 9) (by decide +kernel)), rfl⟩
theorem sel_10 : Cond.selects "LabelledFlows$Flow" ⟨"LabelledFlows$Flow", "clear", "()V"⟩ ⟨"LabelledFlows$Flow", "clear", "()V"⟩ ∈ lw_w := List.mem_filter.mpr ⟨List.mem_append_left _ (List.mem_of_getElem? (i := 10) (by decide +kernel)), rfl⟩
theorem sel_11 : Cond.selects "LabelledFlows$Flow" ⟨"LabelledFlows$Flow", "sweep", "(I)V"⟩ ⟨"LabelledFlows$Flow", "sweep", "(I)V"⟩ ∈ lw_w := List.mem_filter.mpr ⟨List.mem_append_left _ (List.mem_of_getElem? (i := 11) (by decide +kernel)), rfl⟩
theorem sel_12 : Cond.selects "LabelledFlows$Flow" ⟨"LabelledFlows$Flow", "passZero", "(II)V"⟩ ⟨"LabelledFlows$Flow", "passZero", "(II)V"⟩ ∈ lw_w := List.mem_filter.mpr ⟨List.mem_append_left _ (List.mem_of_getElem? (i := 12) (by decide +kernel)), rfl⟩
theorem sel_13 : Cond.selects "LabelledFlows$Flow" ⟨"LabelledFlows$Flow", "growZero", "(II)V"⟩ ⟨"LabelledFlows$Flow", "growZero", "(II)V"⟩ ∈ lw_w := List.mem_filter.mpr ⟨List.mem_append_left _ (List.mem_of_getElem? (i := 13) (by decide +kernel)), rfl⟩
theorem sel_14 : Cond.selects "LabelledFlows$Flow" ⟨"LabelledFlows$Flow", "growHeld", "(III)V"⟩ ⟨"LabelledFlows$Flow", "growHeld", "(III)V"⟩ ∈ lw_w := List.mem_filter.mpr ⟨List.mem_append_left _ (List.mem_of_getElem? (i := 14) (by decide +kernel)), rfl⟩
theorem sel_15 : Cond.selects "LabelledFlows$Flow" ⟨"LabelledFlows$Flow", "callZero", "(I)V"⟩ ⟨"LabelledFlows$Flow", "callZero", "(I)V"⟩ ∈ lw_w := List.mem_filter.mpr ⟨List.mem_append_left _ (List.mem_of_getElem? (i := 15) (by decide +kernel)), rfl⟩
theorem sel_16 : Cond.selects "LabelledFlows$Flow" ⟨"LabelledFlows$Flow", "comeBack", "(III)V"⟩ ⟨"LabelledFlows$Flow", "comeBack", "(III)V"⟩ ∈ lw_w := List.mem_filter.mpr ⟨List.mem_append_left _ (List.mem_of_getElem? (i := 16) (by decide +kernel)), rfl⟩
theorem sel_17 : Cond.selects "LabelledFlows$Flow" ⟨"LabelledFlows$Flow", "pass", "(IIII)V"⟩ ⟨"LabelledFlows$Flow", "pass", "(IIII)V"⟩ ∈ lw_w := List.mem_filter.mpr ⟨List.mem_append_left _ (List.mem_of_getElem? (i := 17) (by decide +kernel)), rfl⟩
theorem sel_18 : Cond.selects "LabelledFlows$Flow" ⟨"LabelledFlows$Flow", "call", "(IIII)V"⟩ ⟨"LabelledFlows$Flow", "call", "(IIII)V"⟩ ∈ lw_w := List.mem_filter.mpr ⟨List.mem_append_left _ (List.mem_of_getElem? (i := 18) (by decide +kernel)), rfl⟩
theorem sel_19 : Cond.selects "LabelledFlows$Flow" ⟨"LabelledFlows$Flow", "enter", "(III)V"⟩ ⟨"LabelledFlows$Flow", "enter", "(III)V"⟩ ∈ lw_w := List.mem_filter.mpr ⟨List.mem_append_left _ (List.mem_of_getElem? (i := 19) (by decide +kernel)), rfl⟩
theorem sel_20 : Cond.selects "LabelledFlows$Flow" ⟨"LabelledFlows$Flow", "exitsOfAll", "(II)I"⟩ ⟨"LabelledFlows$Flow", "exitsOfAll", "(II)I"⟩ ∈ lw_w := List.mem_filter.mpr ⟨List.mem_append_left _ (List.mem_of_getElem? (i := 20) (by decide +kernel)), rfl⟩
theorem sel_21 : Cond.selects "LabelledFlows$Flow" ⟨"LabelledFlows$Flow", "growExit", "(III)V"⟩ ⟨"LabelledFlows$Flow", "growExit", "(III)V"⟩ ∈ lw_w := List.mem_filter.mpr ⟨List.mem_append_left _ (List.mem_of_getElem? (i := 21) (by decide +kernel)), rfl⟩
theorem sel_22 : Cond.selects "LabelledFlows$Flow" ⟨"LabelledFlows$Flow", "changed", "(III)I"⟩ ⟨"LabelledFlows$Flow", "changed", "(III)I"⟩ ∈ lw_w := List.mem_filter.mpr ⟨List.mem_append_left _ (List.mem_of_getElem? (i := 22) (by decide +kernel)), rfl⟩
theorem sel_23 : Cond.selects "LabelledFlows$Flow" ⟨"LabelledFlows$Flow", "endAll", "(II)V"⟩ ⟨"LabelledFlows$Flow", "endAll", "(II)V"⟩ ∈ lw_w := List.mem_filter.mpr ⟨List.mem_append_left _ (List.mem_of_getElem? (i := 23) (by decide +kernel)), rfl⟩
theorem sel_24 : Cond.selects "LabelledFlows$Flow" ⟨"LabelledFlows$Flow", "countHeld", "(II)I"⟩ ⟨"LabelledFlows$Flow", "countHeld", "(II)I"⟩ ∈ lw_w := List.mem_filter.mpr ⟨List.mem_append_left _ (List.mem_of_getElem? (i := 24) (by decide +kernel)), rfl⟩
theorem sel_25 : Cond.selects "LabelledFlows" ⟨"LabelledFlows", "isSource", "(I)Z"⟩ ⟨"LabelledFlows", "isSource", "(I)Z"⟩ ∈ lw_w := List.mem_filter.mpr ⟨List.mem_append_left _ (List.mem_of_getElem? (i := 25) (by decide +kernel)), rfl⟩
theorem sel_26 : Cond.selects "LabelledFlows" ⟨"LabelledFlows", "isSink", "(I)Z"⟩ ⟨"LabelledFlows", "isSink", "(I)Z"⟩ ∈ lw_w := List.mem_filter.mpr ⟨List.mem_append_left _ (List.mem_of_getElem? (i := 26) (by decide +kernel)), rfl⟩
theorem sel_27 : Cond.selects "LabelledFlows$Machine" ⟨"LabelledFlows$Machine", "reset", "(I)V"⟩ ⟨"LabelledFlows$Machine", "reset", "(I)V"⟩ ∈ lw_w := List.mem_filter.mpr ⟨List.mem_append_left _ (List.mem_of_getElem? (i := 27) (by decide +kernel)), rfl⟩
theorem sel_28 : Cond.selects "LabelledFlows$Machine" ⟨"LabelledFlows$Machine", "begin", "(III)V"⟩ ⟨"LabelledFlows$Machine", "begin", "(III)V"⟩ ∈ lw_w := List.mem_filter.mpr ⟨List.mem_append_left _ (List.mem_of_getElem? (i := 28) (by decide +kernel)), rfl⟩
theorem sel_29 : Cond.selects "LabelledFlows$Machine" ⟨"LabelledFlows$Machine", "endMethods", "()V"⟩ ⟨"LabelledFlows$Machine", "endMethods", "()V"⟩ ∈ lw_w := List.mem_filter.mpr ⟨List.mem_append_left _ (List.mem_of_getElem? (i := 29) (by decide +kernel)), rfl⟩
theorem sel_30 : Cond.selects "LabelledFlows$Machine" ⟨"LabelledFlows$Machine", "standsAtEnd", "()Z"⟩ ⟨"LabelledFlows$Machine", "standsAtEnd", "()Z"⟩ ∈ lw_w := List.mem_filter.mpr ⟨List.mem_append_left _ (List.mem_of_getElem? (i := 30) (by decide +kernel)), rfl⟩
theorem sel_31 : Cond.selects "LabelledFlows$Machine" ⟨"LabelledFlows$Machine", "endMethod", "(I)V"⟩ ⟨"LabelledFlows$Machine", "endMethod", "(I)V"⟩ ∈ lw_w := List.mem_filter.mpr ⟨List.mem_append_left _ (List.mem_of_getElem? (i := 31) (by decide +kernel)), rfl⟩
theorem sel_32 : Cond.selects "LabelledFlows$Machine" ⟨"LabelledFlows$Machine", "endingBeforeStep", "(I)I"⟩ ⟨"LabelledFlows$Machine", "endingBeforeStep", "(I)I"⟩ ∈ lw_w := List.mem_filter.mpr ⟨List.mem_append_left _ (List.mem_of_getElem? (i := 32) (by decide +kernel)), rfl⟩
theorem sel_33 : Cond.selects "LabelledFlows$Machine" ⟨"LabelledFlows$Machine", "objectOf", "(I)I"⟩ ⟨"LabelledFlows$Machine", "objectOf", "(I)I"⟩ ∈ lw_w := List.mem_filter.mpr ⟨List.mem_append_left _ (List.mem_of_getElem? (i := 33) (by decide +kernel)), rfl⟩
theorem sel_34 : Cond.selects "LabelledFlows$Machine" ⟨"LabelledFlows$Machine", "calledMethod", "(I)I"⟩ ⟨"LabelledFlows$Machine", "calledMethod", "(I)I"⟩ ∈ lw_w := List.mem_filter.mpr ⟨List.mem_append_left _ (List.mem_of_getElem? (i := 34) (by decide +kernel)), rfl⟩
theorem sel_35 : Cond.selects "LabelledFlows$Machine" ⟨"LabelledFlows$Machine", "step", "()V"⟩ ⟨"LabelledFlows$Machine", "step", "()V"⟩ ∈ lw_w := List.mem_filter.mpr ⟨List.mem_append_left _ (List.mem_of_getElem? (i := 35) (by decide +kernel)), rfl⟩
theorem sel_36 : Cond.selects "LabelledFlows$Machine" ⟨"LabelledFlows$Machine", "changeValues", "(III)V"⟩ ⟨"LabelledFlows$Machine", "changeValues", "(III)V"⟩ ∈ lw_w := List.mem_filter.mpr ⟨List.mem_append_left _ (List.mem_of_getElem? (i := 36) (by decide +kernel)), rfl⟩
theorem sel_37 : Cond.selects "LabelledFlows$Machine" ⟨"LabelledFlows$Machine", "makeObject", "(I)I"⟩ ⟨"LabelledFlows$Machine", "makeObject", "(I)I"⟩ ∈ lw_w := List.mem_filter.mpr ⟨List.mem_append_left _ (List.mem_of_getElem? (i := 37) (by decide +kernel)), rfl⟩
theorem sel_38 : Cond.selects "LabelledFlows$Machine" ⟨"LabelledFlows$Machine", "countHits", "(II)V"⟩ ⟨"LabelledFlows$Machine", "countHits", "(II)V"⟩ ∈ lw_w := List.mem_filter.mpr ⟨List.mem_append_left _ (List.mem_of_getElem? (i := 38) (by decide +kernel)), rfl⟩
theorem sel_39 : Cond.selects "LabelledFlowsModel" ⟨"LabelledFlowsModel", "before", "(III)I"⟩ ⟨"LabelledFlowsModel", "before", "(III)I"⟩ ∈ lw_w := List.mem_filter.mpr ⟨List.mem_append_left _ (List.mem_of_getElem? (i := 39) (by decide +kernel)), rfl⟩
theorem sel_40 : Cond.selects "LabelledFlowsModel" ⟨"LabelledFlowsModel", "change", "()V"⟩ ⟨"LabelledFlowsModel", "change", "()V"⟩ ∈ lw_w := List.mem_filter.mpr ⟨List.mem_append_left _ (List.mem_of_getElem? (i := 40) (by decide +kernel)), rfl⟩
theorem sel_41 : Cond.selects "LabelledFlowsModel" ⟨"LabelledFlowsModel", "workPoints", "()V"⟩ ⟨"LabelledFlowsModel", "workPoints", "()V"⟩ ∈ lw_w := List.mem_filter.mpr ⟨List.mem_append_left _ (List.mem_of_getElem? (i := 41) (by decide +kernel)), rfl⟩
theorem sel_42 : Cond.selects "LabelledFlowsModel" ⟨"LabelledFlowsModel", "pointsOf", "(II)V"⟩ ⟨"LabelledFlowsModel", "pointsOf", "(II)V"⟩ ∈ lw_w := List.mem_filter.mpr ⟨List.mem_append_left _ (List.mem_of_getElem? (i := 42) (by decide +kernel)), rfl⟩
theorem sel_43 : Cond.selects "LabelledFlowsModel" ⟨"LabelledFlowsModel", "grow", "(III)V"⟩ ⟨"LabelledFlowsModel", "grow", "(III)V"⟩ ∈ lw_w := List.mem_filter.mpr ⟨List.mem_append_left _ (List.mem_of_getElem? (i := 43) (by decide +kernel)), rfl⟩
theorem sel_44 : Cond.selects "LabelledFlowsModel" ⟨"LabelledFlowsModel", "callPoints", "(II)V"⟩ ⟨"LabelledFlowsModel", "callPoints", "(II)V"⟩ ∈ lw_w := List.mem_filter.mpr ⟨List.mem_append_left _ (List.mem_of_getElem? (i := 44) (by decide +kernel)), rfl⟩
theorem sel_45 : Cond.selects "LabelledFlowsModel" ⟨"LabelledFlowsModel", "calls", "(III)Z"⟩ ⟨"LabelledFlowsModel", "calls", "(III)Z"⟩ ∈ lw_w := List.mem_filter.mpr ⟨List.mem_append_left _ (List.mem_of_getElem? (i := 45) (by decide +kernel)), rfl⟩
theorem sel_46 : Cond.selects "LabelledFlowsModel" ⟨"LabelledFlowsModel", "classOf", "(I)I"⟩ ⟨"LabelledFlowsModel", "classOf", "(I)I"⟩ ∈ lw_w := List.mem_filter.mpr ⟨List.mem_append_left _ (List.mem_of_getElem? (i := 46) (by decide +kernel)), rfl⟩
theorem sel_47 : Cond.selects "LabelledFlowsModel" ⟨"LabelledFlowsModel", "workTargets", "()V"⟩ ⟨"LabelledFlowsModel", "workTargets", "()V"⟩ ∈ lw_w := List.mem_filter.mpr ⟨List.mem_append_left _ (List.mem_of_getElem? (i := 47) (by decide +kernel)), rfl⟩
theorem sel_48 : Cond.selects "LabelledFlowsModel" ⟨"LabelledFlowsModel", "workFacts", "()V"⟩ ⟨"LabelledFlowsModel", "workFacts", "()V"⟩ ∈ lw_w := List.mem_filter.mpr ⟨List.mem_append_left _ (List.mem_of_getElem? (i := 48) (by decide +kernel)), rfl⟩
theorem sel_49 : Cond.selects "LabelledFlowsModel" ⟨"LabelledFlowsModel", "isEntry", "(II)Z"⟩ ⟨"LabelledFlowsModel", "isEntry", "(II)Z"⟩ ∈ lw_w := List.mem_filter.mpr ⟨List.mem_append_left _ (List.mem_of_getElem? (i := 49) (by decide +kernel)), rfl⟩
theorem sel_50 : Cond.selects "LabelledFlowsModel" ⟨"LabelledFlowsModel", "allFrom", "(II)V"⟩ ⟨"LabelledFlowsModel", "allFrom", "(II)V"⟩ ∈ lw_w := List.mem_filter.mpr ⟨List.mem_append_left _ (List.mem_of_getElem? (i := 50) (by decide +kernel)), rfl⟩
theorem sel_51 : Cond.selects "LabelledFlowsModel" ⟨"LabelledFlowsModel", "putZero", "(II)V"⟩ ⟨"LabelledFlowsModel", "putZero", "(II)V"⟩ ∈ lw_w := List.mem_filter.mpr ⟨List.mem_append_left _ (List.mem_of_getElem? (i := 51) (by decide +kernel)), rfl⟩
theorem sel_52 : Cond.selects "LabelledFlowsModel" ⟨"LabelledFlowsModel", "put", "(IIIJ)V"⟩ ⟨"LabelledFlowsModel", "put", "(IIIJ)V"⟩ ∈ lw_w := List.mem_filter.mpr ⟨List.mem_append_left _ (List.mem_of_getElem? (i := 52) (by decide +kernel)), rfl⟩
theorem sel_53 : Cond.selects "LabelledFlowsModel" ⟨"LabelledFlowsModel", "cellOf", "(III)I"⟩ ⟨"LabelledFlowsModel", "cellOf", "(III)I"⟩ ∈ lw_w := List.mem_filter.mpr ⟨List.mem_append_left _ (List.mem_of_getElem? (i := 53) (by decide +kernel)), rfl⟩
theorem sel_54 : Cond.selects "LabelledFlowsModel" ⟨"LabelledFlowsModel", "follow", "(IIII)V"⟩ ⟨"LabelledFlowsModel", "follow", "(IIII)V"⟩ ∈ lw_w := List.mem_filter.mpr ⟨List.mem_append_left _ (List.mem_of_getElem? (i := 54) (by decide +kernel)), rfl⟩
theorem sel_55 : Cond.selects "LabelledFlowsModel" ⟨"LabelledFlowsModel", "callFacts", "(IIII)V"⟩ ⟨"LabelledFlowsModel", "callFacts", "(IIII)V"⟩ ∈ lw_w := List.mem_filter.mpr ⟨List.mem_append_left _ (List.mem_of_getElem? (i := 55) (by decide +kernel)), rfl⟩
theorem sel_56 : Cond.selects "LabelledFlowsModel" ⟨"LabelledFlowsModel", "give", "(IIIII)V"⟩ ⟨"LabelledFlowsModel", "give", "(IIIII)V"⟩ ∈ lw_w := List.mem_filter.mpr ⟨List.mem_append_left _ (List.mem_of_getElem? (i := 56) (by decide +kernel)), rfl⟩
theorem sel_57 : Cond.selects "LabelledFlowsModel" ⟨"LabelledFlowsModel", "back", "(IIIII)V"⟩ ⟨"LabelledFlowsModel", "back", "(IIIII)V"⟩ ∈ lw_w := List.mem_filter.mpr ⟨List.mem_append_left _ (List.mem_of_getElem? (i := 57) (by decide +kernel)), rfl⟩
theorem sel_58 : Cond.selects "LabelledFlowsModel" ⟨"LabelledFlowsModel", "onwards", "(IIII)V"⟩ ⟨"LabelledFlowsModel", "onwards", "(IIII)V"⟩ ∈ lw_w := List.mem_filter.mpr ⟨List.mem_append_left _ (List.mem_of_getElem? (i := 58) (by decide +kernel)), rfl⟩
theorem sel_59 : Cond.selects "LabelledFlowsModel" ⟨"LabelledFlowsModel", "followFact", "(IIII)V"⟩ ⟨"LabelledFlowsModel", "followFact", "(IIII)V"⟩ ∈ lw_w := List.mem_filter.mpr ⟨List.mem_append_left _ (List.mem_of_getElem? (i := 59) (by decide +kernel)), rfl⟩
theorem sel_60 : Cond.selects "LabelledFlowsModel" ⟨"LabelledFlowsModel", "enter", "(III)V"⟩ ⟨"LabelledFlowsModel", "enter", "(III)V"⟩ ∈ lw_w := List.mem_filter.mpr ⟨List.mem_append_left _ (List.mem_of_getElem? (i := 60) (by decide +kernel)), rfl⟩
theorem sel_61 : Cond.selects "LabelledFlowsModel" ⟨"LabelledFlowsModel", "assign", "(III)V"⟩ ⟨"LabelledFlowsModel", "assign", "(III)V"⟩ ∈ lw_w := List.mem_filter.mpr ⟨List.mem_append_left _ (List.mem_of_getElem? (i := 61) (by decide +kernel)), rfl⟩
theorem sel_62 : Cond.selects "LabelledFlowsModel" ⟨"LabelledFlowsModel", "leave", "(I)V"⟩ ⟨"LabelledFlowsModel", "leave", "(I)V"⟩ ∈ lw_w := List.mem_filter.mpr ⟨List.mem_append_left _ (List.mem_of_getElem? (i := 62) (by decide +kernel)), rfl⟩
theorem sel_63 : Cond.selects "LabelledFlowsModel" ⟨"LabelledFlowsModel", "hindrance", "()I"⟩ ⟨"LabelledFlowsModel", "hindrance", "()I"⟩ ∈ lw_w := List.mem_filter.mpr ⟨List.mem_append_left _ (List.mem_of_getElem? (i := 63) (by decide +kernel)), rfl⟩
theorem sel_64 : Cond.selects "LabelledFlowsModel" ⟨"LabelledFlowsModel", "step", "(I)V"⟩ ⟨"LabelledFlowsModel", "step", "(I)V"⟩ ∈ lw_w := List.mem_filter.mpr ⟨List.mem_append_left _ (List.mem_of_getElem? (i := 64) (by decide +kernel)), rfl⟩
theorem sel_65 : Cond.selects "LabelledFlowsModel" ⟨"LabelledFlowsModel", "plain", "(II)V"⟩ ⟨"LabelledFlowsModel", "plain", "(II)V"⟩ ∈ lw_w := List.mem_filter.mpr ⟨List.mem_append_left _ (List.mem_of_getElem? (i := 65) (by decide +kernel)), rfl⟩
abbrev c_J_bitCount : ByteArray := prog_8_method_49_code
def y_J_bitCount : MethodName := ⟨"java/lang/Integer", "bitCount", "(I)I"⟩
def ws_J_bitCount : List Cond := .code y_J_bitCount c_J_bitCount 1 (some .int) :: lw_w
def rm_J_bitCount : Room := { frames := 0, cells := 0, slots := 0, locals := 0 }
abbrev c_J_fill : ByteArray := prog_10_method_103_code
def y_J_fill : MethodName := ⟨"java/util/Arrays", "fill", "([II)V"⟩
def ws_J_fill : List Cond := .code y_J_fill c_J_fill 4 none :: lw_w
def rm_J_fill : Room := { frames := 0, cells := 0, slots := 0, locals := 0 }
abbrev c_M_within : ByteArray := prog_7_method_2_code
def y_M_within : MethodName := ⟨"LabelledFlowsModel", "within", "(III)Z"⟩
def ws_M_within : List Cond := .code y_M_within c_M_within 3 (some .boolean) :: lw_w
def rm_M_within : Room := { frames := 0, cells := 0, slots := 0, locals := 0 }
abbrev c_M_before : ByteArray := prog_7_method_3_code
def y_M_before : MethodName := ⟨"LabelledFlowsModel", "before", "(III)I"⟩
def ws_M_before : List Cond := .code y_M_before c_M_before 7 (some .int) :: lw_w
def rm_M_before : Room := { frames := 0, cells := 0, slots := 0, locals := 0 }
abbrev c_M_operands : ByteArray := prog_7_method_4_code
def y_M_operands : MethodName := ⟨"LabelledFlowsModel", "operands", "(IIII)Z"⟩
def ws_M_operands : List Cond := .code y_M_operands c_M_operands 5 (some .boolean) :: lw_w
def rm_M_operands : Room := { frames := 1, cells := 0, slots := 0, locals := 22 }
abbrev c_M_change : ByteArray := prog_7_method_5_code
def y_M_change : MethodName := ⟨"LabelledFlowsModel", "change", "()V"⟩
def ws_M_change : List Cond := .code y_M_change c_M_change 1 none :: lw_w
def rm_M_change : Room := { frames := 0, cells := 0, slots := 0, locals := 0 }
abbrev c_M_add : ByteArray := prog_7_method_6_code
def y_M_add : MethodName := ⟨"LabelledFlowsModel", "add", "(IIIII)I"⟩
def ws_M_add : List Cond := .code y_M_add c_M_add 8 (some .int) :: lw_w
def rm_M_add : Room := { frames := 2, cells := 0, slots := 0, locals := 46 }
abbrev c_M_drop : ByteArray := prog_7_method_7_code
def y_M_drop : MethodName := ⟨"LabelledFlowsModel", "drop", "(I)Z"⟩
def ws_M_drop : List Cond := .code y_M_drop c_M_drop 2 (some .boolean) :: lw_w
def rm_M_drop : Room := { frames := 1, cells := 0, slots := 0, locals := 22 }
abbrev c_M_derive : ByteArray := prog_7_method_8_code
def y_M_derive : MethodName := ⟨"LabelledFlowsModel", "derive", "(II)Z"⟩
def ws_M_derive : List Cond := .code y_M_derive c_M_derive 3 (some .boolean) :: lw_w
def rm_M_derive : Room := { frames := 1, cells := 0, slots := 0, locals := 22 }
abbrev c_M_bind : ByteArray := prog_7_method_9_code
def y_M_bind : MethodName := ⟨"LabelledFlowsModel", "bind", "(III)Z"⟩
def ws_M_bind : List Cond := .code y_M_bind c_M_bind 4 (some .boolean) :: lw_w
def rm_M_bind : Room := { frames := 1, cells := 0, slots := 0, locals := 22 }
abbrev c_M_target : ByteArray := prog_7_method_10_code
def y_M_target : MethodName := ⟨"LabelledFlowsModel", "target", "(II)I"⟩
def ws_M_target : List Cond := .code y_M_target c_M_target 5 (some .int) :: lw_w
def rm_M_target : Room := { frames := 1, cells := 0, slots := 0, locals := 22 }
abbrev c_M_size : ByteArray := prog_7_method_11_code
def y_M_size : MethodName := ⟨"LabelledFlowsModel", "size", "(I)I"⟩
def ws_M_size : List Cond := .code y_M_size c_M_size 2 (some .int) :: lw_w
def rm_M_size : Room := { frames := 1, cells := 0, slots := 0, locals := 22 }
abbrev c_M_classOf : ByteArray := prog_7_method_12_code
def y_M_classOf : MethodName := ⟨"LabelledFlowsModel", "classOf", "(I)I"⟩
def ws_M_classOf : List Cond := .code y_M_classOf c_M_classOf 5 (some .int) :: lw_w
def rm_M_classOf : Room := { frames := 1, cells := 0, slots := 0, locals := 26 }
abbrev c_M_calls : ByteArray := prog_7_method_13_code
def y_M_calls : MethodName := ⟨"LabelledFlowsModel", "calls", "(III)Z"⟩
def ws_M_calls : List Cond := .code y_M_calls c_M_calls 6 (some .boolean) :: lw_w
def rm_M_calls : Room := { frames := 2, cells := 0, slots := 0, locals := 50 }
abbrev c_M_grow : ByteArray := prog_7_method_14_code
def y_M_grow : MethodName := ⟨"LabelledFlowsModel", "grow", "(III)V"⟩
def ws_M_grow : List Cond := .code y_M_grow c_M_grow 5 none :: lw_w
def rm_M_grow : Room := { frames := 0, cells := 0, slots := 0, locals := 0 }
abbrev c_M_callPoints : ByteArray := prog_7_method_15_code
def y_M_callPoints : MethodName := ⟨"LabelledFlowsModel", "callPoints", "(II)V"⟩
def ws_M_callPoints : List Cond := .code y_M_callPoints c_M_callPoints 6 none :: lw_w
def rm_M_callPoints : Room := { frames := 3, cells := 0, slots := 0, locals := 75 }
abbrev c_M_pointsOf : ByteArray := prog_7_method_16_code
def y_M_pointsOf : MethodName := ⟨"LabelledFlowsModel", "pointsOf", "(II)V"⟩
def ws_M_pointsOf : List Cond := .code y_M_pointsOf c_M_pointsOf 10 none :: lw_w
def rm_M_pointsOf : Room := { frames := 4, cells := 0, slots := 0, locals := 100 }
abbrev c_M_workPoints : ByteArray := prog_7_method_17_code
def y_M_workPoints : MethodName := ⟨"LabelledFlowsModel", "workPoints", "()V"⟩
def ws_M_workPoints : List Cond := .code y_M_workPoints c_M_workPoints 4 none :: lw_w
def rm_M_workPoints : Room := { frames := 5, cells := 0, slots := 0, locals := 129 }
abbrev c_M_workTargets : ByteArray := prog_7_method_18_code
def y_M_workTargets : MethodName := ⟨"LabelledFlowsModel", "workTargets", "()V"⟩
def ws_M_workTargets : List Cond := .code y_M_workTargets c_M_workTargets 4 none :: lw_w
def rm_M_workTargets : Room := { frames := 3, cells := 0, slots := 0, locals := 75 }
abbrev c_M_cellOf : ByteArray := prog_7_method_19_code
def y_M_cellOf : MethodName := ⟨"LabelledFlowsModel", "cellOf", "(III)I"⟩
def ws_M_cellOf : List Cond := .code y_M_cellOf c_M_cellOf 4 (some .int) :: lw_w
def rm_M_cellOf : Room := { frames := 0, cells := 0, slots := 0, locals := 0 }
abbrev c_M_put : ByteArray := prog_7_method_20_code
def y_M_put : MethodName := ⟨"LabelledFlowsModel", "put", "(IIIJ)V"⟩
def ws_M_put : List Cond := .code y_M_put c_M_put 10 none :: lw_w
def rm_M_put : Room := { frames := 1, cells := 0, slots := 0, locals := 23 }
abbrev c_M_putZero : ByteArray := prog_7_method_21_code
def y_M_putZero : MethodName := ⟨"LabelledFlowsModel", "putZero", "(II)V"⟩
def ws_M_putZero : List Cond := .code y_M_putZero c_M_putZero 4 none :: lw_w
def rm_M_putZero : Room := { frames := 0, cells := 0, slots := 0, locals := 0 }
abbrev c_M_onwards : ByteArray := prog_7_method_22_code
def y_M_onwards : MethodName := ⟨"LabelledFlowsModel", "onwards", "(IIII)V"⟩
def ws_M_onwards : List Cond := .code y_M_onwards c_M_onwards 7 none :: lw_w
def rm_M_onwards : Room := { frames := 2, cells := 0, slots := 0, locals := 52 }
abbrev c_M_back : ByteArray := prog_7_method_23_code
def y_M_back : MethodName := ⟨"LabelledFlowsModel", "back", "(IIIII)V"⟩
def ws_M_back : List Cond := .code y_M_back c_M_back 14 none :: lw_w
def rm_M_back : Room := { frames := 2, cells := 0, slots := 0, locals := 52 }
abbrev c_M_give : ByteArray := prog_7_method_24_code
def y_M_give : MethodName := ⟨"LabelledFlowsModel", "give", "(IIIII)V"⟩
def ws_M_give : List Cond := .code y_M_give c_M_give 8 none :: lw_w
def rm_M_give : Room := { frames := 3, cells := 0, slots := 0, locals := 85 }
abbrev c_M_callFacts : ByteArray := prog_7_method_25_code
def y_M_callFacts : MethodName := ⟨"LabelledFlowsModel", "callFacts", "(IIII)V"⟩
def ws_M_callFacts : List Cond := .code y_M_callFacts c_M_callFacts 9 none :: lw_w
def rm_M_callFacts : Room := { frames := 4, cells := 0, slots := 0, locals := 112 }
abbrev c_M_followFact : ByteArray := prog_7_method_27_code
def y_M_followFact : MethodName := ⟨"LabelledFlowsModel", "followFact", "(IIII)V"⟩
def ws_M_followFact : List Cond := .code y_M_followFact c_M_followFact 14 none :: lw_w
def rm_M_followFact : Room := { frames := 3, cells := 0, slots := 0, locals := 78 }
abbrev c_M_follow : ByteArray := prog_7_method_26_code
def y_M_follow : MethodName := ⟨"LabelledFlowsModel", "follow", "(IIII)V"⟩
def ws_M_follow : List Cond := .code y_M_follow c_M_follow 8 none :: lw_w
def rm_M_follow : Room := { frames := 5, cells := 0, slots := 0, locals := 140 }
abbrev c_M_isEntry : ByteArray := prog_7_method_28_code
def y_M_isEntry : MethodName := ⟨"LabelledFlowsModel", "isEntry", "(II)Z"⟩
def ws_M_isEntry : List Cond := .code y_M_isEntry c_M_isEntry 3 (some .boolean) :: lw_w
def rm_M_isEntry : Room := { frames := 0, cells := 0, slots := 0, locals := 0 }
abbrev c_M_allFrom : ByteArray := prog_7_method_29_code
def y_M_allFrom : MethodName := ⟨"LabelledFlowsModel", "allFrom", "(II)V"⟩
def ws_M_allFrom : List Cond := .code y_M_allFrom c_M_allFrom 7 none :: lw_w
def rm_M_allFrom : Room := { frames := 6, cells := 0, slots := 0, locals := 167 }
abbrev c_M_workFacts : ByteArray := prog_7_method_30_code
def y_M_workFacts : MethodName := ⟨"LabelledFlowsModel", "workFacts", "()V"⟩
def ws_M_workFacts : List Cond := .code y_M_workFacts c_M_workFacts 4 none :: lw_w
def rm_M_workFacts : Room := { frames := 7, cells := 0, slots := 0, locals := 193 }
abbrev c_M_bits : ByteArray := prog_7_method_31_code
def y_M_bits : MethodName := ⟨"LabelledFlowsModel", "bits", "(J)I"⟩
def ws_M_bits : List Cond := .code y_M_bits c_M_bits 4 (some .int) :: lw_w
def rm_M_bits : Room := { frames := 0, cells := 0, slots := 0, locals := 0 }
abbrev c_M_analyse : ByteArray := prog_7_method_32_code
def y_M_analyse : MethodName := ⟨"LabelledFlowsModel", "analyse", "(I)I"⟩
def ws_M_analyse : List Cond := .code y_M_analyse c_M_analyse 4 (some .int) :: lw_w
def rm_M_analyse : Room := { frames := 8, cells := 0, slots := 0, locals := 216 }
abbrev c_M_verdict : ByteArray := prog_7_method_33_code
def y_M_verdict : MethodName := ⟨"LabelledFlowsModel", "verdict", "()I"⟩
def ws_M_verdict : List Cond := .code y_M_verdict c_M_verdict 1 (some .int) :: lw_w
def rm_M_verdict : Room := { frames := 0, cells := 0, slots := 0, locals := 0 }
abbrev c_M_may : ByteArray := prog_7_method_35_code
def y_M_may : MethodName := ⟨"LabelledFlowsModel", "may", "(IIII)Z"⟩
def ws_M_may : List Cond := .code y_M_may c_M_may 10 (some .boolean) :: lw_w
def rm_M_may : Room := { frames := 1, cells := 0, slots := 0, locals := 26 }
abbrev c_M_finding : ByteArray := prog_7_method_34_code
def y_M_finding : MethodName := ⟨"LabelledFlowsModel", "finding", "(II)Z"⟩
def ws_M_finding : List Cond := .code y_M_finding c_M_finding 8 (some .boolean) :: lw_w
def rm_M_finding : Room := { frames := 2, cells := 0, slots := 0, locals := 55 }
abbrev c_M_entries : ByteArray := prog_7_method_36_code
def y_M_entries : MethodName := ⟨"LabelledFlowsModel", "entries", "(I)I"⟩
def ws_M_entries : List Cond := .code y_M_entries c_M_entries 2 (some .int) :: lw_w
def rm_M_entries : Room := { frames := 1, cells := 0, slots := 0, locals := 23 }
abbrev c_M_points : ByteArray := prog_7_method_37_code
def y_M_points : MethodName := ⟨"LabelledFlowsModel", "points", "(II)I"⟩
def ws_M_points : List Cond := .code y_M_points c_M_points 3 (some .int) :: lw_w
def rm_M_points : Room := { frames := 1, cells := 0, slots := 0, locals := 22 }
abbrev c_M_cell : ByteArray := prog_7_method_38_code
def y_M_cell : MethodName := ⟨"LabelledFlowsModel", "cell", "(II)I"⟩
def ws_M_cell : List Cond := .code y_M_cell c_M_cell 3 (some .int) :: lw_w
def rm_M_cell : Room := { frames := 1, cells := 0, slots := 0, locals := 22 }
abbrev c_M_assign : ByteArray := prog_7_method_39_code
def y_M_assign : MethodName := ⟨"LabelledFlowsModel", "assign", "(III)V"⟩
def ws_M_assign : List Cond := .code y_M_assign c_M_assign 4 none :: lw_w
def rm_M_assign : Room := { frames := 0, cells := 0, slots := 0, locals := 0 }
abbrev c_M_enter : ByteArray := prog_7_method_40_code
def y_M_enter : MethodName := ⟨"LabelledFlowsModel", "enter", "(III)V"⟩
def ws_M_enter : List Cond := .code y_M_enter c_M_enter 8 none :: lw_w
def rm_M_enter : Room := { frames := 1, cells := 0, slots := 0, locals := 23 }
abbrev c_M_leave : ByteArray := prog_7_method_41_code
def y_M_leave : MethodName := ⟨"LabelledFlowsModel", "leave", "(I)V"⟩
def ws_M_leave : List Cond := .code y_M_leave c_M_leave 5 none :: lw_w
def rm_M_leave : Room := { frames := 1, cells := 0, slots := 0, locals := 23 }
abbrev c_M_hindrance : ByteArray := prog_7_method_42_code
def y_M_hindrance : MethodName := ⟨"LabelledFlowsModel", "hindrance", "()I"⟩
def ws_M_hindrance : List Cond := .code y_M_hindrance c_M_hindrance 5 (some .int) :: lw_w
def rm_M_hindrance : Room := { frames := 2, cells := 0, slots := 0, locals := 46 }
abbrev c_M_plain : ByteArray := prog_7_method_44_code
def y_M_plain : MethodName := ⟨"LabelledFlowsModel", "plain", "(II)V"⟩
def ws_M_plain : List Cond := .code y_M_plain c_M_plain 9 none :: lw_w
def rm_M_plain : Room := { frames := 1, cells := 0, slots := 0, locals := 26 }
abbrev c_M_step : ByteArray := prog_7_method_43_code
def y_M_step : MethodName := ⟨"LabelledFlowsModel", "step", "(I)V"⟩
def ws_M_step : List Cond := .code y_M_step c_M_step 10 none :: lw_w
def rm_M_step : Room := { frames := 2, cells := 0, slots := 0, locals := 54 }
abbrev c_M_run : ByteArray := prog_7_method_45_code
def y_M_run : MethodName := ⟨"LabelledFlowsModel", "run", "(II)I"⟩
def ws_M_run : List Cond := .code y_M_run c_M_run 6 (some .int) :: lw_w
def rm_M_run : Room := { frames := 3, cells := 0, slots := 0, locals := 83 }
abbrev c_M_outcome : ByteArray := prog_7_method_46_code
def y_M_outcome : MethodName := ⟨"LabelledFlowsModel", "outcome", "()I"⟩
def ws_M_outcome : List Cond := .code y_M_outcome c_M_outcome 1 (some .int) :: lw_w
def rm_M_outcome : Room := { frames := 0, cells := 0, slots := 0, locals := 0 }
abbrev c_M_hits : ByteArray := prog_7_method_47_code
def y_M_hits : MethodName := ⟨"LabelledFlowsModel", "hits", "(II)I"⟩
def ws_M_hits : List Cond := .code y_M_hits c_M_hits 5 (some .int) :: lw_w
def rm_M_hits : Room := { frames := 1, cells := 0, slots := 0, locals := 26 }
abbrev c_M_made : ByteArray := prog_7_method_48_code
def y_M_made : MethodName := ⟨"LabelledFlowsModel", "made", "()I"⟩
def ws_M_made : List Cond := .code y_M_made c_M_made 1 (some .int) :: lw_w
def rm_M_made : Room := { frames := 0, cells := 0, slots := 0, locals := 0 }
abbrev c_X_isBelow : ByteArray := prog_1_method_22_code
def y_X_isBelow : MethodName := ⟨"LabelledFlows", "isBelow", "(II)Z"⟩
def ws_X_isBelow : List Cond := .code y_X_isBelow c_X_isBelow 2 (some .boolean) :: lw_w
def rm_X_isBelow : Room := { frames := 0, cells := 0, slots := 0, locals := 0 }
abbrev c_P_takes : ByteArray := prog_5_method_2_code
def y_P_takes : MethodName := ⟨"LabelledFlows$Program", "takes", "(II)Z"⟩
def ws_P_takes : List Cond := .code y_P_takes c_P_takes 3 (some .boolean) :: lw_w
def rm_P_takes : Room := { frames := 1, cells := 0, slots := 0, locals := 21 }
abbrev c_X_operandsFit : ByteArray := prog_1_method_24_code
def y_X_operandsFit : MethodName := ⟨"LabelledFlows", "operandsFit", "(IIII)Z"⟩
def ws_X_operandsFit : List Cond := .code y_X_operandsFit c_X_operandsFit 4 (some .boolean) :: lw_w
def rm_X_operandsFit : Room := { frames := 1, cells := 0, slots := 0, locals := 21 }
abbrev c_P_renumber : ByteArray := prog_5_method_5_code
def y_P_renumber : MethodName := ⟨"LabelledFlows$Program", "renumber", "()V"⟩
def ws_P_renumber : List Cond := .code y_P_renumber c_P_renumber 6 none :: lw_w
def rm_P_renumber : Room := { frames := 1, cells := 0, slots := 0, locals := 23 }
abbrev c_P_append : ByteArray := prog_5_method_3_code
def y_P_append : MethodName := ⟨"LabelledFlows$Program", "append", "(IIIII)I"⟩
def ws_P_append : List Cond := .code y_P_append c_P_append 8 (some .int) :: lw_w
def rm_P_append : Room := { frames := 2, cells := 0, slots := 0, locals := 48 }
abbrev c_X_forget : ByteArray := prog_1_method_19_code
def y_X_forget : MethodName := ⟨"LabelledFlows", "forget", "()V"⟩
def ws_X_forget : List Cond := .code y_X_forget c_X_forget 1 none :: lw_w
def rm_X_forget : Room := { frames := 0, cells := 0, slots := 0, locals := 0 }
abbrev c_X_add : ByteArray := prog_1_method_2_code
def y_X_add : MethodName := ⟨"LabelledFlows", "add", "(IIIII)I"⟩
def ws_X_add : List Cond := .code y_X_add c_X_add 7 (some .int) :: lw_w
def rm_X_add : Room := { frames := 3, cells := 0, slots := 0, locals := 75 }
abbrev c_P_cutLast : ByteArray := prog_5_method_4_code
def y_P_cutLast : MethodName := ⟨"LabelledFlows$Program", "cutLast", "(I)V"⟩
def ws_P_cutLast : List Cond := .code y_P_cutLast c_P_cutLast 2 none :: lw_w
def rm_P_cutLast : Room := { frames := 2, cells := 0, slots := 0, locals := 48 }
abbrev c_X_drop : ByteArray := prog_1_method_3_code
def y_X_drop : MethodName := ⟨"LabelledFlows", "drop", "(I)Z"⟩
def ws_X_drop : List Cond := .code y_X_drop c_X_drop 2 (some .boolean) :: lw_w
def rm_X_drop : Room := { frames := 3, cells := 0, slots := 0, locals := 69 }
abbrev c_X_derive : ByteArray := prog_1_method_4_code
def y_X_derive : MethodName := ⟨"LabelledFlows", "derive", "(II)Z"⟩
def ws_X_derive : List Cond := .code y_X_derive c_X_derive 3 (some .boolean) :: lw_w
def rm_X_derive : Room := { frames := 1, cells := 0, slots := 0, locals := 21 }
abbrev c_X_bind : ByteArray := prog_1_method_5_code
def y_X_bind : MethodName := ⟨"LabelledFlows", "bind", "(III)Z"⟩
def ws_X_bind : List Cond := .code y_X_bind c_X_bind 4 (some .boolean) :: lw_w
def rm_X_bind : Room := { frames := 1, cells := 0, slots := 0, locals := 21 }
abbrev c_P_targetOf : ByteArray := prog_5_method_6_code
def y_P_targetOf : MethodName := ⟨"LabelledFlows$Program", "targetOf", "(II)I"⟩
def ws_P_targetOf : List Cond := .code y_P_targetOf c_P_targetOf 6 (some .int) :: lw_w
def rm_P_targetOf : Room := { frames := 0, cells := 0, slots := 0, locals := 0 }
abbrev c_X_target : ByteArray := prog_1_method_6_code
def y_X_target : MethodName := ⟨"LabelledFlows", "target", "(II)I"⟩
def ws_X_target : List Cond := .code y_X_target c_X_target 3 (some .int) :: lw_w
def rm_X_target : Room := { frames := 1, cells := 0, slots := 0, locals := 25 }
abbrev c_X_size : ByteArray := prog_1_method_7_code
def y_X_size : MethodName := ⟨"LabelledFlows", "size", "(I)I"⟩
def ws_X_size : List Cond := .code y_X_size c_X_size 2 (some .int) :: lw_w
def rm_X_size : Room := { frames := 1, cells := 0, slots := 0, locals := 21 }
abbrev c_X_has : ByteArray := prog_1_method_23_code
def y_X_has : MethodName := ⟨"LabelledFlows", "has", "(II)Z"⟩
def ws_X_has : List Cond := .code y_X_has c_X_has 2 (some .boolean) :: lw_w
def rm_X_has : Room := { frames := 0, cells := 0, slots := 0, locals := 0 }
abbrev c_Q_growLocal : ByteArray := prog_4_method_7_code
def y_Q_growLocal : MethodName := ⟨"LabelledFlows$Pointing", "growLocal", "(III)V"⟩
def ws_Q_growLocal : List Cond := .code y_Q_growLocal c_Q_growLocal 5 none :: lw_w
def rm_Q_growLocal : Room := { frames := 0, cells := 0, slots := 0, locals := 0 }
abbrev c_Q_fieldOfAll : ByteArray := prog_4_method_9_code
def y_Q_fieldOfAll : MethodName := ⟨"LabelledFlows$Pointing", "fieldOfAll", "(II)I"⟩
def ws_Q_fieldOfAll : List Cond := .code y_Q_fieldOfAll c_Q_fieldOfAll 5 (some .int) :: lw_w
def rm_Q_fieldOfAll : Room := { frames := 1, cells := 0, slots := 0, locals := 21 }
abbrev c_Q_growFields : ByteArray := prog_4_method_8_code
def y_Q_growFields : MethodName := ⟨"LabelledFlows$Pointing", "growFields", "(III)V"⟩
def ws_Q_growFields : List Cond := .code y_Q_growFields c_Q_growFields 6 none :: lw_w
def rm_Q_growFields : Room := { frames := 1, cells := 0, slots := 0, locals := 21 }
abbrev c_Q_reach : ByteArray := prog_4_method_6_code
def y_Q_reach : MethodName := ⟨"LabelledFlows$Pointing", "reach", "(II)V"⟩
def ws_Q_reach : List Cond := .code y_Q_reach c_Q_reach 3 none :: lw_w
def rm_Q_reach : Room := { frames := 1, cells := 0, slots := 0, locals := 21 }
abbrev c_Q_returned : ByteArray := prog_4_method_10_code
def y_Q_returned : MethodName := ⟨"LabelledFlows$Pointing", "returned", "(I)I"⟩
def ws_Q_returned : List Cond := .code y_Q_returned c_Q_returned 5 (some .int) :: lw_w
def rm_Q_returned : Room := { frames := 0, cells := 0, slots := 0, locals := 0 }
abbrev c_Q_followCall : ByteArray := prog_4_method_5_code
def y_Q_followCall : MethodName := ⟨"LabelledFlows$Pointing", "followCall", "(II)V"⟩
def ws_Q_followCall : List Cond := .code y_Q_followCall c_Q_followCall 8 none :: lw_w
def rm_Q_followCall : Room := { frames := 2, cells := 0, slots := 0, locals := 43 }
abbrev c_Q_follow : ByteArray := prog_4_method_4_code
def y_Q_follow : MethodName := ⟨"LabelledFlows$Pointing", "follow", "(II)V"⟩
def ws_Q_follow : List Cond := .code y_Q_follow c_Q_follow 6 none :: lw_w
def rm_Q_follow : Room := { frames := 3, cells := 0, slots := 0, locals := 70 }
abbrev c_Q_sweep : ByteArray := prog_4_method_3_code
def y_Q_sweep : MethodName := ⟨"LabelledFlows$Pointing", "sweep", "()V"⟩
def ws_Q_sweep : List Cond := .code y_Q_sweep c_Q_sweep 3 none :: lw_w
def rm_Q_sweep : Room := { frames := 4, cells := 0, slots := 0, locals := 95 }
abbrev c_Q_workOut : ByteArray := prog_4_method_2_code
def y_Q_workOut : MethodName := ⟨"LabelledFlows$Pointing", "workOut", "()V"⟩
def ws_Q_workOut : List Cond := .code y_Q_workOut c_Q_workOut 2 none :: lw_w
def rm_Q_workOut : Room := { frames := 5, cells := 0, slots := 0, locals := 117 }
abbrev c_F_clear : ByteArray := prog_2_method_3_code
def y_F_clear : MethodName := ⟨"LabelledFlows$Flow", "clear", "()V"⟩
def ws_F_clear : List Cond := .code y_F_clear c_F_clear 3 none :: lw_w
def rm_F_clear : Room := { frames := 1, cells := 0, slots := 0, locals := 23 }
abbrev c_F_growZero : ByteArray := prog_2_method_17_code
def y_F_growZero : MethodName := ⟨"LabelledFlows$Flow", "growZero", "(II)V"⟩
def ws_F_growZero : List Cond := .code y_F_growZero c_F_growZero 3 none :: lw_w
def rm_F_growZero : Room := { frames := 1, cells := 0, slots := 0, locals := 21 }
abbrev c_P_jumpSpot : ByteArray := prog_5_method_7_code
def y_P_jumpSpot : MethodName := ⟨"LabelledFlows$Program", "jumpSpot", "(II)I"⟩
def ws_P_jumpSpot : List Cond := .code y_P_jumpSpot c_P_jumpSpot 3 (some .int) :: lw_w
def rm_P_jumpSpot : Room := { frames := 1, cells := 0, slots := 0, locals := 21 }
abbrev c_F_growHeld : ByteArray := prog_2_method_15_code
def y_F_growHeld : MethodName := ⟨"LabelledFlows$Flow", "growHeld", "(III)V"⟩
def ws_F_growHeld : List Cond := .code y_F_growHeld c_F_growHeld 5 none :: lw_w
def rm_F_growHeld : Room := { frames := 0, cells := 0, slots := 0, locals := 0 }
abbrev c_F_comeBack : ByteArray := prog_2_method_14_code
def y_F_comeBack : MethodName := ⟨"LabelledFlows$Flow", "comeBack", "(III)V"⟩
def ws_F_comeBack : List Cond := .code y_F_comeBack c_F_comeBack 5 none :: lw_w
def rm_F_comeBack : Room := { frames := 1, cells := 0, slots := 0, locals := 24 }
abbrev c_F_callZero : ByteArray := prog_2_method_7_code
def y_F_callZero : MethodName := ⟨"LabelledFlows$Flow", "callZero", "(I)V"⟩
def ws_F_callZero : List Cond := .code y_F_callZero c_F_callZero 4 none :: lw_w
def rm_F_callZero : Room := { frames := 2, cells := 0, slots := 0, locals := 48 }
abbrev c_F_passZero : ByteArray := prog_2_method_6_code
def y_F_passZero : MethodName := ⟨"LabelledFlows$Flow", "passZero", "(II)V"⟩
def ws_F_passZero : List Cond := .code y_F_passZero c_F_passZero 5 none :: lw_w
def rm_F_passZero : Room := { frames := 3, cells := 0, slots := 0, locals := 71 }
abbrev c_F_enter : ByteArray := prog_2_method_12_code
def y_F_enter : MethodName := ⟨"LabelledFlows$Flow", "enter", "(III)V"⟩
def ws_F_enter : List Cond := .code y_F_enter c_F_enter 6 none :: lw_w
def rm_F_enter : Room := { frames := 1, cells := 0, slots := 0, locals := 21 }
abbrev c_F_exitsOfAll : ByteArray := prog_2_method_13_code
def y_F_exitsOfAll : MethodName := ⟨"LabelledFlows$Flow", "exitsOfAll", "(II)I"⟩
def ws_F_exitsOfAll : List Cond := .code y_F_exitsOfAll c_F_exitsOfAll 5 (some .int) :: lw_w
def rm_F_exitsOfAll : Room := { frames := 1, cells := 0, slots := 0, locals := 21 }
abbrev c_F_call : ByteArray := prog_2_method_11_code
def y_F_call : MethodName := ⟨"LabelledFlows$Flow", "call", "(IIII)V"⟩
def ws_F_call : List Cond := .code y_F_call c_F_call 7 none :: lw_w
def rm_F_call : Room := { frames := 2, cells := 0, slots := 0, locals := 48 }
abbrev c_F_growExit : ByteArray := prog_2_method_16_code
def y_F_growExit : MethodName := ⟨"LabelledFlows$Flow", "growExit", "(III)V"⟩
def ws_F_growExit : List Cond := .code y_F_growExit c_F_growExit 5 none :: lw_w
def rm_F_growExit : Room := { frames := 0, cells := 0, slots := 0, locals := 0 }
abbrev c_F_fieldsOf : ByteArray := prog_2_method_10_code
def y_F_fieldsOf : MethodName := ⟨"LabelledFlows$Flow", "fieldsOf", "(II)I"⟩
def ws_F_fieldsOf : List Cond := .code y_F_fieldsOf c_F_fieldsOf 4 (some .int) :: lw_w
def rm_F_fieldsOf : Room := { frames := 1, cells := 0, slots := 0, locals := 21 }
abbrev c_F_changed : ByteArray := prog_2_method_9_code
def y_F_changed : MethodName := ⟨"LabelledFlows$Flow", "changed", "(III)I"⟩
def ws_F_changed : List Cond := .code y_F_changed c_F_changed 10 (some .int) :: lw_w
def rm_F_changed : Room := { frames := 2, cells := 0, slots := 0, locals := 44 }
abbrev c_F_pass : ByteArray := prog_2_method_8_code
def y_F_pass : MethodName := ⟨"LabelledFlows$Flow", "pass", "(IIII)V"⟩
def ws_F_pass : List Cond := .code y_F_pass c_F_pass 7 none :: lw_w
def rm_F_pass : Room := { frames := 3, cells := 0, slots := 0, locals := 74 }
abbrev c_F_endAll : ByteArray := prog_2_method_5_code
def y_F_endAll : MethodName := ⟨"LabelledFlows$Flow", "endAll", "(II)V"⟩
def ws_F_endAll : List Cond := .code y_F_endAll c_F_endAll 4 none :: lw_w
def rm_F_endAll : Room := { frames := 1, cells := 0, slots := 0, locals := 24 }
abbrev c_F_sweep : ByteArray := prog_2_method_4_code
def y_F_sweep : MethodName := ⟨"LabelledFlows$Flow", "sweep", "(I)V"⟩
def ws_F_sweep : List Cond := .code y_F_sweep c_F_sweep 7 none :: lw_w
def rm_F_sweep : Room := { frames := 4, cells := 0, slots := 0, locals := 100 }
abbrev c_F_workOut : ByteArray := prog_2_method_2_code
def y_F_workOut : MethodName := ⟨"LabelledFlows$Flow", "workOut", "()V"⟩
def ws_F_workOut : List Cond := .code y_F_workOut c_F_workOut 3 none :: lw_w
def rm_F_workOut : Room := { frames := 5, cells := 0, slots := 0, locals := 126 }
abbrev c_F_countHeld : ByteArray := prog_2_method_19_code
def y_F_countHeld : MethodName := ⟨"LabelledFlows$Flow", "countHeld", "(II)I"⟩
def ws_F_countHeld : List Cond := .code y_F_countHeld c_F_countHeld 5 (some .int) :: lw_w
def rm_F_countHeld : Room := { frames := 1, cells := 0, slots := 0, locals := 20 }
abbrev c_F_countPaths : ByteArray := prog_2_method_18_code
def y_F_countPaths : MethodName := ⟨"LabelledFlows$Flow", "countPaths", "()I"⟩
def ws_F_countPaths : List Cond := .code y_F_countPaths c_F_countPaths 5 (some .int) :: lw_w
def rm_F_countPaths : Room := { frames := 2, cells := 0, slots := 0, locals := 44 }
abbrev c_X_analyse : ByteArray := prog_1_method_8_code
def y_X_analyse : MethodName := ⟨"LabelledFlows", "analyse", "(I)I"⟩
def ws_X_analyse : List Cond := .code y_X_analyse c_X_analyse 3 (some .int) :: lw_w
def rm_X_analyse : Room := { frames := 6, cells := 0, slots := 0, locals := 148 }
abbrev c_X_verdict : ByteArray := prog_1_method_9_code
def y_X_verdict : MethodName := ⟨"LabelledFlows", "verdict", "()I"⟩
def ws_X_verdict : List Cond := .code y_X_verdict c_X_verdict 1 (some .int) :: lw_w
def rm_X_verdict : Room := { frames := 0, cells := 0, slots := 0, locals := 0 }
abbrev c_X_isSource : ByteArray := prog_1_method_20_code
def y_X_isSource : MethodName := ⟨"LabelledFlows", "isSource", "(I)Z"⟩
def ws_X_isSource : List Cond := .code y_X_isSource c_X_isSource 2 (some .boolean) :: lw_w
def rm_X_isSource : Room := { frames := 1, cells := 0, slots := 0, locals := 21 }
abbrev c_X_isSink : ByteArray := prog_1_method_21_code
def y_X_isSink : MethodName := ⟨"LabelledFlows", "isSink", "(I)Z"⟩
def ws_X_isSink : List Cond := .code y_X_isSink c_X_isSink 2 (some .boolean) :: lw_w
def rm_X_isSink : Room := { frames := 1, cells := 0, slots := 0, locals := 21 }
abbrev c_F_mayHold : ByteArray := prog_2_method_21_code
def y_F_mayHold : MethodName := ⟨"LabelledFlows$Flow", "mayHold", "(IIII)Z"⟩
def ws_F_mayHold : List Cond := .code y_F_mayHold c_F_mayHold 6 (some .boolean) :: lw_w
def rm_F_mayHold : Room := { frames := 1, cells := 0, slots := 0, locals := 21 }
abbrev c_X_finding : ByteArray := prog_1_method_10_code
def y_X_finding : MethodName := ⟨"LabelledFlows", "finding", "(II)Z"⟩
def ws_X_finding : List Cond := .code y_X_finding c_X_finding 4 (some .boolean) :: lw_w
def rm_X_finding : Room := { frames := 2, cells := 0, slots := 0, locals := 46 }
abbrev c_X_may : ByteArray := prog_1_method_11_code
def y_X_may : MethodName := ⟨"LabelledFlows", "may", "(IIII)Z"⟩
def ws_X_may : List Cond := .code y_X_may c_X_may 5 (some .boolean) :: lw_w
def rm_X_may : Room := { frames := 2, cells := 0, slots := 0, locals := 46 }
abbrev c_F_countEntries : ByteArray := prog_2_method_20_code
def y_F_countEntries : MethodName := ⟨"LabelledFlows$Flow", "countEntries", "(I)I"⟩
def ws_F_countEntries : List Cond := .code y_F_countEntries c_F_countEntries 4 (some .int) :: lw_w
def rm_F_countEntries : Room := { frames := 1, cells := 0, slots := 0, locals := 20 }
abbrev c_X_entries : ByteArray := prog_1_method_12_code
def y_X_entries : MethodName := ⟨"LabelledFlows", "entries", "(I)I"⟩
def ws_X_entries : List Cond := .code y_X_entries c_X_entries 2 (some .int) :: lw_w
def rm_X_entries : Room := { frames := 2, cells := 0, slots := 0, locals := 43 }
abbrev c_X_points : ByteArray := prog_1_method_13_code
def y_X_points : MethodName := ⟨"LabelledFlows", "points", "(II)I"⟩
def ws_X_points : List Cond := .code y_X_points c_X_points 3 (some .int) :: lw_w
def rm_X_points : Room := { frames := 1, cells := 0, slots := 0, locals := 21 }
abbrev c_X_cell : ByteArray := prog_1_method_14_code
def y_X_cell : MethodName := ⟨"LabelledFlows", "cell", "(II)I"⟩
def ws_X_cell : List Cond := .code y_X_cell c_X_cell 3 (some .int) :: lw_w
def rm_X_cell : Room := { frames := 1, cells := 0, slots := 0, locals := 21 }
abbrev c_A_begin : ByteArray := prog_3_method_4_code
def y_A_begin : MethodName := ⟨"LabelledFlows$Machine", "begin", "(III)V"⟩
def ws_A_begin : List Cond := .code y_A_begin c_A_begin 4 none :: lw_w
def rm_A_begin : Room := { frames := 0, cells := 0, slots := 0, locals := 0 }
abbrev c_A_reset : ByteArray := prog_3_method_3_code
def y_A_reset : MethodName := ⟨"LabelledFlows$Machine", "reset", "(I)V"⟩
def ws_A_reset : List Cond := .code y_A_reset c_A_reset 2 none :: lw_w
def rm_A_reset : Room := { frames := 1, cells := 0, slots := 0, locals := 23 }
abbrev c_A_standsAtEnd : ByteArray := prog_3_method_6_code
def y_A_standsAtEnd : MethodName := ⟨"LabelledFlows$Machine", "standsAtEnd", "()Z"⟩
def ws_A_standsAtEnd : List Cond := .code y_A_standsAtEnd c_A_standsAtEnd 2 (some .boolean) :: lw_w
def rm_A_standsAtEnd : Room := { frames := 0, cells := 0, slots := 0, locals := 0 }
abbrev c_A_endMethod : ByteArray := prog_3_method_7_code
def y_A_endMethod : MethodName := ⟨"LabelledFlows$Machine", "endMethod", "(I)V"⟩
def ws_A_endMethod : List Cond := .code y_A_endMethod c_A_endMethod 3 none :: lw_w
def rm_A_endMethod : Room := { frames := 0, cells := 0, slots := 0, locals := 0 }
abbrev c_A_endMethods : ByteArray := prog_3_method_5_code
def y_A_endMethods : MethodName := ⟨"LabelledFlows$Machine", "endMethods", "()V"⟩
def ws_A_endMethods : List Cond := .code y_A_endMethods c_A_endMethods 2 none :: lw_w
def rm_A_endMethods : Room := { frames := 1, cells := 0, slots := 0, locals := 22 }
abbrev c_A_objectOf : ByteArray := prog_3_method_9_code
def y_A_objectOf : MethodName := ⟨"LabelledFlows$Machine", "objectOf", "(I)I"⟩
def ws_A_objectOf : List Cond := .code y_A_objectOf c_A_objectOf 2 (some .int) :: lw_w
def rm_A_objectOf : Room := { frames := 0, cells := 0, slots := 0, locals := 0 }
abbrev c_A_calledMethod : ByteArray := prog_3_method_10_code
def y_A_calledMethod : MethodName := ⟨"LabelledFlows$Machine", "calledMethod", "(I)I"⟩
def ws_A_calledMethod : List Cond := .code y_A_calledMethod c_A_calledMethod 3 (some .int) :: lw_w
def rm_A_calledMethod : Room := { frames := 1, cells := 0, slots := 0, locals := 25 }
abbrev c_A_endingBeforeStep : ByteArray := prog_3_method_8_code
def y_A_endingBeforeStep : MethodName := ⟨"LabelledFlows$Machine", "endingBeforeStep", "(I)I"⟩
def ws_A_endingBeforeStep : List Cond := .code y_A_endingBeforeStep c_A_endingBeforeStep 3 (some .int) :: lw_w
def rm_A_endingBeforeStep : Room := { frames := 2, cells := 0, slots := 0, locals := 47 }
abbrev c_A_makeObject : ByteArray := prog_3_method_13_code
def y_A_makeObject : MethodName := ⟨"LabelledFlows$Machine", "makeObject", "(I)I"⟩
def ws_A_makeObject : List Cond := .code y_A_makeObject c_A_makeObject 2 (some .int) :: lw_w
def rm_A_makeObject : Room := { frames := 0, cells := 0, slots := 0, locals := 0 }
abbrev c_A_countHits : ByteArray := prog_3_method_14_code
def y_A_countHits : MethodName := ⟨"LabelledFlows$Machine", "countHits", "(II)V"⟩
def ws_A_countHits : List Cond := .code y_A_countHits c_A_countHits 4 none :: lw_w
def rm_A_countHits : Room := { frames := 1, cells := 0, slots := 0, locals := 21 }
abbrev c_A_changeValues : ByteArray := prog_3_method_12_code
def y_A_changeValues : MethodName := ⟨"LabelledFlows$Machine", "changeValues", "(III)V"⟩
def ws_A_changeValues : List Cond := .code y_A_changeValues c_A_changeValues 6 none :: lw_w
def rm_A_changeValues : Room := { frames := 2, cells := 0, slots := 0, locals := 44 }
abbrev c_A_step : ByteArray := prog_3_method_11_code
def y_A_step : MethodName := ⟨"LabelledFlows$Machine", "step", "()V"⟩
def ws_A_step : List Cond := .code y_A_step c_A_step 6 none :: lw_w
def rm_A_step : Room := { frames := 3, cells := 0, slots := 0, locals := 69 }
abbrev c_A_start : ByteArray := prog_3_method_2_code
def y_A_start : MethodName := ⟨"LabelledFlows$Machine", "start", "(II)I"⟩
def ws_A_start : List Cond := .code y_A_start c_A_start 5 (some .int) :: lw_w
def rm_A_start : Room := { frames := 4, cells := 0, slots := 0, locals := 94 }
abbrev c_X_run : ByteArray := prog_1_method_15_code
def y_X_run : MethodName := ⟨"LabelledFlows", "run", "(II)I"⟩
def ws_X_run : List Cond := .code y_X_run c_X_run 3 (some .int) :: lw_w
def rm_X_run : Room := { frames := 5, cells := 0, slots := 0, locals := 118 }
abbrev c_X_outcome : ByteArray := prog_1_method_16_code
def y_X_outcome : MethodName := ⟨"LabelledFlows", "outcome", "()I"⟩
def ws_X_outcome : List Cond := .code y_X_outcome c_X_outcome 1 (some .int) :: lw_w
def rm_X_outcome : Room := { frames := 0, cells := 0, slots := 0, locals := 0 }
abbrev c_X_hits : ByteArray := prog_1_method_17_code
def y_X_hits : MethodName := ⟨"LabelledFlows", "hits", "(II)I"⟩
def ws_X_hits : List Cond := .code y_X_hits c_X_hits 3 (some .int) :: lw_w
def rm_X_hits : Room := { frames := 2, cells := 0, slots := 0, locals := 42 }
abbrev c_X_made : ByteArray := prog_1_method_18_code
def y_X_made : MethodName := ⟨"LabelledFlows", "made", "()I"⟩
def ws_X_made : List Cond := .code y_X_made c_X_made 1 (some .int) :: lw_w
def rm_X_made : Room := { frames := 0, cells := 0, slots := 0, locals := 0 }
