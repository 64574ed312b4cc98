-- ===== PART A: goes FIRST, ahead of the names: the tables' words, and 'selects' of the private methods out of them =====
/-- a private method of a class that the tables say can be made, by its rows of tables_1 -/
def lw_okq (q : MethodName × Nat) : Prop := (q.1.cls ≠ "java/lang/invoke/MethodHandle" ∧ q.1.cls ≠ "java/lang/invoke/VarHandle") ∧ Cond.instantiable q.1.cls q.2 ∈ tables_1 ∧ Cond.privateMethod q.1 ∈ tables_1 ∧ Cond.instanceMethod q.1 ∈ tables_1
theorem lw_p0 : lw_okq (⟨"TwoGoats", "textOf", "(I)LTwoGoats$Text;"⟩, 8) := ⟨⟨by decide +kernel, by decide +kernel⟩, List.mem_of_getElem? (i := 14) (by decide +kernel), List.mem_of_getElem? (i := 262) (by decide +kernel), List.mem_of_getElem? (i := 263) (by decide +kernel)⟩
theorem lw_p1 : lw_okq (⟨"TwoGoats", "dayOf", "(I)LTwoGoats$Day;"⟩, 8) := ⟨⟨by decide +kernel, by decide +kernel⟩, List.mem_of_getElem? (i := 14) (by decide +kernel), List.mem_of_getElem? (i := 266) (by decide +kernel), List.mem_of_getElem? (i := 267) (by decide +kernel)⟩
theorem lw_p2 : lw_okq (⟨"TwoGoats$Meadow", "firstFault", "()I"⟩, 10) := ⟨⟨by decide +kernel, by decide +kernel⟩, List.mem_of_getElem? (i := 22) (by decide +kernel), List.mem_of_getElem? (i := 279) (by decide +kernel), List.mem_of_getElem? (i := 280) (by decide +kernel)⟩
theorem lw_p3 : lw_okq (⟨"TwoGoats$Meadow", "fits", "(I)Z"⟩, 10) := ⟨⟨by decide +kernel, by decide +kernel⟩, List.mem_of_getElem? (i := 22) (by decide +kernel), List.mem_of_getElem? (i := 283) (by decide +kernel), List.mem_of_getElem? (i := 284) (by decide +kernel)⟩
theorem lw_p4 : lw_okq (⟨"TwoGoats", "setHeavy", "(II)I"⟩, 8) := ⟨⟨by decide +kernel, by decide +kernel⟩, List.mem_of_getElem? (i := 14) (by decide +kernel), List.mem_of_getElem? (i := 319) (by decide +kernel), List.mem_of_getElem? (i := 320) (by decide +kernel)⟩
theorem lw_p5 : lw_okq (⟨"TwoGoats", "found", "(I)I"⟩, 8) := ⟨⟨by decide +kernel, by decide +kernel⟩, List.mem_of_getElem? (i := 14) (by decide +kernel), List.mem_of_getElem? (i := 331) (by decide +kernel), List.mem_of_getElem? (i := 332) (by decide +kernel)⟩
theorem lw_p6 : lw_okq (⟨"TwoGoats", "ended", "(I)LTwoGoats$Day;"⟩, 8) := ⟨⟨by decide +kernel, by decide +kernel⟩, List.mem_of_getElem? (i := 14) (by decide +kernel), List.mem_of_getElem? (i := 346) (by decide +kernel), List.mem_of_getElem? (i := 347) (by decide +kernel)⟩
theorem lw_p7 : lw_okq (⟨"TwoGoats$Day", "doStep", "(I)Z"⟩, 8) := ⟨⟨by decide +kernel, by decide +kernel⟩, List.mem_of_getElem? (i := 88) (by decide +kernel), List.mem_of_getElem? (i := 365) (by decide +kernel), List.mem_of_getElem? (i := 366) (by decide +kernel)⟩
theorem lw_p8 : lw_okq (⟨"TwoGoats$Goats", "takeUp", "(I)V"⟩, 6) := ⟨⟨by decide +kernel, by decide +kernel⟩, List.mem_of_getElem? (i := 96) (by decide +kernel), List.mem_of_getElem? (i := 386) (by decide +kernel), List.mem_of_getElem? (i := 387) (by decide +kernel)⟩
theorem lw_p9 : lw_okq (⟨"TwoGoats$Goats", "layDown", "(II)V"⟩, 6) := ⟨⟨by decide +kernel, by decide +kernel⟩, List.mem_of_getElem? (i := 96) (by decide +kernel), List.mem_of_getElem? (i := 394) (by decide +kernel), List.mem_of_getElem? (i := 395) (by decide +kernel)⟩
theorem lw_p10 : lw_okq (⟨"TwoGoats$Day", "drag", "(I)V"⟩, 8) := ⟨⟨by decide +kernel, by decide +kernel⟩, List.mem_of_getElem? (i := 88) (by decide +kernel), List.mem_of_getElem? (i := 406) (by decide +kernel), List.mem_of_getElem? (i := 407) (by decide +kernel)⟩
theorem lw_p11 : lw_okq (⟨"TwoGoats$Day", "eat", "(I)V"⟩, 8) := ⟨⟨by decide +kernel, by decide +kernel⟩, List.mem_of_getElem? (i := 88) (by decide +kernel), List.mem_of_getElem? (i := 412) (by decide +kernel), List.mem_of_getElem? (i := 413) (by decide +kernel)⟩
theorem lw_p12 : lw_okq (⟨"TwoGoats$Search", "note", "(J)V"⟩, 5) := ⟨⟨by decide +kernel, by decide +kernel⟩, List.mem_of_getElem? (i := 161) (by decide +kernel), List.mem_of_getElem? (i := 465) (by decide +kernel), List.mem_of_getElem? (i := 466) (by decide +kernel)⟩
theorem lw_p13 : lw_okq (⟨"TwoGoats$Search", "leadsTo", "(JII)Z"⟩, 5) := ⟨⟨by decide +kernel, by decide +kernel⟩, List.mem_of_getElem? (i := 161) (by decide +kernel), List.mem_of_getElem? (i := 471) (by decide +kernel), List.mem_of_getElem? (i := 472) (by decide +kernel)⟩
theorem lw_p14 : lw_okq (⟨"TwoGoats$Meadow", "measureAcross", "(III)V"⟩, 10) := ⟨⟨by decide +kernel, by decide +kernel⟩, List.mem_of_getElem? (i := 22) (by decide +kernel), List.mem_of_getElem? (i := 523) (by decide +kernel), List.mem_of_getElem? (i := 524) (by decide +kernel)⟩
theorem lw_p15 : lw_okq (⟨"TwoGoats$Turns", "gain", "(IIII)I"⟩, 4) := ⟨⟨by decide +kernel, by decide +kernel⟩, List.mem_of_getElem? (i := 186) (by decide +kernel), List.mem_of_getElem? (i := 539) (by decide +kernel), List.mem_of_getElem? (i := 540) (by decide +kernel)⟩
def lw_privs_1 : List (MethodName × Nat) := [(⟨"TwoGoats", "textOf", "(I)LTwoGoats$Text;"⟩, 8), (⟨"TwoGoats", "dayOf", "(I)LTwoGoats$Day;"⟩, 8), (⟨"TwoGoats$Meadow", "firstFault", "()I"⟩, 10), (⟨"TwoGoats$Meadow", "fits", "(I)Z"⟩, 10), (⟨"TwoGoats", "setHeavy", "(II)I"⟩, 8), (⟨"TwoGoats", "found", "(I)I"⟩, 8), (⟨"TwoGoats", "ended", "(I)LTwoGoats$Day;"⟩, 8), (⟨"TwoGoats$Day", "doStep", "(I)Z"⟩, 8), (⟨"TwoGoats$Goats", "takeUp", "(I)V"⟩, 6), (⟨"TwoGoats$Goats", "layDown", "(II)V"⟩, 6), (⟨"TwoGoats$Day", "drag", "(I)V"⟩, 8), (⟨"TwoGoats$Day", "eat", "(I)V"⟩, 8), (⟨"TwoGoats$Search", "note", "(J)V"⟩, 5), (⟨"TwoGoats$Search", "leadsTo", "(JII)Z"⟩, 5), (⟨"TwoGoats$Meadow", "measureAcross", "(III)V"⟩, 10), (⟨"TwoGoats$Turns", "gain", "(IIII)I"⟩, 4)]
theorem lw_r1 : ∀ q ∈ lw_privs_1, lw_okq q := List.forall_mem_cons.mpr ⟨lw_p0, List.forall_mem_cons.mpr ⟨lw_p1, List.forall_mem_cons.mpr ⟨lw_p2, List.forall_mem_cons.mpr ⟨lw_p3, List.forall_mem_cons.mpr ⟨lw_p4, List.forall_mem_cons.mpr ⟨lw_p5, List.forall_mem_cons.mpr ⟨lw_p6, List.forall_mem_cons.mpr ⟨lw_p7, List.forall_mem_cons.mpr ⟨lw_p8, List.forall_mem_cons.mpr ⟨lw_p9, List.forall_mem_cons.mpr ⟨lw_p10, List.forall_mem_cons.mpr ⟨lw_p11, List.forall_mem_cons.mpr ⟨lw_p12, List.forall_mem_cons.mpr ⟨lw_p13, List.forall_mem_cons.mpr ⟨lw_p14, List.forall_mem_cons.mpr ⟨lw_p15, fun _ h => absurd h List.not_mem_nil⟩⟩⟩⟩⟩⟩⟩⟩⟩⟩⟩⟩⟩⟩⟩⟩
theorem lw_p16 : lw_okq (⟨"TwoGoats$Turns", "gainByStep", "(IIII)I"⟩, 4) := ⟨⟨by decide +kernel, by decide +kernel⟩, List.mem_of_getElem? (i := 186) (by decide +kernel), List.mem_of_getElem? (i := 551) (by decide +kernel), List.mem_of_getElem? (i := 552) (by decide +kernel)⟩
theorem lw_p17 : lw_okq (⟨"TwoGoats$Sheet", "cut", "(I)I"⟩, 3) := ⟨⟨by decide +kernel, by decide +kernel⟩, List.mem_of_getElem? (i := 211) (by decide +kernel), List.mem_of_getElem? (i := 595) (by decide +kernel), List.mem_of_getElem? (i := 596) (by decide +kernel)⟩
theorem lw_p18 : lw_okq (⟨"TwoGoatsModel", "met", "(I)I"⟩, 29) := ⟨⟨by decide +kernel, by decide +kernel⟩, List.mem_of_getElem? (i := 652) (by decide +kernel), List.mem_of_getElem? (i := 758) (by decide +kernel), List.mem_of_getElem? (i := 759) (by decide +kernel)⟩
theorem lw_p19 : lw_okq (⟨"TwoGoatsModel", "lacks", "(III)I"⟩, 29) := ⟨⟨by decide +kernel, by decide +kernel⟩, List.mem_of_getElem? (i := 652) (by decide +kernel), List.mem_of_getElem? (i := 770) (by decide +kernel), List.mem_of_getElem? (i := 771) (by decide +kernel)⟩
theorem lw_p20 : lw_okq (⟨"TwoGoatsModel", "reads", "()I"⟩, 29) := ⟨⟨by decide +kernel, by decide +kernel⟩, List.mem_of_getElem? (i := 652) (by decide +kernel), List.mem_of_getElem? (i := 799) (by decide +kernel), List.mem_of_getElem? (i := 800) (by decide +kernel)⟩
theorem lw_p21 : lw_okq (⟨"TwoGoatsModel", "readsPart", "()Z"⟩, 29) := ⟨⟨by decide +kernel, by decide +kernel⟩, List.mem_of_getElem? (i := 652) (by decide +kernel), List.mem_of_getElem? (i := 803) (by decide +kernel), List.mem_of_getElem? (i := 804) (by decide +kernel)⟩
theorem lw_p22 : lw_okq (⟨"TwoGoatsModel", "here", "()I"⟩, 29) := ⟨⟨by decide +kernel, by decide +kernel⟩, List.mem_of_getElem? (i := 652) (by decide +kernel), List.mem_of_getElem? (i := 807) (by decide +kernel), List.mem_of_getElem? (i := 808) (by decide +kernel)⟩
theorem lw_p23 : lw_okq (⟨"TwoGoatsModel", "none", "()I"⟩, 29) := ⟨⟨by decide +kernel, by decide +kernel⟩, List.mem_of_getElem? (i := 652) (by decide +kernel), List.mem_of_getElem? (i := 813) (by decide +kernel), List.mem_of_getElem? (i := 814) (by decide +kernel)⟩
theorem lw_p24 : lw_okq (⟨"TwoGoatsModel", "isPath", "(I)Z"⟩, 29) := ⟨⟨by decide +kernel, by decide +kernel⟩, List.mem_of_getElem? (i := 652) (by decide +kernel), List.mem_of_getElem? (i := 821) (by decide +kernel), List.mem_of_getElem? (i := 822) (by decide +kernel)⟩
theorem lw_p25 : lw_okq (⟨"TwoGoatsModel", "judgedOf", "(I)I"⟩, 29) := ⟨⟨by decide +kernel, by decide +kernel⟩, List.mem_of_getElem? (i := 652) (by decide +kernel), List.mem_of_getElem? (i := 859) (by decide +kernel), List.mem_of_getElem? (i := 860) (by decide +kernel)⟩
theorem lw_p26 : lw_okq (⟨"TwoGoatsModel", "done", "(I)I"⟩, 29) := ⟨⟨by decide +kernel, by decide +kernel⟩, List.mem_of_getElem? (i := 652) (by decide +kernel), List.mem_of_getElem? (i := 863) (by decide +kernel), List.mem_of_getElem? (i := 864) (by decide +kernel)⟩
theorem lw_p27 : lw_okq (⟨"TwoGoatsModel", "runs", "(II)I"⟩, 29) := ⟨⟨by decide +kernel, by decide +kernel⟩, List.mem_of_getElem? (i := 652) (by decide +kernel), List.mem_of_getElem? (i := 867) (by decide +kernel), List.mem_of_getElem? (i := 868) (by decide +kernel)⟩
theorem lw_p28 : lw_okq (⟨"TwoGoatsModel", "begins", "(I)V"⟩, 29) := ⟨⟨by decide +kernel, by decide +kernel⟩, List.mem_of_getElem? (i := 652) (by decide +kernel), List.mem_of_getElem? (i := 871) (by decide +kernel), List.mem_of_getElem? (i := 872) (by decide +kernel)⟩
theorem lw_p29 : lw_okq (⟨"TwoGoatsModel", "stepOf", "(II)I"⟩, 29) := ⟨⟨by decide +kernel, by decide +kernel⟩, List.mem_of_getElem? (i := 652) (by decide +kernel), List.mem_of_getElem? (i := 875) (by decide +kernel), List.mem_of_getElem? (i := 876) (by decide +kernel)⟩
theorem lw_p30 : lw_okq (⟨"TwoGoatsModel", "touches", "(II)Z"⟩, 29) := ⟨⟨by decide +kernel, by decide +kernel⟩, List.mem_of_getElem? (i := 652) (by decide +kernel), List.mem_of_getElem? (i := 883) (by decide +kernel), List.mem_of_getElem? (i := 884) (by decide +kernel)⟩
theorem lw_p31 : lw_okq (⟨"TwoGoatsModel", "isBorne", "(I)Z"⟩, 29) := ⟨⟨by decide +kernel, by decide +kernel⟩, List.mem_of_getElem? (i := 652) (by decide +kernel), List.mem_of_getElem? (i := 887) (by decide +kernel), List.mem_of_getElem? (i := 888) (by decide +kernel)⟩
def lw_privs_2 : List (MethodName × Nat) := [(⟨"TwoGoats$Turns", "gainByStep", "(IIII)I"⟩, 4), (⟨"TwoGoats$Sheet", "cut", "(I)I"⟩, 3), (⟨"TwoGoatsModel", "met", "(I)I"⟩, 29), (⟨"TwoGoatsModel", "lacks", "(III)I"⟩, 29), (⟨"TwoGoatsModel", "reads", "()I"⟩, 29), (⟨"TwoGoatsModel", "readsPart", "()Z"⟩, 29), (⟨"TwoGoatsModel", "here", "()I"⟩, 29), (⟨"TwoGoatsModel", "none", "()I"⟩, 29), (⟨"TwoGoatsModel", "isPath", "(I)Z"⟩, 29), (⟨"TwoGoatsModel", "judgedOf", "(I)I"⟩, 29), (⟨"TwoGoatsModel", "done", "(I)I"⟩, 29), (⟨"TwoGoatsModel", "runs", "(II)I"⟩, 29), (⟨"TwoGoatsModel", "begins", "(I)V"⟩, 29), (⟨"TwoGoatsModel", "stepOf", "(II)I"⟩, 29), (⟨"TwoGoatsModel", "touches", "(II)Z"⟩, 29), (⟨"TwoGoatsModel", "isBorne", "(I)Z"⟩, 29)]
theorem lw_r2 : ∀ q ∈ lw_privs_2, lw_okq q := List.forall_mem_cons.mpr ⟨lw_p16, List.forall_mem_cons.mpr ⟨lw_p17, List.forall_mem_cons.mpr ⟨lw_p18, List.forall_mem_cons.mpr ⟨lw_p19, List.forall_mem_cons.mpr ⟨lw_p20, List.forall_mem_cons.mpr ⟨lw_p21, List.forall_mem_cons.mpr ⟨lw_p22, List.forall_mem_cons.mpr ⟨lw_p23, List.forall_mem_cons.mpr ⟨lw_p24, List.forall_mem_cons.mpr ⟨lw_p25, List.forall_mem_cons.mpr ⟨lw_p26, List.forall_mem_cons.mpr ⟨lw_p27, List.forall_mem_cons.mpr ⟨lw_p28, List.forall_mem_cons.mpr ⟨lw_p29, List.forall_mem_cons.mpr ⟨lw_p30, List.forall_mem_cons.mpr ⟨lw_p31, fun _ h => absurd h List.not_mem_nil⟩⟩⟩⟩⟩⟩⟩⟩⟩⟩⟩⟩⟩⟩⟩⟩
theorem lw_p32 : lw_okq (⟨"TwoGoatsModel", "lengthBehind", "(II)I"⟩, 29) := ⟨⟨by decide +kernel, by decide +kernel⟩, List.mem_of_getElem? (i := 652) (by decide +kernel), List.mem_of_getElem? (i := 891) (by decide +kernel), List.mem_of_getElem? (i := 892) (by decide +kernel)⟩
theorem lw_p33 : lw_okq (⟨"TwoGoatsModel", "next", "(I)I"⟩, 29) := ⟨⟨by decide +kernel, by decide +kernel⟩, List.mem_of_getElem? (i := 652) (by decide +kernel), List.mem_of_getElem? (i := 895) (by decide +kernel), List.mem_of_getElem? (i := 896) (by decide +kernel)⟩
theorem lw_p34 : lw_okq (⟨"TwoGoatsModel", "does", "(I)V"⟩, 29) := ⟨⟨by decide +kernel, by decide +kernel⟩, List.mem_of_getElem? (i := 652) (by decide +kernel), List.mem_of_getElem? (i := 899) (by decide +kernel), List.mem_of_getElem? (i := 900) (by decide +kernel)⟩
theorem lw_p35 : lw_okq (⟨"TwoGoatsModel", "goes", "(II)V"⟩, 29) := ⟨⟨by decide +kernel, by decide +kernel⟩, List.mem_of_getElem? (i := 652) (by decide +kernel), List.mem_of_getElem? (i := 903) (by decide +kernel), List.mem_of_getElem? (i := 904) (by decide +kernel)⟩
theorem lw_p36 : lw_okq (⟨"TwoGoatsModel", "otherEnd", "(II)I"⟩, 29) := ⟨⟨by decide +kernel, by decide +kernel⟩, List.mem_of_getElem? (i := 652) (by decide +kernel), List.mem_of_getElem? (i := 907) (by decide +kernel), List.mem_of_getElem? (i := 908) (by decide +kernel)⟩
theorem lw_p37 : lw_okq (⟨"TwoGoatsModel", "isSo", "(II)Z"⟩, 29) := ⟨⟨by decide +kernel, by decide +kernel⟩, List.mem_of_getElem? (i := 652) (by decide +kernel), List.mem_of_getElem? (i := 915) (by decide +kernel), List.mem_of_getElem? (i := 916) (by decide +kernel)⟩
theorem lw_p38 : lw_okq (⟨"TwoGoatsModel", "stateNow", "(I)I"⟩, 29) := ⟨⟨by decide +kernel, by decide +kernel⟩, List.mem_of_getElem? (i := 652) (by decide +kernel), List.mem_of_getElem? (i := 919) (by decide +kernel), List.mem_of_getElem? (i := 920) (by decide +kernel)⟩
theorem lw_p39 : lw_okq (⟨"TwoGoatsModel", "needsOf", "(I)I"⟩, 29) := ⟨⟨by decide +kernel, by decide +kernel⟩, List.mem_of_getElem? (i := 652) (by decide +kernel), List.mem_of_getElem? (i := 931) (by decide +kernel), List.mem_of_getElem? (i := 932) (by decide +kernel)⟩
theorem lw_p40 : lw_okq (⟨"TwoGoatsModel", "soonOf", "(III)I"⟩, 29) := ⟨⟨by decide +kernel, by decide +kernel⟩, List.mem_of_getElem? (i := 652) (by decide +kernel), List.mem_of_getElem? (i := 939) (by decide +kernel), List.mem_of_getElem? (i := 940) (by decide +kernel)⟩
theorem lw_p41 : lw_okq (⟨"TwoGoatsModel", "wayNow", "()J"⟩, 29) := ⟨⟨by decide +kernel, by decide +kernel⟩, List.mem_of_getElem? (i := 652) (by decide +kernel), List.mem_of_getElem? (i := 943) (by decide +kernel), List.mem_of_getElem? (i := 944) (by decide +kernel)⟩
theorem lw_p42 : lw_okq (⟨"TwoGoatsModel", "keepsWay", "(J)V"⟩, 29) := ⟨⟨by decide +kernel, by decide +kernel⟩, List.mem_of_getElem? (i := 652) (by decide +kernel), List.mem_of_getElem? (i := 947) (by decide +kernel), List.mem_of_getElem? (i := 948) (by decide +kernel)⟩
theorem lw_p43 : lw_okq (⟨"TwoGoatsModel", "comesTo", "(J)V"⟩, 29) := ⟨⟨by decide +kernel, by decide +kernel⟩, List.mem_of_getElem? (i := 652) (by decide +kernel), List.mem_of_getElem? (i := 951) (by decide +kernel), List.mem_of_getElem? (i := 952) (by decide +kernel)⟩
theorem lw_p44 : lw_okq (⟨"TwoGoatsModel", "looseOf", "(I)I"⟩, 29) := ⟨⟨by decide +kernel, by decide +kernel⟩, List.mem_of_getElem? (i := 652) (by decide +kernel), List.mem_of_getElem? (i := 960) (by decide +kernel), List.mem_of_getElem? (i := 961) (by decide +kernel)⟩
theorem lw_p45 : lw_okq (⟨"TwoGoatsModel", "pulledOf", "(IIII)I"⟩, 29) := ⟨⟨by decide +kernel, by decide +kernel⟩, List.mem_of_getElem? (i := 652) (by decide +kernel), List.mem_of_getElem? (i := 968) (by decide +kernel), List.mem_of_getElem? (i := 969) (by decide +kernel)⟩
theorem lw_p46 : lw_okq (⟨"TwoGoatsModel", "haveLikeEnds", "(II)Z"⟩, 29) := ⟨⟨by decide +kernel, by decide +kernel⟩, List.mem_of_getElem? (i := 652) (by decide +kernel), List.mem_of_getElem? (i := 972) (by decide +kernel), List.mem_of_getElem? (i := 973) (by decide +kernel)⟩
theorem lw_p47 : lw_okq (⟨"TwoGoatsModel", "beganOf", "(II)I"⟩, 29) := ⟨⟨by decide +kernel, by decide +kernel⟩, List.mem_of_getElem? (i := 652) (by decide +kernel), List.mem_of_getElem? (i := 980) (by decide +kernel), List.mem_of_getElem? (i := 981) (by decide +kernel)⟩
def lw_privs_3 : List (MethodName × Nat) := [(⟨"TwoGoatsModel", "lengthBehind", "(II)I"⟩, 29), (⟨"TwoGoatsModel", "next", "(I)I"⟩, 29), (⟨"TwoGoatsModel", "does", "(I)V"⟩, 29), (⟨"TwoGoatsModel", "goes", "(II)V"⟩, 29), (⟨"TwoGoatsModel", "otherEnd", "(II)I"⟩, 29), (⟨"TwoGoatsModel", "isSo", "(II)Z"⟩, 29), (⟨"TwoGoatsModel", "stateNow", "(I)I"⟩, 29), (⟨"TwoGoatsModel", "needsOf", "(I)I"⟩, 29), (⟨"TwoGoatsModel", "soonOf", "(III)I"⟩, 29), (⟨"TwoGoatsModel", "wayNow", "()J"⟩, 29), (⟨"TwoGoatsModel", "keepsWay", "(J)V"⟩, 29), (⟨"TwoGoatsModel", "comesTo", "(J)V"⟩, 29), (⟨"TwoGoatsModel", "looseOf", "(I)I"⟩, 29), (⟨"TwoGoatsModel", "pulledOf", "(IIII)I"⟩, 29), (⟨"TwoGoatsModel", "haveLikeEnds", "(II)Z"⟩, 29), (⟨"TwoGoatsModel", "beganOf", "(II)I"⟩, 29)]
theorem lw_r3 : ∀ q ∈ lw_privs_3, lw_okq q := List.forall_mem_cons.mpr ⟨lw_p32, List.forall_mem_cons.mpr ⟨lw_p33, List.forall_mem_cons.mpr ⟨lw_p34, List.forall_mem_cons.mpr ⟨lw_p35, List.forall_mem_cons.mpr ⟨lw_p36, List.forall_mem_cons.mpr ⟨lw_p37, List.forall_mem_cons.mpr ⟨lw_p38, List.forall_mem_cons.mpr ⟨lw_p39, List.forall_mem_cons.mpr ⟨lw_p40, List.forall_mem_cons.mpr ⟨lw_p41, List.forall_mem_cons.mpr ⟨lw_p42, List.forall_mem_cons.mpr ⟨lw_p43, List.forall_mem_cons.mpr ⟨lw_p44, List.forall_mem_cons.mpr ⟨lw_p45, List.forall_mem_cons.mpr ⟨lw_p46, List.forall_mem_cons.mpr ⟨lw_p47, fun _ h => absurd h List.not_mem_nil⟩⟩⟩⟩⟩⟩⟩⟩⟩⟩⟩⟩⟩⟩⟩⟩
theorem lw_p48 : lw_okq (⟨"TwoGoatsModel", "gameOf", "(III)I"⟩, 29) := ⟨⟨by decide +kernel, by decide +kernel⟩, List.mem_of_getElem? (i := 652) (by decide +kernel), List.mem_of_getElem? (i := 990) (by decide +kernel), List.mem_of_getElem? (i := 991) (by decide +kernel)⟩
theorem lw_p49 : lw_okq (⟨"TwoGoatsModel", "enters", "(IJII)V"⟩, 29) := ⟨⟨by decide +kernel, by decide +kernel⟩, List.mem_of_getElem? (i := 652) (by decide +kernel), List.mem_of_getElem? (i := 994) (by decide +kernel), List.mem_of_getElem? (i := 995) (by decide +kernel)⟩
theorem lw_p50 : lw_okq (⟨"TwoGoatsModel", "mayPick", "(II)Z"⟩, 29) := ⟨⟨by decide +kernel, by decide +kernel⟩, List.mem_of_getElem? (i := 652) (by decide +kernel), List.mem_of_getElem? (i := 998) (by decide +kernel), List.mem_of_getElem? (i := 999) (by decide +kernel)⟩
theorem lw_p51 : lw_okq (⟨"TwoGoatsModel", "alikeNow", "()I"⟩, 29) := ⟨⟨by decide +kernel, by decide +kernel⟩, List.mem_of_getElem? (i := 652) (by decide +kernel), List.mem_of_getElem? (i := 1006) (by decide +kernel), List.mem_of_getElem? (i := 1007) (by decide +kernel)⟩
def lw_privs_4 : List (MethodName × Nat) := [(⟨"TwoGoatsModel", "gameOf", "(III)I"⟩, 29), (⟨"TwoGoatsModel", "enters", "(IJII)V"⟩, 29), (⟨"TwoGoatsModel", "mayPick", "(II)Z"⟩, 29), (⟨"TwoGoatsModel", "alikeNow", "()I"⟩, 29)]
theorem lw_r4 : ∀ q ∈ lw_privs_4, lw_okq q := List.forall_mem_cons.mpr ⟨lw_p48, List.forall_mem_cons.mpr ⟨lw_p49, List.forall_mem_cons.mpr ⟨lw_p50, List.forall_mem_cons.mpr ⟨lw_p51, fun _ h => absurd h List.not_mem_nil⟩⟩⟩⟩
def lw_privs : List (MethodName × Nat) := lw_privs_1 ++ (lw_privs_2 ++ (lw_privs_3 ++ (lw_privs_4)))
def lw_tbl : List Cond := k2_sels lw_privs ++ tables_1
theorem lw_privs_ok : ∀ q ∈ lw_privs, lw_okq q := by
  show ∀ q ∈ lw_privs_1 ++ (lw_privs_2 ++ (lw_privs_3 ++ (lw_privs_4))), lw_okq q
  exact List.forall_mem_append.mpr ⟨lw_r1, List.forall_mem_append.mpr ⟨lw_r2, List.forall_mem_append.mpr ⟨lw_r3, lw_r4⟩⟩⟩
/-! ===== BEGIN words of one list among another's, by their places ===== -/
/-! ===== END ===== -/
/-! ===== BEGIN printed: names, fields, word lists, decode rows ===== -/
def RX0 : String := "TwoGoats$Day"
def TX0 : u_T := fun k => match k with
  | 0 => ("TwoGoats$Day", "meadow", "LTwoGoats$Meadow;", true)
  | 1 => ("TwoGoats$Day", "text", "LTwoGoats$Text;", true)
  | 2 => ("TwoGoats$Day", "goats", "LTwoGoats$Goats;", true)
  | 3 => ("TwoGoats$Day", "ate", "[I", true)
  | 4 => ("TwoGoats$Day", "dragged", "[I", true)
  | 5 => ("TwoGoats$Day", "startPlace", "I", false)
  | 6 => ("TwoGoats$Day", "bare", "I", false)
  | _ => ("TwoGoats$Day", "done", "I", false)
def tyX0 : Nat → FieldType := fun k => match k with
  | 0 => .object "TwoGoats$Meadow"
  | 1 => .object "TwoGoats$Text"
  | 2 => .object "TwoGoats$Goats"
  | 3 => .array .int
  | 4 => .array .int
  | 5 => .int
  | 6 => .int
  | _ => .int
abbrev wsX00 : List Cond := u_ws RX0 TX0 8
theorem nmX0 : ∀ a, a < 8 → ∀ b, b < 8 → a ≠ b → (TX0 a).2.1 ≠ (TX0 b).2.1 := by decide +kernel
theorem tyX0_ok : ∀ k, k < 8 → parseFieldDescriptor (TX0 k).2.2.1 = some (tyX0 k) := by decide +kernel
abbrev cX0_init : ByteArray := prog_2_method_1_code
def yX0_init : MethodName := ⟨RX0, "<init>", "(LTwoGoats$Meadow;)V"⟩
abbrev cX0_walk : ByteArray := prog_2_method_2_code
def yX0_walk : MethodName := ⟨RX0, "walk", "(I)V"⟩
abbrev cX0_doStep : ByteArray := prog_2_method_3_code
def yX0_doStep : MethodName := ⟨RX0, "doStep", "(I)Z"⟩
abbrev cX0_drag : ByteArray := prog_2_method_4_code
def yX0_drag : MethodName := ⟨RX0, "drag", "(I)V"⟩
abbrev cX0_eat : ByteArray := prog_2_method_5_code
def yX0_eat : MethodName := ⟨RX0, "eat", "(I)V"⟩
abbrev cX0_told : ByteArray := prog_2_method_6_code
def yX0_told : MethodName := ⟨RX0, "told", "(I)I"⟩
abbrev cX0_longestUnbound : ByteArray := prog_2_method_7_code
def yX0_longestUnbound : MethodName := ⟨RX0, "longestUnbound", "()I"⟩
def RX1 : String := "TwoGoats$Goats"
def TX1 : u_T := fun k => match k with
  | 0 => ("TwoGoats$Goats", "meadow", "LTwoGoats$Meadow;", true)
  | 1 => ("TwoGoats$Goats", "place", "[I", true)
  | 2 => ("TwoGoats$Goats", "ring", "[I", true)
  | 3 => ("TwoGoats$Goats", "head", "I", false)
  | 4 => ("TwoGoats$Goats", "size", "I", false)
  | _ => ("TwoGoats$Goats", "length", "I", false)
def tyX1 : Nat → FieldType := fun k => match k with
  | 0 => .object "TwoGoats$Meadow"
  | 1 => .array .int
  | 2 => .array .int
  | 3 => .int
  | 4 => .int
  | _ => .int
abbrev wsX10 : List Cond := u_ws RX1 TX1 6
theorem nmX1 : ∀ a, a < 6 → ∀ b, b < 6 → a ≠ b → (TX1 a).2.1 ≠ (TX1 b).2.1 := by decide +kernel
theorem tyX1_ok : ∀ k, k < 6 → parseFieldDescriptor (TX1 k).2.2.1 = some (tyX1 k) := by decide +kernel
abbrev cX1_init : ByteArray := prog_3_method_1_code
def yX1_init : MethodName := ⟨RX1, "<init>", "(LTwoGoats$Meadow;)V"⟩
abbrev cX1_standBoth : ByteArray := prog_3_method_2_code
def yX1_standBoth : MethodName := ⟨RX1, "standBoth", "(I)V"⟩
abbrev cX1_become : ByteArray := prog_3_method_3_code
def yX1_become : MethodName := ⟨RX1, "become", "(LTwoGoats$Goats;)V"⟩
abbrev cX1_relay : ByteArray := prog_3_method_4_code
def yX1_relay : MethodName := ⟨RX1, "relay", "(LTwoGoats$Goats;II)V"⟩
abbrev cX1_pathAt : ByteArray := prog_3_method_5_code
def yX1_pathAt : MethodName := ⟨RX1, "pathAt", "(I)I"⟩
abbrev cX1_nextTo : ByteArray := prog_3_method_6_code
def yX1_nextTo : MethodName := ⟨RX1, "nextTo", "(I)I"⟩
abbrev cX1_canGo : ByteArray := prog_3_method_7_code
def yX1_canGo : MethodName := ⟨RX1, "canGo", "(II)Z"⟩
abbrev cX1_go : ByteArray := prog_3_method_8_code
def yX1_go : MethodName := ⟨RX1, "go", "(II)V"⟩
abbrev cX1_takeUp : ByteArray := prog_3_method_9_code
def yX1_takeUp : MethodName := ⟨RX1, "takeUp", "(I)V"⟩
abbrev cX1_layDown : ByteArray := prog_3_method_10_code
def yX1_layDown : MethodName := ⟨RX1, "layDown", "(II)V"⟩
abbrev cX1_standsAs : ByteArray := prog_3_method_11_code
def yX1_standsAs : MethodName := ⟨RX1, "standsAs", "(LTwoGoats$Goats;)Z"⟩
abbrev cX1_liesAs : ByteArray := prog_3_method_12_code
def yX1_liesAs : MethodName := ⟨RX1, "liesAs", "(LTwoGoats$Goats;)Z"⟩
abbrev cX1_stepsOff : ByteArray := prog_3_method_13_code
def yX1_stepsOff : MethodName := ⟨RX1, "stepsOff", "(I)I"⟩
abbrev cX1_asKey : ByteArray := prog_3_method_14_code
def yX1_asKey : MethodName := ⟨RX1, "asKey", "()J"⟩
abbrev cX1_becomeKey : ByteArray := prog_3_method_15_code
def yX1_becomeKey : MethodName := ⟨RX1, "becomeKey", "(J)V"⟩
def RX2 : String := "TwoGoats$Meadow"
def TX2 : u_T := fun k => match k with
  | 0 => ("TwoGoats$Meadow", "text", "LTwoGoats$Text;", true)
  | 1 => ("TwoGoats$Meadow", "heavy", "[I", true)
  | 2 => ("TwoGoats$Meadow", "worth", "[I", true)
  | 3 => ("TwoGoats$Meadow", "steps", "[I", true)
  | 4 => ("TwoGoats$Meadow", "oneEnd", "[I", true)
  | 5 => ("TwoGoats$Meadow", "otherEnd", "[I", true)
  | 6 => ("TwoGoats$Meadow", "yards", "[I", true)
  | 7 => ("TwoGoats$Meadow", "reach", "I", false)
  | 8 => ("TwoGoats$Meadow", "paths", "I", false)
  | _ => ("TwoGoats$Meadow", "faultPlace", "I", false)
def tyX2 : Nat → FieldType := fun k => match k with
  | 0 => .object "TwoGoats$Text"
  | 1 => .array .int
  | 2 => .array .int
  | 3 => .array .int
  | 4 => .array .int
  | 5 => .array .int
  | 6 => .array .int
  | 7 => .int
  | 8 => .int
  | _ => .int
abbrev wsX20 : List Cond := u_ws RX2 TX2 10
theorem nmX2 : ∀ a, a < 10 → ∀ b, b < 10 → a ≠ b → (TX2 a).2.1 ≠ (TX2 b).2.1 := by decide +kernel
theorem tyX2_ok : ∀ k, k < 10 → parseFieldDescriptor (TX2 k).2.2.1 = some (tyX2 k) := by decide +kernel
abbrev cX2_init : ByteArray := prog_4_method_1_code
def yX2_init : MethodName := ⟨RX2, "<init>", "()V"⟩
abbrev cX2_survey : ByteArray := prog_4_method_2_code
def yX2_survey : MethodName := ⟨RX2, "survey", "()V"⟩
abbrev cX2_firstFault : ByteArray := prog_4_method_3_code
def yX2_firstFault : MethodName := ⟨RX2, "firstFault", "()I"⟩
abbrev cX2_fits : ByteArray := prog_4_method_4_code
def yX2_fits : MethodName := ⟨RX2, "fits", "(I)Z"⟩
abbrev cX2_isPlace : ByteArray := prog_4_method_5_code
def yX2_isPlace : MethodName := ⟨RX2, "isPlace", "(I)Z"⟩
abbrev cX2_figure : ByteArray := prog_4_method_6_code
def yX2_figure : MethodName := ⟨RX2, "figure", "(II)I"⟩
abbrev cX2_leadsFrom : ByteArray := prog_4_method_7_code
def yX2_leadsFrom : MethodName := ⟨RX2, "leadsFrom", "(II)Z"⟩
abbrev cX2_across : ByteArray := prog_4_method_8_code
def yX2_across : MethodName := ⟨RX2, "across", "(II)I"⟩
abbrev cX2_yardsOf : ByteArray := prog_4_method_9_code
def yX2_yardsOf : MethodName := ⟨RX2, "yardsOf", "(I)I"⟩
abbrev cX2_haveSameEnds : ByteArray := prog_4_method_10_code
def yX2_haveSameEnds : MethodName := ⟨RX2, "haveSameEnds", "(II)Z"⟩
abbrev cX2_shorter : ByteArray := prog_4_method_11_code
def yX2_shorter : MethodName := ⟨RX2, "shorter", "(II)I"⟩
abbrev cX2_isHeavier : ByteArray := prog_4_method_12_code
def yX2_isHeavier : MethodName := ⟨RX2, "isHeavier", "(I)Z"⟩
abbrev cX2_allYards : ByteArray := prog_4_method_13_code
def yX2_allYards : MethodName := ⟨RX2, "allYards", "()I"⟩
abbrev cX2_worthBeside : ByteArray := prog_4_method_14_code
def yX2_worthBeside : MethodName := ⟨RX2, "worthBeside", "(I)I"⟩
abbrev cX2_worthAt : ByteArray := prog_4_method_15_code
def yX2_worthAt : MethodName := ⟨RX2, "worthAt", "(II)I"⟩
abbrev cX2_measureFrom : ByteArray := prog_4_method_16_code
def yX2_measureFrom : MethodName := ⟨RX2, "measureFrom", "(I)V"⟩
abbrev cX2_measureAcross : ByteArray := prog_4_method_17_code
def yX2_measureAcross : MethodName := ⟨RX2, "measureAcross", "(III)V"⟩
def RX3 : String := "TwoGoats$Search"
def TX3 : u_T := fun k => match k with
  | 0 => ("TwoGoats$Search", "meadow", "LTwoGoats$Meadow;", true)
  | 1 => ("TwoGoats$Search", "goats", "LTwoGoats$Goats;", true)
  | 2 => ("TwoGoats$Search", "ways", "[J", true)
  | 3 => ("TwoGoats$Search", "slots", "[I", true)
  | _ => ("TwoGoats$Search", "known", "I", false)
def tyX3 : Nat → FieldType := fun k => match k with
  | 0 => .object "TwoGoats$Meadow"
  | 1 => .object "TwoGoats$Goats"
  | 2 => .array .long
  | 3 => .array .int
  | _ => .int
abbrev wsX30 : List Cond := u_ws RX3 TX3 5
theorem nmX3 : ∀ a, a < 5 → ∀ b, b < 5 → a ≠ b → (TX3 a).2.1 ≠ (TX3 b).2.1 := by decide +kernel
theorem tyX3_ok : ∀ k, k < 5 → parseFieldDescriptor (TX3 k).2.2.1 = some (tyX3 k) := by decide +kernel
abbrev cX3_init : ByteArray := prog_5_method_1_code
def yX3_init : MethodName := ⟨RX3, "<init>", "(LTwoGoats$Meadow;)V"⟩
abbrev cX3_fewest : ByteArray := prog_5_method_2_code
def yX3_fewest : MethodName := ⟨RX3, "fewest", "(LTwoGoats$Goats;II)I"⟩
abbrev cX3_stand : ByteArray := prog_5_method_3_code
def yX3_stand : MethodName := ⟨RX3, "stand", "(LTwoGoats$Goats;II)Z"⟩
abbrev cX3_leadsTo : ByteArray := prog_5_method_4_code
def yX3_leadsTo : MethodName := ⟨RX3, "leadsTo", "(JII)Z"⟩
abbrev cX3_note : ByteArray := prog_5_method_5_code
def yX3_note : MethodName := ⟨RX3, "note", "(J)V"⟩
def RX4 : String := "TwoGoats$Sheet"
def TX4 : u_T := fun k => match k with
  | 0 => ("TwoGoats$Sheet", "items", "[I", true)
  | 1 => ("TwoGoats$Sheet", "form", "I", false)
  | _ => ("TwoGoats$Sheet", "size", "I", false)
def tyX4 : Nat → FieldType := fun k => match k with
  | 0 => .array .int
  | 1 => .int
  | _ => .int
abbrev wsX40 : List Cond := u_ws RX4 TX4 3
theorem nmX4 : ∀ a, a < 3 → ∀ b, b < 3 → a ≠ b → (TX4 a).2.1 ≠ (TX4 b).2.1 := by decide +kernel
theorem tyX4_ok : ∀ k, k < 3 → parseFieldDescriptor (TX4 k).2.2.1 = some (tyX4 k) := by decide +kernel
abbrev cX4_init : ByteArray := prog_6_method_1_code
def yX4_init : MethodName := ⟨RX4, "<init>", "()V"⟩
abbrev cX4_renew : ByteArray := prog_6_method_2_code
def yX4_renew : MethodName := ⟨RX4, "renew", "(II)V"⟩
abbrev cX4_hasItems : ByteArray := prog_6_method_3_code
def yX4_hasItems : MethodName := ⟨RX4, "hasItems", "(II)Z"⟩
abbrev cX4_findsAt : ByteArray := prog_6_method_4_code
def yX4_findsAt : MethodName := ⟨RX4, "findsAt", "(II)I"⟩
abbrev cX4_item : ByteArray := prog_6_method_5_code
def yX4_item : MethodName := ⟨RX4, "item", "(I)I"⟩
abbrev cX4_put : ByteArray := prog_6_method_6_code
def yX4_put : MethodName := ⟨RX4, "put", "(II)V"⟩
abbrev cX4_cut : ByteArray := prog_6_method_7_code
def yX4_cut : MethodName := ⟨RX4, "cut", "(I)I"⟩
def RX5 : String := "TwoGoats$Text"
def TX5 : u_T := fun k => match k with
  | 0 => ("TwoGoats$Text", "bytes", "[I", true)
  | _ => ("TwoGoats$Text", "size", "I", false)
def tyX5 : Nat → FieldType := fun k => match k with
  | 0 => .array .int
  | _ => .int
abbrev wsX50 : List Cond := u_ws RX5 TX5 2
theorem nmX5 : ∀ a, a < 2 → ∀ b, b < 2 → a ≠ b → (TX5 a).2.1 ≠ (TX5 b).2.1 := by decide +kernel
theorem tyX5_ok : ∀ k, k < 2 → parseFieldDescriptor (TX5 k).2.2.1 = some (tyX5 k) := by decide +kernel
abbrev cX5_init : ByteArray := prog_7_method_1_code
def yX5_init : MethodName := ⟨RX5, "<init>", "()V"⟩
abbrev cX5_add : ByteArray := prog_7_method_2_code
def yX5_add : MethodName := ⟨RX5, "add", "(I)V"⟩
abbrev cX5_byteAt : ByteArray := prog_7_method_3_code
def yX5_byteAt : MethodName := ⟨RX5, "byteAt", "(I)I"⟩
def RX6 : String := "TwoGoats$Turns"
def TX6 : u_T := fun k => match k with
  | 0 => ("TwoGoats$Turns", "meadow", "LTwoGoats$Meadow;", true)
  | 1 => ("TwoGoats$Turns", "goats", "LTwoGoats$Goats;", true)
  | 2 => ("TwoGoats$Turns", "bare", "I", false)
  | _ => ("TwoGoats$Turns", "chosen", "I", false)
def tyX6 : Nat → FieldType := fun k => match k with
  | 0 => .object "TwoGoats$Meadow"
  | 1 => .object "TwoGoats$Goats"
  | 2 => .int
  | _ => .int
abbrev wsX60 : List Cond := u_ws RX6 TX6 4
theorem nmX6 : ∀ a, a < 4 → ∀ b, b < 4 → a ≠ b → (TX6 a).2.1 ≠ (TX6 b).2.1 := by decide +kernel
theorem tyX6_ok : ∀ k, k < 4 → parseFieldDescriptor (TX6 k).2.2.1 = some (tyX6 k) := by decide +kernel
abbrev cX6_init : ByteArray := prog_8_method_1_code
def yX6_init : MethodName := ⟨RX6, "<init>", "(LTwoGoats$Meadow;)V"⟩
abbrev cX6_play : ByteArray := prog_8_method_2_code
def yX6_play : MethodName := ⟨RX6, "play", "(LTwoGoats$Day;I)I"⟩
abbrev cX6_gain : ByteArray := prog_8_method_3_code
def yX6_gain : MethodName := ⟨RX6, "gain", "(IIII)I"⟩
abbrev cX6_gainByStep : ByteArray := prog_8_method_4_code
def yX6_gainByStep : MethodName := ⟨RX6, "gainByStep", "(IIII)I"⟩
def RX7 : String := "TwoGoats"
def TX7 : u_T := fun k => match k with
  | 0 => ("TwoGoats", "meadow", "LTwoGoats$Meadow;", true)
  | 1 => ("TwoGoats", "firstDay", "LTwoGoats$Day;", true)
  | 2 => ("TwoGoats", "secondDay", "LTwoGoats$Day;", true)
  | 3 => ("TwoGoats", "search", "LTwoGoats$Search;", true)
  | 4 => ("TwoGoats", "turns", "LTwoGoats$Turns;", true)
  | 5 => ("TwoGoats", "relaid", "LTwoGoats$Goats;", true)
  | 6 => ("TwoGoats", "sheets", "[LTwoGoats$Sheet;", true)
  | _ => ("TwoGoats", "finding", "I", false)
def tyX7 : Nat → FieldType := fun k => match k with
  | 0 => .object "TwoGoats$Meadow"
  | 1 => .object "TwoGoats$Day"
  | 2 => .object "TwoGoats$Day"
  | 3 => .object "TwoGoats$Search"
  | 4 => .object "TwoGoats$Turns"
  | 5 => .object "TwoGoats$Goats"
  | 6 => .array (.object "TwoGoats$Sheet")
  | _ => .int
abbrev wsX70 : List Cond := u_ws RX7 TX7 8
theorem nmX7 : ∀ a, a < 8 → ∀ b, b < 8 → a ≠ b → (TX7 a).2.1 ≠ (TX7 b).2.1 := by decide +kernel
theorem tyX7_ok : ∀ k, k < 8 → parseFieldDescriptor (TX7 k).2.2.1 = some (tyX7 k) := by decide +kernel
abbrev cX7_init : ByteArray := prog_1_method_1_code
def yX7_init : MethodName := ⟨RX7, "<init>", "()V"⟩
abbrev cX7_type : ByteArray := prog_1_method_2_code
def yX7_type : MethodName := ⟨RX7, "type", "(II)I"⟩
abbrev cX7_wipe : ByteArray := prog_1_method_3_code
def yX7_wipe : MethodName := ⟨RX7, "wipe", "(I)I"⟩
abbrev cX7_fault : ByteArray := prog_1_method_4_code
def yX7_fault : MethodName := ⟨RX7, "fault", "()I"⟩
abbrev cX7_path : ByteArray := prog_1_method_5_code
def yX7_path : MethodName := ⟨RX7, "path", "(II)I"⟩
abbrev cX7_start : ByteArray := prog_1_method_6_code
def yX7_start : MethodName := ⟨RX7, "start", "(II)I"⟩
abbrev cX7_set : ByteArray := prog_1_method_7_code
def yX7_set : MethodName := ⟨RX7, "set", "(II)I"⟩
abbrev cX7_setHeavy : ByteArray := prog_1_method_8_code
def yX7_setHeavy : MethodName := ⟨RX7, "setHeavy", "(II)I"⟩
abbrev cX7_thistle : ByteArray := prog_1_method_9_code
def yX7_thistle : MethodName := ⟨RX7, "thistle", "(II)I"⟩
abbrev cX7_read : ByteArray := prog_1_method_10_code
def yX7_read : MethodName := ⟨RX7, "read", "(II)I"⟩
abbrev cX7_undo : ByteArray := prog_1_method_11_code
def yX7_undo : MethodName := ⟨RX7, "undo", "(I)I"⟩
abbrev cX7_judged : ByteArray := prog_1_method_12_code
def yX7_judged : MethodName := ⟨RX7, "judged", "(I)I"⟩
abbrev cX7_state : ByteArray := prog_1_method_13_code
def yX7_state : MethodName := ⟨RX7, "state", "(III)I"⟩
abbrev cX7_rope : ByteArray := prog_1_method_14_code
def yX7_rope : MethodName := ⟨RX7, "rope", "(III)I"⟩
abbrev cX7_needs : ByteArray := prog_1_method_15_code
def yX7_needs : MethodName := ⟨RX7, "needs", "(I)I"⟩
abbrev cX7_soon : ByteArray := prog_1_method_16_code
def yX7_soon : MethodName := ⟨RX7, "soon", "(III)I"⟩
abbrev cX7_loose : ByteArray := prog_1_method_17_code
def yX7_loose : MethodName := ⟨RX7, "loose", "(I)I"⟩
abbrev cX7_pulled : ByteArray := prog_1_method_18_code
def yX7_pulled : MethodName := ⟨RX7, "pulled", "(IIII)I"⟩
abbrev cX7_began : ByteArray := prog_1_method_19_code
def yX7_began : MethodName := ⟨RX7, "began", "(II)I"⟩
abbrev cX7_game : ByteArray := prog_1_method_20_code
def yX7_game : MethodName := ⟨RX7, "game", "(III)I"⟩
abbrev cX7_alike : ByteArray := prog_1_method_21_code
def yX7_alike : MethodName := ⟨RX7, "alike", "()I"⟩
abbrev cX7_sheet : ByteArray := prog_1_method_22_code
def yX7_sheet : MethodName := ⟨RX7, "sheet", "(III)I"⟩
abbrev cX7_lose : ByteArray := prog_1_method_23_code
def yX7_lose : MethodName := ⟨RX7, "lose", "(I)I"⟩
abbrev cX7_lay : ByteArray := prog_1_method_24_code
def yX7_lay : MethodName := ⟨RX7, "lay", "(IIII)I"⟩
abbrev cX7_get : ByteArray := prog_1_method_25_code
def yX7_get : MethodName := ⟨RX7, "get", "(III)I"⟩
abbrev cX7_copy : ByteArray := prog_1_method_26_code
def yX7_copy : MethodName := ⟨RX7, "copy", "(IIIII)I"⟩
abbrev cX7_write : ByteArray := prog_1_method_27_code
def yX7_write : MethodName := ⟨RX7, "write", "(II)I"⟩
abbrev cX7_count : ByteArray := prog_1_method_28_code
def yX7_count : MethodName := ⟨RX7, "count", "(I)I"⟩
abbrev cX7_digest : ByteArray := prog_1_method_29_code
def yX7_digest : MethodName := ⟨RX7, "digest", "()J"⟩
abbrev cX7_isBelow : ByteArray := prog_1_method_30_code
def yX7_isBelow : MethodName := ⟨RX7, "isBelow", "(II)Z"⟩
abbrev cX7_textOf : ByteArray := prog_1_method_31_code
def yX7_textOf : MethodName := ⟨RX7, "textOf", "(I)LTwoGoats$Text;"⟩
abbrev cX7_dayOf : ByteArray := prog_1_method_32_code
def yX7_dayOf : MethodName := ⟨RX7, "dayOf", "(I)LTwoGoats$Day;"⟩
abbrev cX7_ended : ByteArray := prog_1_method_33_code
def yX7_ended : MethodName := ⟨RX7, "ended", "(I)LTwoGoats$Day;"⟩
abbrev cX7_found : ByteArray := prog_1_method_34_code
def yX7_found : MethodName := ⟨RX7, "found", "(I)I"⟩
abbrev cX7_codeOfByte : ByteArray := prog_1_method_35_code
def yX7_codeOfByte : MethodName := ⟨RX7, "codeOfByte", "(I)I"⟩
abbrev cX7_byteOfCode : ByteArray := prog_1_method_36_code
def yX7_byteOfCode : MethodName := ⟨RX7, "byteOfCode", "(I)I"⟩
def RX8 : String := "TwoGoatsModel"
def TX8 : u_T := fun k => match k with
  | 0 => ("TwoGoatsModel", "forms", "[I", true)
  | 1 => ("TwoGoatsModel", "sizes", "[I", true)
  | 2 => ("TwoGoatsModel", "items", "[I", true)
  | 3 => ("TwoGoatsModel", "moved", "[I", true)
  | 4 => ("TwoGoatsModel", "latest", "I", false)
  | 5 => ("TwoGoatsModel", "bytes", "[I", true)
  | 6 => ("TwoGoatsModel", "typed", "[I", true)
  | 7 => ("TwoGoatsModel", "at", "I", false)
  | 8 => ("TwoGoatsModel", "paths", "I", false)
  | 9 => ("TwoGoatsModel", "path", "[I", true)
  | 10 => ("TwoGoatsModel", "starts", "[I", true)
  | 11 => ("TwoGoatsModel", "settings", "[I", true)
  | 12 => ("TwoGoatsModel", "worths", "[I", true)
  | 13 => ("TwoGoatsModel", "places", "[I", true)
  | 14 => ("TwoGoatsModel", "rope", "[I", true)
  | 15 => ("TwoGoatsModel", "lies", "I", false)
  | 16 => ("TwoGoatsModel", "length", "I", false)
  | 17 => ("TwoGoatsModel", "eaten", "[I", true)
  | 18 => ("TwoGoatsModel", "dragged", "[I", true)
  | 19 => ("TwoGoatsModel", "empty", "I", false)
  | 20 => ("TwoGoatsModel", "ways", "[J", true)
  | 21 => ("TwoGoatsModel", "wayMany", "I", false)
  | 22 => ("TwoGoatsModel", "left", "[I", true)
  | 23 => ("TwoGoatsModel", "far", "[I", true)
  | 24 => ("TwoGoatsModel", "wayAt", "[J", true)
  | 25 => ("TwoGoatsModel", "emptyAt", "[I", true)
  | 26 => ("TwoGoatsModel", "sumAt", "[I", true)
  | 27 => ("TwoGoatsModel", "pick", "[I", true)
  | _ => ("TwoGoatsModel", "bestAt", "[I", true)
def tyX8 : Nat → FieldType := fun k => match k with
  | 0 => .array .int
  | 1 => .array .int
  | 2 => .array .int
  | 3 => .array .int
  | 4 => .int
  | 5 => .array .int
  | 6 => .array .int
  | 7 => .int
  | 8 => .int
  | 9 => .array .int
  | 10 => .array .int
  | 11 => .array .int
  | 12 => .array .int
  | 13 => .array .int
  | 14 => .array .int
  | 15 => .int
  | 16 => .int
  | 17 => .array .int
  | 18 => .array .int
  | 19 => .int
  | 20 => .array .long
  | 21 => .int
  | 22 => .array .int
  | 23 => .array .int
  | 24 => .array .long
  | 25 => .array .int
  | 26 => .array .int
  | 27 => .array .int
  | _ => .array .int
abbrev wsX80 : List Cond := u_ws RX8 TX8 29
theorem nmX8 : ∀ a, a < 29 → ∀ b, b < 29 → a ≠ b → (TX8 a).2.1 ≠ (TX8 b).2.1 := by decide +kernel
theorem tyX8_ok : ∀ k, k < 29 → parseFieldDescriptor (TX8 k).2.2.1 = some (tyX8 k) := by decide +kernel
abbrev cX8_init : ByteArray := prog_10_method_1_code
def yX8_init : MethodName := ⟨RX8, "<init>", "()V"⟩
abbrev cX8_in : ByteArray := prog_10_method_3_code
def yX8_in : MethodName := ⟨RX8, "in", "(JJJ)Z"⟩
abbrev cX8_isTwo : ByteArray := prog_10_method_4_code
def yX8_isTwo : MethodName := ⟨RX8, "isTwo", "(I)Z"⟩
abbrev cX8_met : ByteArray := prog_10_method_5_code
def yX8_met : MethodName := ⟨RX8, "met", "(I)I"⟩
abbrev cX8_isSheet : ByteArray := prog_10_method_6_code
def yX8_isSheet : MethodName := ⟨RX8, "isSheet", "(I)Z"⟩
abbrev cX8_sheet : ByteArray := prog_10_method_7_code
def yX8_sheet : MethodName := ⟨RX8, "sheet", "(III)I"⟩
abbrev cX8_lose : ByteArray := prog_10_method_8_code
def yX8_lose : MethodName := ⟨RX8, "lose", "(I)I"⟩
abbrev cX8_lacks : ByteArray := prog_10_method_9_code
def yX8_lacks : MethodName := ⟨RX8, "lacks", "(III)I"⟩
abbrev cX8_cut : ByteArray := prog_10_method_10_code
def yX8_cut : MethodName := ⟨RX8, "cut", "(II)I"⟩
abbrev cX8_lay : ByteArray := prog_10_method_11_code
def yX8_lay : MethodName := ⟨RX8, "lay", "(IIII)I"⟩
abbrev cX8_get : ByteArray := prog_10_method_12_code
def yX8_get : MethodName := ⟨RX8, "get", "(III)I"⟩
abbrev cX8_copy : ByteArray := prog_10_method_13_code
def yX8_copy : MethodName := ⟨RX8, "copy", "(IIIII)I"⟩
abbrev cX8_type : ByteArray := prog_10_method_14_code
def yX8_type : MethodName := ⟨RX8, "type", "(II)I"⟩
abbrev cX8_wipe : ByteArray := prog_10_method_15_code
def yX8_wipe : MethodName := ⟨RX8, "wipe", "(I)I"⟩
abbrev cX8_here : ByteArray := prog_10_method_16_code
def yX8_here : MethodName := ⟨RX8, "here", "()I"⟩
abbrev cX8_readsPart : ByteArray := prog_10_method_17_code
def yX8_readsPart : MethodName := ⟨RX8, "readsPart", "()Z"⟩
abbrev cX8_none : ByteArray := prog_10_method_18_code
def yX8_none : MethodName := ⟨RX8, "none", "()I"⟩
abbrev cX8_reads : ByteArray := prog_10_method_19_code
def yX8_reads : MethodName := ⟨RX8, "reads", "()I"⟩
abbrev cX8_fault : ByteArray := prog_10_method_20_code
def yX8_fault : MethodName := ⟨RX8, "fault", "()I"⟩
abbrev cX8_isPath : ByteArray := prog_10_method_21_code
def yX8_isPath : MethodName := ⟨RX8, "isPath", "(I)Z"⟩
abbrev cX8_isPlace : ByteArray := prog_10_method_22_code
def yX8_isPlace : MethodName := ⟨RX8, "isPlace", "(I)Z"⟩
abbrev cX8_path : ByteArray := prog_10_method_23_code
def yX8_path : MethodName := ⟨RX8, "path", "(II)I"⟩
abbrev cX8_start : ByteArray := prog_10_method_24_code
def yX8_start : MethodName := ⟨RX8, "start", "(II)I"⟩
abbrev cX8_set : ByteArray := prog_10_method_25_code
def yX8_set : MethodName := ⟨RX8, "set", "(II)I"⟩
abbrev cX8_thistle : ByteArray := prog_10_method_26_code
def yX8_thistle : MethodName := ⟨RX8, "thistle", "(II)I"⟩
abbrev cX8_read : ByteArray := prog_10_method_27_code
def yX8_read : MethodName := ⟨RX8, "read", "(II)I"⟩
abbrev cX8_undo : ByteArray := prog_10_method_28_code
def yX8_undo : MethodName := ⟨RX8, "undo", "(I)I"⟩
abbrev cX8_touches : ByteArray := prog_10_method_29_code
def yX8_touches : MethodName := ⟨RX8, "touches", "(II)Z"⟩
abbrev cX8_otherEnd : ByteArray := prog_10_method_30_code
def yX8_otherEnd : MethodName := ⟨RX8, "otherEnd", "(II)I"⟩
abbrev cX8_next : ByteArray := prog_10_method_31_code
def yX8_next : MethodName := ⟨RX8, "next", "(I)I"⟩
abbrev cX8_goes : ByteArray := prog_10_method_32_code
def yX8_goes : MethodName := ⟨RX8, "goes", "(II)V"⟩
abbrev cX8_begins : ByteArray := prog_10_method_33_code
def yX8_begins : MethodName := ⟨RX8, "begins", "(I)V"⟩
abbrev cX8_stepOf : ByteArray := prog_10_method_34_code
def yX8_stepOf : MethodName := ⟨RX8, "stepOf", "(II)I"⟩
abbrev cX8_lengthBehind : ByteArray := prog_10_method_35_code
def yX8_lengthBehind : MethodName := ⟨RX8, "lengthBehind", "(II)I"⟩
abbrev cX8_isBorne : ByteArray := prog_10_method_36_code
def yX8_isBorne : MethodName := ⟨RX8, "isBorne", "(I)Z"⟩
abbrev cX8_does : ByteArray := prog_10_method_37_code
def yX8_does : MethodName := ⟨RX8, "does", "(I)V"⟩
abbrev cX8_runs : ByteArray := prog_10_method_38_code
def yX8_runs : MethodName := ⟨RX8, "runs", "(II)I"⟩
abbrev cX8_done : ByteArray := prog_10_method_39_code
def yX8_done : MethodName := ⟨RX8, "done", "(I)I"⟩
abbrev cX8_judgedOf : ByteArray := prog_10_method_40_code
def yX8_judgedOf : MethodName := ⟨RX8, "judgedOf", "(I)I"⟩
abbrev cX8_judged : ByteArray := prog_10_method_41_code
def yX8_judged : MethodName := ⟨RX8, "judged", "(I)I"⟩
abbrev cX8_isSo : ByteArray := prog_10_method_42_code
def yX8_isSo : MethodName := ⟨RX8, "isSo", "(II)Z"⟩
abbrev cX8_stateNow : ByteArray := prog_10_method_43_code
def yX8_stateNow : MethodName := ⟨RX8, "stateNow", "(I)I"⟩
abbrev cX8_state : ByteArray := prog_10_method_44_code
def yX8_state : MethodName := ⟨RX8, "state", "(III)I"⟩
abbrev cX8_rope : ByteArray := prog_10_method_45_code
def yX8_rope : MethodName := ⟨RX8, "rope", "(III)I"⟩
abbrev cX8_needsOf : ByteArray := prog_10_method_46_code
def yX8_needsOf : MethodName := ⟨RX8, "needsOf", "(I)I"⟩
abbrev cX8_needs : ByteArray := prog_10_method_47_code
def yX8_needs : MethodName := ⟨RX8, "needs", "(I)I"⟩
abbrev cX8_wayNow : ByteArray := prog_10_method_48_code
def yX8_wayNow : MethodName := ⟨RX8, "wayNow", "()J"⟩
abbrev cX8_comesTo : ByteArray := prog_10_method_49_code
def yX8_comesTo : MethodName := ⟨RX8, "comesTo", "(J)V"⟩
abbrev cX8_keepsWay : ByteArray := prog_10_method_50_code
def yX8_keepsWay : MethodName := ⟨RX8, "keepsWay", "(J)V"⟩
abbrev cX8_soonOf : ByteArray := prog_10_method_51_code
def yX8_soonOf : MethodName := ⟨RX8, "soonOf", "(III)I"⟩
abbrev cX8_soon : ByteArray := prog_10_method_52_code
def yX8_soon : MethodName := ⟨RX8, "soon", "(III)I"⟩
abbrev cX8_looseOf : ByteArray := prog_10_method_53_code
def yX8_looseOf : MethodName := ⟨RX8, "looseOf", "(I)I"⟩
abbrev cX8_loose : ByteArray := prog_10_method_54_code
def yX8_loose : MethodName := ⟨RX8, "loose", "(I)I"⟩
abbrev cX8_haveLikeEnds : ByteArray := prog_10_method_55_code
def yX8_haveLikeEnds : MethodName := ⟨RX8, "haveLikeEnds", "(II)Z"⟩
abbrev cX8_pulledOf : ByteArray := prog_10_method_56_code
def yX8_pulledOf : MethodName := ⟨RX8, "pulledOf", "(IIII)I"⟩
abbrev cX8_pulled : ByteArray := prog_10_method_57_code
def yX8_pulled : MethodName := ⟨RX8, "pulled", "(IIII)I"⟩
abbrev cX8_beganOf : ByteArray := prog_10_method_58_code
def yX8_beganOf : MethodName := ⟨RX8, "beganOf", "(II)I"⟩
abbrev cX8_began : ByteArray := prog_10_method_59_code
def yX8_began : MethodName := ⟨RX8, "began", "(II)I"⟩
abbrev cX8_enters : ByteArray := prog_10_method_60_code
def yX8_enters : MethodName := ⟨RX8, "enters", "(IJII)V"⟩
abbrev cX8_mayPick : ByteArray := prog_10_method_61_code
def yX8_mayPick : MethodName := ⟨RX8, "mayPick", "(II)Z"⟩
abbrev cX8_gameOf : ByteArray := prog_10_method_62_code
def yX8_gameOf : MethodName := ⟨RX8, "gameOf", "(III)I"⟩
abbrev cX8_game : ByteArray := prog_10_method_63_code
def yX8_game : MethodName := ⟨RX8, "game", "(III)I"⟩
abbrev cX8_alikeNow : ByteArray := prog_10_method_64_code
def yX8_alikeNow : MethodName := ⟨RX8, "alikeNow", "()I"⟩
abbrev cX8_alike : ByteArray := prog_10_method_65_code
def yX8_alike : MethodName := ⟨RX8, "alike", "()I"⟩
abbrev cX8_write : ByteArray := prog_10_method_66_code
def yX8_write : MethodName := ⟨RX8, "write", "(II)I"⟩
abbrev cX8_count : ByteArray := prog_10_method_67_code
def yX8_count : MethodName := ⟨RX8, "count", "(I)I"⟩
abbrev cX8_digest : ByteArray := prog_10_method_68_code
def yX8_digest : MethodName := ⟨RX8, "digest", "()J"⟩
def RJ9 : String := "java/lang/Math"
def TJ9 : u_T := fun k => match k with
  | _ => ("", "", "", false)
def tyJ9 : Nat → FieldType := fun k => match k with
  | _ => .int
abbrev wsJ90 : List Cond := u_ws RJ9 TJ9 0
theorem nmJ9 : ∀ a, a < 0 → ∀ b, b < 0 → a ≠ b → (TJ9 a).2.1 ≠ (TJ9 b).2.1 := by decide +kernel
theorem tyJ9_ok : ∀ k, k < 0 → parseFieldDescriptor (TJ9 k).2.2.1 = some (tyJ9 k) := by decide +kernel
abbrev cJ9_max_7cf53 : ByteArray := prog_11_method_65_code
def yJ9_max_7cf53 : MethodName := ⟨RJ9, "max", "(II)I"⟩
abbrev cJ9_min_7cf53 : ByteArray := prog_11_method_69_code
def yJ9_min_7cf53 : MethodName := ⟨RJ9, "min", "(II)I"⟩
def RJ10 : String := "java/lang/System"
def TJ10 : u_T := fun k => match k with
  | _ => ("", "", "", false)
def tyJ10 : Nat → FieldType := fun k => match k with
  | _ => .int
abbrev wsJ100 : List Cond := u_ws RJ10 TJ10 0
theorem nmJ10 : ∀ a, a < 0 → ∀ b, b < 0 → a ≠ b → (TJ10 a).2.1 ≠ (TJ10 b).2.1 := by decide +kernel
theorem tyJ10_ok : ∀ k, k < 0 → parseFieldDescriptor (TJ10 k).2.2.1 = some (tyJ10 k) := by decide +kernel
def RJ7 : String := "java/util/Arrays"
def TJ7 : u_T := fun k => match k with
  | _ => ("", "", "", false)
def tyJ7 : Nat → FieldType := fun k => match k with
  | _ => .int
abbrev wsJ70 : List Cond := u_ws RJ7 TJ7 0
theorem nmJ7 : ∀ a, a < 0 → ∀ b, b < 0 → a ≠ b → (TJ7 a).2.1 ≠ (TJ7 b).2.1 := by decide +kernel
theorem tyJ7_ok : ∀ k, k < 0 → parseFieldDescriptor (TJ7 k).2.2.1 = some (tyJ7 k) := by decide +kernel
abbrev cJ7_fill_53178 : ByteArray := prog_13_method_103_code
def yJ7_fill_53178 : MethodName := ⟨RJ7, "fill", "([II)V"⟩
def RL : String := "TwoGoatsLaw"
abbrev cL_law : ByteArray := code
def yL_law : MethodName := ⟨RL, "law", "([I)Z"⟩
abbrev vwCl : List vw_C := [(RX0, TX0, 8), (RX1, TX1, 6), (RX2, TX2, 10), (RX3, TX3, 5), (RX4, TX4, 3), (RX5, TX5, 2), (RX6, TX6, 4), (RX7, TX7, 8), (RX8, TX8, 29)]
