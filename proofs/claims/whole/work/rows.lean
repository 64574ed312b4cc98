section
-- ===== PART A: goes FIRST, ahead of the names: the tables' words, and 'selects' of the private methods out of them =====
/-- a private method of a class that the tables say can be made, by its rows of tables_1 -/
def lw_okq (q : MethodName × Nat) : Prop := (q.1.cls ≠ "java/lang/invoke/MethodHandle" ∧ q.1.cls ≠ "java/lang/invoke/VarHandle") ∧ Cond.instantiable q.1.cls q.2 ∈ tables_1 ∧ Cond.privateMethod q.1 ∈ tables_1 ∧ Cond.instanceMethod q.1 ∈ tables_1
theorem lw_p0 : lw_okq (⟨"TwoGoats", "textOf", "(I)LTwoGoats$Text;"⟩, 8) := ⟨⟨by decide +kernel, by decide +kernel⟩, List.mem_of_getElem? (i := 14) (by decide +kernel), List.mem_of_getElem? (i := 262) (by decide +kernel), List.mem_of_getElem? (i := 263) (by decide +kernel)⟩
theorem lw_p1 : lw_okq (⟨"TwoGoats", "dayOf", "(I)LTwoGoats$Day;"⟩, 8) := ⟨⟨by decide +kernel, by decide +kernel⟩, List.mem_of_getElem? (i := 14) (by decide +kernel), List.mem_of_getElem? (i := 266) (by decide +kernel), List.mem_of_getElem? (i := 267) (by decide +kernel)⟩
theorem lw_p2 : lw_okq (⟨"TwoGoats$Meadow", "firstFault", "()I"⟩, 10) := ⟨⟨by decide +kernel, by decide +kernel⟩, List.mem_of_getElem? (i := 22) (by decide +kernel), List.mem_of_getElem? (i := 279) (by decide +kernel), List.mem_of_getElem? (i := 280) (by decide +kernel)⟩
theorem lw_p3 : lw_okq (⟨"TwoGoats$Meadow", "fits", "(I)Z"⟩, 10) := ⟨⟨by decide +kernel, by decide +kernel⟩, List.mem_of_getElem? (i := 22) (by decide +kernel), List.mem_of_getElem? (i := 283) (by decide +kernel), List.mem_of_getElem? (i := 284) (by decide +kernel)⟩
theorem lw_p4 : lw_okq (⟨"TwoGoats", "setHeavy", "(II)I"⟩, 8) := ⟨⟨by decide +kernel, by decide +kernel⟩, List.mem_of_getElem? (i := 14) (by decide +kernel), List.mem_of_getElem? (i := 319) (by decide +kernel), List.mem_of_getElem? (i := 320) (by decide +kernel)⟩
theorem lw_p5 : lw_okq (⟨"TwoGoats", "found", "(I)I"⟩, 8) := ⟨⟨by decide +kernel, by decide +kernel⟩, List.mem_of_getElem? (i := 14) (by decide +kernel), List.mem_of_getElem? (i := 331) (by decide +kernel), List.mem_of_getElem? (i := 332) (by decide +kernel)⟩
theorem lw_p6 : lw_okq (⟨"TwoGoats", "ended", "(I)LTwoGoats$Day;"⟩, 8) := ⟨⟨by decide +kernel, by decide +kernel⟩, List.mem_of_getElem? (i := 14) (by decide +kernel), List.mem_of_getElem? (i := 346) (by decide +kernel), List.mem_of_getElem? (i := 347) (by decide +kernel)⟩
theorem lw_p7 : lw_okq (⟨"TwoGoats$Day", "doStep", "(I)Z"⟩, 8) := ⟨⟨by decide +kernel, by decide +kernel⟩, List.mem_of_getElem? (i := 88) (by decide +kernel), List.mem_of_getElem? (i := 365) (by decide +kernel), List.mem_of_getElem? (i := 366) (by decide +kernel)⟩
theorem lw_p8 : lw_okq (⟨"TwoGoats$Goats", "takeUp", "(I)V"⟩, 6) := ⟨⟨by decide +kernel, by decide +kernel⟩, List.mem_of_getElem? (i := 96) (by decide +kernel), List.mem_of_getElem? (i := 386) (by decide +kernel), List.mem_of_getElem? (i := 387) (by decide +kernel)⟩
theorem lw_p9 : lw_okq (⟨"TwoGoats$Goats", "layDown", "(II)V"⟩, 6) := ⟨⟨by decide +kernel, by decide +kernel⟩, List.mem_of_getElem? (i := 96) (by decide +kernel), List.mem_of_getElem? (i := 394) (by decide +kernel), List.mem_of_getElem? (i := 395) (by decide +kernel)⟩
theorem lw_p10 : lw_okq (⟨"TwoGoats$Day", "drag", "(I)V"⟩, 8) := ⟨⟨by decide +kernel, by decide +kernel⟩, List.mem_of_getElem? (i := 88) (by decide +kernel), List.mem_of_getElem? (i := 406) (by decide +kernel), List.mem_of_getElem? (i := 407) (by decide +kernel)⟩
theorem lw_p11 : lw_okq (⟨"TwoGoats$Day", "eat", "(I)V"⟩, 8) := ⟨⟨by decide +kernel, by decide +kernel⟩, List.mem_of_getElem? (i := 88) (by decide +kernel), List.mem_of_getElem? (i := 412) (by decide +kernel), List.mem_of_getElem? (i := 413) (by decide +kernel)⟩
theorem lw_p12 : lw_okq (⟨"TwoGoats$Search", "note", "(J)V"⟩, 5) := ⟨⟨by decide +kernel, by decide +kernel⟩, List.mem_of_getElem? (i := 161) (by decide +kernel), List.mem_of_getElem? (i := 465) (by decide +kernel), List.mem_of_getElem? (i := 466) (by decide +kernel)⟩
theorem lw_p13 : lw_okq (⟨"TwoGoats$Search", "leadsTo", "(JII)Z"⟩, 5) := ⟨⟨by decide +kernel, by decide +kernel⟩, List.mem_of_getElem? (i := 161) (by decide +kernel), List.mem_of_getElem? (i := 471) (by decide +kernel), List.mem_of_getElem? (i := 472) (by decide +kernel)⟩
theorem lw_p14 : lw_okq (⟨"TwoGoats$Meadow", "measureAcross", "(III)V"⟩, 10) := ⟨⟨by decide +kernel, by decide +kernel⟩, List.mem_of_getElem? (i := 22) (by decide +kernel), List.mem_of_getElem? (i := 523) (by decide +kernel), List.mem_of_getElem? (i := 524) (by decide +kernel)⟩
theorem lw_p15 : lw_okq (⟨"TwoGoats$Turns", "gain", "(IIII)I"⟩, 4) := ⟨⟨by decide +kernel, by decide +kernel⟩, List.mem_of_getElem? (i := 186) (by decide +kernel), List.mem_of_getElem? (i := 539) (by decide +kernel), List.mem_of_getElem? (i := 540) (by decide +kernel)⟩
def lw_privs_1 : List (MethodName × Nat) := [(⟨"TwoGoats", "textOf", "(I)LTwoGoats$Text;"⟩, 8), (⟨"TwoGoats", "dayOf", "(I)LTwoGoats$Day;"⟩, 8), (⟨"TwoGoats$Meadow", "firstFault", "()I"⟩, 10), (⟨"TwoGoats$Meadow", "fits", "(I)Z"⟩, 10), (⟨"TwoGoats", "setHeavy", "(II)I"⟩, 8), (⟨"TwoGoats", "found", "(I)I"⟩, 8), (⟨"TwoGoats", "ended", "(I)LTwoGoats$Day;"⟩, 8), (⟨"TwoGoats$Day", "doStep", "(I)Z"⟩, 8), (⟨"TwoGoats$Goats", "takeUp", "(I)V"⟩, 6), (⟨"TwoGoats$Goats", "layDown", "(II)V"⟩, 6), (⟨"TwoGoats$Day", "drag", "(I)V"⟩, 8), (⟨"TwoGoats$Day", "eat", "(I)V"⟩, 8), (⟨"TwoGoats$Search", "note", "(J)V"⟩, 5), (⟨"TwoGoats$Search", "leadsTo", "(JII)Z"⟩, 5), (⟨"TwoGoats$Meadow", "measureAcross", "(III)V"⟩, 10), (⟨"TwoGoats$Turns", "gain", "(IIII)I"⟩, 4)]
theorem lw_r1 : ∀ q ∈ lw_privs_1, lw_okq q := List.forall_mem_cons.mpr ⟨lw_p0, List.forall_mem_cons.mpr ⟨lw_p1, List.forall_mem_cons.mpr ⟨lw_p2, List.forall_mem_cons.mpr ⟨lw_p3, List.forall_mem_cons.mpr ⟨lw_p4, List.forall_mem_cons.mpr ⟨lw_p5, List.forall_mem_cons.mpr ⟨lw_p6, List.forall_mem_cons.mpr ⟨lw_p7, List.forall_mem_cons.mpr ⟨lw_p8, List.forall_mem_cons.mpr ⟨lw_p9, List.forall_mem_cons.mpr ⟨lw_p10, List.forall_mem_cons.mpr ⟨lw_p11, List.forall_mem_cons.mpr ⟨lw_p12, List.forall_mem_cons.mpr ⟨lw_p13, List.forall_mem_cons.mpr ⟨lw_p14, List.forall_mem_cons.mpr ⟨lw_p15, fun _ h => absurd h List.not_mem_nil⟩⟩⟩⟩⟩⟩⟩⟩⟩⟩⟩⟩⟩⟩⟩⟩
theorem lw_p16 : lw_okq (⟨"TwoGoats$Turns", "gainByStep", "(IIII)I"⟩, 4) := ⟨⟨by decide +kernel, by decide +kernel⟩, List.mem_of_getElem? (i := 186) (by decide +kernel), List.mem_of_getElem? (i := 551) (by decide +kernel), List.mem_of_getElem? (i := 552) (by decide +kernel)⟩
theorem lw_p17 : lw_okq (⟨"TwoGoats$Sheet", "cut", "(I)I"⟩, 3) := ⟨⟨by decide +kernel, by decide +kernel⟩, List.mem_of_getElem? (i := 211) (by decide +kernel), List.mem_of_getElem? (i := 595) (by decide +kernel), List.mem_of_getElem? (i := 596) (by decide +kernel)⟩
theorem lw_p18 : lw_okq (⟨"TwoGoatsModel", "met", "(I)I"⟩, 29) := ⟨⟨by decide +kernel, by decide +kernel⟩, List.mem_of_getElem? (i := 652) (by decide +kernel), List.mem_of_getElem? (i := 758) (by decide +kernel), List.mem_of_getElem? (i := 759) (by decide +kernel)⟩
theorem lw_p19 : lw_okq (⟨"TwoGoatsModel", "lacks", "(III)I"⟩, 29) := ⟨⟨by decide +kernel, by decide +kernel⟩, List.mem_of_getElem? (i := 652) (by decide +kernel), List.mem_of_getElem? (i := 770) (by decide +kernel), List.mem_of_getElem? (i := 771) (by decide +kernel)⟩
theorem lw_p20 : lw_okq (⟨"TwoGoatsModel", "reads", "()I"⟩, 29) := ⟨⟨by decide +kernel, by decide +kernel⟩, List.mem_of_getElem? (i := 652) (by decide +kernel), List.mem_of_getElem? (i := 799) (by decide +kernel), List.mem_of_getElem? (i := 800) (by decide +kernel)⟩
theorem lw_p21 : lw_okq (⟨"TwoGoatsModel", "readsPart", "()Z"⟩, 29) := ⟨⟨by decide +kernel, by decide +kernel⟩, List.mem_of_getElem? (i := 652) (by decide +kernel), List.mem_of_getElem? (i := 803) (by decide +kernel), List.mem_of_getElem? (i := 804) (by decide +kernel)⟩
theorem lw_p22 : lw_okq (⟨"TwoGoatsModel", "here", "()I"⟩, 29) := ⟨⟨by decide +kernel, by decide +kernel⟩, List.mem_of_getElem? (i := 652) (by decide +kernel), List.mem_of_getElem? (i := 807) (by decide +kernel), List.mem_of_getElem? (i := 808) (by decide +kernel)⟩
theorem lw_p23 : lw_okq (⟨"TwoGoatsModel", "none", "()I"⟩, 29) := ⟨⟨by decide +kernel, by decide +kernel⟩, List.mem_of_getElem? (i := 652) (by decide +kernel), List.mem_of_getElem? (i := 813) (by decide +kernel), List.mem_of_getElem? (i := 814) (by decide +kernel)⟩
theorem lw_p24 : lw_okq (⟨"TwoGoatsModel", "isPath", "(I)Z"⟩, 29) := ⟨⟨by decide +kernel, by decide +kernel⟩, List.mem_of_getElem? (i := 652) (by decide +kernel), List.mem_of_getElem? (i := 821) (by decide +kernel), List.mem_of_getElem? (i := 822) (by decide +kernel)⟩
theorem lw_p25 : lw_okq (⟨"TwoGoatsModel", "judgedOf", "(I)I"⟩, 29) := ⟨⟨by decide +kernel, by decide +kernel⟩, List.mem_of_getElem? (i := 652) (by decide +kernel), List.mem_of_getElem? (i := 859) (by decide +kernel), List.mem_of_getElem? (i := 860) (by decide +kernel)⟩
theorem lw_p26 : lw_okq (⟨"TwoGoatsModel", "done", "(I)I"⟩, 29) := ⟨⟨by decide +kernel, by decide +kernel⟩, List.mem_of_getElem? (i := 652) (by decide +kernel), List.mem_of_getElem? (i := 863) (by decide +kernel), List.mem_of_getElem? (i := 864) (by decide +kernel)⟩
theorem lw_p27 : lw_okq (⟨"TwoGoatsModel", "runs", "(II)I"⟩, 29) := ⟨⟨by decide +kernel, by decide +kernel⟩, List.mem_of_getElem? (i := 652) (by decide +kernel), List.mem_of_getElem? (i := 867) (by decide +kernel), List.mem_of_getElem? (i := 868) (by decide +kernel)⟩
theorem lw_p28 : lw_okq (⟨"TwoGoatsModel", "begins", "(I)V"⟩, 29) := ⟨⟨by decide +kernel, by decide +kernel⟩, List.mem_of_getElem? (i := 652) (by decide +kernel), List.mem_of_getElem? (i := 871) (by decide +kernel), List.mem_of_getElem? (i := 872) (by decide +kernel)⟩
theorem lw_p29 : lw_okq (⟨"TwoGoatsModel", "stepOf", "(II)I"⟩, 29) := ⟨⟨by decide +kernel, by decide +kernel⟩, List.mem_of_getElem? (i := 652) (by decide +kernel), List.mem_of_getElem? (i := 875) (by decide +kernel), List.mem_of_getElem? (i := 876) (by decide +kernel)⟩
theorem lw_p30 : lw_okq (⟨"TwoGoatsModel", "touches", "(II)Z"⟩, 29) := ⟨⟨by decide +kernel, by decide +kernel⟩, List.mem_of_getElem? (i := 652) (by decide +kernel), List.mem_of_getElem? (i := 883) (by decide +kernel), List.mem_of_getElem? (i := 884) (by decide +kernel)⟩
theorem lw_p31 : lw_okq (⟨"TwoGoatsModel", "isBorne", "(I)Z"⟩, 29) := ⟨⟨by decide +kernel, by decide +kernel⟩, List.mem_of_getElem? (i := 652) (by decide +kernel), List.mem_of_getElem? (i := 887) (by decide +kernel), List.mem_of_getElem? (i := 888) (by decide +kernel)⟩
def lw_privs_2 : List (MethodName × Nat) := [(⟨"TwoGoats$Turns", "gainByStep", "(IIII)I"⟩, 4), (⟨"TwoGoats$Sheet", "cut", "(I)I"⟩, 3), (⟨"TwoGoatsModel", "met", "(I)I"⟩, 29), (⟨"TwoGoatsModel", "lacks", "(III)I"⟩, 29), (⟨"TwoGoatsModel", "reads", "()I"⟩, 29), (⟨"TwoGoatsModel", "readsPart", "()Z"⟩, 29), (⟨"TwoGoatsModel", "here", "()I"⟩, 29), (⟨"TwoGoatsModel", "none", "()I"⟩, 29), (⟨"TwoGoatsModel", "isPath", "(I)Z"⟩, 29), (⟨"TwoGoatsModel", "judgedOf", "(I)I"⟩, 29), (⟨"TwoGoatsModel", "done", "(I)I"⟩, 29), (⟨"TwoGoatsModel", "runs", "(II)I"⟩, 29), (⟨"TwoGoatsModel", "begins", "(I)V"⟩, 29), (⟨"TwoGoatsModel", "stepOf", "(II)I"⟩, 29), (⟨"TwoGoatsModel", "touches", "(II)Z"⟩, 29), (⟨"TwoGoatsModel", "isBorne", "(I)Z"⟩, 29)]
theorem lw_r2 : ∀ q ∈ lw_privs_2, lw_okq q := List.forall_mem_cons.mpr ⟨lw_p16, List.forall_mem_cons.mpr ⟨lw_p17, List.forall_mem_cons.mpr ⟨lw_p18, List.forall_mem_cons.mpr ⟨lw_p19, List.forall_mem_cons.mpr ⟨lw_p20, List.forall_mem_cons.mpr ⟨lw_p21, List.forall_mem_cons.mpr ⟨lw_p22, List.forall_mem_cons.mpr ⟨lw_p23, List.forall_mem_cons.mpr ⟨lw_p24, List.forall_mem_cons.mpr ⟨lw_p25, List.forall_mem_cons.mpr ⟨lw_p26, List.forall_mem_cons.mpr ⟨lw_p27, List.forall_mem_cons.mpr ⟨lw_p28, List.forall_mem_cons.mpr ⟨lw_p29, List.forall_mem_cons.mpr ⟨lw_p30, List.forall_mem_cons.mpr ⟨lw_p31, fun _ h => absurd h List.not_mem_nil⟩⟩⟩⟩⟩⟩⟩⟩⟩⟩⟩⟩⟩⟩⟩⟩
theorem lw_p32 : lw_okq (⟨"TwoGoatsModel", "lengthBehind", "(II)I"⟩, 29) := ⟨⟨by decide +kernel, by decide +kernel⟩, List.mem_of_getElem? (i := 652) (by decide +kernel), List.mem_of_getElem? (i := 891) (by decide +kernel), List.mem_of_getElem? (i := 892) (by decide +kernel)⟩
theorem lw_p33 : lw_okq (⟨"TwoGoatsModel", "next", "(I)I"⟩, 29) := ⟨⟨by decide +kernel, by decide +kernel⟩, List.mem_of_getElem? (i := 652) (by decide +kernel), List.mem_of_getElem? (i := 895) (by decide +kernel), List.mem_of_getElem? (i := 896) (by decide +kernel)⟩
theorem lw_p34 : lw_okq (⟨"TwoGoatsModel", "does", "(I)V"⟩, 29) := ⟨⟨by decide +kernel, by decide +kernel⟩, List.mem_of_getElem? (i := 652) (by decide +kernel), List.mem_of_getElem? (i := 899) (by decide +kernel), List.mem_of_getElem? (i := 900) (by decide +kernel)⟩
theorem lw_p35 : lw_okq (⟨"TwoGoatsModel", "goes", "(II)V"⟩, 29) := ⟨⟨by decide +kernel, by decide +kernel⟩, List.mem_of_getElem? (i := 652) (by decide +kernel), List.mem_of_getElem? (i := 903) (by decide +kernel), List.mem_of_getElem? (i := 904) (by decide +kernel)⟩
theorem lw_p36 : lw_okq (⟨"TwoGoatsModel", "otherEnd", "(II)I"⟩, 29) := ⟨⟨by decide +kernel, by decide +kernel⟩, List.mem_of_getElem? (i := 652) (by decide +kernel), List.mem_of_getElem? (i := 907) (by decide +kernel), List.mem_of_getElem? (i := 908) (by decide +kernel)⟩
theorem lw_p37 : lw_okq (⟨"TwoGoatsModel", "isSo", "(II)Z"⟩, 29) := ⟨⟨by decide +kernel, by decide +kernel⟩, List.mem_of_getElem? (i := 652) (by decide +kernel), List.mem_of_getElem? (i := 915) (by decide +kernel), List.mem_of_getElem? (i := 916) (by decide +kernel)⟩
theorem lw_p38 : lw_okq (⟨"TwoGoatsModel", "stateNow", "(I)I"⟩, 29) := ⟨⟨by decide +kernel, by decide +kernel⟩, List.mem_of_getElem? (i := 652) (by decide +kernel), List.mem_of_getElem? (i := 919) (by decide +kernel), List.mem_of_getElem? (i := 920) (by decide +kernel)⟩
theorem lw_p39 : lw_okq (⟨"TwoGoatsModel", "needsOf", "(I)I"⟩, 29) := ⟨⟨by decide +kernel, by decide +kernel⟩, List.mem_of_getElem? (i := 652) (by decide +kernel), List.mem_of_getElem? (i := 931) (by decide +kernel), List.mem_of_getElem? (i := 932) (by decide +kernel)⟩
theorem lw_p40 : lw_okq (⟨"TwoGoatsModel", "soonOf", "(III)I"⟩, 29) := ⟨⟨by decide +kernel, by decide +kernel⟩, List.mem_of_getElem? (i := 652) (by decide +kernel), List.mem_of_getElem? (i := 939) (by decide +kernel), List.mem_of_getElem? (i := 940) (by decide +kernel)⟩
theorem lw_p41 : lw_okq (⟨"TwoGoatsModel", "wayNow", "()J"⟩, 29) := ⟨⟨by decide +kernel, by decide +kernel⟩, List.mem_of_getElem? (i := 652) (by decide +kernel), List.mem_of_getElem? (i := 943) (by decide +kernel), List.mem_of_getElem? (i := 944) (by decide +kernel)⟩
theorem lw_p42 : lw_okq (⟨"TwoGoatsModel", "keepsWay", "(J)V"⟩, 29) := ⟨⟨by decide +kernel, by decide +kernel⟩, List.mem_of_getElem? (i := 652) (by decide +kernel), List.mem_of_getElem? (i := 947) (by decide +kernel), List.mem_of_getElem? (i := 948) (by decide +kernel)⟩
theorem lw_p43 : lw_okq (⟨"TwoGoatsModel", "comesTo", "(J)V"⟩, 29) := ⟨⟨by decide +kernel, by decide +kernel⟩, List.mem_of_getElem? (i := 652) (by decide +kernel), List.mem_of_getElem? (i := 951) (by decide +kernel), List.mem_of_getElem? (i := 952) (by decide +kernel)⟩
theorem lw_p44 : lw_okq (⟨"TwoGoatsModel", "looseOf", "(I)I"⟩, 29) := ⟨⟨by decide +kernel, by decide +kernel⟩, List.mem_of_getElem? (i := 652) (by decide +kernel), List.mem_of_getElem? (i := 960) (by decide +kernel), List.mem_of_getElem? (i := 961) (by decide +kernel)⟩
theorem lw_p45 : lw_okq (⟨"TwoGoatsModel", "pulledOf", "(IIII)I"⟩, 29) := ⟨⟨by decide +kernel, by decide +kernel⟩, List.mem_of_getElem? (i := 652) (by decide +kernel), List.mem_of_getElem? (i := 968) (by decide +kernel), List.mem_of_getElem? (i := 969) (by decide +kernel)⟩
theorem lw_p46 : lw_okq (⟨"TwoGoatsModel", "haveLikeEnds", "(II)Z"⟩, 29) := ⟨⟨by decide +kernel, by decide +kernel⟩, List.mem_of_getElem? (i := 652) (by decide +kernel), List.mem_of_getElem? (i := 972) (by decide +kernel), List.mem_of_getElem? (i := 973) (by decide +kernel)⟩
theorem lw_p47 : lw_okq (⟨"TwoGoatsModel", "beganOf", "(II)I"⟩, 29) := ⟨⟨by decide +kernel, by decide +kernel⟩, List.mem_of_getElem? (i := 652) (by decide +kernel), List.mem_of_getElem? (i := 980) (by decide +kernel), List.mem_of_getElem? (i := 981) (by decide +kernel)⟩
def lw_privs_3 : List (MethodName × Nat) := [(⟨"TwoGoatsModel", "lengthBehind", "(II)I"⟩, 29), (⟨"TwoGoatsModel", "next", "(I)I"⟩, 29), (⟨"TwoGoatsModel", "does", "(I)V"⟩, 29), (⟨"TwoGoatsModel", "goes", "(II)V"⟩, 29), (⟨"TwoGoatsModel", "otherEnd", "(II)I"⟩, 29), (⟨"TwoGoatsModel", "isSo", "(II)Z"⟩, 29), (⟨"TwoGoatsModel", "stateNow", "(I)I"⟩, 29), (⟨"TwoGoatsModel", "needsOf", "(I)I"⟩, 29), (⟨"TwoGoatsModel", "soonOf", "(III)I"⟩, 29), (⟨"TwoGoatsModel", "wayNow", "()J"⟩, 29), (⟨"TwoGoatsModel", "keepsWay", "(J)V"⟩, 29), (⟨"TwoGoatsModel", "comesTo", "(J)V"⟩, 29), (⟨"TwoGoatsModel", "looseOf", "(I)I"⟩, 29), (⟨"TwoGoatsModel", "pulledOf", "(IIII)I"⟩, 29), (⟨"TwoGoatsModel", "haveLikeEnds", "(II)Z"⟩, 29), (⟨"TwoGoatsModel", "beganOf", "(II)I"⟩, 29)]
theorem lw_r3 : ∀ q ∈ lw_privs_3, lw_okq q := List.forall_mem_cons.mpr ⟨lw_p32, List.forall_mem_cons.mpr ⟨lw_p33, List.forall_mem_cons.mpr ⟨lw_p34, List.forall_mem_cons.mpr ⟨lw_p35, List.forall_mem_cons.mpr ⟨lw_p36, List.forall_mem_cons.mpr ⟨lw_p37, List.forall_mem_cons.mpr ⟨lw_p38, List.forall_mem_cons.mpr ⟨lw_p39, List.forall_mem_cons.mpr ⟨lw_p40, List.forall_mem_cons.mpr ⟨lw_p41, List.forall_mem_cons.mpr ⟨lw_p42, List.forall_mem_cons.mpr ⟨lw_p43, List.forall_mem_cons.mpr ⟨lw_p44, List.forall_mem_cons.mpr ⟨lw_p45, List.forall_mem_cons.mpr ⟨lw_p46, List.forall_mem_cons.mpr ⟨lw_p47, fun _ h => absurd h List.not_mem_nil⟩⟩⟩⟩⟩⟩⟩⟩⟩⟩⟩⟩⟩⟩⟩⟩
theorem lw_p48 : lw_okq (⟨"TwoGoatsModel", "gameOf", "(III)I"⟩, 29) := ⟨⟨by decide +kernel, by decide +kernel⟩, List.mem_of_getElem? (i := 652) (by decide +kernel), List.mem_of_getElem? (i := 990) (by decide +kernel), List.mem_of_getElem? (i := 991) (by decide +kernel)⟩
theorem lw_p49 : lw_okq (⟨"TwoGoatsModel", "enters", "(IJII)V"⟩, 29) := ⟨⟨by decide +kernel, by decide +kernel⟩, List.mem_of_getElem? (i := 652) (by decide +kernel), List.mem_of_getElem? (i := 994) (by decide +kernel), List.mem_of_getElem? (i := 995) (by decide +kernel)⟩
theorem lw_p50 : lw_okq (⟨"TwoGoatsModel", "mayPick", "(II)Z"⟩, 29) := ⟨⟨by decide +kernel, by decide +kernel⟩, List.mem_of_getElem? (i := 652) (by decide +kernel), List.mem_of_getElem? (i := 998) (by decide +kernel), List.mem_of_getElem? (i := 999) (by decide +kernel)⟩
theorem lw_p51 : lw_okq (⟨"TwoGoatsModel", "alikeNow", "()I"⟩, 29) := ⟨⟨by decide +kernel, by decide +kernel⟩, List.mem_of_getElem? (i := 652) (by decide +kernel), List.mem_of_getElem? (i := 1006) (by decide +kernel), List.mem_of_getElem? (i := 1007) (by decide +kernel)⟩
def lw_privs_4 : List (MethodName × Nat) := [(⟨"TwoGoatsModel", "gameOf", "(III)I"⟩, 29), (⟨"TwoGoatsModel", "enters", "(IJII)V"⟩, 29), (⟨"TwoGoatsModel", "mayPick", "(II)Z"⟩, 29), (⟨"TwoGoatsModel", "alikeNow", "()I"⟩, 29)]
theorem lw_r4 : ∀ q ∈ lw_privs_4, lw_okq q := List.forall_mem_cons.mpr ⟨lw_p48, List.forall_mem_cons.mpr ⟨lw_p49, List.forall_mem_cons.mpr ⟨lw_p50, List.forall_mem_cons.mpr ⟨lw_p51, fun _ h => absurd h List.not_mem_nil⟩⟩⟩⟩
def lw_privs : List (MethodName × Nat) := lw_privs_1 ++ (lw_privs_2 ++ (lw_privs_3 ++ (lw_privs_4)))
def lw_tbl : List Cond := k2_sels lw_privs ++ tables_1
theorem lw_privs_ok : ∀ q ∈ lw_privs, lw_okq q := by
  show ∀ q ∈ lw_privs_1 ++ (lw_privs_2 ++ (lw_privs_3 ++ (lw_privs_4))), lw_okq q
  exact List.forall_mem_append.mpr ⟨lw_r1, List.forall_mem_append.mpr ⟨lw_r2, List.forall_mem_append.mpr ⟨lw_r3, lw_r4⟩⟩⟩
/-! ===== BEGIN words of one list among another's, by their places ===== -/
/-! ===== END ===== -/
/-! ===== BEGIN printed: names, fields, word lists, decode rows ===== -/
def RX0 : String := "TwoGoats$Day"
def TX0 : u_T := fun k => match k with
  | 0 => ("TwoGoats$Day", "meadow", "LTwoGoats$Meadow;", true)
  | 1 => ("TwoGoats$Day", "text", "LTwoGoats$Text;", true)
  | 2 => ("TwoGoats$Day", "goats", "LTwoGoats$Goats;", true)
  | 3 => ("TwoGoats$Day", "ate", "[I", true)
  | 4 => ("TwoGoats$Day", "dragged", "[I", true)
  | 5 => ("TwoGoats$Day", "startPlace", "I", false)
  | 6 => ("TwoGoats$Day", "bare", "I", false)
  | _ => ("TwoGoats$Day", "done", "I", false)
def tyX0 : Nat → FieldType := fun k => match k with
  | 0 => .object "TwoGoats$Meadow"
  | 1 => .object "TwoGoats$Text"
  | 2 => .object "TwoGoats$Goats"
  | 3 => .array .int
  | 4 => .array .int
  | 5 => .int
  | 6 => .int
  | _ => .int
abbrev wsX00 : List Cond := u_ws RX0 TX0 8
theorem nmX0 : ∀ a, a < 8 → ∀ b, b < 8 → a ≠ b → (TX0 a).2.1 ≠ (TX0 b).2.1 := by decide +kernel
theorem tyX0_ok : ∀ k, k < 8 → parseFieldDescriptor (TX0 k).2.2.1 = some (tyX0 k) := by decide +kernel
abbrev cX0_init : ByteArray := prog_2_method_1_code
def yX0_init : MethodName := ⟨RX0, "<init>", "(LTwoGoats$Meadow;)V"⟩
abbrev cX0_walk : ByteArray := prog_2_method_2_code
def yX0_walk : MethodName := ⟨RX0, "walk", "(I)V"⟩
abbrev cX0_doStep : ByteArray := prog_2_method_3_code
def yX0_doStep : MethodName := ⟨RX0, "doStep", "(I)Z"⟩
abbrev cX0_drag : ByteArray := prog_2_method_4_code
def yX0_drag : MethodName := ⟨RX0, "drag", "(I)V"⟩
abbrev cX0_eat : ByteArray := prog_2_method_5_code
def yX0_eat : MethodName := ⟨RX0, "eat", "(I)V"⟩
abbrev cX0_told : ByteArray := prog_2_method_6_code
def yX0_told : MethodName := ⟨RX0, "told", "(I)I"⟩
abbrev cX0_longestUnbound : ByteArray := prog_2_method_7_code
def yX0_longestUnbound : MethodName := ⟨RX0, "longestUnbound", "()I"⟩
def RX1 : String := "TwoGoats$Goats"
def TX1 : u_T := fun k => match k with
  | 0 => ("TwoGoats$Goats", "meadow", "LTwoGoats$Meadow;", true)
  | 1 => ("TwoGoats$Goats", "place", "[I", true)
  | 2 => ("TwoGoats$Goats", "ring", "[I", true)
  | 3 => ("TwoGoats$Goats", "head", "I", false)
  | 4 => ("TwoGoats$Goats", "size", "I", false)
  | _ => ("TwoGoats$Goats", "length", "I", false)
def tyX1 : Nat → FieldType := fun k => match k with
  | 0 => .object "TwoGoats$Meadow"
  | 1 => .array .int
  | 2 => .array .int
  | 3 => .int
  | 4 => .int
  | _ => .int
abbrev wsX10 : List Cond := u_ws RX1 TX1 6
theorem nmX1 : ∀ a, a < 6 → ∀ b, b < 6 → a ≠ b → (TX1 a).2.1 ≠ (TX1 b).2.1 := by decide +kernel
theorem tyX1_ok : ∀ k, k < 6 → parseFieldDescriptor (TX1 k).2.2.1 = some (tyX1 k) := by decide +kernel
abbrev cX1_init : ByteArray := prog_3_method_1_code
def yX1_init : MethodName := ⟨RX1, "<init>", "(LTwoGoats$Meadow;)V"⟩
abbrev cX1_standBoth : ByteArray := prog_3_method_2_code
def yX1_standBoth : MethodName := ⟨RX1, "standBoth", "(I)V"⟩
abbrev cX1_become : ByteArray := prog_3_method_3_code
def yX1_become : MethodName := ⟨RX1, "become", "(LTwoGoats$Goats;)V"⟩
abbrev cX1_relay : ByteArray := prog_3_method_4_code
def yX1_relay : MethodName := ⟨RX1, "relay", "(LTwoGoats$Goats;II)V"⟩
abbrev cX1_pathAt : ByteArray := prog_3_method_5_code
def yX1_pathAt : MethodName := ⟨RX1, "pathAt", "(I)I"⟩
abbrev cX1_nextTo : ByteArray := prog_3_method_6_code
def yX1_nextTo : MethodName := ⟨RX1, "nextTo", "(I)I"⟩
abbrev cX1_canGo : ByteArray := prog_3_method_7_code
def yX1_canGo : MethodName := ⟨RX1, "canGo", "(II)Z"⟩
abbrev cX1_go : ByteArray := prog_3_method_8_code
def yX1_go : MethodName := ⟨RX1, "go", "(II)V"⟩
abbrev cX1_takeUp : ByteArray := prog_3_method_9_code
def yX1_takeUp : MethodName := ⟨RX1, "takeUp", "(I)V"⟩
abbrev cX1_layDown : ByteArray := prog_3_method_10_code
def yX1_layDown : MethodName := ⟨RX1, "layDown", "(II)V"⟩
abbrev cX1_standsAs : ByteArray := prog_3_method_11_code
def yX1_standsAs : MethodName := ⟨RX1, "standsAs", "(LTwoGoats$Goats;)Z"⟩
abbrev cX1_liesAs : ByteArray := prog_3_method_12_code
def yX1_liesAs : MethodName := ⟨RX1, "liesAs", "(LTwoGoats$Goats;)Z"⟩
abbrev cX1_stepsOff : ByteArray := prog_3_method_13_code
def yX1_stepsOff : MethodName := ⟨RX1, "stepsOff", "(I)I"⟩
abbrev cX1_asKey : ByteArray := prog_3_method_14_code
def yX1_asKey : MethodName := ⟨RX1, "asKey", "()J"⟩
abbrev cX1_becomeKey : ByteArray := prog_3_method_15_code
def yX1_becomeKey : MethodName := ⟨RX1, "becomeKey", "(J)V"⟩
def RX2 : String := "TwoGoats$Meadow"
def TX2 : u_T := fun k => match k with
  | 0 => ("TwoGoats$Meadow", "text", "LTwoGoats$Text;", true)
  | 1 => ("TwoGoats$Meadow", "heavy", "[I", true)
  | 2 => ("TwoGoats$Meadow", "worth", "[I", true)
  | 3 => ("TwoGoats$Meadow", "steps", "[I", true)
  | 4 => ("TwoGoats$Meadow", "oneEnd", "[I", true)
  | 5 => ("TwoGoats$Meadow", "otherEnd", "[I", true)
  | 6 => ("TwoGoats$Meadow", "yards", "[I", true)
  | 7 => ("TwoGoats$Meadow", "reach", "I", false)
  | 8 => ("TwoGoats$Meadow", "paths", "I", false)
  | _ => ("TwoGoats$Meadow", "faultPlace", "I", false)
def tyX2 : Nat → FieldType := fun k => match k with
  | 0 => .object "TwoGoats$Text"
  | 1 => .array .int
  | 2 => .array .int
  | 3 => .array .int
  | 4 => .array .int
  | 5 => .array .int
  | 6 => .array .int
  | 7 => .int
  | 8 => .int
  | _ => .int
abbrev wsX20 : List Cond := u_ws RX2 TX2 10
theorem nmX2 : ∀ a, a < 10 → ∀ b, b < 10 → a ≠ b → (TX2 a).2.1 ≠ (TX2 b).2.1 := by decide +kernel
theorem tyX2_ok : ∀ k, k < 10 → parseFieldDescriptor (TX2 k).2.2.1 = some (tyX2 k) := by decide +kernel
abbrev cX2_init : ByteArray := prog_4_method_1_code
def yX2_init : MethodName := ⟨RX2, "<init>", "()V"⟩
abbrev cX2_survey : ByteArray := prog_4_method_2_code
def yX2_survey : MethodName := ⟨RX2, "survey", "()V"⟩
abbrev cX2_firstFault : ByteArray := prog_4_method_3_code
def yX2_firstFault : MethodName := ⟨RX2, "firstFault", "()I"⟩
abbrev cX2_fits : ByteArray := prog_4_method_4_code
def yX2_fits : MethodName := ⟨RX2, "fits", "(I)Z"⟩
abbrev cX2_isPlace : ByteArray := prog_4_method_5_code
def yX2_isPlace : MethodName := ⟨RX2, "isPlace", "(I)Z"⟩
abbrev cX2_figure : ByteArray := prog_4_method_6_code
def yX2_figure : MethodName := ⟨RX2, "figure", "(II)I"⟩
abbrev cX2_leadsFrom : ByteArray := prog_4_method_7_code
def yX2_leadsFrom : MethodName := ⟨RX2, "leadsFrom", "(II)Z"⟩
abbrev cX2_across : ByteArray := prog_4_method_8_code
def yX2_across : MethodName := ⟨RX2, "across", "(II)I"⟩
abbrev cX2_yardsOf : ByteArray := prog_4_method_9_code
def yX2_yardsOf : MethodName := ⟨RX2, "yardsOf", "(I)I"⟩
abbrev cX2_haveSameEnds : ByteArray := prog_4_method_10_code
def yX2_haveSameEnds : MethodName := ⟨RX2, "haveSameEnds", "(II)Z"⟩
abbrev cX2_shorter : ByteArray := prog_4_method_11_code
def yX2_shorter : MethodName := ⟨RX2, "shorter", "(II)I"⟩
abbrev cX2_isHeavier : ByteArray := prog_4_method_12_code
def yX2_isHeavier : MethodName := ⟨RX2, "isHeavier", "(I)Z"⟩
abbrev cX2_allYards : ByteArray := prog_4_method_13_code
def yX2_allYards : MethodName := ⟨RX2, "allYards", "()I"⟩
abbrev cX2_worthBeside : ByteArray := prog_4_method_14_code
def yX2_worthBeside : MethodName := ⟨RX2, "worthBeside", "(I)I"⟩
abbrev cX2_worthAt : ByteArray := prog_4_method_15_code
def yX2_worthAt : MethodName := ⟨RX2, "worthAt", "(II)I"⟩
abbrev cX2_measureFrom : ByteArray := prog_4_method_16_code
def yX2_measureFrom : MethodName := ⟨RX2, "measureFrom", "(I)V"⟩
abbrev cX2_measureAcross : ByteArray := prog_4_method_17_code
def yX2_measureAcross : MethodName := ⟨RX2, "measureAcross", "(III)V"⟩
def RX3 : String := "TwoGoats$Search"
def TX3 : u_T := fun k => match k with
  | 0 => ("TwoGoats$Search", "meadow", "LTwoGoats$Meadow;", true)
  | 1 => ("TwoGoats$Search", "goats", "LTwoGoats$Goats;", true)
  | 2 => ("TwoGoats$Search", "ways", "[J", true)
  | 3 => ("TwoGoats$Search", "slots", "[I", true)
  | _ => ("TwoGoats$Search", "known", "I", false)
def tyX3 : Nat → FieldType := fun k => match k with
  | 0 => .object "TwoGoats$Meadow"
  | 1 => .object "TwoGoats$Goats"
  | 2 => .array .long
  | 3 => .array .int
  | _ => .int
abbrev wsX30 : List Cond := u_ws RX3 TX3 5
theorem nmX3 : ∀ a, a < 5 → ∀ b, b < 5 → a ≠ b → (TX3 a).2.1 ≠ (TX3 b).2.1 := by decide +kernel
theorem tyX3_ok : ∀ k, k < 5 → parseFieldDescriptor (TX3 k).2.2.1 = some (tyX3 k) := by decide +kernel
abbrev cX3_init : ByteArray := prog_5_method_1_code
def yX3_init : MethodName := ⟨RX3, "<init>", "(LTwoGoats$Meadow;)V"⟩
abbrev cX3_fewest : ByteArray := prog_5_method_2_code
def yX3_fewest : MethodName := ⟨RX3, "fewest", "(LTwoGoats$Goats;II)I"⟩
abbrev cX3_stand : ByteArray := prog_5_method_3_code
def yX3_stand : MethodName := ⟨RX3, "stand", "(LTwoGoats$Goats;II)Z"⟩
abbrev cX3_leadsTo : ByteArray := prog_5_method_4_code
def yX3_leadsTo : MethodName := ⟨RX3, "leadsTo", "(JII)Z"⟩
abbrev cX3_note : ByteArray := prog_5_method_5_code
def yX3_note : MethodName := ⟨RX3, "note", "(J)V"⟩
def RX4 : String := "TwoGoats$Sheet"
def TX4 : u_T := fun k => match k with
  | 0 => ("TwoGoats$Sheet", "items", "[I", true)
  | 1 => ("TwoGoats$Sheet", "form", "I", false)
  | _ => ("TwoGoats$Sheet", "size", "I", false)
def tyX4 : Nat → FieldType := fun k => match k with
  | 0 => .array .int
  | 1 => .int
  | _ => .int
abbrev wsX40 : List Cond := u_ws RX4 TX4 3
theorem nmX4 : ∀ a, a < 3 → ∀ b, b < 3 → a ≠ b → (TX4 a).2.1 ≠ (TX4 b).2.1 := by decide +kernel
theorem tyX4_ok : ∀ k, k < 3 → parseFieldDescriptor (TX4 k).2.2.1 = some (tyX4 k) := by decide +kernel
abbrev cX4_init : ByteArray := prog_6_method_1_code
def yX4_init : MethodName := ⟨RX4, "<init>", "()V"⟩
abbrev cX4_renew : ByteArray := prog_6_method_2_code
def yX4_renew : MethodName := ⟨RX4, "renew", "(II)V"⟩
abbrev cX4_hasItems : ByteArray := prog_6_method_3_code
def yX4_hasItems : MethodName := ⟨RX4, "hasItems", "(II)Z"⟩
abbrev cX4_findsAt : ByteArray := prog_6_method_4_code
def yX4_findsAt : MethodName := ⟨RX4, "findsAt", "(II)I"⟩
abbrev cX4_item : ByteArray := prog_6_method_5_code
def yX4_item : MethodName := ⟨RX4, "item", "(I)I"⟩
abbrev cX4_put : ByteArray := prog_6_method_6_code
def yX4_put : MethodName := ⟨RX4, "put", "(II)V"⟩
abbrev cX4_cut : ByteArray := prog_6_method_7_code
def yX4_cut : MethodName := ⟨RX4, "cut", "(I)I"⟩
def RX5 : String := "TwoGoats$Text"
def TX5 : u_T := fun k => match k with
  | 0 => ("TwoGoats$Text", "bytes", "[I", true)
  | _ => ("TwoGoats$Text", "size", "I", false)
def tyX5 : Nat → FieldType := fun k => match k with
  | 0 => .array .int
  | _ => .int
abbrev wsX50 : List Cond := u_ws RX5 TX5 2
theorem nmX5 : ∀ a, a < 2 → ∀ b, b < 2 → a ≠ b → (TX5 a).2.1 ≠ (TX5 b).2.1 := by decide +kernel
theorem tyX5_ok : ∀ k, k < 2 → parseFieldDescriptor (TX5 k).2.2.1 = some (tyX5 k) := by decide +kernel
abbrev cX5_init : ByteArray := prog_7_method_1_code
def yX5_init : MethodName := ⟨RX5, "<init>", "()V"⟩
abbrev cX5_add : ByteArray := prog_7_method_2_code
def yX5_add : MethodName := ⟨RX5, "add", "(I)V"⟩
abbrev cX5_byteAt : ByteArray := prog_7_method_3_code
def yX5_byteAt : MethodName := ⟨RX5, "byteAt", "(I)I"⟩
def RX6 : String := "TwoGoats$Turns"
def TX6 : u_T := fun k => match k with
  | 0 => ("TwoGoats$Turns", "meadow", "LTwoGoats$Meadow;", true)
  | 1 => ("TwoGoats$Turns", "goats", "LTwoGoats$Goats;", true)
  | 2 => ("TwoGoats$Turns", "bare", "I", false)
  | _ => ("TwoGoats$Turns", "chosen", "I", false)
def tyX6 : Nat → FieldType := fun k => match k with
  | 0 => .object "TwoGoats$Meadow"
  | 1 => .object "TwoGoats$Goats"
  | 2 => .int
  | _ => .int
abbrev wsX60 : List Cond := u_ws RX6 TX6 4
theorem nmX6 : ∀ a, a < 4 → ∀ b, b < 4 → a ≠ b → (TX6 a).2.1 ≠ (TX6 b).2.1 := by decide +kernel
theorem tyX6_ok : ∀ k, k < 4 → parseFieldDescriptor (TX6 k).2.2.1 = some (tyX6 k) := by decide +kernel
abbrev cX6_init : ByteArray := prog_8_method_1_code
def yX6_init : MethodName := ⟨RX6, "<init>", "(LTwoGoats$Meadow;)V"⟩
abbrev cX6_play : ByteArray := prog_8_method_2_code
def yX6_play : MethodName := ⟨RX6, "play", "(LTwoGoats$Day;I)I"⟩
abbrev cX6_gain : ByteArray := prog_8_method_3_code
def yX6_gain : MethodName := ⟨RX6, "gain", "(IIII)I"⟩
abbrev cX6_gainByStep : ByteArray := prog_8_method_4_code
def yX6_gainByStep : MethodName := ⟨RX6, "gainByStep", "(IIII)I"⟩
def RX7 : String := "TwoGoats"
def TX7 : u_T := fun k => match k with
  | 0 => ("TwoGoats", "meadow", "LTwoGoats$Meadow;", true)
  | 1 => ("TwoGoats", "firstDay", "LTwoGoats$Day;", true)
  | 2 => ("TwoGoats", "secondDay", "LTwoGoats$Day;", true)
  | 3 => ("TwoGoats", "search", "LTwoGoats$Search;", true)
  | 4 => ("TwoGoats", "turns", "LTwoGoats$Turns;", true)
  | 5 => ("TwoGoats", "relaid", "LTwoGoats$Goats;", true)
  | 6 => ("TwoGoats", "sheets", "[LTwoGoats$Sheet;", true)
  | _ => ("TwoGoats", "finding", "I", false)
def tyX7 : Nat → FieldType := fun k => match k with
  | 0 => .object "TwoGoats$Meadow"
  | 1 => .object "TwoGoats$Day"
  | 2 => .object "TwoGoats$Day"
  | 3 => .object "TwoGoats$Search"
  | 4 => .object "TwoGoats$Turns"
  | 5 => .object "TwoGoats$Goats"
  | 6 => .array (.object "TwoGoats$Sheet")
  | _ => .int
abbrev wsX70 : List Cond := u_ws RX7 TX7 8
theorem nmX7 : ∀ a, a < 8 → ∀ b, b < 8 → a ≠ b → (TX7 a).2.1 ≠ (TX7 b).2.1 := by decide +kernel
theorem tyX7_ok : ∀ k, k < 8 → parseFieldDescriptor (TX7 k).2.2.1 = some (tyX7 k) := by decide +kernel
abbrev cX7_init : ByteArray := prog_1_method_1_code
def yX7_init : MethodName := ⟨RX7, "<init>", "()V"⟩
abbrev cX7_type : ByteArray := prog_1_method_2_code
def yX7_type : MethodName := ⟨RX7, "type", "(II)I"⟩
abbrev cX7_wipe : ByteArray := prog_1_method_3_code
def yX7_wipe : MethodName := ⟨RX7, "wipe", "(I)I"⟩
abbrev cX7_fault : ByteArray := prog_1_method_4_code
def yX7_fault : MethodName := ⟨RX7, "fault", "()I"⟩
abbrev cX7_path : ByteArray := prog_1_method_5_code
def yX7_path : MethodName := ⟨RX7, "path", "(II)I"⟩
abbrev cX7_start : ByteArray := prog_1_method_6_code
def yX7_start : MethodName := ⟨RX7, "start", "(II)I"⟩
abbrev cX7_set : ByteArray := prog_1_method_7_code
def yX7_set : MethodName := ⟨RX7, "set", "(II)I"⟩
abbrev cX7_setHeavy : ByteArray := prog_1_method_8_code
def yX7_setHeavy : MethodName := ⟨RX7, "setHeavy", "(II)I"⟩
abbrev cX7_thistle : ByteArray := prog_1_method_9_code
def yX7_thistle : MethodName := ⟨RX7, "thistle", "(II)I"⟩
abbrev cX7_read : ByteArray := prog_1_method_10_code
def yX7_read : MethodName := ⟨RX7, "read", "(II)I"⟩
abbrev cX7_undo : ByteArray := prog_1_method_11_code
def yX7_undo : MethodName := ⟨RX7, "undo", "(I)I"⟩
abbrev cX7_judged : ByteArray := prog_1_method_12_code
def yX7_judged : MethodName := ⟨RX7, "judged", "(I)I"⟩
abbrev cX7_state : ByteArray := prog_1_method_13_code
def yX7_state : MethodName := ⟨RX7, "state", "(III)I"⟩
abbrev cX7_rope : ByteArray := prog_1_method_14_code
def yX7_rope : MethodName := ⟨RX7, "rope", "(III)I"⟩
abbrev cX7_needs : ByteArray := prog_1_method_15_code
def yX7_needs : MethodName := ⟨RX7, "needs", "(I)I"⟩
abbrev cX7_soon : ByteArray := prog_1_method_16_code
def yX7_soon : MethodName := ⟨RX7, "soon", "(III)I"⟩
abbrev cX7_loose : ByteArray := prog_1_method_17_code
def yX7_loose : MethodName := ⟨RX7, "loose", "(I)I"⟩
abbrev cX7_pulled : ByteArray := prog_1_method_18_code
def yX7_pulled : MethodName := ⟨RX7, "pulled", "(IIII)I"⟩
abbrev cX7_began : ByteArray := prog_1_method_19_code
def yX7_began : MethodName := ⟨RX7, "began", "(II)I"⟩
abbrev cX7_game : ByteArray := prog_1_method_20_code
def yX7_game : MethodName := ⟨RX7, "game", "(III)I"⟩
abbrev cX7_alike : ByteArray := prog_1_method_21_code
def yX7_alike : MethodName := ⟨RX7, "alike", "()I"⟩
abbrev cX7_sheet : ByteArray := prog_1_method_22_code
def yX7_sheet : MethodName := ⟨RX7, "sheet", "(III)I"⟩
abbrev cX7_lose : ByteArray := prog_1_method_23_code
def yX7_lose : MethodName := ⟨RX7, "lose", "(I)I"⟩
abbrev cX7_lay : ByteArray := prog_1_method_24_code
def yX7_lay : MethodName := ⟨RX7, "lay", "(IIII)I"⟩
abbrev cX7_get : ByteArray := prog_1_method_25_code
def yX7_get : MethodName := ⟨RX7, "get", "(III)I"⟩
abbrev cX7_copy : ByteArray := prog_1_method_26_code
def yX7_copy : MethodName := ⟨RX7, "copy", "(IIIII)I"⟩
abbrev cX7_write : ByteArray := prog_1_method_27_code
def yX7_write : MethodName := ⟨RX7, "write", "(II)I"⟩
abbrev cX7_count : ByteArray := prog_1_method_28_code
def yX7_count : MethodName := ⟨RX7, "count", "(I)I"⟩
abbrev cX7_digest : ByteArray := prog_1_method_29_code
def yX7_digest : MethodName := ⟨RX7, "digest", "()J"⟩
abbrev cX7_isBelow : ByteArray := prog_1_method_30_code
def yX7_isBelow : MethodName := ⟨RX7, "isBelow", "(II)Z"⟩
abbrev cX7_textOf : ByteArray := prog_1_method_31_code
def yX7_textOf : MethodName := ⟨RX7, "textOf", "(I)LTwoGoats$Text;"⟩
abbrev cX7_dayOf : ByteArray := prog_1_method_32_code
def yX7_dayOf : MethodName := ⟨RX7, "dayOf", "(I)LTwoGoats$Day;"⟩
abbrev cX7_ended : ByteArray := prog_1_method_33_code
def yX7_ended : MethodName := ⟨RX7, "ended", "(I)LTwoGoats$Day;"⟩
abbrev cX7_found : ByteArray := prog_1_method_34_code
def yX7_found : MethodName := ⟨RX7, "found", "(I)I"⟩
abbrev cX7_codeOfByte : ByteArray := prog_1_method_35_code
def yX7_codeOfByte : MethodName := ⟨RX7, "codeOfByte", "(I)I"⟩
abbrev cX7_byteOfCode : ByteArray := prog_1_method_36_code
def yX7_byteOfCode : MethodName := ⟨RX7, "byteOfCode", "(I)I"⟩
def RX8 : String := "TwoGoatsModel"
def TX8 : u_T := fun k => match k with
  | 0 => ("TwoGoatsModel", "forms", "[I", true)
  | 1 => ("TwoGoatsModel", "sizes", "[I", true)
  | 2 => ("TwoGoatsModel", "items", "[I", true)
  | 3 => ("TwoGoatsModel", "moved", "[I", true)
  | 4 => ("TwoGoatsModel", "latest", "I", false)
  | 5 => ("TwoGoatsModel", "bytes", "[I", true)
  | 6 => ("TwoGoatsModel", "typed", "[I", true)
  | 7 => ("TwoGoatsModel", "at", "I", false)
  | 8 => ("TwoGoatsModel", "paths", "I", false)
  | 9 => ("TwoGoatsModel", "path", "[I", true)
  | 10 => ("TwoGoatsModel", "starts", "[I", true)
  | 11 => ("TwoGoatsModel", "settings", "[I", true)
  | 12 => ("TwoGoatsModel", "worths", "[I", true)
  | 13 => ("TwoGoatsModel", "places", "[I", true)
  | 14 => ("TwoGoatsModel", "rope", "[I", true)
  | 15 => ("TwoGoatsModel", "lies", "I", false)
  | 16 => ("TwoGoatsModel", "length", "I", false)
  | 17 => ("TwoGoatsModel", "eaten", "[I", true)
  | 18 => ("TwoGoatsModel", "dragged", "[I", true)
  | 19 => ("TwoGoatsModel", "empty", "I", false)
  | 20 => ("TwoGoatsModel", "ways", "[J", true)
  | 21 => ("TwoGoatsModel", "wayMany", "I", false)
  | 22 => ("TwoGoatsModel", "left", "[I", true)
  | 23 => ("TwoGoatsModel", "far", "[I", true)
  | 24 => ("TwoGoatsModel", "wayAt", "[J", true)
  | 25 => ("TwoGoatsModel", "emptyAt", "[I", true)
  | 26 => ("TwoGoatsModel", "sumAt", "[I", true)
  | 27 => ("TwoGoatsModel", "pick", "[I", true)
  | _ => ("TwoGoatsModel", "bestAt", "[I", true)
def tyX8 : Nat → FieldType := fun k => match k with
  | 0 => .array .int
  | 1 => .array .int
  | 2 => .array .int
  | 3 => .array .int
  | 4 => .int
  | 5 => .array .int
  | 6 => .array .int
  | 7 => .int
  | 8 => .int
  | 9 => .array .int
  | 10 => .array .int
  | 11 => .array .int
  | 12 => .array .int
  | 13 => .array .int
  | 14 => .array .int
  | 15 => .int
  | 16 => .int
  | 17 => .array .int
  | 18 => .array .int
  | 19 => .int
  | 20 => .array .long
  | 21 => .int
  | 22 => .array .int
  | 23 => .array .int
  | 24 => .array .long
  | 25 => .array .int
  | 26 => .array .int
  | 27 => .array .int
  | _ => .array .int
abbrev wsX80 : List Cond := u_ws RX8 TX8 29
theorem nmX8 : ∀ a, a < 29 → ∀ b, b < 29 → a ≠ b → (TX8 a).2.1 ≠ (TX8 b).2.1 := by decide +kernel
theorem tyX8_ok : ∀ k, k < 29 → parseFieldDescriptor (TX8 k).2.2.1 = some (tyX8 k) := by decide +kernel
abbrev cX8_init : ByteArray := prog_10_method_1_code
def yX8_init : MethodName := ⟨RX8, "<init>", "()V"⟩
abbrev cX8_in : ByteArray := prog_10_method_3_code
def yX8_in : MethodName := ⟨RX8, "in", "(JJJ)Z"⟩
abbrev cX8_isTwo : ByteArray := prog_10_method_4_code
def yX8_isTwo : MethodName := ⟨RX8, "isTwo", "(I)Z"⟩
abbrev cX8_met : ByteArray := prog_10_method_5_code
def yX8_met : MethodName := ⟨RX8, "met", "(I)I"⟩
abbrev cX8_isSheet : ByteArray := prog_10_method_6_code
def yX8_isSheet : MethodName := ⟨RX8, "isSheet", "(I)Z"⟩
abbrev cX8_sheet : ByteArray := prog_10_method_7_code
def yX8_sheet : MethodName := ⟨RX8, "sheet", "(III)I"⟩
abbrev cX8_lose : ByteArray := prog_10_method_8_code
def yX8_lose : MethodName := ⟨RX8, "lose", "(I)I"⟩
abbrev cX8_lacks : ByteArray := prog_10_method_9_code
def yX8_lacks : MethodName := ⟨RX8, "lacks", "(III)I"⟩
abbrev cX8_cut : ByteArray := prog_10_method_10_code
def yX8_cut : MethodName := ⟨RX8, "cut", "(II)I"⟩
abbrev cX8_lay : ByteArray := prog_10_method_11_code
def yX8_lay : MethodName := ⟨RX8, "lay", "(IIII)I"⟩
abbrev cX8_get : ByteArray := prog_10_method_12_code
def yX8_get : MethodName := ⟨RX8, "get", "(III)I"⟩
abbrev cX8_copy : ByteArray := prog_10_method_13_code
def yX8_copy : MethodName := ⟨RX8, "copy", "(IIIII)I"⟩
abbrev cX8_type : ByteArray := prog_10_method_14_code
def yX8_type : MethodName := ⟨RX8, "type", "(II)I"⟩
abbrev cX8_wipe : ByteArray := prog_10_method_15_code
def yX8_wipe : MethodName := ⟨RX8, "wipe", "(I)I"⟩
abbrev cX8_here : ByteArray := prog_10_method_16_code
def yX8_here : MethodName := ⟨RX8, "here", "()I"⟩
abbrev cX8_readsPart : ByteArray := prog_10_method_17_code
def yX8_readsPart : MethodName := ⟨RX8, "readsPart", "()Z"⟩
abbrev cX8_none : ByteArray := prog_10_method_18_code
def yX8_none : MethodName := ⟨RX8, "none", "()I"⟩
abbrev cX8_reads : ByteArray := prog_10_method_19_code
def yX8_reads : MethodName := ⟨RX8, "reads", "()I"⟩
abbrev cX8_fault : ByteArray := prog_10_method_20_code
def yX8_fault : MethodName := ⟨RX8, "fault", "()I"⟩
abbrev cX8_isPath : ByteArray := prog_10_method_21_code
def yX8_isPath : MethodName := ⟨RX8, "isPath", "(I)Z"⟩
abbrev cX8_isPlace : ByteArray := prog_10_method_22_code
def yX8_isPlace : MethodName := ⟨RX8, "isPlace", "(I)Z"⟩
abbrev cX8_path : ByteArray := prog_10_method_23_code
def yX8_path : MethodName := ⟨RX8, "path", "(II)I"⟩
abbrev cX8_start : ByteArray := prog_10_method_24_code
def yX8_start : MethodName := ⟨RX8, "start", "(II)I"⟩
abbrev cX8_set : ByteArray := prog_10_method_25_code
def yX8_set : MethodName := ⟨RX8, "set", "(II)I"⟩
abbrev cX8_thistle : ByteArray := prog_10_method_26_code
def yX8_thistle : MethodName := ⟨RX8, "thistle", "(II)I"⟩
abbrev cX8_read : ByteArray := prog_10_method_27_code
def yX8_read : MethodName := ⟨RX8, "read", "(II)I"⟩
abbrev cX8_undo : ByteArray := prog_10_method_28_code
def yX8_undo : MethodName := ⟨RX8, "undo", "(I)I"⟩
abbrev cX8_touches : ByteArray := prog_10_method_29_code
def yX8_touches : MethodName := ⟨RX8, "touches", "(II)Z"⟩
abbrev cX8_otherEnd : ByteArray := prog_10_method_30_code
def yX8_otherEnd : MethodName := ⟨RX8, "otherEnd", "(II)I"⟩
abbrev cX8_next : ByteArray := prog_10_method_31_code
def yX8_next : MethodName := ⟨RX8, "next", "(I)I"⟩
abbrev cX8_goes : ByteArray := prog_10_method_32_code
def yX8_goes : MethodName := ⟨RX8, "goes", "(II)V"⟩
abbrev cX8_begins : ByteArray := prog_10_method_33_code
def yX8_begins : MethodName := ⟨RX8, "begins", "(I)V"⟩
abbrev cX8_stepOf : ByteArray := prog_10_method_34_code
def yX8_stepOf : MethodName := ⟨RX8, "stepOf", "(II)I"⟩
abbrev cX8_lengthBehind : ByteArray := prog_10_method_35_code
def yX8_lengthBehind : MethodName := ⟨RX8, "lengthBehind", "(II)I"⟩
abbrev cX8_isBorne : ByteArray := prog_10_method_36_code
def yX8_isBorne : MethodName := ⟨RX8, "isBorne", "(I)Z"⟩
abbrev cX8_does : ByteArray := prog_10_method_37_code
def yX8_does : MethodName := ⟨RX8, "does", "(I)V"⟩
abbrev cX8_runs : ByteArray := prog_10_method_38_code
def yX8_runs : MethodName := ⟨RX8, "runs", "(II)I"⟩
abbrev cX8_done : ByteArray := prog_10_method_39_code
def yX8_done : MethodName := ⟨RX8, "done", "(I)I"⟩
abbrev cX8_judgedOf : ByteArray := prog_10_method_40_code
def yX8_judgedOf : MethodName := ⟨RX8, "judgedOf", "(I)I"⟩
abbrev cX8_judged : ByteArray := prog_10_method_41_code
def yX8_judged : MethodName := ⟨RX8, "judged", "(I)I"⟩
abbrev cX8_isSo : ByteArray := prog_10_method_42_code
def yX8_isSo : MethodName := ⟨RX8, "isSo", "(II)Z"⟩
abbrev cX8_stateNow : ByteArray := prog_10_method_43_code
def yX8_stateNow : MethodName := ⟨RX8, "stateNow", "(I)I"⟩
abbrev cX8_state : ByteArray := prog_10_method_44_code
def yX8_state : MethodName := ⟨RX8, "state", "(III)I"⟩
abbrev cX8_rope : ByteArray := prog_10_method_45_code
def yX8_rope : MethodName := ⟨RX8, "rope", "(III)I"⟩
abbrev cX8_needsOf : ByteArray := prog_10_method_46_code
def yX8_needsOf : MethodName := ⟨RX8, "needsOf", "(I)I"⟩
abbrev cX8_needs : ByteArray := prog_10_method_47_code
def yX8_needs : MethodName := ⟨RX8, "needs", "(I)I"⟩
abbrev cX8_wayNow : ByteArray := prog_10_method_48_code
def yX8_wayNow : MethodName := ⟨RX8, "wayNow", "()J"⟩
abbrev cX8_comesTo : ByteArray := prog_10_method_49_code
def yX8_comesTo : MethodName := ⟨RX8, "comesTo", "(J)V"⟩
abbrev cX8_keepsWay : ByteArray := prog_10_method_50_code
def yX8_keepsWay : MethodName := ⟨RX8, "keepsWay", "(J)V"⟩
abbrev cX8_soonOf : ByteArray := prog_10_method_51_code
def yX8_soonOf : MethodName := ⟨RX8, "soonOf", "(III)I"⟩
abbrev cX8_soon : ByteArray := prog_10_method_52_code
def yX8_soon : MethodName := ⟨RX8, "soon", "(III)I"⟩
abbrev cX8_looseOf : ByteArray := prog_10_method_53_code
def yX8_looseOf : MethodName := ⟨RX8, "looseOf", "(I)I"⟩
abbrev cX8_loose : ByteArray := prog_10_method_54_code
def yX8_loose : MethodName := ⟨RX8, "loose", "(I)I"⟩
abbrev cX8_haveLikeEnds : ByteArray := prog_10_method_55_code
def yX8_haveLikeEnds : MethodName := ⟨RX8, "haveLikeEnds", "(II)Z"⟩
abbrev cX8_pulledOf : ByteArray := prog_10_method_56_code
def yX8_pulledOf : MethodName := ⟨RX8, "pulledOf", "(IIII)I"⟩
abbrev cX8_pulled : ByteArray := prog_10_method_57_code
def yX8_pulled : MethodName := ⟨RX8, "pulled", "(IIII)I"⟩
abbrev cX8_beganOf : ByteArray := prog_10_method_58_code
def yX8_beganOf : MethodName := ⟨RX8, "beganOf", "(II)I"⟩
abbrev cX8_began : ByteArray := prog_10_method_59_code
def yX8_began : MethodName := ⟨RX8, "began", "(II)I"⟩
abbrev cX8_enters : ByteArray := prog_10_method_60_code
def yX8_enters : MethodName := ⟨RX8, "enters", "(IJII)V"⟩
abbrev cX8_mayPick : ByteArray := prog_10_method_61_code
def yX8_mayPick : MethodName := ⟨RX8, "mayPick", "(II)Z"⟩
abbrev cX8_gameOf : ByteArray := prog_10_method_62_code
def yX8_gameOf : MethodName := ⟨RX8, "gameOf", "(III)I"⟩
abbrev cX8_game : ByteArray := prog_10_method_63_code
def yX8_game : MethodName := ⟨RX8, "game", "(III)I"⟩
abbrev cX8_alikeNow : ByteArray := prog_10_method_64_code
def yX8_alikeNow : MethodName := ⟨RX8, "alikeNow", "()I"⟩
abbrev cX8_alike : ByteArray := prog_10_method_65_code
def yX8_alike : MethodName := ⟨RX8, "alike", "()I"⟩
abbrev cX8_write : ByteArray := prog_10_method_66_code
def yX8_write : MethodName := ⟨RX8, "write", "(II)I"⟩
abbrev cX8_count : ByteArray := prog_10_method_67_code
def yX8_count : MethodName := ⟨RX8, "count", "(I)I"⟩
abbrev cX8_digest : ByteArray := prog_10_method_68_code
def yX8_digest : MethodName := ⟨RX8, "digest", "()J"⟩
def RJ9 : String := "java/lang/Math"
def TJ9 : u_T := fun k => match k with
  | _ => ("", "", "", false)
def tyJ9 : Nat → FieldType := fun k => match k with
  | _ => .int
abbrev wsJ90 : List Cond := u_ws RJ9 TJ9 0
theorem nmJ9 : ∀ a, a < 0 → ∀ b, b < 0 → a ≠ b → (TJ9 a).2.1 ≠ (TJ9 b).2.1 := by decide +kernel
theorem tyJ9_ok : ∀ k, k < 0 → parseFieldDescriptor (TJ9 k).2.2.1 = some (tyJ9 k) := by decide +kernel
abbrev cJ9_max_7cf53 : ByteArray := prog_11_method_65_code
def yJ9_max_7cf53 : MethodName := ⟨RJ9, "max", "(II)I"⟩
abbrev cJ9_min_7cf53 : ByteArray := prog_11_method_69_code
def yJ9_min_7cf53 : MethodName := ⟨RJ9, "min", "(II)I"⟩
def RJ10 : String := "java/lang/System"
def TJ10 : u_T := fun k => match k with
  | _ => ("", "", "", false)
def tyJ10 : Nat → FieldType := fun k => match k with
  | _ => .int
abbrev wsJ100 : List Cond := u_ws RJ10 TJ10 0
theorem nmJ10 : ∀ a, a < 0 → ∀ b, b < 0 → a ≠ b → (TJ10 a).2.1 ≠ (TJ10 b).2.1 := by decide +kernel
theorem tyJ10_ok : ∀ k, k < 0 → parseFieldDescriptor (TJ10 k).2.2.1 = some (tyJ10 k) := by decide +kernel
def RJ7 : String := "java/util/Arrays"
def TJ7 : u_T := fun k => match k with
  | _ => ("", "", "", false)
def tyJ7 : Nat → FieldType := fun k => match k with
  | _ => .int
abbrev wsJ70 : List Cond := u_ws RJ7 TJ7 0
theorem nmJ7 : ∀ a, a < 0 → ∀ b, b < 0 → a ≠ b → (TJ7 a).2.1 ≠ (TJ7 b).2.1 := by decide +kernel
theorem tyJ7_ok : ∀ k, k < 0 → parseFieldDescriptor (TJ7 k).2.2.1 = some (tyJ7 k) := by decide +kernel
abbrev cJ7_fill_53178 : ByteArray := prog_13_method_103_code
def yJ7_fill_53178 : MethodName := ⟨RJ7, "fill", "([II)V"⟩
def RL : String := "TwoGoatsLaw"
abbrev cL_law : ByteArray := code
def yL_law : MethodName := ⟨RL, "law", "([I)Z"⟩
abbrev vwCl : List vw_C := [(RX0, TX0, 8), (RX1, TX1, 6), (RX2, TX2, 10), (RX3, TX3, 5), (RX4, TX4, 3), (RX5, TX5, 2), (RX6, TX6, 4), (RX7, TX7, 8), (RX8, TX8, 29)]
end
section
theorem dX0_init_0 : decode cX0_init 0 = .ok (.aload_n 0, 1) := by decide +kernel
theorem dX0_init_1 : decode cX0_init 1 = .ok (.invokespecial 3, 3) := by decide +kernel
theorem dX0_init_4 : decode cX0_init 4 = .ok (.aload_n 0, 1) := by decide +kernel
theorem dX0_init_5 : decode cX0_init 5 = .ok (.new 9, 3) := by decide +kernel
theorem dX0_init_8 : decode cX0_init 8 = .ok (.dup, 1) := by decide +kernel
theorem dX0_init_9 : decode cX0_init 9 = .ok (.invokespecial 11, 3) := by decide +kernel
theorem dX0_init_12 : decode cX0_init 12 = .ok (.putfield 12, 3) := by decide +kernel
theorem dX0_init_15 : decode cX0_init 15 = .ok (.aload_n 0, 1) := by decide +kernel
theorem dX0_init_16 : decode cX0_init 16 = .ok (.iconst 2, 1) := by decide +kernel
theorem dX0_init_17 : decode cX0_init 17 = .ok (.newarray .int, 2) := by decide +kernel
theorem dX0_init_19 : decode cX0_init 19 = .ok (.putfield 18, 3) := by decide +kernel
theorem dX0_init_22 : decode cX0_init 22 = .ok (.aload_n 0, 1) := by decide +kernel
theorem dX0_init_23 : decode cX0_init 23 = .ok (.iconst 2, 1) := by decide +kernel
theorem dX0_init_24 : decode cX0_init 24 = .ok (.newarray .int, 2) := by decide +kernel
theorem dX0_init_26 : decode cX0_init 26 = .ok (.putfield 22, 3) := by decide +kernel
theorem dX0_init_29 : decode cX0_init 29 = .ok (.aload_n 0, 1) := by decide +kernel
theorem dX0_init_30 : decode cX0_init 30 = .ok (.iconst 0, 1) := by decide +kernel
theorem dX0_init_31 : decode cX0_init 31 = .ok (.putfield 25, 3) := by decide +kernel
theorem dX0_init_34 : decode cX0_init 34 = .ok (.aload_n 0, 1) := by decide +kernel
theorem dX0_init_35 : decode cX0_init 35 = .ok (.iconst 0, 1) := by decide +kernel
theorem dX0_init_36 : decode cX0_init 36 = .ok (.putfield 29, 3) := by decide +kernel
theorem dX0_init_39 : decode cX0_init 39 = .ok (.aload_n 0, 1) := by decide +kernel
theorem dX0_init_40 : decode cX0_init 40 = .ok (.iconst 0, 1) := by decide +kernel
theorem dX0_init_41 : decode cX0_init 41 = .ok (.putfield 32, 3) := by decide +kernel
theorem dX0_init_44 : decode cX0_init 44 = .ok (.aload_n 0, 1) := by decide +kernel
theorem dX0_init_45 : decode cX0_init 45 = .ok (.aload_n 1, 1) := by decide +kernel
theorem dX0_init_46 : decode cX0_init 46 = .ok (.putfield 35, 3) := by decide +kernel
theorem dX0_init_49 : decode cX0_init 49 = .ok (.aload_n 0, 1) := by decide +kernel
theorem dX0_init_50 : decode cX0_init 50 = .ok (.new 39, 3) := by decide +kernel
theorem dX0_init_53 : decode cX0_init 53 = .ok (.dup, 1) := by decide +kernel
theorem dX0_init_54 : decode cX0_init 54 = .ok (.aload_n 1, 1) := by decide +kernel
theorem dX0_init_55 : decode cX0_init 55 = .ok (.invokespecial 41, 3) := by decide +kernel
theorem dX0_init_58 : decode cX0_init 58 = .ok (.putfield 44, 3) := by decide +kernel
theorem dX0_init_61 : decode cX0_init 61 = .ok (.return_, 1) := by decide +kernel
theorem dX0_walk_0 : decode cX0_walk 0 = .ok (.aload_n 0, 1) := by decide +kernel
theorem dX0_walk_1 : decode cX0_walk 1 = .ok (.getfield 44, 3) := by decide +kernel
theorem dX0_walk_4 : decode cX0_walk 4 = .ok (.aload_n 0, 1) := by decide +kernel
theorem dX0_walk_5 : decode cX0_walk 5 = .ok (.getfield 25, 3) := by decide +kernel
theorem dX0_walk_8 : decode cX0_walk 8 = .ok (.invokevirtual 48, 3) := by decide +kernel
theorem dX0_walk_11 : decode cX0_walk 11 = .ok (.aload_n 0, 1) := by decide +kernel
theorem dX0_walk_12 : decode cX0_walk 12 = .ok (.getfield 18, 3) := by decide +kernel
theorem dX0_walk_15 : decode cX0_walk 15 = .ok (.iconst 0, 1) := by decide +kernel
theorem dX0_walk_16 : decode cX0_walk 16 = .ok (.invokestatic 52, 3) := by decide +kernel
theorem dX0_walk_19 : decode cX0_walk 19 = .ok (.aload_n 0, 1) := by decide +kernel
theorem dX0_walk_20 : decode cX0_walk 20 = .ok (.getfield 22, 3) := by decide +kernel
theorem dX0_walk_23 : decode cX0_walk 23 = .ok (.iconst 0, 1) := by decide +kernel
theorem dX0_walk_24 : decode cX0_walk 24 = .ok (.invokestatic 52, 3) := by decide +kernel
theorem dX0_walk_27 : decode cX0_walk 27 = .ok (.aload_n 0, 1) := by decide +kernel
theorem dX0_walk_28 : decode cX0_walk 28 = .ok (.iconst 0, 1) := by decide +kernel
theorem dX0_walk_29 : decode cX0_walk 29 = .ok (.putfield 29, 3) := by decide +kernel
theorem dX0_walk_32 : decode cX0_walk 32 = .ok (.aload_n 0, 1) := by decide +kernel
theorem dX0_walk_33 : decode cX0_walk 33 = .ok (.iconst 0, 1) := by decide +kernel
theorem dX0_walk_34 : decode cX0_walk 34 = .ok (.putfield 32, 3) := by decide +kernel
theorem dX0_walk_37 : decode cX0_walk 37 = .ok (.aload_n 0, 1) := by decide +kernel
theorem dX0_walk_38 : decode cX0_walk 38 = .ok (.getfield 32, 3) := by decide +kernel
theorem dX0_walk_41 : decode cX0_walk 41 = .ok (.iload_n 1, 1) := by decide +kernel
theorem dX0_walk_42 : decode cX0_walk 42 = .ok (.if_icmp .ge 51, 3) := by decide +kernel
theorem dX0_walk_45 : decode cX0_walk 45 = .ok (.aload_n 0, 1) := by decide +kernel
theorem dX0_walk_46 : decode cX0_walk 46 = .ok (.getfield 32, 3) := by decide +kernel
theorem dX0_walk_49 : decode cX0_walk 49 = .ok (.aload_n 0, 1) := by decide +kernel
theorem dX0_walk_50 : decode cX0_walk 50 = .ok (.getfield 12, 3) := by decide +kernel
theorem dX0_walk_53 : decode cX0_walk 53 = .ok (.getfield 58, 3) := by decide +kernel
theorem dX0_walk_56 : decode cX0_walk 56 = .ok (.if_icmp .ge 37, 3) := by decide +kernel
theorem dX0_walk_59 : decode cX0_walk 59 = .ok (.aload_n 0, 1) := by decide +kernel
theorem dX0_walk_60 : decode cX0_walk 60 = .ok (.aload_n 0, 1) := by decide +kernel
theorem dX0_walk_61 : decode cX0_walk 61 = .ok (.getfield 12, 3) := by decide +kernel
theorem dX0_walk_64 : decode cX0_walk 64 = .ok (.aload_n 0, 1) := by decide +kernel
theorem dX0_walk_65 : decode cX0_walk 65 = .ok (.getfield 32, 3) := by decide +kernel
theorem dX0_walk_68 : decode cX0_walk 68 = .ok (.invokevirtual 61, 3) := by decide +kernel
theorem dX0_walk_71 : decode cX0_walk 71 = .ok (.invokestatic 65, 3) := by decide +kernel
theorem dX0_walk_74 : decode cX0_walk 74 = .ok (.invokevirtual 68, 3) := by decide +kernel
theorem dX0_walk_77 : decode cX0_walk 77 = .ok (.ifCond .eq 16, 3) := by decide +kernel
theorem dX0_walk_80 : decode cX0_walk 80 = .ok (.aload_n 0, 1) := by decide +kernel
theorem dX0_walk_81 : decode cX0_walk 81 = .ok (.dup, 1) := by decide +kernel
theorem dX0_walk_82 : decode cX0_walk 82 = .ok (.getfield 32, 3) := by decide +kernel
theorem dX0_walk_85 : decode cX0_walk 85 = .ok (.iconst 1, 1) := by decide +kernel
theorem dX0_walk_86 : decode cX0_walk 86 = .ok (.iadd, 1) := by decide +kernel
theorem dX0_walk_87 : decode cX0_walk 87 = .ok (.putfield 32, 3) := by decide +kernel
theorem dX0_walk_90 : decode cX0_walk 90 = .ok (.goto (-53), 3) := by decide +kernel
theorem dX0_walk_93 : decode cX0_walk 93 = .ok (.return_, 1) := by decide +kernel
theorem dX0_doStep_0 : decode cX0_doStep 0 = .ok (.iload_n 1, 1) := by decide +kernel
theorem dX0_doStep_1 : decode cX0_doStep 1 = .ok (.iconst 3, 1) := by decide +kernel
theorem dX0_doStep_2 : decode cX0_doStep 2 = .ok (.ishr, 1) := by decide +kernel
theorem dX0_doStep_3 : decode cX0_doStep 3 = .ok (.istore_n 2, 1) := by decide +kernel
theorem dX0_doStep_4 : decode cX0_doStep 4 = .ok (.iload_n 1, 1) := by decide +kernel
theorem dX0_doStep_5 : decode cX0_doStep 5 = .ok (.bipush 7, 2) := by decide +kernel
theorem dX0_doStep_7 : decode cX0_doStep 7 = .ok (.iand, 1) := by decide +kernel
theorem dX0_doStep_8 : decode cX0_doStep 8 = .ok (.istore_n 3, 1) := by decide +kernel
theorem dX0_doStep_9 : decode cX0_doStep 9 = .ok (.iload_n 1, 1) := by decide +kernel
theorem dX0_doStep_10 : decode cX0_doStep 10 = .ok (.iconst (-1), 1) := by decide +kernel
theorem dX0_doStep_11 : decode cX0_doStep 11 = .ok (.if_icmp .eq 15, 3) := by decide +kernel
theorem dX0_doStep_14 : decode cX0_doStep 14 = .ok (.aload_n 0, 1) := by decide +kernel
theorem dX0_doStep_15 : decode cX0_doStep 15 = .ok (.getfield 44, 3) := by decide +kernel
theorem dX0_doStep_18 : decode cX0_doStep 18 = .ok (.iload_n 2, 1) := by decide +kernel
theorem dX0_doStep_19 : decode cX0_doStep 19 = .ok (.iload_n 3, 1) := by decide +kernel
theorem dX0_doStep_20 : decode cX0_doStep 20 = .ok (.invokevirtual 72, 3) := by decide +kernel
theorem dX0_doStep_23 : decode cX0_doStep 23 = .ok (.ifCond .ne 5, 3) := by decide +kernel
theorem dX0_doStep_26 : decode cX0_doStep 26 = .ok (.iconst 0, 1) := by decide +kernel
theorem dX0_doStep_27 : decode cX0_doStep 27 = .ok (.ireturn, 1) := by decide +kernel
theorem dX0_doStep_28 : decode cX0_doStep 28 = .ok (.aload_n 0, 1) := by decide +kernel
theorem dX0_doStep_29 : decode cX0_doStep 29 = .ok (.getfield 44, 3) := by decide +kernel
theorem dX0_doStep_32 : decode cX0_doStep 32 = .ok (.iload_n 2, 1) := by decide +kernel
theorem dX0_doStep_33 : decode cX0_doStep 33 = .ok (.iload_n 3, 1) := by decide +kernel
theorem dX0_doStep_34 : decode cX0_doStep 34 = .ok (.invokevirtual 76, 3) := by decide +kernel
theorem dX0_doStep_37 : decode cX0_doStep 37 = .ok (.aload_n 0, 1) := by decide +kernel
theorem dX0_doStep_38 : decode cX0_doStep 38 = .ok (.getfield 44, 3) := by decide +kernel
theorem dX0_doStep_41 : decode cX0_doStep 41 = .ok (.getfield 80, 3) := by decide +kernel
theorem dX0_doStep_44 : decode cX0_doStep 44 = .ok (.aload_n 0, 1) := by decide +kernel
theorem dX0_doStep_45 : decode cX0_doStep 45 = .ok (.getfield 35, 3) := by decide +kernel
theorem dX0_doStep_48 : decode cX0_doStep 48 = .ok (.getfield 83, 3) := by decide +kernel
theorem dX0_doStep_51 : decode cX0_doStep 51 = .ok (.if_icmp .le 32, 3) := by decide +kernel
theorem dX0_doStep_54 : decode cX0_doStep 54 = .ok (.aload_n 0, 1) := by decide +kernel
theorem dX0_doStep_55 : decode cX0_doStep 55 = .ok (.getfield 35, 3) := by decide +kernel
theorem dX0_doStep_58 : decode cX0_doStep 58 = .ok (.iload_n 2, 1) := by decide +kernel
theorem dX0_doStep_59 : decode cX0_doStep 59 = .ok (.invokevirtual 88, 3) := by decide +kernel
theorem dX0_doStep_62 : decode cX0_doStep 62 = .ok (.ifCond .ne 14, 3) := by decide +kernel
theorem dX0_doStep_65 : decode cX0_doStep 65 = .ok (.aload_n 0, 1) := by decide +kernel
theorem dX0_doStep_66 : decode cX0_doStep 66 = .ok (.getfield 44, 3) := by decide +kernel
theorem dX0_doStep_69 : decode cX0_doStep 69 = .ok (.iload_n 2, 1) := by decide +kernel
theorem dX0_doStep_70 : decode cX0_doStep 70 = .ok (.iload_n 3, 1) := by decide +kernel
theorem dX0_doStep_71 : decode cX0_doStep 71 = .ok (.invokevirtual 76, 3) := by decide +kernel
theorem dX0_doStep_74 : decode cX0_doStep 74 = .ok (.iconst 0, 1) := by decide +kernel
theorem dX0_doStep_75 : decode cX0_doStep 75 = .ok (.ireturn, 1) := by decide +kernel
theorem dX0_doStep_76 : decode cX0_doStep 76 = .ok (.aload_n 0, 1) := by decide +kernel
theorem dX0_doStep_77 : decode cX0_doStep 77 = .ok (.iconst 1, 1) := by decide +kernel
theorem dX0_doStep_78 : decode cX0_doStep 78 = .ok (.iload_n 2, 1) := by decide +kernel
theorem dX0_doStep_79 : decode cX0_doStep 79 = .ok (.isub, 1) := by decide +kernel
theorem dX0_doStep_80 : decode cX0_doStep 80 = .ok (.invokevirtual 91, 3) := by decide +kernel
theorem dX0_doStep_83 : decode cX0_doStep 83 = .ok (.aload_n 0, 1) := by decide +kernel
theorem dX0_doStep_84 : decode cX0_doStep 84 = .ok (.iload_n 2, 1) := by decide +kernel
theorem dX0_doStep_85 : decode cX0_doStep 85 = .ok (.invokevirtual 94, 3) := by decide +kernel
theorem dX0_doStep_88 : decode cX0_doStep 88 = .ok (.iconst 1, 1) := by decide +kernel
theorem dX0_doStep_89 : decode cX0_doStep 89 = .ok (.ireturn, 1) := by decide +kernel
theorem dX0_drag_0 : decode cX0_drag 0 = .ok (.aload_n 0, 1) := by decide +kernel
theorem dX0_drag_1 : decode cX0_drag 1 = .ok (.getfield 44, 3) := by decide +kernel
theorem dX0_drag_4 : decode cX0_drag 4 = .ok (.getfield 97, 3) := by decide +kernel
theorem dX0_drag_7 : decode cX0_drag 7 = .ok (.istore_n 2, 1) := by decide +kernel
theorem dX0_drag_8 : decode cX0_drag 8 = .ok (.iconst 0, 1) := by decide +kernel
theorem dX0_drag_9 : decode cX0_drag 9 = .ok (.istore_n 3, 1) := by decide +kernel
theorem dX0_drag_10 : decode cX0_drag 10 = .ok (.iload_n 3, 1) := by decide +kernel
theorem dX0_drag_11 : decode cX0_drag 11 = .ok (.iload_n 2, 1) := by decide +kernel
theorem dX0_drag_12 : decode cX0_drag 12 = .ok (.if_icmp .ge 60, 3) := by decide +kernel
theorem dX0_drag_15 : decode cX0_drag 15 = .ok (.aload_n 0, 1) := by decide +kernel
theorem dX0_drag_16 : decode cX0_drag 16 = .ok (.getfield 44, 3) := by decide +kernel
theorem dX0_drag_19 : decode cX0_drag 19 = .ok (.getfield 80, 3) := by decide +kernel
theorem dX0_drag_22 : decode cX0_drag 22 = .ok (.aload_n 0, 1) := by decide +kernel
theorem dX0_drag_23 : decode cX0_drag 23 = .ok (.getfield 35, 3) := by decide +kernel
theorem dX0_drag_26 : decode cX0_drag 26 = .ok (.getfield 83, 3) := by decide +kernel
theorem dX0_drag_29 : decode cX0_drag 29 = .ok (.if_icmp .le 43, 3) := by decide +kernel
theorem dX0_drag_32 : decode cX0_drag 32 = .ok (.iload_n 1, 1) := by decide +kernel
theorem dX0_drag_33 : decode cX0_drag 33 = .ok (.iconst 2, 1) := by decide +kernel
theorem dX0_drag_34 : decode cX0_drag 34 = .ok (.invokestatic 98, 3) := by decide +kernel
theorem dX0_drag_37 : decode cX0_drag 37 = .ok (.ifCond .eq 35, 3) := by decide +kernel
theorem dX0_drag_40 : decode cX0_drag 40 = .ok (.aload_n 0, 1) := by decide +kernel
theorem dX0_drag_41 : decode cX0_drag 41 = .ok (.getfield 44, 3) := by decide +kernel
theorem dX0_drag_44 : decode cX0_drag 44 = .ok (.iload_n 1, 1) := by decide +kernel
theorem dX0_drag_45 : decode cX0_drag 45 = .ok (.aload_n 0, 1) := by decide +kernel
theorem dX0_drag_46 : decode cX0_drag 46 = .ok (.getfield 44, 3) := by decide +kernel
theorem dX0_drag_49 : decode cX0_drag 49 = .ok (.iload_n 1, 1) := by decide +kernel
theorem dX0_drag_50 : decode cX0_drag 50 = .ok (.invokevirtual 101, 3) := by decide +kernel
theorem dX0_drag_53 : decode cX0_drag 53 = .ok (.invokevirtual 76, 3) := by decide +kernel
theorem dX0_drag_56 : decode cX0_drag 56 = .ok (.aload_n 0, 1) := by decide +kernel
theorem dX0_drag_57 : decode cX0_drag 57 = .ok (.getfield 22, 3) := by decide +kernel
theorem dX0_drag_60 : decode cX0_drag 60 = .ok (.iload_n 1, 1) := by decide +kernel
theorem dX0_drag_61 : decode cX0_drag 61 = .ok (.dup2, 1) := by decide +kernel
theorem dX0_drag_62 : decode cX0_drag 62 = .ok (.iaload, 1) := by decide +kernel
theorem dX0_drag_63 : decode cX0_drag 63 = .ok (.iconst 1, 1) := by decide +kernel
theorem dX0_drag_64 : decode cX0_drag 64 = .ok (.iadd, 1) := by decide +kernel
theorem dX0_drag_65 : decode cX0_drag 65 = .ok (.iastore, 1) := by decide +kernel
theorem dX0_drag_66 : decode cX0_drag 66 = .ok (.iinc 3 1, 3) := by decide +kernel
theorem dX0_drag_69 : decode cX0_drag 69 = .ok (.goto (-59), 3) := by decide +kernel
theorem dX0_drag_72 : decode cX0_drag 72 = .ok (.return_, 1) := by decide +kernel
theorem dX0_eat_0 : decode cX0_eat 0 = .ok (.iload_n 1, 1) := by decide +kernel
theorem dX0_eat_1 : decode cX0_eat 1 = .ok (.iconst 2, 1) := by decide +kernel
theorem dX0_eat_2 : decode cX0_eat 2 = .ok (.invokestatic 98, 3) := by decide +kernel
theorem dX0_eat_5 : decode cX0_eat 5 = .ok (.ifCond .eq 46, 3) := by decide +kernel
theorem dX0_eat_8 : decode cX0_eat 8 = .ok (.aload_n 0, 1) := by decide +kernel
theorem dX0_eat_9 : decode cX0_eat 9 = .ok (.getfield 44, 3) := by decide +kernel
theorem dX0_eat_12 : decode cX0_eat 12 = .ok (.getfield 104, 3) := by decide +kernel
theorem dX0_eat_15 : decode cX0_eat 15 = .ok (.iload_n 1, 1) := by decide +kernel
theorem dX0_eat_16 : decode cX0_eat 16 = .ok (.iaload, 1) := by decide +kernel
theorem dX0_eat_17 : decode cX0_eat 17 = .ok (.istore_n 2, 1) := by decide +kernel
theorem dX0_eat_18 : decode cX0_eat 18 = .ok (.aload_n 0, 1) := by decide +kernel
theorem dX0_eat_19 : decode cX0_eat 19 = .ok (.getfield 18, 3) := by decide +kernel
theorem dX0_eat_22 : decode cX0_eat 22 = .ok (.iload_n 1, 1) := by decide +kernel
theorem dX0_eat_23 : decode cX0_eat 23 = .ok (.dup2, 1) := by decide +kernel
theorem dX0_eat_24 : decode cX0_eat 24 = .ok (.iaload, 1) := by decide +kernel
theorem dX0_eat_25 : decode cX0_eat 25 = .ok (.aload_n 0, 1) := by decide +kernel
theorem dX0_eat_26 : decode cX0_eat 26 = .ok (.getfield 35, 3) := by decide +kernel
theorem dX0_eat_29 : decode cX0_eat 29 = .ok (.iload_n 2, 1) := by decide +kernel
theorem dX0_eat_30 : decode cX0_eat 30 = .ok (.aload_n 0, 1) := by decide +kernel
theorem dX0_eat_31 : decode cX0_eat 31 = .ok (.getfield 29, 3) := by decide +kernel
theorem dX0_eat_34 : decode cX0_eat 34 = .ok (.invokevirtual 107, 3) := by decide +kernel
theorem dX0_eat_37 : decode cX0_eat 37 = .ok (.iadd, 1) := by decide +kernel
theorem dX0_eat_38 : decode cX0_eat 38 = .ok (.iastore, 1) := by decide +kernel
theorem dX0_eat_39 : decode cX0_eat 39 = .ok (.aload_n 0, 1) := by decide +kernel
theorem dX0_eat_40 : decode cX0_eat 40 = .ok (.dup, 1) := by decide +kernel
theorem dX0_eat_41 : decode cX0_eat 41 = .ok (.getfield 29, 3) := by decide +kernel
theorem dX0_eat_44 : decode cX0_eat 44 = .ok (.iconst 1, 1) := by decide +kernel
theorem dX0_eat_45 : decode cX0_eat 45 = .ok (.iload_n 2, 1) := by decide +kernel
theorem dX0_eat_46 : decode cX0_eat 46 = .ok (.ishl, 1) := by decide +kernel
theorem dX0_eat_47 : decode cX0_eat 47 = .ok (.ior, 1) := by decide +kernel
theorem dX0_eat_48 : decode cX0_eat 48 = .ok (.putfield 29, 3) := by decide +kernel
theorem dX0_eat_51 : decode cX0_eat 51 = .ok (.return_, 1) := by decide +kernel
theorem dX0_told_0 : decode cX0_told 0 = .ok (.iload_n 1, 1) := by decide +kernel
theorem dX0_told_1 : decode cX0_told 1 = .ok (.tableswitch 100 0 6 #[43, 53, 63, 71, 79, 86, 93], 43) := by decide +kernel
theorem dX0_told_44 : decode cX0_told 44 = .ok (.aload_n 0, 1) := by decide +kernel
theorem dX0_told_45 : decode cX0_told 45 = .ok (.getfield 44, 3) := by decide +kernel
theorem dX0_told_48 : decode cX0_told 48 = .ok (.getfield 104, 3) := by decide +kernel
theorem dX0_told_51 : decode cX0_told 51 = .ok (.iconst 0, 1) := by decide +kernel
theorem dX0_told_52 : decode cX0_told 52 = .ok (.iaload, 1) := by decide +kernel
theorem dX0_told_53 : decode cX0_told 53 = .ok (.ireturn, 1) := by decide +kernel
theorem dX0_told_54 : decode cX0_told 54 = .ok (.aload_n 0, 1) := by decide +kernel
theorem dX0_told_55 : decode cX0_told 55 = .ok (.getfield 44, 3) := by decide +kernel
theorem dX0_told_58 : decode cX0_told 58 = .ok (.getfield 104, 3) := by decide +kernel
theorem dX0_told_61 : decode cX0_told 61 = .ok (.iconst 1, 1) := by decide +kernel
theorem dX0_told_62 : decode cX0_told 62 = .ok (.iaload, 1) := by decide +kernel
theorem dX0_told_63 : decode cX0_told 63 = .ok (.ireturn, 1) := by decide +kernel
theorem dX0_told_64 : decode cX0_told 64 = .ok (.aload_n 0, 1) := by decide +kernel
theorem dX0_told_65 : decode cX0_told 65 = .ok (.getfield 44, 3) := by decide +kernel
theorem dX0_told_68 : decode cX0_told 68 = .ok (.getfield 97, 3) := by decide +kernel
theorem dX0_told_71 : decode cX0_told 71 = .ok (.ireturn, 1) := by decide +kernel
theorem dX0_told_72 : decode cX0_told 72 = .ok (.aload_n 0, 1) := by decide +kernel
theorem dX0_told_73 : decode cX0_told 73 = .ok (.getfield 44, 3) := by decide +kernel
theorem dX0_told_76 : decode cX0_told 76 = .ok (.getfield 80, 3) := by decide +kernel
theorem dX0_told_79 : decode cX0_told 79 = .ok (.ireturn, 1) := by decide +kernel
theorem dX0_told_80 : decode cX0_told 80 = .ok (.aload_n 0, 1) := by decide +kernel
theorem dX0_told_81 : decode cX0_told 81 = .ok (.getfield 18, 3) := by decide +kernel
theorem dX0_told_84 : decode cX0_told 84 = .ok (.iconst 0, 1) := by decide +kernel
theorem dX0_told_85 : decode cX0_told 85 = .ok (.iaload, 1) := by decide +kernel
theorem dX0_told_86 : decode cX0_told 86 = .ok (.ireturn, 1) := by decide +kernel
theorem dX0_told_87 : decode cX0_told 87 = .ok (.aload_n 0, 1) := by decide +kernel
theorem dX0_told_88 : decode cX0_told 88 = .ok (.getfield 18, 3) := by decide +kernel
theorem dX0_told_91 : decode cX0_told 91 = .ok (.iconst 1, 1) := by decide +kernel
theorem dX0_told_92 : decode cX0_told 92 = .ok (.iaload, 1) := by decide +kernel
theorem dX0_told_93 : decode cX0_told 93 = .ok (.ireturn, 1) := by decide +kernel
theorem dX0_told_94 : decode cX0_told 94 = .ok (.aload_n 0, 1) := by decide +kernel
theorem dX0_told_95 : decode cX0_told 95 = .ok (.getfield 22, 3) := by decide +kernel
theorem dX0_told_98 : decode cX0_told 98 = .ok (.iconst 0, 1) := by decide +kernel
theorem dX0_told_99 : decode cX0_told 99 = .ok (.iaload, 1) := by decide +kernel
theorem dX0_told_100 : decode cX0_told 100 = .ok (.ireturn, 1) := by decide +kernel
theorem dX0_told_101 : decode cX0_told 101 = .ok (.aload_n 0, 1) := by decide +kernel
theorem dX0_told_102 : decode cX0_told 102 = .ok (.getfield 22, 3) := by decide +kernel
theorem dX0_told_105 : decode cX0_told 105 = .ok (.iconst 1, 1) := by decide +kernel
theorem dX0_told_106 : decode cX0_told 106 = .ok (.iaload, 1) := by decide +kernel
theorem dX0_told_107 : decode cX0_told 107 = .ok (.ireturn, 1) := by decide +kernel
theorem dX0_longestUnbound_0 : decode cX0_longestUnbound 0 = .ok (.aload_n 0, 1) := by decide +kernel
theorem dX0_longestUnbound_1 : decode cX0_longestUnbound 1 = .ok (.getfield 44, 3) := by decide +kernel
theorem dX0_longestUnbound_4 : decode cX0_longestUnbound 4 = .ok (.aload_n 0, 1) := by decide +kernel
theorem dX0_longestUnbound_5 : decode cX0_longestUnbound 5 = .ok (.getfield 25, 3) := by decide +kernel
theorem dX0_longestUnbound_8 : decode cX0_longestUnbound 8 = .ok (.invokevirtual 48, 3) := by decide +kernel
theorem dX0_longestUnbound_11 : decode cX0_longestUnbound 11 = .ok (.iconst 0, 1) := by decide +kernel
theorem dX0_longestUnbound_12 : decode cX0_longestUnbound 12 = .ok (.istore_n 1, 1) := by decide +kernel
theorem dX0_longestUnbound_13 : decode cX0_longestUnbound 13 = .ok (.iconst 0, 1) := by decide +kernel
theorem dX0_longestUnbound_14 : decode cX0_longestUnbound 14 = .ok (.istore_n 2, 1) := by decide +kernel
theorem dX0_longestUnbound_15 : decode cX0_longestUnbound 15 = .ok (.iload_n 2, 1) := by decide +kernel
theorem dX0_longestUnbound_16 : decode cX0_longestUnbound 16 = .ok (.aload_n 0, 1) := by decide +kernel
theorem dX0_longestUnbound_17 : decode cX0_longestUnbound 17 = .ok (.getfield 12, 3) := by decide +kernel
theorem dX0_longestUnbound_20 : decode cX0_longestUnbound 20 = .ok (.getfield 58, 3) := by decide +kernel
theorem dX0_longestUnbound_23 : decode cX0_longestUnbound 23 = .ok (.if_icmp .ge 72, 3) := by decide +kernel
theorem dX0_longestUnbound_26 : decode cX0_longestUnbound 26 = .ok (.aload_n 0, 1) := by decide +kernel
theorem dX0_longestUnbound_27 : decode cX0_longestUnbound 27 = .ok (.getfield 12, 3) := by decide +kernel
theorem dX0_longestUnbound_30 : decode cX0_longestUnbound 30 = .ok (.iload_n 2, 1) := by decide +kernel
theorem dX0_longestUnbound_31 : decode cX0_longestUnbound 31 = .ok (.invokevirtual 61, 3) := by decide +kernel
theorem dX0_longestUnbound_34 : decode cX0_longestUnbound 34 = .ok (.invokestatic 65, 3) := by decide +kernel
theorem dX0_longestUnbound_37 : decode cX0_longestUnbound 37 = .ok (.istore_n 3, 1) := by decide +kernel
theorem dX0_longestUnbound_38 : decode cX0_longestUnbound 38 = .ok (.iload_n 3, 1) := by decide +kernel
theorem dX0_longestUnbound_39 : decode cX0_longestUnbound 39 = .ok (.iconst (-1), 1) := by decide +kernel
theorem dX0_longestUnbound_40 : decode cX0_longestUnbound 40 = .ok (.if_icmp .eq 55, 3) := by decide +kernel
theorem dX0_longestUnbound_43 : decode cX0_longestUnbound 43 = .ok (.aload_n 0, 1) := by decide +kernel
theorem dX0_longestUnbound_44 : decode cX0_longestUnbound 44 = .ok (.getfield 44, 3) := by decide +kernel
theorem dX0_longestUnbound_47 : decode cX0_longestUnbound 47 = .ok (.iload_n 3, 1) := by decide +kernel
theorem dX0_longestUnbound_48 : decode cX0_longestUnbound 48 = .ok (.iconst 3, 1) := by decide +kernel
theorem dX0_longestUnbound_49 : decode cX0_longestUnbound 49 = .ok (.ishr, 1) := by decide +kernel
theorem dX0_longestUnbound_50 : decode cX0_longestUnbound 50 = .ok (.iload_n 3, 1) := by decide +kernel
theorem dX0_longestUnbound_51 : decode cX0_longestUnbound 51 = .ok (.bipush 7, 2) := by decide +kernel
theorem dX0_longestUnbound_53 : decode cX0_longestUnbound 53 = .ok (.iand, 1) := by decide +kernel
theorem dX0_longestUnbound_54 : decode cX0_longestUnbound 54 = .ok (.invokevirtual 72, 3) := by decide +kernel
theorem dX0_longestUnbound_57 : decode cX0_longestUnbound 57 = .ok (.ifCond .ne 6, 3) := by decide +kernel
theorem dX0_longestUnbound_60 : decode cX0_longestUnbound 60 = .ok (.goto 35, 3) := by decide +kernel
theorem dX0_longestUnbound_63 : decode cX0_longestUnbound 63 = .ok (.aload_n 0, 1) := by decide +kernel
theorem dX0_longestUnbound_64 : decode cX0_longestUnbound 64 = .ok (.getfield 44, 3) := by decide +kernel
theorem dX0_longestUnbound_67 : decode cX0_longestUnbound 67 = .ok (.iload_n 3, 1) := by decide +kernel
theorem dX0_longestUnbound_68 : decode cX0_longestUnbound 68 = .ok (.iconst 3, 1) := by decide +kernel
theorem dX0_longestUnbound_69 : decode cX0_longestUnbound 69 = .ok (.ishr, 1) := by decide +kernel
theorem dX0_longestUnbound_70 : decode cX0_longestUnbound 70 = .ok (.iload_n 3, 1) := by decide +kernel
theorem dX0_longestUnbound_71 : decode cX0_longestUnbound 71 = .ok (.bipush 7, 2) := by decide +kernel
theorem dX0_longestUnbound_73 : decode cX0_longestUnbound 73 = .ok (.iand, 1) := by decide +kernel
theorem dX0_longestUnbound_74 : decode cX0_longestUnbound 74 = .ok (.invokevirtual 76, 3) := by decide +kernel
theorem dX0_longestUnbound_77 : decode cX0_longestUnbound 77 = .ok (.iload_n 1, 1) := by decide +kernel
theorem dX0_longestUnbound_78 : decode cX0_longestUnbound 78 = .ok (.aload_n 0, 1) := by decide +kernel
theorem dX0_longestUnbound_79 : decode cX0_longestUnbound 79 = .ok (.getfield 44, 3) := by decide +kernel
theorem dX0_longestUnbound_82 : decode cX0_longestUnbound 82 = .ok (.getfield 80, 3) := by decide +kernel
theorem dX0_longestUnbound_85 : decode cX0_longestUnbound 85 = .ok (.invokestatic 111, 3) := by decide +kernel
theorem dX0_longestUnbound_88 : decode cX0_longestUnbound 88 = .ok (.istore_n 1, 1) := by decide +kernel
theorem dX0_longestUnbound_89 : decode cX0_longestUnbound 89 = .ok (.iinc 2 1, 3) := by decide +kernel
theorem dX0_longestUnbound_92 : decode cX0_longestUnbound 92 = .ok (.goto (-77), 3) := by decide +kernel
theorem dX0_longestUnbound_95 : decode cX0_longestUnbound 95 = .ok (.iload_n 1, 1) := by decide +kernel
theorem dX0_longestUnbound_96 : decode cX0_longestUnbound 96 = .ok (.ireturn, 1) := by decide +kernel
theorem dX1_init_0 : decode cX1_init 0 = .ok (.aload_n 0, 1) := by decide +kernel
theorem dX1_init_1 : decode cX1_init 1 = .ok (.invokespecial 3, 3) := by decide +kernel
theorem dX1_init_4 : decode cX1_init 4 = .ok (.aload_n 0, 1) := by decide +kernel
theorem dX1_init_5 : decode cX1_init 5 = .ok (.iconst 2, 1) := by decide +kernel
theorem dX1_init_6 : decode cX1_init 6 = .ok (.newarray .int, 2) := by decide +kernel
theorem dX1_init_8 : decode cX1_init 8 = .ok (.putfield 9, 3) := by decide +kernel
theorem dX1_init_11 : decode cX1_init 11 = .ok (.aload_n 0, 1) := by decide +kernel
theorem dX1_init_12 : decode cX1_init 12 = .ok (.bipush 64, 2) := by decide +kernel
theorem dX1_init_14 : decode cX1_init 14 = .ok (.newarray .int, 2) := by decide +kernel
theorem dX1_init_16 : decode cX1_init 16 = .ok (.putfield 15, 3) := by decide +kernel
theorem dX1_init_19 : decode cX1_init 19 = .ok (.aload_n 0, 1) := by decide +kernel
theorem dX1_init_20 : decode cX1_init 20 = .ok (.iconst 0, 1) := by decide +kernel
theorem dX1_init_21 : decode cX1_init 21 = .ok (.putfield 18, 3) := by decide +kernel
theorem dX1_init_24 : decode cX1_init 24 = .ok (.aload_n 0, 1) := by decide +kernel
theorem dX1_init_25 : decode cX1_init 25 = .ok (.iconst 0, 1) := by decide +kernel
theorem dX1_init_26 : decode cX1_init 26 = .ok (.putfield 22, 3) := by decide +kernel
theorem dX1_init_29 : decode cX1_init 29 = .ok (.aload_n 0, 1) := by decide +kernel
theorem dX1_init_30 : decode cX1_init 30 = .ok (.iconst 0, 1) := by decide +kernel
theorem dX1_init_31 : decode cX1_init 31 = .ok (.putfield 25, 3) := by decide +kernel
theorem dX1_init_34 : decode cX1_init 34 = .ok (.aload_n 0, 1) := by decide +kernel
theorem dX1_init_35 : decode cX1_init 35 = .ok (.aload_n 1, 1) := by decide +kernel
theorem dX1_init_36 : decode cX1_init 36 = .ok (.putfield 28, 3) := by decide +kernel
theorem dX1_init_39 : decode cX1_init 39 = .ok (.return_, 1) := by decide +kernel
theorem dX1_standBoth_0 : decode cX1_standBoth 0 = .ok (.aload_n 0, 1) := by decide +kernel
theorem dX1_standBoth_1 : decode cX1_standBoth 1 = .ok (.getfield 9, 3) := by decide +kernel
theorem dX1_standBoth_4 : decode cX1_standBoth 4 = .ok (.iconst 0, 1) := by decide +kernel
theorem dX1_standBoth_5 : decode cX1_standBoth 5 = .ok (.iload_n 1, 1) := by decide +kernel
theorem dX1_standBoth_6 : decode cX1_standBoth 6 = .ok (.iastore, 1) := by decide +kernel
theorem dX1_standBoth_7 : decode cX1_standBoth 7 = .ok (.aload_n 0, 1) := by decide +kernel
theorem dX1_standBoth_8 : decode cX1_standBoth 8 = .ok (.getfield 9, 3) := by decide +kernel
theorem dX1_standBoth_11 : decode cX1_standBoth 11 = .ok (.iconst 1, 1) := by decide +kernel
theorem dX1_standBoth_12 : decode cX1_standBoth 12 = .ok (.iload_n 1, 1) := by decide +kernel
theorem dX1_standBoth_13 : decode cX1_standBoth 13 = .ok (.iastore, 1) := by decide +kernel
theorem dX1_standBoth_14 : decode cX1_standBoth 14 = .ok (.aload_n 0, 1) := by decide +kernel
theorem dX1_standBoth_15 : decode cX1_standBoth 15 = .ok (.iconst 0, 1) := by decide +kernel
theorem dX1_standBoth_16 : decode cX1_standBoth 16 = .ok (.putfield 18, 3) := by decide +kernel
theorem dX1_standBoth_19 : decode cX1_standBoth 19 = .ok (.aload_n 0, 1) := by decide +kernel
theorem dX1_standBoth_20 : decode cX1_standBoth 20 = .ok (.iconst 0, 1) := by decide +kernel
theorem dX1_standBoth_21 : decode cX1_standBoth 21 = .ok (.putfield 22, 3) := by decide +kernel
theorem dX1_standBoth_24 : decode cX1_standBoth 24 = .ok (.aload_n 0, 1) := by decide +kernel
theorem dX1_standBoth_25 : decode cX1_standBoth 25 = .ok (.iconst 0, 1) := by decide +kernel
theorem dX1_standBoth_26 : decode cX1_standBoth 26 = .ok (.putfield 25, 3) := by decide +kernel
theorem dX1_standBoth_29 : decode cX1_standBoth 29 = .ok (.return_, 1) := by decide +kernel
theorem dX1_become_0 : decode cX1_become 0 = .ok (.aload_n 0, 1) := by decide +kernel
theorem dX1_become_1 : decode cX1_become 1 = .ok (.aload_n 1, 1) := by decide +kernel
theorem dX1_become_2 : decode cX1_become 2 = .ok (.getfield 9, 3) := by decide +kernel
theorem dX1_become_5 : decode cX1_become 5 = .ok (.iconst 0, 1) := by decide +kernel
theorem dX1_become_6 : decode cX1_become 6 = .ok (.iaload, 1) := by decide +kernel
theorem dX1_become_7 : decode cX1_become 7 = .ok (.invokevirtual 32, 3) := by decide +kernel
theorem dX1_become_10 : decode cX1_become 10 = .ok (.iconst 0, 1) := by decide +kernel
theorem dX1_become_11 : decode cX1_become 11 = .ok (.istore_n 2, 1) := by decide +kernel
theorem dX1_become_12 : decode cX1_become 12 = .ok (.iload_n 2, 1) := by decide +kernel
theorem dX1_become_13 : decode cX1_become 13 = .ok (.aload_n 1, 1) := by decide +kernel
theorem dX1_become_14 : decode cX1_become 14 = .ok (.getfield 22, 3) := by decide +kernel
theorem dX1_become_17 : decode cX1_become 17 = .ok (.if_icmp .ge 19, 3) := by decide +kernel
theorem dX1_become_20 : decode cX1_become 20 = .ok (.aload_n 0, 1) := by decide +kernel
theorem dX1_become_21 : decode cX1_become 21 = .ok (.iconst 1, 1) := by decide +kernel
theorem dX1_become_22 : decode cX1_become 22 = .ok (.aload_n 1, 1) := by decide +kernel
theorem dX1_become_23 : decode cX1_become 23 = .ok (.iload_n 2, 1) := by decide +kernel
theorem dX1_become_24 : decode cX1_become 24 = .ok (.invokevirtual 36, 3) := by decide +kernel
theorem dX1_become_27 : decode cX1_become 27 = .ok (.invokevirtual 40, 3) := by decide +kernel
theorem dX1_become_30 : decode cX1_become 30 = .ok (.iinc 2 1, 3) := by decide +kernel
theorem dX1_become_33 : decode cX1_become 33 = .ok (.goto (-21), 3) := by decide +kernel
theorem dX1_become_36 : decode cX1_become 36 = .ok (.return_, 1) := by decide +kernel
theorem dX1_relay_0 : decode cX1_relay 0 = .ok (.aload_n 0, 1) := by decide +kernel
theorem dX1_relay_1 : decode cX1_relay 1 = .ok (.getfield 28, 3) := by decide +kernel
theorem dX1_relay_4 : decode cX1_relay 4 = .ok (.iload_n 2, 1) := by decide +kernel
theorem dX1_relay_5 : decode cX1_relay 5 = .ok (.iload_n 3, 1) := by decide +kernel
theorem dX1_relay_6 : decode cX1_relay 6 = .ok (.invokevirtual 44, 3) := by decide +kernel
theorem dX1_relay_9 : decode cX1_relay 9 = .ok (.istore 4, 2) := by decide +kernel
theorem dX1_relay_11 : decode cX1_relay 11 = .ok (.aload_n 0, 1) := by decide +kernel
theorem dX1_relay_12 : decode cX1_relay 12 = .ok (.aload_n 1, 1) := by decide +kernel
theorem dX1_relay_13 : decode cX1_relay 13 = .ok (.getfield 9, 3) := by decide +kernel
theorem dX1_relay_16 : decode cX1_relay 16 = .ok (.iconst 0, 1) := by decide +kernel
theorem dX1_relay_17 : decode cX1_relay 17 = .ok (.iaload, 1) := by decide +kernel
theorem dX1_relay_18 : decode cX1_relay 18 = .ok (.invokevirtual 32, 3) := by decide +kernel
theorem dX1_relay_21 : decode cX1_relay 21 = .ok (.iconst 0, 1) := by decide +kernel
theorem dX1_relay_22 : decode cX1_relay 22 = .ok (.istore 5, 2) := by decide +kernel
theorem dX1_relay_24 : decode cX1_relay 24 = .ok (.iload 5, 2) := by decide +kernel
theorem dX1_relay_26 : decode cX1_relay 26 = .ok (.aload_n 1, 1) := by decide +kernel
theorem dX1_relay_27 : decode cX1_relay 27 = .ok (.getfield 22, 3) := by decide +kernel
theorem dX1_relay_30 : decode cX1_relay 30 = .ok (.if_icmp .ge 41, 3) := by decide +kernel
theorem dX1_relay_33 : decode cX1_relay 33 = .ok (.aload_n 1, 1) := by decide +kernel
theorem dX1_relay_34 : decode cX1_relay 34 = .ok (.iload 5, 2) := by decide +kernel
theorem dX1_relay_36 : decode cX1_relay 36 = .ok (.invokevirtual 36, 3) := by decide +kernel
theorem dX1_relay_39 : decode cX1_relay 39 = .ok (.istore 6, 2) := by decide +kernel
theorem dX1_relay_41 : decode cX1_relay 41 = .ok (.aload_n 0, 1) := by decide +kernel
theorem dX1_relay_42 : decode cX1_relay 42 = .ok (.iconst 1, 1) := by decide +kernel
theorem dX1_relay_43 : decode cX1_relay 43 = .ok (.iload 6, 2) := by decide +kernel
theorem dX1_relay_45 : decode cX1_relay 45 = .ok (.iload_n 2, 1) := by decide +kernel
theorem dX1_relay_46 : decode cX1_relay 46 = .ok (.if_icmp .eq 9, 3) := by decide +kernel
theorem dX1_relay_49 : decode cX1_relay 49 = .ok (.iload 6, 2) := by decide +kernel
theorem dX1_relay_51 : decode cX1_relay 51 = .ok (.iload_n 3, 1) := by decide +kernel
theorem dX1_relay_52 : decode cX1_relay 52 = .ok (.if_icmp .ne 8, 3) := by decide +kernel
theorem dX1_relay_55 : decode cX1_relay 55 = .ok (.iload 4, 2) := by decide +kernel
theorem dX1_relay_57 : decode cX1_relay 57 = .ok (.goto 5, 3) := by decide +kernel
theorem dX1_relay_60 : decode cX1_relay 60 = .ok (.iload 6, 2) := by decide +kernel
theorem dX1_relay_62 : decode cX1_relay 62 = .ok (.invokevirtual 40, 3) := by decide +kernel
theorem dX1_relay_65 : decode cX1_relay 65 = .ok (.iinc 5 1, 3) := by decide +kernel
theorem dX1_relay_68 : decode cX1_relay 68 = .ok (.goto (-44), 3) := by decide +kernel
theorem dX1_relay_71 : decode cX1_relay 71 = .ok (.return_, 1) := by decide +kernel
theorem dX1_pathAt_0 : decode cX1_pathAt 0 = .ok (.iload_n 1, 1) := by decide +kernel
theorem dX1_pathAt_1 : decode cX1_pathAt 1 = .ok (.ifCond .lt 28, 3) := by decide +kernel
theorem dX1_pathAt_4 : decode cX1_pathAt 4 = .ok (.iload_n 1, 1) := by decide +kernel
theorem dX1_pathAt_5 : decode cX1_pathAt 5 = .ok (.aload_n 0, 1) := by decide +kernel
theorem dX1_pathAt_6 : decode cX1_pathAt 6 = .ok (.getfield 22, 3) := by decide +kernel
theorem dX1_pathAt_9 : decode cX1_pathAt 9 = .ok (.if_icmp .ge 20, 3) := by decide +kernel
theorem dX1_pathAt_12 : decode cX1_pathAt 12 = .ok (.aload_n 0, 1) := by decide +kernel
theorem dX1_pathAt_13 : decode cX1_pathAt 13 = .ok (.getfield 15, 3) := by decide +kernel
theorem dX1_pathAt_16 : decode cX1_pathAt 16 = .ok (.aload_n 0, 1) := by decide +kernel
theorem dX1_pathAt_17 : decode cX1_pathAt 17 = .ok (.getfield 18, 3) := by decide +kernel
theorem dX1_pathAt_20 : decode cX1_pathAt 20 = .ok (.iload_n 1, 1) := by decide +kernel
theorem dX1_pathAt_21 : decode cX1_pathAt 21 = .ok (.iadd, 1) := by decide +kernel
theorem dX1_pathAt_22 : decode cX1_pathAt 22 = .ok (.bipush 63, 2) := by decide +kernel
theorem dX1_pathAt_24 : decode cX1_pathAt 24 = .ok (.iand, 1) := by decide +kernel
theorem dX1_pathAt_25 : decode cX1_pathAt 25 = .ok (.iaload, 1) := by decide +kernel
theorem dX1_pathAt_26 : decode cX1_pathAt 26 = .ok (.goto 4, 3) := by decide +kernel
theorem dX1_pathAt_29 : decode cX1_pathAt 29 = .ok (.iconst (-1), 1) := by decide +kernel
theorem dX1_pathAt_30 : decode cX1_pathAt 30 = .ok (.ireturn, 1) := by decide +kernel
theorem dX1_nextTo_0 : decode cX1_nextTo 0 = .ok (.aload_n 0, 1) := by decide +kernel
theorem dX1_nextTo_1 : decode cX1_nextTo 1 = .ok (.getfield 22, 3) := by decide +kernel
theorem dX1_nextTo_4 : decode cX1_nextTo 4 = .ok (.ifCond .ne 5, 3) := by decide +kernel
theorem dX1_nextTo_7 : decode cX1_nextTo 7 = .ok (.iconst (-1), 1) := by decide +kernel
theorem dX1_nextTo_8 : decode cX1_nextTo 8 = .ok (.ireturn, 1) := by decide +kernel
theorem dX1_nextTo_9 : decode cX1_nextTo 9 = .ok (.aload_n 0, 1) := by decide +kernel
theorem dX1_nextTo_10 : decode cX1_nextTo 10 = .ok (.getfield 15, 3) := by decide +kernel
theorem dX1_nextTo_13 : decode cX1_nextTo 13 = .ok (.iload_n 1, 1) := by decide +kernel
theorem dX1_nextTo_14 : decode cX1_nextTo 14 = .ok (.ifCond .ne 10, 3) := by decide +kernel
theorem dX1_nextTo_17 : decode cX1_nextTo 17 = .ok (.aload_n 0, 1) := by decide +kernel
theorem dX1_nextTo_18 : decode cX1_nextTo 18 = .ok (.getfield 18, 3) := by decide +kernel
theorem dX1_nextTo_21 : decode cX1_nextTo 21 = .ok (.goto 14, 3) := by decide +kernel
theorem dX1_nextTo_24 : decode cX1_nextTo 24 = .ok (.aload_n 0, 1) := by decide +kernel
theorem dX1_nextTo_25 : decode cX1_nextTo 25 = .ok (.getfield 18, 3) := by decide +kernel
theorem dX1_nextTo_28 : decode cX1_nextTo 28 = .ok (.aload_n 0, 1) := by decide +kernel
theorem dX1_nextTo_29 : decode cX1_nextTo 29 = .ok (.getfield 22, 3) := by decide +kernel
theorem dX1_nextTo_32 : decode cX1_nextTo 32 = .ok (.iadd, 1) := by decide +kernel
theorem dX1_nextTo_33 : decode cX1_nextTo 33 = .ok (.iconst 1, 1) := by decide +kernel
theorem dX1_nextTo_34 : decode cX1_nextTo 34 = .ok (.isub, 1) := by decide +kernel
theorem dX1_nextTo_35 : decode cX1_nextTo 35 = .ok (.bipush 63, 2) := by decide +kernel
theorem dX1_nextTo_37 : decode cX1_nextTo 37 = .ok (.iand, 1) := by decide +kernel
theorem dX1_nextTo_38 : decode cX1_nextTo 38 = .ok (.iaload, 1) := by decide +kernel
theorem dX1_nextTo_39 : decode cX1_nextTo 39 = .ok (.ireturn, 1) := by decide +kernel
theorem dX1_canGo_0 : decode cX1_canGo 0 = .ok (.iload_n 1, 1) := by decide +kernel
theorem dX1_canGo_1 : decode cX1_canGo 1 = .ok (.iconst 2, 1) := by decide +kernel
theorem dX1_canGo_2 : decode cX1_canGo 2 = .ok (.invokestatic 50, 3) := by decide +kernel
theorem dX1_canGo_5 : decode cX1_canGo 5 = .ok (.ifCond .eq 24, 3) := by decide +kernel
theorem dX1_canGo_8 : decode cX1_canGo 8 = .ok (.aload_n 0, 1) := by decide +kernel
theorem dX1_canGo_9 : decode cX1_canGo 9 = .ok (.getfield 28, 3) := by decide +kernel
theorem dX1_canGo_12 : decode cX1_canGo 12 = .ok (.iload_n 2, 1) := by decide +kernel
theorem dX1_canGo_13 : decode cX1_canGo 13 = .ok (.aload_n 0, 1) := by decide +kernel
theorem dX1_canGo_14 : decode cX1_canGo 14 = .ok (.getfield 9, 3) := by decide +kernel
theorem dX1_canGo_17 : decode cX1_canGo 17 = .ok (.iload_n 1, 1) := by decide +kernel
theorem dX1_canGo_18 : decode cX1_canGo 18 = .ok (.iaload, 1) := by decide +kernel
theorem dX1_canGo_19 : decode cX1_canGo 19 = .ok (.invokevirtual 54, 3) := by decide +kernel
theorem dX1_canGo_22 : decode cX1_canGo 22 = .ok (.ifCond .eq 7, 3) := by decide +kernel
theorem dX1_canGo_25 : decode cX1_canGo 25 = .ok (.iconst 1, 1) := by decide +kernel
theorem dX1_canGo_26 : decode cX1_canGo 26 = .ok (.goto 4, 3) := by decide +kernel
theorem dX1_canGo_29 : decode cX1_canGo 29 = .ok (.iconst 0, 1) := by decide +kernel
theorem dX1_canGo_30 : decode cX1_canGo 30 = .ok (.ireturn, 1) := by decide +kernel
theorem dX1_go_0 : decode cX1_go 0 = .ok (.iload_n 1, 1) := by decide +kernel
theorem dX1_go_1 : decode cX1_go 1 = .ok (.iconst 2, 1) := by decide +kernel
theorem dX1_go_2 : decode cX1_go 2 = .ok (.invokestatic 50, 3) := by decide +kernel
theorem dX1_go_5 : decode cX1_go 5 = .ok (.ifCond .ne 4, 3) := by decide +kernel
theorem dX1_go_8 : decode cX1_go 8 = .ok (.return_, 1) := by decide +kernel
theorem dX1_go_9 : decode cX1_go 9 = .ok (.aload_n 0, 1) := by decide +kernel
theorem dX1_go_10 : decode cX1_go 10 = .ok (.iload_n 1, 1) := by decide +kernel
theorem dX1_go_11 : decode cX1_go 11 = .ok (.invokevirtual 57, 3) := by decide +kernel
theorem dX1_go_14 : decode cX1_go 14 = .ok (.iload_n 2, 1) := by decide +kernel
theorem dX1_go_15 : decode cX1_go 15 = .ok (.if_icmp .ne 28, 3) := by decide +kernel
theorem dX1_go_18 : decode cX1_go 18 = .ok (.aload_n 0, 1) := by decide +kernel
theorem dX1_go_19 : decode cX1_go 19 = .ok (.iload_n 1, 1) := by decide +kernel
theorem dX1_go_20 : decode cX1_go 20 = .ok (.invokevirtual 60, 3) := by decide +kernel
theorem dX1_go_23 : decode cX1_go 23 = .ok (.aload_n 0, 1) := by decide +kernel
theorem dX1_go_24 : decode cX1_go 24 = .ok (.dup, 1) := by decide +kernel
theorem dX1_go_25 : decode cX1_go 25 = .ok (.getfield 25, 3) := by decide +kernel
theorem dX1_go_28 : decode cX1_go 28 = .ok (.aload_n 0, 1) := by decide +kernel
theorem dX1_go_29 : decode cX1_go 29 = .ok (.getfield 28, 3) := by decide +kernel
theorem dX1_go_32 : decode cX1_go 32 = .ok (.iload_n 2, 1) := by decide +kernel
theorem dX1_go_33 : decode cX1_go 33 = .ok (.invokevirtual 63, 3) := by decide +kernel
theorem dX1_go_36 : decode cX1_go 36 = .ok (.isub, 1) := by decide +kernel
theorem dX1_go_37 : decode cX1_go 37 = .ok (.putfield 25, 3) := by decide +kernel
theorem dX1_go_40 : decode cX1_go 40 = .ok (.goto 26, 3) := by decide +kernel
theorem dX1_go_43 : decode cX1_go 43 = .ok (.aload_n 0, 1) := by decide +kernel
theorem dX1_go_44 : decode cX1_go 44 = .ok (.iload_n 1, 1) := by decide +kernel
theorem dX1_go_45 : decode cX1_go 45 = .ok (.iload_n 2, 1) := by decide +kernel
theorem dX1_go_46 : decode cX1_go 46 = .ok (.invokevirtual 66, 3) := by decide +kernel
theorem dX1_go_49 : decode cX1_go 49 = .ok (.aload_n 0, 1) := by decide +kernel
theorem dX1_go_50 : decode cX1_go 50 = .ok (.dup, 1) := by decide +kernel
theorem dX1_go_51 : decode cX1_go 51 = .ok (.getfield 25, 3) := by decide +kernel
theorem dX1_go_54 : decode cX1_go 54 = .ok (.aload_n 0, 1) := by decide +kernel
theorem dX1_go_55 : decode cX1_go 55 = .ok (.getfield 28, 3) := by decide +kernel
theorem dX1_go_58 : decode cX1_go 58 = .ok (.iload_n 2, 1) := by decide +kernel
theorem dX1_go_59 : decode cX1_go 59 = .ok (.invokevirtual 63, 3) := by decide +kernel
theorem dX1_go_62 : decode cX1_go 62 = .ok (.iadd, 1) := by decide +kernel
theorem dX1_go_63 : decode cX1_go 63 = .ok (.putfield 25, 3) := by decide +kernel
theorem dX1_go_66 : decode cX1_go 66 = .ok (.aload_n 0, 1) := by decide +kernel
theorem dX1_go_67 : decode cX1_go 67 = .ok (.getfield 9, 3) := by decide +kernel
theorem dX1_go_70 : decode cX1_go 70 = .ok (.iload_n 1, 1) := by decide +kernel
theorem dX1_go_71 : decode cX1_go 71 = .ok (.aload_n 0, 1) := by decide +kernel
theorem dX1_go_72 : decode cX1_go 72 = .ok (.getfield 28, 3) := by decide +kernel
theorem dX1_go_75 : decode cX1_go 75 = .ok (.iload_n 2, 1) := by decide +kernel
theorem dX1_go_76 : decode cX1_go 76 = .ok (.aload_n 0, 1) := by decide +kernel
theorem dX1_go_77 : decode cX1_go 77 = .ok (.getfield 9, 3) := by decide +kernel
theorem dX1_go_80 : decode cX1_go 80 = .ok (.iload_n 1, 1) := by decide +kernel
theorem dX1_go_81 : decode cX1_go 81 = .ok (.iaload, 1) := by decide +kernel
theorem dX1_go_82 : decode cX1_go 82 = .ok (.invokevirtual 69, 3) := by decide +kernel
theorem dX1_go_85 : decode cX1_go 85 = .ok (.iastore, 1) := by decide +kernel
theorem dX1_go_86 : decode cX1_go 86 = .ok (.return_, 1) := by decide +kernel
theorem dX1_takeUp_0 : decode cX1_takeUp 0 = .ok (.aload_n 0, 1) := by decide +kernel
theorem dX1_takeUp_1 : decode cX1_takeUp 1 = .ok (.dup, 1) := by decide +kernel
theorem dX1_takeUp_2 : decode cX1_takeUp 2 = .ok (.getfield 22, 3) := by decide +kernel
theorem dX1_takeUp_5 : decode cX1_takeUp 5 = .ok (.iconst 1, 1) := by decide +kernel
theorem dX1_takeUp_6 : decode cX1_takeUp 6 = .ok (.isub, 1) := by decide +kernel
theorem dX1_takeUp_7 : decode cX1_takeUp 7 = .ok (.putfield 22, 3) := by decide +kernel
theorem dX1_takeUp_10 : decode cX1_takeUp 10 = .ok (.iload_n 1, 1) := by decide +kernel
theorem dX1_takeUp_11 : decode cX1_takeUp 11 = .ok (.ifCond .ne 16, 3) := by decide +kernel
theorem dX1_takeUp_14 : decode cX1_takeUp 14 = .ok (.aload_n 0, 1) := by decide +kernel
theorem dX1_takeUp_15 : decode cX1_takeUp 15 = .ok (.aload_n 0, 1) := by decide +kernel
theorem dX1_takeUp_16 : decode cX1_takeUp 16 = .ok (.getfield 18, 3) := by decide +kernel
theorem dX1_takeUp_19 : decode cX1_takeUp 19 = .ok (.iconst 1, 1) := by decide +kernel
theorem dX1_takeUp_20 : decode cX1_takeUp 20 = .ok (.iadd, 1) := by decide +kernel
theorem dX1_takeUp_21 : decode cX1_takeUp 21 = .ok (.bipush 63, 2) := by decide +kernel
theorem dX1_takeUp_23 : decode cX1_takeUp 23 = .ok (.iand, 1) := by decide +kernel
theorem dX1_takeUp_24 : decode cX1_takeUp 24 = .ok (.putfield 18, 3) := by decide +kernel
theorem dX1_takeUp_27 : decode cX1_takeUp 27 = .ok (.return_, 1) := by decide +kernel
theorem dX1_layDown_0 : decode cX1_layDown 0 = .ok (.aload_n 0, 1) := by decide +kernel
theorem dX1_layDown_1 : decode cX1_layDown 1 = .ok (.dup, 1) := by decide +kernel
theorem dX1_layDown_2 : decode cX1_layDown 2 = .ok (.getfield 22, 3) := by decide +kernel
theorem dX1_layDown_5 : decode cX1_layDown 5 = .ok (.iconst 1, 1) := by decide +kernel
theorem dX1_layDown_6 : decode cX1_layDown 6 = .ok (.iadd, 1) := by decide +kernel
theorem dX1_layDown_7 : decode cX1_layDown 7 = .ok (.putfield 22, 3) := by decide +kernel
theorem dX1_layDown_10 : decode cX1_layDown 10 = .ok (.iload_n 1, 1) := by decide +kernel
theorem dX1_layDown_11 : decode cX1_layDown 11 = .ok (.ifCond .ne 29, 3) := by decide +kernel
theorem dX1_layDown_14 : decode cX1_layDown 14 = .ok (.aload_n 0, 1) := by decide +kernel
theorem dX1_layDown_15 : decode cX1_layDown 15 = .ok (.aload_n 0, 1) := by decide +kernel
theorem dX1_layDown_16 : decode cX1_layDown 16 = .ok (.getfield 18, 3) := by decide +kernel
theorem dX1_layDown_19 : decode cX1_layDown 19 = .ok (.iconst 1, 1) := by decide +kernel
theorem dX1_layDown_20 : decode cX1_layDown 20 = .ok (.isub, 1) := by decide +kernel
theorem dX1_layDown_21 : decode cX1_layDown 21 = .ok (.bipush 63, 2) := by decide +kernel
theorem dX1_layDown_23 : decode cX1_layDown 23 = .ok (.iand, 1) := by decide +kernel
theorem dX1_layDown_24 : decode cX1_layDown 24 = .ok (.putfield 18, 3) := by decide +kernel
theorem dX1_layDown_27 : decode cX1_layDown 27 = .ok (.aload_n 0, 1) := by decide +kernel
theorem dX1_layDown_28 : decode cX1_layDown 28 = .ok (.getfield 15, 3) := by decide +kernel
theorem dX1_layDown_31 : decode cX1_layDown 31 = .ok (.aload_n 0, 1) := by decide +kernel
theorem dX1_layDown_32 : decode cX1_layDown 32 = .ok (.getfield 18, 3) := by decide +kernel
theorem dX1_layDown_35 : decode cX1_layDown 35 = .ok (.iload_n 2, 1) := by decide +kernel
theorem dX1_layDown_36 : decode cX1_layDown 36 = .ok (.iastore, 1) := by decide +kernel
theorem dX1_layDown_37 : decode cX1_layDown 37 = .ok (.goto 23, 3) := by decide +kernel
theorem dX1_layDown_40 : decode cX1_layDown 40 = .ok (.aload_n 0, 1) := by decide +kernel
theorem dX1_layDown_41 : decode cX1_layDown 41 = .ok (.getfield 15, 3) := by decide +kernel
theorem dX1_layDown_44 : decode cX1_layDown 44 = .ok (.aload_n 0, 1) := by decide +kernel
theorem dX1_layDown_45 : decode cX1_layDown 45 = .ok (.getfield 18, 3) := by decide +kernel
theorem dX1_layDown_48 : decode cX1_layDown 48 = .ok (.aload_n 0, 1) := by decide +kernel
theorem dX1_layDown_49 : decode cX1_layDown 49 = .ok (.getfield 22, 3) := by decide +kernel
theorem dX1_layDown_52 : decode cX1_layDown 52 = .ok (.iadd, 1) := by decide +kernel
theorem dX1_layDown_53 : decode cX1_layDown 53 = .ok (.iconst 1, 1) := by decide +kernel
theorem dX1_layDown_54 : decode cX1_layDown 54 = .ok (.isub, 1) := by decide +kernel
theorem dX1_layDown_55 : decode cX1_layDown 55 = .ok (.bipush 63, 2) := by decide +kernel
theorem dX1_layDown_57 : decode cX1_layDown 57 = .ok (.iand, 1) := by decide +kernel
theorem dX1_layDown_58 : decode cX1_layDown 58 = .ok (.iload_n 2, 1) := by decide +kernel
theorem dX1_layDown_59 : decode cX1_layDown 59 = .ok (.iastore, 1) := by decide +kernel
theorem dX1_layDown_60 : decode cX1_layDown 60 = .ok (.return_, 1) := by decide +kernel
theorem dX1_standsAs_0 : decode cX1_standsAs 0 = .ok (.aload_n 0, 1) := by decide +kernel
theorem dX1_standsAs_1 : decode cX1_standsAs 1 = .ok (.getfield 9, 3) := by decide +kernel
theorem dX1_standsAs_4 : decode cX1_standsAs 4 = .ok (.iconst 0, 1) := by decide +kernel
theorem dX1_standsAs_5 : decode cX1_standsAs 5 = .ok (.iaload, 1) := by decide +kernel
theorem dX1_standsAs_6 : decode cX1_standsAs 6 = .ok (.aload_n 1, 1) := by decide +kernel
theorem dX1_standsAs_7 : decode cX1_standsAs 7 = .ok (.getfield 9, 3) := by decide +kernel
theorem dX1_standsAs_10 : decode cX1_standsAs 10 = .ok (.iconst 0, 1) := by decide +kernel
theorem dX1_standsAs_11 : decode cX1_standsAs 11 = .ok (.iaload, 1) := by decide +kernel
theorem dX1_standsAs_12 : decode cX1_standsAs 12 = .ok (.if_icmp .ne 22, 3) := by decide +kernel
theorem dX1_standsAs_15 : decode cX1_standsAs 15 = .ok (.aload_n 0, 1) := by decide +kernel
theorem dX1_standsAs_16 : decode cX1_standsAs 16 = .ok (.getfield 9, 3) := by decide +kernel
theorem dX1_standsAs_19 : decode cX1_standsAs 19 = .ok (.iconst 1, 1) := by decide +kernel
theorem dX1_standsAs_20 : decode cX1_standsAs 20 = .ok (.iaload, 1) := by decide +kernel
theorem dX1_standsAs_21 : decode cX1_standsAs 21 = .ok (.aload_n 1, 1) := by decide +kernel
theorem dX1_standsAs_22 : decode cX1_standsAs 22 = .ok (.getfield 9, 3) := by decide +kernel
theorem dX1_standsAs_25 : decode cX1_standsAs 25 = .ok (.iconst 1, 1) := by decide +kernel
theorem dX1_standsAs_26 : decode cX1_standsAs 26 = .ok (.iaload, 1) := by decide +kernel
theorem dX1_standsAs_27 : decode cX1_standsAs 27 = .ok (.if_icmp .ne 7, 3) := by decide +kernel
theorem dX1_standsAs_30 : decode cX1_standsAs 30 = .ok (.iconst 1, 1) := by decide +kernel
theorem dX1_standsAs_31 : decode cX1_standsAs 31 = .ok (.goto 4, 3) := by decide +kernel
theorem dX1_standsAs_34 : decode cX1_standsAs 34 = .ok (.iconst 0, 1) := by decide +kernel
theorem dX1_standsAs_35 : decode cX1_standsAs 35 = .ok (.ireturn, 1) := by decide +kernel
theorem dX1_liesAs_0 : decode cX1_liesAs 0 = .ok (.aload_n 0, 1) := by decide +kernel
theorem dX1_liesAs_1 : decode cX1_liesAs 1 = .ok (.getfield 22, 3) := by decide +kernel
theorem dX1_liesAs_4 : decode cX1_liesAs 4 = .ok (.aload_n 1, 1) := by decide +kernel
theorem dX1_liesAs_5 : decode cX1_liesAs 5 = .ok (.getfield 22, 3) := by decide +kernel
theorem dX1_liesAs_8 : decode cX1_liesAs 8 = .ok (.if_icmp .eq 5, 3) := by decide +kernel
theorem dX1_liesAs_11 : decode cX1_liesAs 11 = .ok (.iconst 0, 1) := by decide +kernel
theorem dX1_liesAs_12 : decode cX1_liesAs 12 = .ok (.ireturn, 1) := by decide +kernel
theorem dX1_liesAs_13 : decode cX1_liesAs 13 = .ok (.iconst 0, 1) := by decide +kernel
theorem dX1_liesAs_14 : decode cX1_liesAs 14 = .ok (.istore_n 2, 1) := by decide +kernel
theorem dX1_liesAs_15 : decode cX1_liesAs 15 = .ok (.iload_n 2, 1) := by decide +kernel
theorem dX1_liesAs_16 : decode cX1_liesAs 16 = .ok (.aload_n 0, 1) := by decide +kernel
theorem dX1_liesAs_17 : decode cX1_liesAs 17 = .ok (.getfield 22, 3) := by decide +kernel
theorem dX1_liesAs_20 : decode cX1_liesAs 20 = .ok (.if_icmp .ge 24, 3) := by decide +kernel
theorem dX1_liesAs_23 : decode cX1_liesAs 23 = .ok (.aload_n 0, 1) := by decide +kernel
theorem dX1_liesAs_24 : decode cX1_liesAs 24 = .ok (.iload_n 2, 1) := by decide +kernel
theorem dX1_liesAs_25 : decode cX1_liesAs 25 = .ok (.invokevirtual 36, 3) := by decide +kernel
theorem dX1_liesAs_28 : decode cX1_liesAs 28 = .ok (.aload_n 1, 1) := by decide +kernel
theorem dX1_liesAs_29 : decode cX1_liesAs 29 = .ok (.iload_n 2, 1) := by decide +kernel
theorem dX1_liesAs_30 : decode cX1_liesAs 30 = .ok (.invokevirtual 36, 3) := by decide +kernel
theorem dX1_liesAs_33 : decode cX1_liesAs 33 = .ok (.if_icmp .eq 5, 3) := by decide +kernel
theorem dX1_liesAs_36 : decode cX1_liesAs 36 = .ok (.iconst 0, 1) := by decide +kernel
theorem dX1_liesAs_37 : decode cX1_liesAs 37 = .ok (.ireturn, 1) := by decide +kernel
theorem dX1_liesAs_38 : decode cX1_liesAs 38 = .ok (.iinc 2 1, 3) := by decide +kernel
theorem dX1_liesAs_41 : decode cX1_liesAs 41 = .ok (.goto (-26), 3) := by decide +kernel
theorem dX1_liesAs_44 : decode cX1_liesAs 44 = .ok (.iconst 1, 1) := by decide +kernel
theorem dX1_liesAs_45 : decode cX1_liesAs 45 = .ok (.ireturn, 1) := by decide +kernel
theorem dX1_stepsOff_0 : decode cX1_stepsOff 0 = .ok (.aload_n 0, 1) := by decide +kernel
theorem dX1_stepsOff_1 : decode cX1_stepsOff 1 = .ok (.getfield 28, 3) := by decide +kernel
theorem dX1_stepsOff_4 : decode cX1_stepsOff 4 = .ok (.iload_n 1, 1) := by decide +kernel
theorem dX1_stepsOff_5 : decode cX1_stepsOff 5 = .ok (.invokevirtual 72, 3) := by decide +kernel
theorem dX1_stepsOff_8 : decode cX1_stepsOff 8 = .ok (.iconst (-1), 1) := by decide +kernel
theorem dX1_stepsOff_9 : decode cX1_stepsOff 9 = .ok (.istore_n 2, 1) := by decide +kernel
theorem dX1_stepsOff_10 : decode cX1_stepsOff 10 = .ok (.aload_n 0, 1) := by decide +kernel
theorem dX1_stepsOff_11 : decode cX1_stepsOff 11 = .ok (.getfield 9, 3) := by decide +kernel
theorem dX1_stepsOff_14 : decode cX1_stepsOff 14 = .ok (.iconst 0, 1) := by decide +kernel
theorem dX1_stepsOff_15 : decode cX1_stepsOff 15 = .ok (.iaload, 1) := by decide +kernel
theorem dX1_stepsOff_16 : decode cX1_stepsOff 16 = .ok (.istore_n 3, 1) := by decide +kernel
theorem dX1_stepsOff_17 : decode cX1_stepsOff 17 = .ok (.iconst 0, 1) := by decide +kernel
theorem dX1_stepsOff_18 : decode cX1_stepsOff 18 = .ok (.istore 4, 2) := by decide +kernel
theorem dX1_stepsOff_20 : decode cX1_stepsOff 20 = .ok (.iload 4, 2) := by decide +kernel
theorem dX1_stepsOff_22 : decode cX1_stepsOff 22 = .ok (.aload_n 0, 1) := by decide +kernel
theorem dX1_stepsOff_23 : decode cX1_stepsOff 23 = .ok (.getfield 22, 3) := by decide +kernel
theorem dX1_stepsOff_26 : decode cX1_stepsOff 26 = .ok (.if_icmp .gt 77, 3) := by decide +kernel
theorem dX1_stepsOff_29 : decode cX1_stepsOff 29 = .ok (.iload_n 3, 1) := by decide +kernel
theorem dX1_stepsOff_30 : decode cX1_stepsOff 30 = .ok (.bipush 8, 2) := by decide +kernel
theorem dX1_stepsOff_32 : decode cX1_stepsOff 32 = .ok (.invokestatic 50, 3) := by decide +kernel
theorem dX1_stepsOff_35 : decode cX1_stepsOff 35 = .ok (.ifCond .eq 15, 3) := by decide +kernel
theorem dX1_stepsOff_38 : decode cX1_stepsOff 38 = .ok (.aload_n 0, 1) := by decide +kernel
theorem dX1_stepsOff_39 : decode cX1_stepsOff 39 = .ok (.getfield 28, 3) := by decide +kernel
theorem dX1_stepsOff_42 : decode cX1_stepsOff 42 = .ok (.getfield 75, 3) := by decide +kernel
theorem dX1_stepsOff_45 : decode cX1_stepsOff 45 = .ok (.iload_n 3, 1) := by decide +kernel
theorem dX1_stepsOff_46 : decode cX1_stepsOff 46 = .ok (.iaload, 1) := by decide +kernel
theorem dX1_stepsOff_47 : decode cX1_stepsOff 47 = .ok (.goto 4, 3) := by decide +kernel
theorem dX1_stepsOff_50 : decode cX1_stepsOff 50 = .ok (.iconst (-1), 1) := by decide +kernel
theorem dX1_stepsOff_51 : decode cX1_stepsOff 51 = .ok (.istore 5, 2) := by decide +kernel
theorem dX1_stepsOff_53 : decode cX1_stepsOff 53 = .ok (.iload 5, 2) := by decide +kernel
theorem dX1_stepsOff_55 : decode cX1_stepsOff 55 = .ok (.iconst (-1), 1) := by decide +kernel
theorem dX1_stepsOff_56 : decode cX1_stepsOff 56 = .ok (.if_icmp .eq 17, 3) := by decide +kernel
theorem dX1_stepsOff_59 : decode cX1_stepsOff 59 = .ok (.iload_n 2, 1) := by decide +kernel
theorem dX1_stepsOff_60 : decode cX1_stepsOff 60 = .ok (.iconst (-1), 1) := by decide +kernel
theorem dX1_stepsOff_61 : decode cX1_stepsOff 61 = .ok (.if_icmp .eq 9, 3) := by decide +kernel
theorem dX1_stepsOff_64 : decode cX1_stepsOff 64 = .ok (.iload 5, 2) := by decide +kernel
theorem dX1_stepsOff_66 : decode cX1_stepsOff 66 = .ok (.iload_n 2, 1) := by decide +kernel
theorem dX1_stepsOff_67 : decode cX1_stepsOff 67 = .ok (.if_icmp .ge 6, 3) := by decide +kernel
theorem dX1_stepsOff_70 : decode cX1_stepsOff 70 = .ok (.iload 5, 2) := by decide +kernel
theorem dX1_stepsOff_72 : decode cX1_stepsOff 72 = .ok (.istore_n 2, 1) := by decide +kernel
theorem dX1_stepsOff_73 : decode cX1_stepsOff 73 = .ok (.iload 4, 2) := by decide +kernel
theorem dX1_stepsOff_75 : decode cX1_stepsOff 75 = .ok (.aload_n 0, 1) := by decide +kernel
theorem dX1_stepsOff_76 : decode cX1_stepsOff 76 = .ok (.getfield 22, 3) := by decide +kernel
theorem dX1_stepsOff_79 : decode cX1_stepsOff 79 = .ok (.if_icmp .ge 18, 3) := by decide +kernel
theorem dX1_stepsOff_82 : decode cX1_stepsOff 82 = .ok (.aload_n 0, 1) := by decide +kernel
theorem dX1_stepsOff_83 : decode cX1_stepsOff 83 = .ok (.getfield 28, 3) := by decide +kernel
theorem dX1_stepsOff_86 : decode cX1_stepsOff 86 = .ok (.aload_n 0, 1) := by decide +kernel
theorem dX1_stepsOff_87 : decode cX1_stepsOff 87 = .ok (.iload 4, 2) := by decide +kernel
theorem dX1_stepsOff_89 : decode cX1_stepsOff 89 = .ok (.invokevirtual 36, 3) := by decide +kernel
theorem dX1_stepsOff_92 : decode cX1_stepsOff 92 = .ok (.iload_n 3, 1) := by decide +kernel
theorem dX1_stepsOff_93 : decode cX1_stepsOff 93 = .ok (.invokevirtual 69, 3) := by decide +kernel
theorem dX1_stepsOff_96 : decode cX1_stepsOff 96 = .ok (.istore_n 3, 1) := by decide +kernel
theorem dX1_stepsOff_97 : decode cX1_stepsOff 97 = .ok (.iinc 4 1, 3) := by decide +kernel
theorem dX1_stepsOff_100 : decode cX1_stepsOff 100 = .ok (.goto (-80), 3) := by decide +kernel
theorem dX1_stepsOff_103 : decode cX1_stepsOff 103 = .ok (.iload_n 2, 1) := by decide +kernel
theorem dX1_stepsOff_104 : decode cX1_stepsOff 104 = .ok (.ireturn, 1) := by decide +kernel
theorem dX1_asKey_0 : decode cX1_asKey 0 = .ok (.lconst 1, 1) := by decide +kernel
theorem dX1_asKey_1 : decode cX1_asKey 1 = .ok (.lstore_n 1, 1) := by decide +kernel
theorem dX1_asKey_2 : decode cX1_asKey 2 = .ok (.iconst 0, 1) := by decide +kernel
theorem dX1_asKey_3 : decode cX1_asKey 3 = .ok (.istore_n 3, 1) := by decide +kernel
theorem dX1_asKey_4 : decode cX1_asKey 4 = .ok (.iload_n 3, 1) := by decide +kernel
theorem dX1_asKey_5 : decode cX1_asKey 5 = .ok (.aload_n 0, 1) := by decide +kernel
theorem dX1_asKey_6 : decode cX1_asKey 6 = .ok (.getfield 22, 3) := by decide +kernel
theorem dX1_asKey_9 : decode cX1_asKey 9 = .ok (.if_icmp .ge 20, 3) := by decide +kernel
theorem dX1_asKey_12 : decode cX1_asKey 12 = .ok (.lload_n 1, 1) := by decide +kernel
theorem dX1_asKey_13 : decode cX1_asKey 13 = .ok (.iconst 3, 1) := by decide +kernel
theorem dX1_asKey_14 : decode cX1_asKey 14 = .ok (.lshl, 1) := by decide +kernel
theorem dX1_asKey_15 : decode cX1_asKey 15 = .ok (.aload_n 0, 1) := by decide +kernel
theorem dX1_asKey_16 : decode cX1_asKey 16 = .ok (.iload_n 3, 1) := by decide +kernel
theorem dX1_asKey_17 : decode cX1_asKey 17 = .ok (.invokevirtual 36, 3) := by decide +kernel
theorem dX1_asKey_20 : decode cX1_asKey 20 = .ok (.i2l, 1) := by decide +kernel
theorem dX1_asKey_21 : decode cX1_asKey 21 = .ok (.lor, 1) := by decide +kernel
theorem dX1_asKey_22 : decode cX1_asKey 22 = .ok (.lstore_n 1, 1) := by decide +kernel
theorem dX1_asKey_23 : decode cX1_asKey 23 = .ok (.iinc 3 1, 3) := by decide +kernel
theorem dX1_asKey_26 : decode cX1_asKey 26 = .ok (.goto (-22), 3) := by decide +kernel
theorem dX1_asKey_29 : decode cX1_asKey 29 = .ok (.lload_n 1, 1) := by decide +kernel
theorem dX1_asKey_30 : decode cX1_asKey 30 = .ok (.iconst 3, 1) := by decide +kernel
theorem dX1_asKey_31 : decode cX1_asKey 31 = .ok (.lshl, 1) := by decide +kernel
theorem dX1_asKey_32 : decode cX1_asKey 32 = .ok (.aload_n 0, 1) := by decide +kernel
theorem dX1_asKey_33 : decode cX1_asKey 33 = .ok (.getfield 9, 3) := by decide +kernel
theorem dX1_asKey_36 : decode cX1_asKey 36 = .ok (.iconst 1, 1) := by decide +kernel
theorem dX1_asKey_37 : decode cX1_asKey 37 = .ok (.iaload, 1) := by decide +kernel
theorem dX1_asKey_38 : decode cX1_asKey 38 = .ok (.i2l, 1) := by decide +kernel
theorem dX1_asKey_39 : decode cX1_asKey 39 = .ok (.lor, 1) := by decide +kernel
theorem dX1_asKey_40 : decode cX1_asKey 40 = .ok (.lreturn, 1) := by decide +kernel
theorem dX1_becomeKey_0 : decode cX1_becomeKey 0 = .ok (.aload_n 0, 1) := by decide +kernel
theorem dX1_becomeKey_1 : decode cX1_becomeKey 1 = .ok (.lload_n 1, 1) := by decide +kernel
theorem dX1_becomeKey_2 : decode cX1_becomeKey 2 = .ok (.ldc2_w 78, 3) := by decide +kernel
theorem dX1_becomeKey_5 : decode cX1_becomeKey 5 = .ok (.land, 1) := by decide +kernel
theorem dX1_becomeKey_6 : decode cX1_becomeKey 6 = .ok (.l2i, 1) := by decide +kernel
theorem dX1_becomeKey_7 : decode cX1_becomeKey 7 = .ok (.invokevirtual 32, 3) := by decide +kernel
theorem dX1_becomeKey_10 : decode cX1_becomeKey 10 = .ok (.lload_n 1, 1) := by decide +kernel
theorem dX1_becomeKey_11 : decode cX1_becomeKey 11 = .ok (.iconst 3, 1) := by decide +kernel
theorem dX1_becomeKey_12 : decode cX1_becomeKey 12 = .ok (.lshr, 1) := by decide +kernel
theorem dX1_becomeKey_13 : decode cX1_becomeKey 13 = .ok (.lstore_n 3, 1) := by decide +kernel
theorem dX1_becomeKey_14 : decode cX1_becomeKey 14 = .ok (.iconst 0, 1) := by decide +kernel
theorem dX1_becomeKey_15 : decode cX1_becomeKey 15 = .ok (.istore 5, 2) := by decide +kernel
theorem dX1_becomeKey_17 : decode cX1_becomeKey 17 = .ok (.iload 5, 2) := by decide +kernel
theorem dX1_becomeKey_19 : decode cX1_becomeKey 19 = .ok (.bipush 18, 2) := by decide +kernel
theorem dX1_becomeKey_21 : decode cX1_becomeKey 21 = .ok (.if_icmp .ge 30, 3) := by decide +kernel
theorem dX1_becomeKey_24 : decode cX1_becomeKey 24 = .ok (.lload_n 3, 1) := by decide +kernel
theorem dX1_becomeKey_25 : decode cX1_becomeKey 25 = .ok (.lconst 1, 1) := by decide +kernel
theorem dX1_becomeKey_26 : decode cX1_becomeKey 26 = .ok (.lcmp, 1) := by decide +kernel
theorem dX1_becomeKey_27 : decode cX1_becomeKey 27 = .ok (.ifCond .le 24, 3) := by decide +kernel
theorem dX1_becomeKey_30 : decode cX1_becomeKey 30 = .ok (.aload_n 0, 1) := by decide +kernel
theorem dX1_becomeKey_31 : decode cX1_becomeKey 31 = .ok (.iconst 0, 1) := by decide +kernel
theorem dX1_becomeKey_32 : decode cX1_becomeKey 32 = .ok (.lload_n 3, 1) := by decide +kernel
theorem dX1_becomeKey_33 : decode cX1_becomeKey 33 = .ok (.ldc2_w 78, 3) := by decide +kernel
theorem dX1_becomeKey_36 : decode cX1_becomeKey 36 = .ok (.land, 1) := by decide +kernel
theorem dX1_becomeKey_37 : decode cX1_becomeKey 37 = .ok (.l2i, 1) := by decide +kernel
theorem dX1_becomeKey_38 : decode cX1_becomeKey 38 = .ok (.invokevirtual 40, 3) := by decide +kernel
theorem dX1_becomeKey_41 : decode cX1_becomeKey 41 = .ok (.lload_n 3, 1) := by decide +kernel
theorem dX1_becomeKey_42 : decode cX1_becomeKey 42 = .ok (.iconst 3, 1) := by decide +kernel
theorem dX1_becomeKey_43 : decode cX1_becomeKey 43 = .ok (.lshr, 1) := by decide +kernel
theorem dX1_becomeKey_44 : decode cX1_becomeKey 44 = .ok (.lstore_n 3, 1) := by decide +kernel
theorem dX1_becomeKey_45 : decode cX1_becomeKey 45 = .ok (.iinc 5 1, 3) := by decide +kernel
theorem dX1_becomeKey_48 : decode cX1_becomeKey 48 = .ok (.goto (-31), 3) := by decide +kernel
theorem dX1_becomeKey_51 : decode cX1_becomeKey 51 = .ok (.return_, 1) := by decide +kernel
theorem dX2_init_0 : decode cX2_init 0 = .ok (.aload_n 0, 1) := by decide +kernel
theorem dX2_init_1 : decode cX2_init 1 = .ok (.invokespecial 3, 3) := by decide +kernel
theorem dX2_init_4 : decode cX2_init 4 = .ok (.aload_n 0, 1) := by decide +kernel
theorem dX2_init_5 : decode cX2_init 5 = .ok (.new 9, 3) := by decide +kernel
theorem dX2_init_8 : decode cX2_init 8 = .ok (.dup, 1) := by decide +kernel
theorem dX2_init_9 : decode cX2_init 9 = .ok (.invokespecial 11, 3) := by decide +kernel
theorem dX2_init_12 : decode cX2_init 12 = .ok (.putfield 12, 3) := by decide +kernel
theorem dX2_init_15 : decode cX2_init 15 = .ok (.aload_n 0, 1) := by decide +kernel
theorem dX2_init_16 : decode cX2_init 16 = .ok (.iconst 2, 1) := by decide +kernel
theorem dX2_init_17 : decode cX2_init 17 = .ok (.newarray .int, 2) := by decide +kernel
theorem dX2_init_19 : decode cX2_init 19 = .ok (.dup, 1) := by decide +kernel
theorem dX2_init_20 : decode cX2_init 20 = .ok (.iconst 0, 1) := by decide +kernel
theorem dX2_init_21 : decode cX2_init 21 = .ok (.iconst 5, 1) := by decide +kernel
theorem dX2_init_22 : decode cX2_init 22 = .ok (.iastore, 1) := by decide +kernel
theorem dX2_init_23 : decode cX2_init 23 = .ok (.dup, 1) := by decide +kernel
theorem dX2_init_24 : decode cX2_init 24 = .ok (.iconst 1, 1) := by decide +kernel
theorem dX2_init_25 : decode cX2_init 25 = .ok (.iconst 5, 1) := by decide +kernel
theorem dX2_init_26 : decode cX2_init 26 = .ok (.iastore, 1) := by decide +kernel
theorem dX2_init_27 : decode cX2_init 27 = .ok (.putfield 18, 3) := by decide +kernel
theorem dX2_init_30 : decode cX2_init 30 = .ok (.aload_n 0, 1) := by decide +kernel
theorem dX2_init_31 : decode cX2_init 31 = .ok (.bipush 8, 2) := by decide +kernel
theorem dX2_init_33 : decode cX2_init 33 = .ok (.newarray .int, 2) := by decide +kernel
theorem dX2_init_35 : decode cX2_init 35 = .ok (.putfield 22, 3) := by decide +kernel
theorem dX2_init_38 : decode cX2_init 38 = .ok (.aload_n 0, 1) := by decide +kernel
theorem dX2_init_39 : decode cX2_init 39 = .ok (.bipush 8, 2) := by decide +kernel
theorem dX2_init_41 : decode cX2_init 41 = .ok (.newarray .int, 2) := by decide +kernel
theorem dX2_init_43 : decode cX2_init 43 = .ok (.putfield 25, 3) := by decide +kernel
theorem dX2_init_46 : decode cX2_init 46 = .ok (.aload_n 0, 1) := by decide +kernel
theorem dX2_init_47 : decode cX2_init 47 = .ok (.bipush 8, 2) := by decide +kernel
theorem dX2_init_49 : decode cX2_init 49 = .ok (.newarray .int, 2) := by decide +kernel
theorem dX2_init_51 : decode cX2_init 51 = .ok (.putfield 28, 3) := by decide +kernel
theorem dX2_init_54 : decode cX2_init 54 = .ok (.aload_n 0, 1) := by decide +kernel
theorem dX2_init_55 : decode cX2_init 55 = .ok (.bipush 8, 2) := by decide +kernel
theorem dX2_init_57 : decode cX2_init 57 = .ok (.newarray .int, 2) := by decide +kernel
theorem dX2_init_59 : decode cX2_init 59 = .ok (.putfield 31, 3) := by decide +kernel
theorem dX2_init_62 : decode cX2_init 62 = .ok (.aload_n 0, 1) := by decide +kernel
theorem dX2_init_63 : decode cX2_init 63 = .ok (.bipush 8, 2) := by decide +kernel
theorem dX2_init_65 : decode cX2_init 65 = .ok (.newarray .int, 2) := by decide +kernel
theorem dX2_init_67 : decode cX2_init 67 = .ok (.putfield 34, 3) := by decide +kernel
theorem dX2_init_70 : decode cX2_init 70 = .ok (.aload_n 0, 1) := by decide +kernel
theorem dX2_init_71 : decode cX2_init 71 = .ok (.bipush 9, 2) := by decide +kernel
theorem dX2_init_73 : decode cX2_init 73 = .ok (.putfield 37, 3) := by decide +kernel
theorem dX2_init_76 : decode cX2_init 76 = .ok (.aload_n 0, 1) := by decide +kernel
theorem dX2_init_77 : decode cX2_init 77 = .ok (.iconst 0, 1) := by decide +kernel
theorem dX2_init_78 : decode cX2_init 78 = .ok (.putfield 41, 3) := by decide +kernel
theorem dX2_init_81 : decode cX2_init 81 = .ok (.aload_n 0, 1) := by decide +kernel
theorem dX2_init_82 : decode cX2_init 82 = .ok (.iconst (-1), 1) := by decide +kernel
theorem dX2_init_83 : decode cX2_init 83 = .ok (.putfield 44, 3) := by decide +kernel
theorem dX2_init_86 : decode cX2_init 86 = .ok (.return_, 1) := by decide +kernel
theorem dX2_survey_0 : decode cX2_survey 0 = .ok (.aload_n 0, 1) := by decide +kernel
theorem dX2_survey_1 : decode cX2_survey 1 = .ok (.aload_n 0, 1) := by decide +kernel
theorem dX2_survey_2 : decode cX2_survey 2 = .ok (.invokevirtual 47, 3) := by decide +kernel
theorem dX2_survey_5 : decode cX2_survey 5 = .ok (.putfield 44, 3) := by decide +kernel
theorem dX2_survey_8 : decode cX2_survey 8 = .ok (.aload_n 0, 1) := by decide +kernel
theorem dX2_survey_9 : decode cX2_survey 9 = .ok (.aload_n 0, 1) := by decide +kernel
theorem dX2_survey_10 : decode cX2_survey 10 = .ok (.getfield 44, 3) := by decide +kernel
theorem dX2_survey_13 : decode cX2_survey 13 = .ok (.iconst (-1), 1) := by decide +kernel
theorem dX2_survey_14 : decode cX2_survey 14 = .ok (.if_icmp .ne 17, 3) := by decide +kernel
theorem dX2_survey_17 : decode cX2_survey 17 = .ok (.aload_n 0, 1) := by decide +kernel
theorem dX2_survey_18 : decode cX2_survey 18 = .ok (.getfield 12, 3) := by decide +kernel
theorem dX2_survey_21 : decode cX2_survey 21 = .ok (.getfield 51, 3) := by decide +kernel
theorem dX2_survey_24 : decode cX2_survey 24 = .ok (.iconst 1, 1) := by decide +kernel
theorem dX2_survey_25 : decode cX2_survey 25 = .ok (.iadd, 1) := by decide +kernel
theorem dX2_survey_26 : decode cX2_survey 26 = .ok (.iconst 2, 1) := by decide +kernel
theorem dX2_survey_27 : decode cX2_survey 27 = .ok (.ishr, 1) := by decide +kernel
theorem dX2_survey_28 : decode cX2_survey 28 = .ok (.goto 4, 3) := by decide +kernel
theorem dX2_survey_31 : decode cX2_survey 31 = .ok (.iconst 0, 1) := by decide +kernel
theorem dX2_survey_32 : decode cX2_survey 32 = .ok (.putfield 41, 3) := by decide +kernel
theorem dX2_survey_35 : decode cX2_survey 35 = .ok (.iconst 0, 1) := by decide +kernel
theorem dX2_survey_36 : decode cX2_survey 36 = .ok (.istore_n 1, 1) := by decide +kernel
theorem dX2_survey_37 : decode cX2_survey 37 = .ok (.iload_n 1, 1) := by decide +kernel
theorem dX2_survey_38 : decode cX2_survey 38 = .ok (.aload_n 0, 1) := by decide +kernel
theorem dX2_survey_39 : decode cX2_survey 39 = .ok (.getfield 41, 3) := by decide +kernel
theorem dX2_survey_42 : decode cX2_survey 42 = .ok (.if_icmp .ge 51, 3) := by decide +kernel
theorem dX2_survey_45 : decode cX2_survey 45 = .ok (.iload_n 1, 1) := by decide +kernel
theorem dX2_survey_46 : decode cX2_survey 46 = .ok (.bipush 8, 2) := by decide +kernel
theorem dX2_survey_48 : decode cX2_survey 48 = .ok (.if_icmp .ge 45, 3) := by decide +kernel
theorem dX2_survey_51 : decode cX2_survey 51 = .ok (.aload_n 0, 1) := by decide +kernel
theorem dX2_survey_52 : decode cX2_survey 52 = .ok (.getfield 28, 3) := by decide +kernel
theorem dX2_survey_55 : decode cX2_survey 55 = .ok (.iload_n 1, 1) := by decide +kernel
theorem dX2_survey_56 : decode cX2_survey 56 = .ok (.aload_n 0, 1) := by decide +kernel
theorem dX2_survey_57 : decode cX2_survey 57 = .ok (.iload_n 1, 1) := by decide +kernel
theorem dX2_survey_58 : decode cX2_survey 58 = .ok (.iconst 0, 1) := by decide +kernel
theorem dX2_survey_59 : decode cX2_survey 59 = .ok (.invokevirtual 54, 3) := by decide +kernel
theorem dX2_survey_62 : decode cX2_survey 62 = .ok (.iastore, 1) := by decide +kernel
theorem dX2_survey_63 : decode cX2_survey 63 = .ok (.aload_n 0, 1) := by decide +kernel
theorem dX2_survey_64 : decode cX2_survey 64 = .ok (.getfield 31, 3) := by decide +kernel
theorem dX2_survey_67 : decode cX2_survey 67 = .ok (.iload_n 1, 1) := by decide +kernel
theorem dX2_survey_68 : decode cX2_survey 68 = .ok (.aload_n 0, 1) := by decide +kernel
theorem dX2_survey_69 : decode cX2_survey 69 = .ok (.iload_n 1, 1) := by decide +kernel
theorem dX2_survey_70 : decode cX2_survey 70 = .ok (.iconst 1, 1) := by decide +kernel
theorem dX2_survey_71 : decode cX2_survey 71 = .ok (.invokevirtual 54, 3) := by decide +kernel
theorem dX2_survey_74 : decode cX2_survey 74 = .ok (.iastore, 1) := by decide +kernel
theorem dX2_survey_75 : decode cX2_survey 75 = .ok (.aload_n 0, 1) := by decide +kernel
theorem dX2_survey_76 : decode cX2_survey 76 = .ok (.getfield 34, 3) := by decide +kernel
theorem dX2_survey_79 : decode cX2_survey 79 = .ok (.iload_n 1, 1) := by decide +kernel
theorem dX2_survey_80 : decode cX2_survey 80 = .ok (.aload_n 0, 1) := by decide +kernel
theorem dX2_survey_81 : decode cX2_survey 81 = .ok (.iload_n 1, 1) := by decide +kernel
theorem dX2_survey_82 : decode cX2_survey 82 = .ok (.iconst 2, 1) := by decide +kernel
theorem dX2_survey_83 : decode cX2_survey 83 = .ok (.invokevirtual 54, 3) := by decide +kernel
theorem dX2_survey_86 : decode cX2_survey 86 = .ok (.iastore, 1) := by decide +kernel
theorem dX2_survey_87 : decode cX2_survey 87 = .ok (.iinc 1 1, 3) := by decide +kernel
theorem dX2_survey_90 : decode cX2_survey 90 = .ok (.goto (-53), 3) := by decide +kernel
theorem dX2_survey_93 : decode cX2_survey 93 = .ok (.return_, 1) := by decide +kernel
theorem dX2_firstFault_0 : decode cX2_firstFault 0 = .ok (.iconst 0, 1) := by decide +kernel
theorem dX2_firstFault_1 : decode cX2_firstFault 1 = .ok (.istore_n 1, 1) := by decide +kernel
theorem dX2_firstFault_2 : decode cX2_firstFault 2 = .ok (.iload_n 1, 1) := by decide +kernel
theorem dX2_firstFault_3 : decode cX2_firstFault 3 = .ok (.aload_n 0, 1) := by decide +kernel
theorem dX2_firstFault_4 : decode cX2_firstFault 4 = .ok (.getfield 12, 3) := by decide +kernel
theorem dX2_firstFault_7 : decode cX2_firstFault 7 = .ok (.getfield 51, 3) := by decide +kernel
theorem dX2_firstFault_10 : decode cX2_firstFault 10 = .ok (.if_icmp .ge 19, 3) := by decide +kernel
theorem dX2_firstFault_13 : decode cX2_firstFault 13 = .ok (.aload_n 0, 1) := by decide +kernel
theorem dX2_firstFault_14 : decode cX2_firstFault 14 = .ok (.iload_n 1, 1) := by decide +kernel
theorem dX2_firstFault_15 : decode cX2_firstFault 15 = .ok (.invokevirtual 58, 3) := by decide +kernel
theorem dX2_firstFault_18 : decode cX2_firstFault 18 = .ok (.ifCond .ne 5, 3) := by decide +kernel
theorem dX2_firstFault_21 : decode cX2_firstFault 21 = .ok (.iload_n 1, 1) := by decide +kernel
theorem dX2_firstFault_22 : decode cX2_firstFault 22 = .ok (.ireturn, 1) := by decide +kernel
theorem dX2_firstFault_23 : decode cX2_firstFault 23 = .ok (.iinc 1 1, 3) := by decide +kernel
theorem dX2_firstFault_26 : decode cX2_firstFault 26 = .ok (.goto (-24), 3) := by decide +kernel
theorem dX2_firstFault_29 : decode cX2_firstFault 29 = .ok (.aload_n 0, 1) := by decide +kernel
theorem dX2_firstFault_30 : decode cX2_firstFault 30 = .ok (.getfield 12, 3) := by decide +kernel
theorem dX2_firstFault_33 : decode cX2_firstFault 33 = .ok (.getfield 51, 3) := by decide +kernel
theorem dX2_firstFault_36 : decode cX2_firstFault 36 = .ok (.ifCond .eq 16, 3) := by decide +kernel
theorem dX2_firstFault_39 : decode cX2_firstFault 39 = .ok (.aload_n 0, 1) := by decide +kernel
theorem dX2_firstFault_40 : decode cX2_firstFault 40 = .ok (.getfield 12, 3) := by decide +kernel
theorem dX2_firstFault_43 : decode cX2_firstFault 43 = .ok (.getfield 51, 3) := by decide +kernel
theorem dX2_firstFault_46 : decode cX2_firstFault 46 = .ok (.iconst 3, 1) := by decide +kernel
theorem dX2_firstFault_47 : decode cX2_firstFault 47 = .ok (.iand, 1) := by decide +kernel
theorem dX2_firstFault_48 : decode cX2_firstFault 48 = .ok (.iconst 3, 1) := by decide +kernel
theorem dX2_firstFault_49 : decode cX2_firstFault 49 = .ok (.if_icmp .ne 7, 3) := by decide +kernel
theorem dX2_firstFault_52 : decode cX2_firstFault 52 = .ok (.iconst (-1), 1) := by decide +kernel
theorem dX2_firstFault_53 : decode cX2_firstFault 53 = .ok (.goto 10, 3) := by decide +kernel
theorem dX2_firstFault_56 : decode cX2_firstFault 56 = .ok (.aload_n 0, 1) := by decide +kernel
theorem dX2_firstFault_57 : decode cX2_firstFault 57 = .ok (.getfield 12, 3) := by decide +kernel
theorem dX2_firstFault_60 : decode cX2_firstFault 60 = .ok (.getfield 51, 3) := by decide +kernel
theorem dX2_firstFault_63 : decode cX2_firstFault 63 = .ok (.ireturn, 1) := by decide +kernel
theorem dX2_fits_0 : decode cX2_fits 0 = .ok (.aload_n 0, 1) := by decide +kernel
theorem dX2_fits_1 : decode cX2_fits 1 = .ok (.getfield 12, 3) := by decide +kernel
theorem dX2_fits_4 : decode cX2_fits 4 = .ok (.iload_n 1, 1) := by decide +kernel
theorem dX2_fits_5 : decode cX2_fits 5 = .ok (.invokevirtual 62, 3) := by decide +kernel
theorem dX2_fits_8 : decode cX2_fits 8 = .ok (.istore_n 2, 1) := by decide +kernel
theorem dX2_fits_9 : decode cX2_fits 9 = .ok (.iload_n 1, 1) := by decide +kernel
theorem dX2_fits_10 : decode cX2_fits 10 = .ok (.iconst 3, 1) := by decide +kernel
theorem dX2_fits_11 : decode cX2_fits 11 = .ok (.iand, 1) := by decide +kernel
theorem dX2_fits_12 : decode cX2_fits 12 = .ok (.tableswitch 92 0 2 #[28, 47, 74], 28) := by decide +kernel
theorem dX2_fits_40 : decode cX2_fits 40 = .ok (.iload_n 1, 1) := by decide +kernel
theorem dX2_fits_41 : decode cX2_fits 41 = .ok (.bipush 32, 2) := by decide +kernel
theorem dX2_fits_43 : decode cX2_fits 43 = .ok (.if_icmp .ge 14, 3) := by decide +kernel
theorem dX2_fits_46 : decode cX2_fits 46 = .ok (.iload_n 2, 1) := by decide +kernel
theorem dX2_fits_47 : decode cX2_fits 47 = .ok (.invokestatic 66, 3) := by decide +kernel
theorem dX2_fits_50 : decode cX2_fits 50 = .ok (.ifCond .eq 7, 3) := by decide +kernel
theorem dX2_fits_53 : decode cX2_fits 53 = .ok (.iconst 1, 1) := by decide +kernel
theorem dX2_fits_54 : decode cX2_fits 54 = .ok (.goto 4, 3) := by decide +kernel
theorem dX2_fits_57 : decode cX2_fits 57 = .ok (.iconst 0, 1) := by decide +kernel
theorem dX2_fits_58 : decode cX2_fits 58 = .ok (.ireturn, 1) := by decide +kernel
theorem dX2_fits_59 : decode cX2_fits 59 = .ok (.iload_n 2, 1) := by decide +kernel
theorem dX2_fits_60 : decode cX2_fits 60 = .ok (.invokestatic 66, 3) := by decide +kernel
theorem dX2_fits_63 : decode cX2_fits 63 = .ok (.ifCond .eq 21, 3) := by decide +kernel
theorem dX2_fits_66 : decode cX2_fits 66 = .ok (.iload_n 2, 1) := by decide +kernel
theorem dX2_fits_67 : decode cX2_fits 67 = .ok (.aload_n 0, 1) := by decide +kernel
theorem dX2_fits_68 : decode cX2_fits 68 = .ok (.getfield 12, 3) := by decide +kernel
theorem dX2_fits_71 : decode cX2_fits 71 = .ok (.iload_n 1, 1) := by decide +kernel
theorem dX2_fits_72 : decode cX2_fits 72 = .ok (.iconst 1, 1) := by decide +kernel
theorem dX2_fits_73 : decode cX2_fits 73 = .ok (.isub, 1) := by decide +kernel
theorem dX2_fits_74 : decode cX2_fits 74 = .ok (.invokevirtual 62, 3) := by decide +kernel
theorem dX2_fits_77 : decode cX2_fits 77 = .ok (.if_icmp .eq 7, 3) := by decide +kernel
theorem dX2_fits_80 : decode cX2_fits 80 = .ok (.iconst 1, 1) := by decide +kernel
theorem dX2_fits_81 : decode cX2_fits 81 = .ok (.goto 4, 3) := by decide +kernel
theorem dX2_fits_84 : decode cX2_fits 84 = .ok (.iconst 0, 1) := by decide +kernel
theorem dX2_fits_85 : decode cX2_fits 85 = .ok (.ireturn, 1) := by decide +kernel
theorem dX2_fits_86 : decode cX2_fits 86 = .ok (.iload_n 2, 1) := by decide +kernel
theorem dX2_fits_87 : decode cX2_fits 87 = .ok (.bipush 49, 2) := by decide +kernel
theorem dX2_fits_89 : decode cX2_fits 89 = .ok (.if_icmp .lt 13, 3) := by decide +kernel
theorem dX2_fits_92 : decode cX2_fits 92 = .ok (.iload_n 2, 1) := by decide +kernel
theorem dX2_fits_93 : decode cX2_fits 93 = .ok (.bipush 57, 2) := by decide +kernel
theorem dX2_fits_95 : decode cX2_fits 95 = .ok (.if_icmp .gt 7, 3) := by decide +kernel
theorem dX2_fits_98 : decode cX2_fits 98 = .ok (.iconst 1, 1) := by decide +kernel
theorem dX2_fits_99 : decode cX2_fits 99 = .ok (.goto 4, 3) := by decide +kernel
theorem dX2_fits_102 : decode cX2_fits 102 = .ok (.iconst 0, 1) := by decide +kernel
theorem dX2_fits_103 : decode cX2_fits 103 = .ok (.ireturn, 1) := by decide +kernel
theorem dX2_fits_104 : decode cX2_fits 104 = .ok (.iload_n 2, 1) := by decide +kernel
theorem dX2_fits_105 : decode cX2_fits 105 = .ok (.bipush 59, 2) := by decide +kernel
theorem dX2_fits_107 : decode cX2_fits 107 = .ok (.if_icmp .ne 7, 3) := by decide +kernel
theorem dX2_fits_110 : decode cX2_fits 110 = .ok (.iconst 1, 1) := by decide +kernel
theorem dX2_fits_111 : decode cX2_fits 111 = .ok (.goto 4, 3) := by decide +kernel
theorem dX2_fits_114 : decode cX2_fits 114 = .ok (.iconst 0, 1) := by decide +kernel
theorem dX2_fits_115 : decode cX2_fits 115 = .ok (.ireturn, 1) := by decide +kernel
theorem dX2_isPlace_0 : decode cX2_isPlace 0 = .ok (.iload_n 0, 1) := by decide +kernel
theorem dX2_isPlace_1 : decode cX2_isPlace 1 = .ok (.bipush 48, 2) := by decide +kernel
theorem dX2_isPlace_3 : decode cX2_isPlace 3 = .ok (.if_icmp .lt 13, 3) := by decide +kernel
theorem dX2_isPlace_6 : decode cX2_isPlace 6 = .ok (.iload_n 0, 1) := by decide +kernel
theorem dX2_isPlace_7 : decode cX2_isPlace 7 = .ok (.bipush 55, 2) := by decide +kernel
theorem dX2_isPlace_9 : decode cX2_isPlace 9 = .ok (.if_icmp .gt 7, 3) := by decide +kernel
theorem dX2_isPlace_12 : decode cX2_isPlace 12 = .ok (.iconst 1, 1) := by decide +kernel
theorem dX2_isPlace_13 : decode cX2_isPlace 13 = .ok (.goto 4, 3) := by decide +kernel
theorem dX2_isPlace_16 : decode cX2_isPlace 16 = .ok (.iconst 0, 1) := by decide +kernel
theorem dX2_isPlace_17 : decode cX2_isPlace 17 = .ok (.ireturn, 1) := by decide +kernel
theorem dX2_figure_0 : decode cX2_figure 0 = .ok (.aload_n 0, 1) := by decide +kernel
theorem dX2_figure_1 : decode cX2_figure 1 = .ok (.getfield 12, 3) := by decide +kernel
theorem dX2_figure_4 : decode cX2_figure 4 = .ok (.iconst 4, 1) := by decide +kernel
theorem dX2_figure_5 : decode cX2_figure 5 = .ok (.iload_n 1, 1) := by decide +kernel
theorem dX2_figure_6 : decode cX2_figure 6 = .ok (.imul, 1) := by decide +kernel
theorem dX2_figure_7 : decode cX2_figure 7 = .ok (.iload_n 2, 1) := by decide +kernel
theorem dX2_figure_8 : decode cX2_figure 8 = .ok (.iadd, 1) := by decide +kernel
theorem dX2_figure_9 : decode cX2_figure 9 = .ok (.invokevirtual 62, 3) := by decide +kernel
theorem dX2_figure_12 : decode cX2_figure 12 = .ok (.bipush 48, 2) := by decide +kernel
theorem dX2_figure_14 : decode cX2_figure 14 = .ok (.isub, 1) := by decide +kernel
theorem dX2_figure_15 : decode cX2_figure 15 = .ok (.ireturn, 1) := by decide +kernel
theorem dX2_leadsFrom_0 : decode cX2_leadsFrom 0 = .ok (.iload_n 1, 1) := by decide +kernel
theorem dX2_leadsFrom_1 : decode cX2_leadsFrom 1 = .ok (.ifCond .lt 17, 3) := by decide +kernel
theorem dX2_leadsFrom_4 : decode cX2_leadsFrom 4 = .ok (.iload_n 1, 1) := by decide +kernel
theorem dX2_leadsFrom_5 : decode cX2_leadsFrom 5 = .ok (.aload_n 0, 1) := by decide +kernel
theorem dX2_leadsFrom_6 : decode cX2_leadsFrom 6 = .ok (.getfield 41, 3) := by decide +kernel
theorem dX2_leadsFrom_9 : decode cX2_leadsFrom 9 = .ok (.if_icmp .ge 9, 3) := by decide +kernel
theorem dX2_leadsFrom_12 : decode cX2_leadsFrom 12 = .ok (.iload_n 1, 1) := by decide +kernel
theorem dX2_leadsFrom_13 : decode cX2_leadsFrom 13 = .ok (.bipush 8, 2) := by decide +kernel
theorem dX2_leadsFrom_15 : decode cX2_leadsFrom 15 = .ok (.if_icmp .lt 5, 3) := by decide +kernel
theorem dX2_leadsFrom_18 : decode cX2_leadsFrom 18 = .ok (.iconst 0, 1) := by decide +kernel
theorem dX2_leadsFrom_19 : decode cX2_leadsFrom 19 = .ok (.ireturn, 1) := by decide +kernel
theorem dX2_leadsFrom_20 : decode cX2_leadsFrom 20 = .ok (.aload_n 0, 1) := by decide +kernel
theorem dX2_leadsFrom_21 : decode cX2_leadsFrom 21 = .ok (.getfield 28, 3) := by decide +kernel
theorem dX2_leadsFrom_24 : decode cX2_leadsFrom 24 = .ok (.iload_n 1, 1) := by decide +kernel
theorem dX2_leadsFrom_25 : decode cX2_leadsFrom 25 = .ok (.iaload, 1) := by decide +kernel
theorem dX2_leadsFrom_26 : decode cX2_leadsFrom 26 = .ok (.iload_n 2, 1) := by decide +kernel
theorem dX2_leadsFrom_27 : decode cX2_leadsFrom 27 = .ok (.if_icmp .eq 13, 3) := by decide +kernel
theorem dX2_leadsFrom_30 : decode cX2_leadsFrom 30 = .ok (.aload_n 0, 1) := by decide +kernel
theorem dX2_leadsFrom_31 : decode cX2_leadsFrom 31 = .ok (.getfield 31, 3) := by decide +kernel
theorem dX2_leadsFrom_34 : decode cX2_leadsFrom 34 = .ok (.iload_n 1, 1) := by decide +kernel
theorem dX2_leadsFrom_35 : decode cX2_leadsFrom 35 = .ok (.iaload, 1) := by decide +kernel
theorem dX2_leadsFrom_36 : decode cX2_leadsFrom 36 = .ok (.iload_n 2, 1) := by decide +kernel
theorem dX2_leadsFrom_37 : decode cX2_leadsFrom 37 = .ok (.if_icmp .ne 7, 3) := by decide +kernel
theorem dX2_leadsFrom_40 : decode cX2_leadsFrom 40 = .ok (.iconst 1, 1) := by decide +kernel
theorem dX2_leadsFrom_41 : decode cX2_leadsFrom 41 = .ok (.goto 4, 3) := by decide +kernel
theorem dX2_leadsFrom_44 : decode cX2_leadsFrom 44 = .ok (.iconst 0, 1) := by decide +kernel
theorem dX2_leadsFrom_45 : decode cX2_leadsFrom 45 = .ok (.ireturn, 1) := by decide +kernel
theorem dX2_across_0 : decode cX2_across 0 = .ok (.iload_n 1, 1) := by decide +kernel
theorem dX2_across_1 : decode cX2_across 1 = .ok (.bipush 7, 2) := by decide +kernel
theorem dX2_across_3 : decode cX2_across 3 = .ok (.iand, 1) := by decide +kernel
theorem dX2_across_4 : decode cX2_across 4 = .ok (.istore_n 3, 1) := by decide +kernel
theorem dX2_across_5 : decode cX2_across 5 = .ok (.aload_n 0, 1) := by decide +kernel
theorem dX2_across_6 : decode cX2_across 6 = .ok (.getfield 28, 3) := by decide +kernel
theorem dX2_across_9 : decode cX2_across 9 = .ok (.iload_n 3, 1) := by decide +kernel
theorem dX2_across_10 : decode cX2_across 10 = .ok (.iaload, 1) := by decide +kernel
theorem dX2_across_11 : decode cX2_across 11 = .ok (.iload_n 2, 1) := by decide +kernel
theorem dX2_across_12 : decode cX2_across 12 = .ok (.if_icmp .ne 12, 3) := by decide +kernel
theorem dX2_across_15 : decode cX2_across 15 = .ok (.aload_n 0, 1) := by decide +kernel
theorem dX2_across_16 : decode cX2_across 16 = .ok (.getfield 31, 3) := by decide +kernel
theorem dX2_across_19 : decode cX2_across 19 = .ok (.iload_n 3, 1) := by decide +kernel
theorem dX2_across_20 : decode cX2_across 20 = .ok (.iaload, 1) := by decide +kernel
theorem dX2_across_21 : decode cX2_across 21 = .ok (.goto 9, 3) := by decide +kernel
theorem dX2_across_24 : decode cX2_across 24 = .ok (.aload_n 0, 1) := by decide +kernel
theorem dX2_across_25 : decode cX2_across 25 = .ok (.getfield 28, 3) := by decide +kernel
theorem dX2_across_28 : decode cX2_across 28 = .ok (.iload_n 3, 1) := by decide +kernel
theorem dX2_across_29 : decode cX2_across 29 = .ok (.iaload, 1) := by decide +kernel
theorem dX2_across_30 : decode cX2_across 30 = .ok (.ireturn, 1) := by decide +kernel
theorem dX2_yardsOf_0 : decode cX2_yardsOf 0 = .ok (.aload_n 0, 1) := by decide +kernel
theorem dX2_yardsOf_1 : decode cX2_yardsOf 1 = .ok (.getfield 34, 3) := by decide +kernel
theorem dX2_yardsOf_4 : decode cX2_yardsOf 4 = .ok (.iload_n 1, 1) := by decide +kernel
theorem dX2_yardsOf_5 : decode cX2_yardsOf 5 = .ok (.bipush 7, 2) := by decide +kernel
theorem dX2_yardsOf_7 : decode cX2_yardsOf 7 = .ok (.iand, 1) := by decide +kernel
theorem dX2_yardsOf_8 : decode cX2_yardsOf 8 = .ok (.iaload, 1) := by decide +kernel
theorem dX2_yardsOf_9 : decode cX2_yardsOf 9 = .ok (.ireturn, 1) := by decide +kernel
theorem dX2_haveSameEnds_0 : decode cX2_haveSameEnds 0 = .ok (.aload_n 0, 1) := by decide +kernel
theorem dX2_haveSameEnds_1 : decode cX2_haveSameEnds 1 = .ok (.iload_n 1, 1) := by decide +kernel
theorem dX2_haveSameEnds_2 : decode cX2_haveSameEnds 2 = .ok (.aload_n 0, 1) := by decide +kernel
theorem dX2_haveSameEnds_3 : decode cX2_haveSameEnds 3 = .ok (.iload_n 2, 1) := by decide +kernel
theorem dX2_haveSameEnds_4 : decode cX2_haveSameEnds 4 = .ok (.iconst 0, 1) := by decide +kernel
theorem dX2_haveSameEnds_5 : decode cX2_haveSameEnds 5 = .ok (.invokevirtual 54, 3) := by decide +kernel
theorem dX2_haveSameEnds_8 : decode cX2_haveSameEnds 8 = .ok (.invokevirtual 69, 3) := by decide +kernel
theorem dX2_haveSameEnds_11 : decode cX2_haveSameEnds 11 = .ok (.ifCond .eq 21, 3) := by decide +kernel
theorem dX2_haveSameEnds_14 : decode cX2_haveSameEnds 14 = .ok (.aload_n 0, 1) := by decide +kernel
theorem dX2_haveSameEnds_15 : decode cX2_haveSameEnds 15 = .ok (.iload_n 1, 1) := by decide +kernel
theorem dX2_haveSameEnds_16 : decode cX2_haveSameEnds 16 = .ok (.aload_n 0, 1) := by decide +kernel
theorem dX2_haveSameEnds_17 : decode cX2_haveSameEnds 17 = .ok (.iload_n 2, 1) := by decide +kernel
theorem dX2_haveSameEnds_18 : decode cX2_haveSameEnds 18 = .ok (.iconst 1, 1) := by decide +kernel
theorem dX2_haveSameEnds_19 : decode cX2_haveSameEnds 19 = .ok (.invokevirtual 54, 3) := by decide +kernel
theorem dX2_haveSameEnds_22 : decode cX2_haveSameEnds 22 = .ok (.invokevirtual 69, 3) := by decide +kernel
theorem dX2_haveSameEnds_25 : decode cX2_haveSameEnds 25 = .ok (.ifCond .eq 7, 3) := by decide +kernel
theorem dX2_haveSameEnds_28 : decode cX2_haveSameEnds 28 = .ok (.iconst 1, 1) := by decide +kernel
theorem dX2_haveSameEnds_29 : decode cX2_haveSameEnds 29 = .ok (.goto 4, 3) := by decide +kernel
theorem dX2_haveSameEnds_32 : decode cX2_haveSameEnds 32 = .ok (.iconst 0, 1) := by decide +kernel
theorem dX2_haveSameEnds_33 : decode cX2_haveSameEnds 33 = .ok (.ireturn, 1) := by decide +kernel
theorem dX2_shorter_0 : decode cX2_shorter 0 = .ok (.iload_n 1, 1) := by decide +kernel
theorem dX2_shorter_1 : decode cX2_shorter 1 = .ok (.iload_n 2, 1) := by decide +kernel
theorem dX2_shorter_2 : decode cX2_shorter 2 = .ok (.invokestatic 73, 3) := by decide +kernel
theorem dX2_shorter_5 : decode cX2_shorter 5 = .ok (.istore_n 3, 1) := by decide +kernel
theorem dX2_shorter_6 : decode cX2_shorter 6 = .ok (.iload_n 1, 1) := by decide +kernel
theorem dX2_shorter_7 : decode cX2_shorter 7 = .ok (.iload_n 2, 1) := by decide +kernel
theorem dX2_shorter_8 : decode cX2_shorter 8 = .ok (.invokestatic 78, 3) := by decide +kernel
theorem dX2_shorter_11 : decode cX2_shorter 11 = .ok (.istore 4, 2) := by decide +kernel
theorem dX2_shorter_13 : decode cX2_shorter 13 = .ok (.aload_n 0, 1) := by decide +kernel
theorem dX2_shorter_14 : decode cX2_shorter 14 = .ok (.iload 4, 2) := by decide +kernel
theorem dX2_shorter_16 : decode cX2_shorter 16 = .ok (.invokevirtual 81, 3) := by decide +kernel
theorem dX2_shorter_19 : decode cX2_shorter 19 = .ok (.aload_n 0, 1) := by decide +kernel
theorem dX2_shorter_20 : decode cX2_shorter 20 = .ok (.iload_n 3, 1) := by decide +kernel
theorem dX2_shorter_21 : decode cX2_shorter 21 = .ok (.invokevirtual 81, 3) := by decide +kernel
theorem dX2_shorter_24 : decode cX2_shorter 24 = .ok (.if_icmp .ge 8, 3) := by decide +kernel
theorem dX2_shorter_27 : decode cX2_shorter 27 = .ok (.iload 4, 2) := by decide +kernel
theorem dX2_shorter_29 : decode cX2_shorter 29 = .ok (.goto 4, 3) := by decide +kernel
theorem dX2_shorter_32 : decode cX2_shorter 32 = .ok (.iload_n 3, 1) := by decide +kernel
theorem dX2_shorter_33 : decode cX2_shorter 33 = .ok (.ireturn, 1) := by decide +kernel
theorem dX2_isHeavier_0 : decode cX2_isHeavier 0 = .ok (.iload_n 1, 1) := by decide +kernel
theorem dX2_isHeavier_1 : decode cX2_isHeavier 1 = .ok (.ifCond .ne 26, 3) := by decide +kernel
theorem dX2_isHeavier_4 : decode cX2_isHeavier 4 = .ok (.aload_n 0, 1) := by decide +kernel
theorem dX2_isHeavier_5 : decode cX2_isHeavier 5 = .ok (.getfield 18, 3) := by decide +kernel
theorem dX2_isHeavier_8 : decode cX2_isHeavier 8 = .ok (.iconst 0, 1) := by decide +kernel
theorem dX2_isHeavier_9 : decode cX2_isHeavier 9 = .ok (.iaload, 1) := by decide +kernel
theorem dX2_isHeavier_10 : decode cX2_isHeavier 10 = .ok (.aload_n 0, 1) := by decide +kernel
theorem dX2_isHeavier_11 : decode cX2_isHeavier 11 = .ok (.getfield 18, 3) := by decide +kernel
theorem dX2_isHeavier_14 : decode cX2_isHeavier 14 = .ok (.iconst 1, 1) := by decide +kernel
theorem dX2_isHeavier_15 : decode cX2_isHeavier 15 = .ok (.iaload, 1) := by decide +kernel
theorem dX2_isHeavier_16 : decode cX2_isHeavier 16 = .ok (.if_icmp .le 7, 3) := by decide +kernel
theorem dX2_isHeavier_19 : decode cX2_isHeavier 19 = .ok (.iconst 1, 1) := by decide +kernel
theorem dX2_isHeavier_20 : decode cX2_isHeavier 20 = .ok (.goto 27, 3) := by decide +kernel
theorem dX2_isHeavier_23 : decode cX2_isHeavier 23 = .ok (.iconst 0, 1) := by decide +kernel
theorem dX2_isHeavier_24 : decode cX2_isHeavier 24 = .ok (.goto 23, 3) := by decide +kernel
theorem dX2_isHeavier_27 : decode cX2_isHeavier 27 = .ok (.aload_n 0, 1) := by decide +kernel
theorem dX2_isHeavier_28 : decode cX2_isHeavier 28 = .ok (.getfield 18, 3) := by decide +kernel
theorem dX2_isHeavier_31 : decode cX2_isHeavier 31 = .ok (.iconst 1, 1) := by decide +kernel
theorem dX2_isHeavier_32 : decode cX2_isHeavier 32 = .ok (.iaload, 1) := by decide +kernel
theorem dX2_isHeavier_33 : decode cX2_isHeavier 33 = .ok (.aload_n 0, 1) := by decide +kernel
theorem dX2_isHeavier_34 : decode cX2_isHeavier 34 = .ok (.getfield 18, 3) := by decide +kernel
theorem dX2_isHeavier_37 : decode cX2_isHeavier 37 = .ok (.iconst 0, 1) := by decide +kernel
theorem dX2_isHeavier_38 : decode cX2_isHeavier 38 = .ok (.iaload, 1) := by decide +kernel
theorem dX2_isHeavier_39 : decode cX2_isHeavier 39 = .ok (.if_icmp .le 7, 3) := by decide +kernel
theorem dX2_isHeavier_42 : decode cX2_isHeavier 42 = .ok (.iconst 1, 1) := by decide +kernel
theorem dX2_isHeavier_43 : decode cX2_isHeavier 43 = .ok (.goto 4, 3) := by decide +kernel
theorem dX2_isHeavier_46 : decode cX2_isHeavier 46 = .ok (.iconst 0, 1) := by decide +kernel
theorem dX2_isHeavier_47 : decode cX2_isHeavier 47 = .ok (.ireturn, 1) := by decide +kernel
theorem dX2_allYards_0 : decode cX2_allYards 0 = .ok (.iconst 0, 1) := by decide +kernel
theorem dX2_allYards_1 : decode cX2_allYards 1 = .ok (.istore_n 1, 1) := by decide +kernel
theorem dX2_allYards_2 : decode cX2_allYards 2 = .ok (.iconst 0, 1) := by decide +kernel
theorem dX2_allYards_3 : decode cX2_allYards 3 = .ok (.istore_n 2, 1) := by decide +kernel
theorem dX2_allYards_4 : decode cX2_allYards 4 = .ok (.iload_n 2, 1) := by decide +kernel
theorem dX2_allYards_5 : decode cX2_allYards 5 = .ok (.aload_n 0, 1) := by decide +kernel
theorem dX2_allYards_6 : decode cX2_allYards 6 = .ok (.getfield 41, 3) := by decide +kernel
theorem dX2_allYards_9 : decode cX2_allYards 9 = .ok (.if_icmp .ge 17, 3) := by decide +kernel
theorem dX2_allYards_12 : decode cX2_allYards 12 = .ok (.iload_n 1, 1) := by decide +kernel
theorem dX2_allYards_13 : decode cX2_allYards 13 = .ok (.aload_n 0, 1) := by decide +kernel
theorem dX2_allYards_14 : decode cX2_allYards 14 = .ok (.iload_n 2, 1) := by decide +kernel
theorem dX2_allYards_15 : decode cX2_allYards 15 = .ok (.invokevirtual 81, 3) := by decide +kernel
theorem dX2_allYards_18 : decode cX2_allYards 18 = .ok (.iadd, 1) := by decide +kernel
theorem dX2_allYards_19 : decode cX2_allYards 19 = .ok (.istore_n 1, 1) := by decide +kernel
theorem dX2_allYards_20 : decode cX2_allYards 20 = .ok (.iinc 2 1, 3) := by decide +kernel
theorem dX2_allYards_23 : decode cX2_allYards 23 = .ok (.goto (-19), 3) := by decide +kernel
theorem dX2_allYards_26 : decode cX2_allYards 26 = .ok (.iload_n 1, 1) := by decide +kernel
theorem dX2_allYards_27 : decode cX2_allYards 27 = .ok (.ireturn, 1) := by decide +kernel
theorem dX2_worthBeside_0 : decode cX2_worthBeside 0 = .ok (.iconst 0, 1) := by decide +kernel
theorem dX2_worthBeside_1 : decode cX2_worthBeside 1 = .ok (.istore_n 2, 1) := by decide +kernel
theorem dX2_worthBeside_2 : decode cX2_worthBeside 2 = .ok (.iconst 0, 1) := by decide +kernel
theorem dX2_worthBeside_3 : decode cX2_worthBeside 3 = .ok (.istore_n 3, 1) := by decide +kernel
theorem dX2_worthBeside_4 : decode cX2_worthBeside 4 = .ok (.iload_n 3, 1) := by decide +kernel
theorem dX2_worthBeside_5 : decode cX2_worthBeside 5 = .ok (.bipush 8, 2) := by decide +kernel
theorem dX2_worthBeside_7 : decode cX2_worthBeside 7 = .ok (.if_icmp .ge 18, 3) := by decide +kernel
theorem dX2_worthBeside_10 : decode cX2_worthBeside 10 = .ok (.iload_n 2, 1) := by decide +kernel
theorem dX2_worthBeside_11 : decode cX2_worthBeside 11 = .ok (.aload_n 0, 1) := by decide +kernel
theorem dX2_worthBeside_12 : decode cX2_worthBeside 12 = .ok (.iload_n 3, 1) := by decide +kernel
theorem dX2_worthBeside_13 : decode cX2_worthBeside 13 = .ok (.iload_n 1, 1) := by decide +kernel
theorem dX2_worthBeside_14 : decode cX2_worthBeside 14 = .ok (.invokevirtual 84, 3) := by decide +kernel
theorem dX2_worthBeside_17 : decode cX2_worthBeside 17 = .ok (.iadd, 1) := by decide +kernel
theorem dX2_worthBeside_18 : decode cX2_worthBeside 18 = .ok (.istore_n 2, 1) := by decide +kernel
theorem dX2_worthBeside_19 : decode cX2_worthBeside 19 = .ok (.iinc 3 1, 3) := by decide +kernel
theorem dX2_worthBeside_22 : decode cX2_worthBeside 22 = .ok (.goto (-18), 3) := by decide +kernel
theorem dX2_worthBeside_25 : decode cX2_worthBeside 25 = .ok (.iload_n 2, 1) := by decide +kernel
theorem dX2_worthBeside_26 : decode cX2_worthBeside 26 = .ok (.ireturn, 1) := by decide +kernel
theorem dX2_worthAt_0 : decode cX2_worthAt 0 = .ok (.iload_n 1, 1) := by decide +kernel
theorem dX2_worthAt_1 : decode cX2_worthAt 1 = .ok (.bipush 8, 2) := by decide +kernel
theorem dX2_worthAt_3 : decode cX2_worthAt 3 = .ok (.invokestatic 87, 3) := by decide +kernel
theorem dX2_worthAt_6 : decode cX2_worthAt 6 = .ok (.ifCond .eq 20, 3) := by decide +kernel
theorem dX2_worthAt_9 : decode cX2_worthAt 9 = .ok (.iload_n 2, 1) := by decide +kernel
theorem dX2_worthAt_10 : decode cX2_worthAt 10 = .ok (.iload_n 1, 1) := by decide +kernel
theorem dX2_worthAt_11 : decode cX2_worthAt 11 = .ok (.ishr, 1) := by decide +kernel
theorem dX2_worthAt_12 : decode cX2_worthAt 12 = .ok (.iconst 1, 1) := by decide +kernel
theorem dX2_worthAt_13 : decode cX2_worthAt 13 = .ok (.iand, 1) := by decide +kernel
theorem dX2_worthAt_14 : decode cX2_worthAt 14 = .ok (.ifCond .ne 12, 3) := by decide +kernel
theorem dX2_worthAt_17 : decode cX2_worthAt 17 = .ok (.aload_n 0, 1) := by decide +kernel
theorem dX2_worthAt_18 : decode cX2_worthAt 18 = .ok (.getfield 22, 3) := by decide +kernel
theorem dX2_worthAt_21 : decode cX2_worthAt 21 = .ok (.iload_n 1, 1) := by decide +kernel
theorem dX2_worthAt_22 : decode cX2_worthAt 22 = .ok (.iaload, 1) := by decide +kernel
theorem dX2_worthAt_23 : decode cX2_worthAt 23 = .ok (.goto 4, 3) := by decide +kernel
theorem dX2_worthAt_26 : decode cX2_worthAt 26 = .ok (.iconst 0, 1) := by decide +kernel
theorem dX2_worthAt_27 : decode cX2_worthAt 27 = .ok (.ireturn, 1) := by decide +kernel
theorem dX2_measureFrom_0 : decode cX2_measureFrom 0 = .ok (.aload_n 0, 1) := by decide +kernel
theorem dX2_measureFrom_1 : decode cX2_measureFrom 1 = .ok (.getfield 25, 3) := by decide +kernel
theorem dX2_measureFrom_4 : decode cX2_measureFrom 4 = .ok (.iconst (-1), 1) := by decide +kernel
theorem dX2_measureFrom_5 : decode cX2_measureFrom 5 = .ok (.invokestatic 90, 3) := by decide +kernel
theorem dX2_measureFrom_8 : decode cX2_measureFrom 8 = .ok (.iload_n 1, 1) := by decide +kernel
theorem dX2_measureFrom_9 : decode cX2_measureFrom 9 = .ok (.bipush 8, 2) := by decide +kernel
theorem dX2_measureFrom_11 : decode cX2_measureFrom 11 = .ok (.invokestatic 87, 3) := by decide +kernel
theorem dX2_measureFrom_14 : decode cX2_measureFrom 14 = .ok (.ifCond .ne 4, 3) := by decide +kernel
theorem dX2_measureFrom_17 : decode cX2_measureFrom 17 = .ok (.return_, 1) := by decide +kernel
theorem dX2_measureFrom_18 : decode cX2_measureFrom 18 = .ok (.aload_n 0, 1) := by decide +kernel
theorem dX2_measureFrom_19 : decode cX2_measureFrom 19 = .ok (.getfield 25, 3) := by decide +kernel
theorem dX2_measureFrom_22 : decode cX2_measureFrom 22 = .ok (.iload_n 1, 1) := by decide +kernel
theorem dX2_measureFrom_23 : decode cX2_measureFrom 23 = .ok (.iconst 0, 1) := by decide +kernel
theorem dX2_measureFrom_24 : decode cX2_measureFrom 24 = .ok (.iastore, 1) := by decide +kernel
theorem dX2_measureFrom_25 : decode cX2_measureFrom 25 = .ok (.iconst 1, 1) := by decide +kernel
theorem dX2_measureFrom_26 : decode cX2_measureFrom 26 = .ok (.istore_n 2, 1) := by decide +kernel
theorem dX2_measureFrom_27 : decode cX2_measureFrom 27 = .ok (.iload_n 2, 1) := by decide +kernel
theorem dX2_measureFrom_28 : decode cX2_measureFrom 28 = .ok (.bipush 8, 2) := by decide +kernel
theorem dX2_measureFrom_30 : decode cX2_measureFrom 30 = .ok (.if_icmp .ge 65, 3) := by decide +kernel
theorem dX2_measureFrom_33 : decode cX2_measureFrom 33 = .ok (.iconst 0, 1) := by decide +kernel
theorem dX2_measureFrom_34 : decode cX2_measureFrom 34 = .ok (.istore_n 3, 1) := by decide +kernel
theorem dX2_measureFrom_35 : decode cX2_measureFrom 35 = .ok (.iload_n 3, 1) := by decide +kernel
theorem dX2_measureFrom_36 : decode cX2_measureFrom 36 = .ok (.aload_n 0, 1) := by decide +kernel
theorem dX2_measureFrom_37 : decode cX2_measureFrom 37 = .ok (.getfield 41, 3) := by decide +kernel
theorem dX2_measureFrom_40 : decode cX2_measureFrom 40 = .ok (.if_icmp .ge 49, 3) := by decide +kernel
theorem dX2_measureFrom_43 : decode cX2_measureFrom 43 = .ok (.iload_n 3, 1) := by decide +kernel
theorem dX2_measureFrom_44 : decode cX2_measureFrom 44 = .ok (.bipush 8, 2) := by decide +kernel
theorem dX2_measureFrom_46 : decode cX2_measureFrom 46 = .ok (.if_icmp .ge 43, 3) := by decide +kernel
theorem dX2_measureFrom_49 : decode cX2_measureFrom 49 = .ok (.aload_n 0, 1) := by decide +kernel
theorem dX2_measureFrom_50 : decode cX2_measureFrom 50 = .ok (.aload_n 0, 1) := by decide +kernel
theorem dX2_measureFrom_51 : decode cX2_measureFrom 51 = .ok (.getfield 28, 3) := by decide +kernel
theorem dX2_measureFrom_54 : decode cX2_measureFrom 54 = .ok (.iload_n 3, 1) := by decide +kernel
theorem dX2_measureFrom_55 : decode cX2_measureFrom 55 = .ok (.iaload, 1) := by decide +kernel
theorem dX2_measureFrom_56 : decode cX2_measureFrom 56 = .ok (.aload_n 0, 1) := by decide +kernel
theorem dX2_measureFrom_57 : decode cX2_measureFrom 57 = .ok (.getfield 31, 3) := by decide +kernel
theorem dX2_measureFrom_60 : decode cX2_measureFrom 60 = .ok (.iload_n 3, 1) := by decide +kernel
theorem dX2_measureFrom_61 : decode cX2_measureFrom 61 = .ok (.iaload, 1) := by decide +kernel
theorem dX2_measureFrom_62 : decode cX2_measureFrom 62 = .ok (.iload_n 2, 1) := by decide +kernel
theorem dX2_measureFrom_63 : decode cX2_measureFrom 63 = .ok (.invokevirtual 96, 3) := by decide +kernel
theorem dX2_measureFrom_66 : decode cX2_measureFrom 66 = .ok (.aload_n 0, 1) := by decide +kernel
theorem dX2_measureFrom_67 : decode cX2_measureFrom 67 = .ok (.aload_n 0, 1) := by decide +kernel
theorem dX2_measureFrom_68 : decode cX2_measureFrom 68 = .ok (.getfield 31, 3) := by decide +kernel
theorem dX2_measureFrom_71 : decode cX2_measureFrom 71 = .ok (.iload_n 3, 1) := by decide +kernel
theorem dX2_measureFrom_72 : decode cX2_measureFrom 72 = .ok (.iaload, 1) := by decide +kernel
theorem dX2_measureFrom_73 : decode cX2_measureFrom 73 = .ok (.aload_n 0, 1) := by decide +kernel
theorem dX2_measureFrom_74 : decode cX2_measureFrom 74 = .ok (.getfield 28, 3) := by decide +kernel
theorem dX2_measureFrom_77 : decode cX2_measureFrom 77 = .ok (.iload_n 3, 1) := by decide +kernel
theorem dX2_measureFrom_78 : decode cX2_measureFrom 78 = .ok (.iaload, 1) := by decide +kernel
theorem dX2_measureFrom_79 : decode cX2_measureFrom 79 = .ok (.iload_n 2, 1) := by decide +kernel
theorem dX2_measureFrom_80 : decode cX2_measureFrom 80 = .ok (.invokevirtual 96, 3) := by decide +kernel
theorem dX2_measureFrom_83 : decode cX2_measureFrom 83 = .ok (.iinc 3 1, 3) := by decide +kernel
theorem dX2_measureFrom_86 : decode cX2_measureFrom 86 = .ok (.goto (-51), 3) := by decide +kernel
theorem dX2_measureFrom_89 : decode cX2_measureFrom 89 = .ok (.iinc 2 1, 3) := by decide +kernel
theorem dX2_measureFrom_92 : decode cX2_measureFrom 92 = .ok (.goto (-65), 3) := by decide +kernel
theorem dX2_measureFrom_95 : decode cX2_measureFrom 95 = .ok (.return_, 1) := by decide +kernel
theorem dX2_measureAcross_0 : decode cX2_measureAcross 0 = .ok (.iload_n 1, 1) := by decide +kernel
theorem dX2_measureAcross_1 : decode cX2_measureAcross 1 = .ok (.bipush 8, 2) := by decide +kernel
theorem dX2_measureAcross_3 : decode cX2_measureAcross 3 = .ok (.invokestatic 87, 3) := by decide +kernel
theorem dX2_measureAcross_6 : decode cX2_measureAcross 6 = .ok (.ifCond .eq 41, 3) := by decide +kernel
theorem dX2_measureAcross_9 : decode cX2_measureAcross 9 = .ok (.iload_n 2, 1) := by decide +kernel
theorem dX2_measureAcross_10 : decode cX2_measureAcross 10 = .ok (.bipush 8, 2) := by decide +kernel
theorem dX2_measureAcross_12 : decode cX2_measureAcross 12 = .ok (.invokestatic 87, 3) := by decide +kernel
theorem dX2_measureAcross_15 : decode cX2_measureAcross 15 = .ok (.ifCond .eq 32, 3) := by decide +kernel
theorem dX2_measureAcross_18 : decode cX2_measureAcross 18 = .ok (.aload_n 0, 1) := by decide +kernel
theorem dX2_measureAcross_19 : decode cX2_measureAcross 19 = .ok (.getfield 25, 3) := by decide +kernel
theorem dX2_measureAcross_22 : decode cX2_measureAcross 22 = .ok (.iload_n 1, 1) := by decide +kernel
theorem dX2_measureAcross_23 : decode cX2_measureAcross 23 = .ok (.iaload, 1) := by decide +kernel
theorem dX2_measureAcross_24 : decode cX2_measureAcross 24 = .ok (.iload_n 3, 1) := by decide +kernel
theorem dX2_measureAcross_25 : decode cX2_measureAcross 25 = .ok (.iconst 1, 1) := by decide +kernel
theorem dX2_measureAcross_26 : decode cX2_measureAcross 26 = .ok (.isub, 1) := by decide +kernel
theorem dX2_measureAcross_27 : decode cX2_measureAcross 27 = .ok (.if_icmp .ne 20, 3) := by decide +kernel
theorem dX2_measureAcross_30 : decode cX2_measureAcross 30 = .ok (.aload_n 0, 1) := by decide +kernel
theorem dX2_measureAcross_31 : decode cX2_measureAcross 31 = .ok (.getfield 25, 3) := by decide +kernel
theorem dX2_measureAcross_34 : decode cX2_measureAcross 34 = .ok (.iload_n 2, 1) := by decide +kernel
theorem dX2_measureAcross_35 : decode cX2_measureAcross 35 = .ok (.iaload, 1) := by decide +kernel
theorem dX2_measureAcross_36 : decode cX2_measureAcross 36 = .ok (.iconst (-1), 1) := by decide +kernel
theorem dX2_measureAcross_37 : decode cX2_measureAcross 37 = .ok (.if_icmp .ne 10, 3) := by decide +kernel
theorem dX2_measureAcross_40 : decode cX2_measureAcross 40 = .ok (.aload_n 0, 1) := by decide +kernel
theorem dX2_measureAcross_41 : decode cX2_measureAcross 41 = .ok (.getfield 25, 3) := by decide +kernel
theorem dX2_measureAcross_44 : decode cX2_measureAcross 44 = .ok (.iload_n 2, 1) := by decide +kernel
theorem dX2_measureAcross_45 : decode cX2_measureAcross 45 = .ok (.iload_n 3, 1) := by decide +kernel
theorem dX2_measureAcross_46 : decode cX2_measureAcross 46 = .ok (.iastore, 1) := by decide +kernel
theorem dX2_measureAcross_47 : decode cX2_measureAcross 47 = .ok (.return_, 1) := by decide +kernel
theorem dX3_init_0 : decode cX3_init 0 = .ok (.aload_n 0, 1) := by decide +kernel
theorem dX3_init_1 : decode cX3_init 1 = .ok (.invokespecial 3, 3) := by decide +kernel
theorem dX3_init_4 : decode cX3_init 4 = .ok (.aload_n 0, 1) := by decide +kernel
theorem dX3_init_5 : decode cX3_init 5 = .ok (.sipush 1001, 3) := by decide +kernel
theorem dX3_init_8 : decode cX3_init 8 = .ok (.newarray .long, 2) := by decide +kernel
theorem dX3_init_10 : decode cX3_init 10 = .ok (.putfield 11, 3) := by decide +kernel
theorem dX3_init_13 : decode cX3_init 13 = .ok (.aload_n 0, 1) := by decide +kernel
theorem dX3_init_14 : decode cX3_init 14 = .ok (.sipush 2048, 3) := by decide +kernel
theorem dX3_init_17 : decode cX3_init 17 = .ok (.newarray .int, 2) := by decide +kernel
theorem dX3_init_19 : decode cX3_init 19 = .ok (.putfield 15, 3) := by decide +kernel
theorem dX3_init_22 : decode cX3_init 22 = .ok (.aload_n 0, 1) := by decide +kernel
theorem dX3_init_23 : decode cX3_init 23 = .ok (.iconst 0, 1) := by decide +kernel
theorem dX3_init_24 : decode cX3_init 24 = .ok (.putfield 19, 3) := by decide +kernel
theorem dX3_init_27 : decode cX3_init 27 = .ok (.aload_n 0, 1) := by decide +kernel
theorem dX3_init_28 : decode cX3_init 28 = .ok (.aload_n 1, 1) := by decide +kernel
theorem dX3_init_29 : decode cX3_init 29 = .ok (.putfield 23, 3) := by decide +kernel
theorem dX3_init_32 : decode cX3_init 32 = .ok (.aload_n 0, 1) := by decide +kernel
theorem dX3_init_33 : decode cX3_init 33 = .ok (.new 27, 3) := by decide +kernel
theorem dX3_init_36 : decode cX3_init 36 = .ok (.dup, 1) := by decide +kernel
theorem dX3_init_37 : decode cX3_init 37 = .ok (.aload_n 1, 1) := by decide +kernel
theorem dX3_init_38 : decode cX3_init 38 = .ok (.invokespecial 29, 3) := by decide +kernel
theorem dX3_init_41 : decode cX3_init 41 = .ok (.putfield 32, 3) := by decide +kernel
theorem dX3_init_44 : decode cX3_init 44 = .ok (.return_, 1) := by decide +kernel
theorem dX3_fewest_0 : decode cX3_fewest 0 = .ok (.aload_n 1, 1) := by decide +kernel
theorem dX3_fewest_1 : decode cX3_fewest 1 = .ok (.iload_n 2, 1) := by decide +kernel
theorem dX3_fewest_2 : decode cX3_fewest 2 = .ok (.iload_n 3, 1) := by decide +kernel
theorem dX3_fewest_3 : decode cX3_fewest 3 = .ok (.invokestatic 36, 3) := by decide +kernel
theorem dX3_fewest_6 : decode cX3_fewest 6 = .ok (.ifCond .eq 5, 3) := by decide +kernel
theorem dX3_fewest_9 : decode cX3_fewest 9 = .ok (.iconst 0, 1) := by decide +kernel
theorem dX3_fewest_10 : decode cX3_fewest 10 = .ok (.ireturn, 1) := by decide +kernel
theorem dX3_fewest_11 : decode cX3_fewest 11 = .ok (.aload_n 0, 1) := by decide +kernel
theorem dX3_fewest_12 : decode cX3_fewest 12 = .ok (.getfield 15, 3) := by decide +kernel
theorem dX3_fewest_15 : decode cX3_fewest 15 = .ok (.iconst 0, 1) := by decide +kernel
theorem dX3_fewest_16 : decode cX3_fewest 16 = .ok (.invokestatic 40, 3) := by decide +kernel
theorem dX3_fewest_19 : decode cX3_fewest 19 = .ok (.aload_n 0, 1) := by decide +kernel
theorem dX3_fewest_20 : decode cX3_fewest 20 = .ok (.iconst 0, 1) := by decide +kernel
theorem dX3_fewest_21 : decode cX3_fewest 21 = .ok (.putfield 19, 3) := by decide +kernel
theorem dX3_fewest_24 : decode cX3_fewest 24 = .ok (.aload_n 0, 1) := by decide +kernel
theorem dX3_fewest_25 : decode cX3_fewest 25 = .ok (.aload_n 1, 1) := by decide +kernel
theorem dX3_fewest_26 : decode cX3_fewest 26 = .ok (.invokevirtual 46, 3) := by decide +kernel
theorem dX3_fewest_29 : decode cX3_fewest 29 = .ok (.invokevirtual 50, 3) := by decide +kernel
theorem dX3_fewest_32 : decode cX3_fewest 32 = .ok (.iconst 0, 1) := by decide +kernel
theorem dX3_fewest_33 : decode cX3_fewest 33 = .ok (.istore 4, 2) := by decide +kernel
theorem dX3_fewest_35 : decode cX3_fewest 35 = .ok (.iconst 1, 1) := by decide +kernel
theorem dX3_fewest_36 : decode cX3_fewest 36 = .ok (.istore 5, 2) := by decide +kernel
theorem dX3_fewest_38 : decode cX3_fewest 38 = .ok (.iload 5, 2) := by decide +kernel
theorem dX3_fewest_40 : decode cX3_fewest 40 = .ok (.sipush 1001, 3) := by decide +kernel
theorem dX3_fewest_43 : decode cX3_fewest 43 = .ok (.if_icmp .gt 87, 3) := by decide +kernel
theorem dX3_fewest_46 : decode cX3_fewest 46 = .ok (.aload_n 0, 1) := by decide +kernel
theorem dX3_fewest_47 : decode cX3_fewest 47 = .ok (.getfield 19, 3) := by decide +kernel
theorem dX3_fewest_50 : decode cX3_fewest 50 = .ok (.istore 6, 2) := by decide +kernel
theorem dX3_fewest_52 : decode cX3_fewest 52 = .ok (.iload 4, 2) := by decide +kernel
theorem dX3_fewest_54 : decode cX3_fewest 54 = .ok (.istore 7, 2) := by decide +kernel
theorem dX3_fewest_56 : decode cX3_fewest 56 = .ok (.iload 7, 2) := by decide +kernel
theorem dX3_fewest_58 : decode cX3_fewest 58 = .ok (.iload 6, 2) := by decide +kernel
theorem dX3_fewest_60 : decode cX3_fewest 60 = .ok (.if_icmp .ge 36, 3) := by decide +kernel
theorem dX3_fewest_63 : decode cX3_fewest 63 = .ok (.iload 7, 2) := by decide +kernel
theorem dX3_fewest_65 : decode cX3_fewest 65 = .ok (.sipush 1000, 3) := by decide +kernel
theorem dX3_fewest_68 : decode cX3_fewest 68 = .ok (.if_icmp .gt 28, 3) := by decide +kernel
theorem dX3_fewest_71 : decode cX3_fewest 71 = .ok (.aload_n 0, 1) := by decide +kernel
theorem dX3_fewest_72 : decode cX3_fewest 72 = .ok (.aload_n 0, 1) := by decide +kernel
theorem dX3_fewest_73 : decode cX3_fewest 73 = .ok (.getfield 11, 3) := by decide +kernel
theorem dX3_fewest_76 : decode cX3_fewest 76 = .ok (.iload 7, 2) := by decide +kernel
theorem dX3_fewest_78 : decode cX3_fewest 78 = .ok (.laload, 1) := by decide +kernel
theorem dX3_fewest_79 : decode cX3_fewest 79 = .ok (.iload_n 2, 1) := by decide +kernel
theorem dX3_fewest_80 : decode cX3_fewest 80 = .ok (.iload_n 3, 1) := by decide +kernel
theorem dX3_fewest_81 : decode cX3_fewest 81 = .ok (.invokevirtual 54, 3) := by decide +kernel
theorem dX3_fewest_84 : decode cX3_fewest 84 = .ok (.ifCond .eq 6, 3) := by decide +kernel
theorem dX3_fewest_87 : decode cX3_fewest 87 = .ok (.iload 5, 2) := by decide +kernel
theorem dX3_fewest_89 : decode cX3_fewest 89 = .ok (.ireturn, 1) := by decide +kernel
theorem dX3_fewest_90 : decode cX3_fewest 90 = .ok (.iinc 7 1, 3) := by decide +kernel
theorem dX3_fewest_93 : decode cX3_fewest 93 = .ok (.goto (-37), 3) := by decide +kernel
theorem dX3_fewest_96 : decode cX3_fewest 96 = .ok (.aload_n 0, 1) := by decide +kernel
theorem dX3_fewest_97 : decode cX3_fewest 97 = .ok (.getfield 19, 3) := by decide +kernel
theorem dX3_fewest_100 : decode cX3_fewest 100 = .ok (.sipush 1000, 3) := by decide +kernel
theorem dX3_fewest_103 : decode cX3_fewest 103 = .ok (.if_icmp .le 6, 3) := by decide +kernel
theorem dX3_fewest_106 : decode cX3_fewest 106 = .ok (.bipush (-4), 2) := by decide +kernel
theorem dX3_fewest_108 : decode cX3_fewest 108 = .ok (.ireturn, 1) := by decide +kernel
theorem dX3_fewest_109 : decode cX3_fewest 109 = .ok (.aload_n 0, 1) := by decide +kernel
theorem dX3_fewest_110 : decode cX3_fewest 110 = .ok (.getfield 19, 3) := by decide +kernel
theorem dX3_fewest_113 : decode cX3_fewest 113 = .ok (.iload 6, 2) := by decide +kernel
theorem dX3_fewest_115 : decode cX3_fewest 115 = .ok (.if_icmp .ne 5, 3) := by decide +kernel
theorem dX3_fewest_118 : decode cX3_fewest 118 = .ok (.iconst (-1), 1) := by decide +kernel
theorem dX3_fewest_119 : decode cX3_fewest 119 = .ok (.ireturn, 1) := by decide +kernel
theorem dX3_fewest_120 : decode cX3_fewest 120 = .ok (.iload 6, 2) := by decide +kernel
theorem dX3_fewest_122 : decode cX3_fewest 122 = .ok (.istore 4, 2) := by decide +kernel
theorem dX3_fewest_124 : decode cX3_fewest 124 = .ok (.iinc 5 1, 3) := by decide +kernel
theorem dX3_fewest_127 : decode cX3_fewest 127 = .ok (.goto (-89), 3) := by decide +kernel
theorem dX3_fewest_130 : decode cX3_fewest 130 = .ok (.iconst (-1), 1) := by decide +kernel
theorem dX3_fewest_131 : decode cX3_fewest 131 = .ok (.ireturn, 1) := by decide +kernel
theorem dX3_stand_0 : decode cX3_stand 0 = .ok (.aload_n 0, 1) := by decide +kernel
theorem dX3_stand_1 : decode cX3_stand 1 = .ok (.getfield 58, 3) := by decide +kernel
theorem dX3_stand_4 : decode cX3_stand 4 = .ok (.iconst 0, 1) := by decide +kernel
theorem dX3_stand_5 : decode cX3_stand 5 = .ok (.iaload, 1) := by decide +kernel
theorem dX3_stand_6 : decode cX3_stand 6 = .ok (.iload_n 1, 1) := by decide +kernel
theorem dX3_stand_7 : decode cX3_stand 7 = .ok (.if_icmp .ne 17, 3) := by decide +kernel
theorem dX3_stand_10 : decode cX3_stand 10 = .ok (.aload_n 0, 1) := by decide +kernel
theorem dX3_stand_11 : decode cX3_stand 11 = .ok (.getfield 58, 3) := by decide +kernel
theorem dX3_stand_14 : decode cX3_stand 14 = .ok (.iconst 1, 1) := by decide +kernel
theorem dX3_stand_15 : decode cX3_stand 15 = .ok (.iaload, 1) := by decide +kernel
theorem dX3_stand_16 : decode cX3_stand 16 = .ok (.iload_n 2, 1) := by decide +kernel
theorem dX3_stand_17 : decode cX3_stand 17 = .ok (.if_icmp .ne 7, 3) := by decide +kernel
theorem dX3_stand_20 : decode cX3_stand 20 = .ok (.iconst 1, 1) := by decide +kernel
theorem dX3_stand_21 : decode cX3_stand 21 = .ok (.goto 4, 3) := by decide +kernel
theorem dX3_stand_24 : decode cX3_stand 24 = .ok (.iconst 0, 1) := by decide +kernel
theorem dX3_stand_25 : decode cX3_stand 25 = .ok (.ireturn, 1) := by decide +kernel
theorem dX3_leadsTo_0 : decode cX3_leadsTo 0 = .ok (.aload_n 0, 1) := by decide +kernel
theorem dX3_leadsTo_1 : decode cX3_leadsTo 1 = .ok (.getfield 32, 3) := by decide +kernel
theorem dX3_leadsTo_4 : decode cX3_leadsTo 4 = .ok (.lload_n 1, 1) := by decide +kernel
theorem dX3_leadsTo_5 : decode cX3_leadsTo 5 = .ok (.invokevirtual 61, 3) := by decide +kernel
theorem dX3_leadsTo_8 : decode cX3_leadsTo 8 = .ok (.iconst 0, 1) := by decide +kernel
theorem dX3_leadsTo_9 : decode cX3_leadsTo 9 = .ok (.istore 5, 2) := by decide +kernel
theorem dX3_leadsTo_11 : decode cX3_leadsTo 11 = .ok (.iload 5, 2) := by decide +kernel
theorem dX3_leadsTo_13 : decode cX3_leadsTo 13 = .ok (.iconst 2, 1) := by decide +kernel
theorem dX3_leadsTo_14 : decode cX3_leadsTo 14 = .ok (.aload_n 0, 1) := by decide +kernel
theorem dX3_leadsTo_15 : decode cX3_leadsTo 15 = .ok (.getfield 23, 3) := by decide +kernel
theorem dX3_leadsTo_18 : decode cX3_leadsTo 18 = .ok (.getfield 64, 3) := by decide +kernel
theorem dX3_leadsTo_21 : decode cX3_leadsTo 21 = .ok (.imul, 1) := by decide +kernel
theorem dX3_leadsTo_22 : decode cX3_leadsTo 22 = .ok (.if_icmp .ge 103, 3) := by decide +kernel
theorem dX3_leadsTo_25 : decode cX3_leadsTo 25 = .ok (.iload 5, 2) := by decide +kernel
theorem dX3_leadsTo_27 : decode cX3_leadsTo 27 = .ok (.iconst 1, 1) := by decide +kernel
theorem dX3_leadsTo_28 : decode cX3_leadsTo 28 = .ok (.iand, 1) := by decide +kernel
theorem dX3_leadsTo_29 : decode cX3_leadsTo 29 = .ok (.istore 6, 2) := by decide +kernel
theorem dX3_leadsTo_31 : decode cX3_leadsTo 31 = .ok (.iload 5, 2) := by decide +kernel
theorem dX3_leadsTo_33 : decode cX3_leadsTo 33 = .ok (.iconst 1, 1) := by decide +kernel
theorem dX3_leadsTo_34 : decode cX3_leadsTo 34 = .ok (.ishr, 1) := by decide +kernel
theorem dX3_leadsTo_35 : decode cX3_leadsTo 35 = .ok (.istore 7, 2) := by decide +kernel
theorem dX3_leadsTo_37 : decode cX3_leadsTo 37 = .ok (.aload_n 0, 1) := by decide +kernel
theorem dX3_leadsTo_38 : decode cX3_leadsTo 38 = .ok (.getfield 32, 3) := by decide +kernel
theorem dX3_leadsTo_41 : decode cX3_leadsTo 41 = .ok (.iload 6, 2) := by decide +kernel
theorem dX3_leadsTo_43 : decode cX3_leadsTo 43 = .ok (.iload 7, 2) := by decide +kernel
theorem dX3_leadsTo_45 : decode cX3_leadsTo 45 = .ok (.invokevirtual 69, 3) := by decide +kernel
theorem dX3_leadsTo_48 : decode cX3_leadsTo 48 = .ok (.ifCond .ne 6, 3) := by decide +kernel
theorem dX3_leadsTo_51 : decode cX3_leadsTo 51 = .ok (.goto 68, 3) := by decide +kernel
theorem dX3_leadsTo_54 : decode cX3_leadsTo 54 = .ok (.aload_n 0, 1) := by decide +kernel
theorem dX3_leadsTo_55 : decode cX3_leadsTo 55 = .ok (.getfield 32, 3) := by decide +kernel
theorem dX3_leadsTo_58 : decode cX3_leadsTo 58 = .ok (.iload 6, 2) := by decide +kernel
theorem dX3_leadsTo_60 : decode cX3_leadsTo 60 = .ok (.iload 7, 2) := by decide +kernel
theorem dX3_leadsTo_62 : decode cX3_leadsTo 62 = .ok (.invokevirtual 73, 3) := by decide +kernel
theorem dX3_leadsTo_65 : decode cX3_leadsTo 65 = .ok (.aload_n 0, 1) := by decide +kernel
theorem dX3_leadsTo_66 : decode cX3_leadsTo 66 = .ok (.getfield 32, 3) := by decide +kernel
theorem dX3_leadsTo_69 : decode cX3_leadsTo 69 = .ok (.getfield 77, 3) := by decide +kernel
theorem dX3_leadsTo_72 : decode cX3_leadsTo 72 = .ok (.aload_n 0, 1) := by decide +kernel
theorem dX3_leadsTo_73 : decode cX3_leadsTo 73 = .ok (.getfield 23, 3) := by decide +kernel
theorem dX3_leadsTo_76 : decode cX3_leadsTo 76 = .ok (.getfield 80, 3) := by decide +kernel
theorem dX3_leadsTo_79 : decode cX3_leadsTo 79 = .ok (.if_icmp .gt 29, 3) := by decide +kernel
theorem dX3_leadsTo_82 : decode cX3_leadsTo 82 = .ok (.aload_n 0, 1) := by decide +kernel
theorem dX3_leadsTo_83 : decode cX3_leadsTo 83 = .ok (.getfield 32, 3) := by decide +kernel
theorem dX3_leadsTo_86 : decode cX3_leadsTo 86 = .ok (.iload_n 3, 1) := by decide +kernel
theorem dX3_leadsTo_87 : decode cX3_leadsTo 87 = .ok (.iload 4, 2) := by decide +kernel
theorem dX3_leadsTo_89 : decode cX3_leadsTo 89 = .ok (.invokestatic 36, 3) := by decide +kernel
theorem dX3_leadsTo_92 : decode cX3_leadsTo 92 = .ok (.ifCond .eq 5, 3) := by decide +kernel
theorem dX3_leadsTo_95 : decode cX3_leadsTo 95 = .ok (.iconst 1, 1) := by decide +kernel
theorem dX3_leadsTo_96 : decode cX3_leadsTo 96 = .ok (.ireturn, 1) := by decide +kernel
theorem dX3_leadsTo_97 : decode cX3_leadsTo 97 = .ok (.aload_n 0, 1) := by decide +kernel
theorem dX3_leadsTo_98 : decode cX3_leadsTo 98 = .ok (.aload_n 0, 1) := by decide +kernel
theorem dX3_leadsTo_99 : decode cX3_leadsTo 99 = .ok (.getfield 32, 3) := by decide +kernel
theorem dX3_leadsTo_102 : decode cX3_leadsTo 102 = .ok (.invokevirtual 46, 3) := by decide +kernel
theorem dX3_leadsTo_105 : decode cX3_leadsTo 105 = .ok (.invokevirtual 50, 3) := by decide +kernel
theorem dX3_leadsTo_108 : decode cX3_leadsTo 108 = .ok (.aload_n 0, 1) := by decide +kernel
theorem dX3_leadsTo_109 : decode cX3_leadsTo 109 = .ok (.getfield 32, 3) := by decide +kernel
theorem dX3_leadsTo_112 : decode cX3_leadsTo 112 = .ok (.iload 6, 2) := by decide +kernel
theorem dX3_leadsTo_114 : decode cX3_leadsTo 114 = .ok (.iload 7, 2) := by decide +kernel
theorem dX3_leadsTo_116 : decode cX3_leadsTo 116 = .ok (.invokevirtual 73, 3) := by decide +kernel
theorem dX3_leadsTo_119 : decode cX3_leadsTo 119 = .ok (.iinc 5 1, 3) := by decide +kernel
theorem dX3_leadsTo_122 : decode cX3_leadsTo 122 = .ok (.goto (-111), 3) := by decide +kernel
theorem dX3_leadsTo_125 : decode cX3_leadsTo 125 = .ok (.iconst 0, 1) := by decide +kernel
theorem dX3_leadsTo_126 : decode cX3_leadsTo 126 = .ok (.ireturn, 1) := by decide +kernel
theorem dX3_note_0 : decode cX3_note 0 = .ok (.aload_n 0, 1) := by decide +kernel
theorem dX3_note_1 : decode cX3_note 1 = .ok (.getfield 19, 3) := by decide +kernel
theorem dX3_note_4 : decode cX3_note 4 = .ok (.sipush 1000, 3) := by decide +kernel
theorem dX3_note_7 : decode cX3_note 7 = .ok (.if_icmp .le 4, 3) := by decide +kernel
theorem dX3_note_10 : decode cX3_note 10 = .ok (.return_, 1) := by decide +kernel
theorem dX3_note_11 : decode cX3_note 11 = .ok (.lload_n 1, 1) := by decide +kernel
theorem dX3_note_12 : decode cX3_note 12 = .ok (.ldc2_w 83, 3) := by decide +kernel
theorem dX3_note_15 : decode cX3_note 15 = .ok (.lmul, 1) := by decide +kernel
theorem dX3_note_16 : decode cX3_note 16 = .ok (.bipush 53, 2) := by decide +kernel
theorem dX3_note_18 : decode cX3_note 18 = .ok (.lushr, 1) := by decide +kernel
theorem dX3_note_19 : decode cX3_note 19 = .ok (.l2i, 1) := by decide +kernel
theorem dX3_note_20 : decode cX3_note 20 = .ok (.sipush 2047, 3) := by decide +kernel
theorem dX3_note_23 : decode cX3_note 23 = .ok (.iand, 1) := by decide +kernel
theorem dX3_note_24 : decode cX3_note 24 = .ok (.istore_n 3, 1) := by decide +kernel
theorem dX3_note_25 : decode cX3_note 25 = .ok (.iconst 0, 1) := by decide +kernel
theorem dX3_note_26 : decode cX3_note 26 = .ok (.istore 4, 2) := by decide +kernel
theorem dX3_note_28 : decode cX3_note 28 = .ok (.iload 4, 2) := by decide +kernel
theorem dX3_note_30 : decode cX3_note 30 = .ok (.sipush 2048, 3) := by decide +kernel
theorem dX3_note_33 : decode cX3_note 33 = .ok (.if_icmp .ge 61, 3) := by decide +kernel
theorem dX3_note_36 : decode cX3_note 36 = .ok (.aload_n 0, 1) := by decide +kernel
theorem dX3_note_37 : decode cX3_note 37 = .ok (.getfield 15, 3) := by decide +kernel
theorem dX3_note_40 : decode cX3_note 40 = .ok (.iload_n 3, 1) := by decide +kernel
theorem dX3_note_41 : decode cX3_note 41 = .ok (.iaload, 1) := by decide +kernel
theorem dX3_note_42 : decode cX3_note 42 = .ok (.ifCond .eq 52, 3) := by decide +kernel
theorem dX3_note_45 : decode cX3_note 45 = .ok (.aload_n 0, 1) := by decide +kernel
theorem dX3_note_46 : decode cX3_note 46 = .ok (.getfield 15, 3) := by decide +kernel
theorem dX3_note_49 : decode cX3_note 49 = .ok (.iload_n 3, 1) := by decide +kernel
theorem dX3_note_50 : decode cX3_note 50 = .ok (.iaload, 1) := by decide +kernel
theorem dX3_note_51 : decode cX3_note 51 = .ok (.iconst 1, 1) := by decide +kernel
theorem dX3_note_52 : decode cX3_note 52 = .ok (.isub, 1) := by decide +kernel
theorem dX3_note_53 : decode cX3_note 53 = .ok (.istore 5, 2) := by decide +kernel
theorem dX3_note_55 : decode cX3_note 55 = .ok (.iload 5, 2) := by decide +kernel
theorem dX3_note_57 : decode cX3_note 57 = .ok (.aload_n 0, 1) := by decide +kernel
theorem dX3_note_58 : decode cX3_note 58 = .ok (.getfield 19, 3) := by decide +kernel
theorem dX3_note_61 : decode cX3_note 61 = .ok (.invokestatic 85, 3) := by decide +kernel
theorem dX3_note_64 : decode cX3_note 64 = .ok (.ifCond .eq 16, 3) := by decide +kernel
theorem dX3_note_67 : decode cX3_note 67 = .ok (.aload_n 0, 1) := by decide +kernel
theorem dX3_note_68 : decode cX3_note 68 = .ok (.getfield 11, 3) := by decide +kernel
theorem dX3_note_71 : decode cX3_note 71 = .ok (.iload 5, 2) := by decide +kernel
theorem dX3_note_73 : decode cX3_note 73 = .ok (.laload, 1) := by decide +kernel
theorem dX3_note_74 : decode cX3_note 74 = .ok (.lload_n 1, 1) := by decide +kernel
theorem dX3_note_75 : decode cX3_note 75 = .ok (.lcmp, 1) := by decide +kernel
theorem dX3_note_76 : decode cX3_note 76 = .ok (.ifCond .ne 4, 3) := by decide +kernel
theorem dX3_note_79 : decode cX3_note 79 = .ok (.return_, 1) := by decide +kernel
theorem dX3_note_80 : decode cX3_note 80 = .ok (.iload_n 3, 1) := by decide +kernel
theorem dX3_note_81 : decode cX3_note 81 = .ok (.iconst 1, 1) := by decide +kernel
theorem dX3_note_82 : decode cX3_note 82 = .ok (.iadd, 1) := by decide +kernel
theorem dX3_note_83 : decode cX3_note 83 = .ok (.sipush 2047, 3) := by decide +kernel
theorem dX3_note_86 : decode cX3_note 86 = .ok (.iand, 1) := by decide +kernel
theorem dX3_note_87 : decode cX3_note 87 = .ok (.istore_n 3, 1) := by decide +kernel
theorem dX3_note_88 : decode cX3_note 88 = .ok (.iinc 4 1, 3) := by decide +kernel
theorem dX3_note_91 : decode cX3_note 91 = .ok (.goto (-63), 3) := by decide +kernel
theorem dX3_note_94 : decode cX3_note 94 = .ok (.aload_n 0, 1) := by decide +kernel
theorem dX3_note_95 : decode cX3_note 95 = .ok (.getfield 11, 3) := by decide +kernel
theorem dX3_note_98 : decode cX3_note 98 = .ok (.aload_n 0, 1) := by decide +kernel
theorem dX3_note_99 : decode cX3_note 99 = .ok (.getfield 19, 3) := by decide +kernel
theorem dX3_note_102 : decode cX3_note 102 = .ok (.lload_n 1, 1) := by decide +kernel
theorem dX3_note_103 : decode cX3_note 103 = .ok (.lastore, 1) := by decide +kernel
theorem dX3_note_104 : decode cX3_note 104 = .ok (.aload_n 0, 1) := by decide +kernel
theorem dX3_note_105 : decode cX3_note 105 = .ok (.dup, 1) := by decide +kernel
theorem dX3_note_106 : decode cX3_note 106 = .ok (.getfield 19, 3) := by decide +kernel
theorem dX3_note_109 : decode cX3_note 109 = .ok (.iconst 1, 1) := by decide +kernel
theorem dX3_note_110 : decode cX3_note 110 = .ok (.iadd, 1) := by decide +kernel
theorem dX3_note_111 : decode cX3_note 111 = .ok (.putfield 19, 3) := by decide +kernel
theorem dX3_note_114 : decode cX3_note 114 = .ok (.aload_n 0, 1) := by decide +kernel
theorem dX3_note_115 : decode cX3_note 115 = .ok (.getfield 15, 3) := by decide +kernel
theorem dX3_note_118 : decode cX3_note 118 = .ok (.iload_n 3, 1) := by decide +kernel
theorem dX3_note_119 : decode cX3_note 119 = .ok (.aload_n 0, 1) := by decide +kernel
theorem dX3_note_120 : decode cX3_note 120 = .ok (.getfield 19, 3) := by decide +kernel
theorem dX3_note_123 : decode cX3_note 123 = .ok (.iastore, 1) := by decide +kernel
theorem dX3_note_124 : decode cX3_note 124 = .ok (.return_, 1) := by decide +kernel
theorem dX4_init_0 : decode cX4_init 0 = .ok (.aload_n 0, 1) := by decide +kernel
theorem dX4_init_1 : decode cX4_init 1 = .ok (.invokespecial 3, 3) := by decide +kernel
theorem dX4_init_4 : decode cX4_init 4 = .ok (.aload_n 0, 1) := by decide +kernel
theorem dX4_init_5 : decode cX4_init 5 = .ok (.bipush 60, 2) := by decide +kernel
theorem dX4_init_7 : decode cX4_init 7 = .ok (.newarray .int, 2) := by decide +kernel
theorem dX4_init_9 : decode cX4_init 9 = .ok (.putfield 9, 3) := by decide +kernel
theorem dX4_init_12 : decode cX4_init 12 = .ok (.aload_n 0, 1) := by decide +kernel
theorem dX4_init_13 : decode cX4_init 13 = .ok (.iconst (-1), 1) := by decide +kernel
theorem dX4_init_14 : decode cX4_init 14 = .ok (.putfield 15, 3) := by decide +kernel
theorem dX4_init_17 : decode cX4_init 17 = .ok (.aload_n 0, 1) := by decide +kernel
theorem dX4_init_18 : decode cX4_init 18 = .ok (.iconst 0, 1) := by decide +kernel
theorem dX4_init_19 : decode cX4_init 19 = .ok (.putfield 19, 3) := by decide +kernel
theorem dX4_init_22 : decode cX4_init 22 = .ok (.return_, 1) := by decide +kernel
theorem dX4_renew_0 : decode cX4_renew 0 = .ok (.aload_n 0, 1) := by decide +kernel
theorem dX4_renew_1 : decode cX4_renew 1 = .ok (.getfield 9, 3) := by decide +kernel
theorem dX4_renew_4 : decode cX4_renew 4 = .ok (.iconst 0, 1) := by decide +kernel
theorem dX4_renew_5 : decode cX4_renew 5 = .ok (.invokestatic 22, 3) := by decide +kernel
theorem dX4_renew_8 : decode cX4_renew 8 = .ok (.aload_n 0, 1) := by decide +kernel
theorem dX4_renew_9 : decode cX4_renew 9 = .ok (.iload_n 1, 1) := by decide +kernel
theorem dX4_renew_10 : decode cX4_renew 10 = .ok (.putfield 15, 3) := by decide +kernel
theorem dX4_renew_13 : decode cX4_renew 13 = .ok (.aload_n 0, 1) := by decide +kernel
theorem dX4_renew_14 : decode cX4_renew 14 = .ok (.iload_n 2, 1) := by decide +kernel
theorem dX4_renew_15 : decode cX4_renew 15 = .ok (.putfield 19, 3) := by decide +kernel
theorem dX4_renew_18 : decode cX4_renew 18 = .ok (.return_, 1) := by decide +kernel
theorem dX4_hasItems_0 : decode cX4_hasItems 0 = .ok (.iload_n 1, 1) := by decide +kernel
theorem dX4_hasItems_1 : decode cX4_hasItems 1 = .ok (.ifCond .lt 29, 3) := by decide +kernel
theorem dX4_hasItems_4 : decode cX4_hasItems 4 = .ok (.iload_n 2, 1) := by decide +kernel
theorem dX4_hasItems_5 : decode cX4_hasItems 5 = .ok (.ifCond .lt 25, 3) := by decide +kernel
theorem dX4_hasItems_8 : decode cX4_hasItems 8 = .ok (.iload_n 1, 1) := by decide +kernel
theorem dX4_hasItems_9 : decode cX4_hasItems 9 = .ok (.aload_n 0, 1) := by decide +kernel
theorem dX4_hasItems_10 : decode cX4_hasItems 10 = .ok (.getfield 19, 3) := by decide +kernel
theorem dX4_hasItems_13 : decode cX4_hasItems 13 = .ok (.if_icmp .gt 17, 3) := by decide +kernel
theorem dX4_hasItems_16 : decode cX4_hasItems 16 = .ok (.iload_n 2, 1) := by decide +kernel
theorem dX4_hasItems_17 : decode cX4_hasItems 17 = .ok (.aload_n 0, 1) := by decide +kernel
theorem dX4_hasItems_18 : decode cX4_hasItems 18 = .ok (.getfield 19, 3) := by decide +kernel
theorem dX4_hasItems_21 : decode cX4_hasItems 21 = .ok (.iload_n 1, 1) := by decide +kernel
theorem dX4_hasItems_22 : decode cX4_hasItems 22 = .ok (.isub, 1) := by decide +kernel
theorem dX4_hasItems_23 : decode cX4_hasItems 23 = .ok (.if_icmp .gt 7, 3) := by decide +kernel
theorem dX4_hasItems_26 : decode cX4_hasItems 26 = .ok (.iconst 1, 1) := by decide +kernel
theorem dX4_hasItems_27 : decode cX4_hasItems 27 = .ok (.goto 4, 3) := by decide +kernel
theorem dX4_hasItems_30 : decode cX4_hasItems 30 = .ok (.iconst 0, 1) := by decide +kernel
theorem dX4_hasItems_31 : decode cX4_hasItems 31 = .ok (.ireturn, 1) := by decide +kernel
theorem dX4_findsAt_0 : decode cX4_findsAt 0 = .ok (.aload_n 0, 1) := by decide +kernel
theorem dX4_findsAt_1 : decode cX4_findsAt 1 = .ok (.getfield 15, 3) := by decide +kernel
theorem dX4_findsAt_4 : decode cX4_findsAt 4 = .ok (.iconst (-1), 1) := by decide +kernel
theorem dX4_findsAt_5 : decode cX4_findsAt 5 = .ok (.if_icmp .ne 5, 3) := by decide +kernel
theorem dX4_findsAt_8 : decode cX4_findsAt 8 = .ok (.iconst 1, 1) := by decide +kernel
theorem dX4_findsAt_9 : decode cX4_findsAt 9 = .ok (.ireturn, 1) := by decide +kernel
theorem dX4_findsAt_10 : decode cX4_findsAt 10 = .ok (.aload_n 0, 1) := by decide +kernel
theorem dX4_findsAt_11 : decode cX4_findsAt 11 = .ok (.getfield 15, 3) := by decide +kernel
theorem dX4_findsAt_14 : decode cX4_findsAt 14 = .ok (.iload_n 1, 1) := by decide +kernel
theorem dX4_findsAt_15 : decode cX4_findsAt 15 = .ok (.if_icmp .eq 5, 3) := by decide +kernel
theorem dX4_findsAt_18 : decode cX4_findsAt 18 = .ok (.iconst 3, 1) := by decide +kernel
theorem dX4_findsAt_19 : decode cX4_findsAt 19 = .ok (.ireturn, 1) := by decide +kernel
theorem dX4_findsAt_20 : decode cX4_findsAt 20 = .ok (.iload_n 2, 1) := by decide +kernel
theorem dX4_findsAt_21 : decode cX4_findsAt 21 = .ok (.aload_n 0, 1) := by decide +kernel
theorem dX4_findsAt_22 : decode cX4_findsAt 22 = .ok (.getfield 19, 3) := by decide +kernel
theorem dX4_findsAt_25 : decode cX4_findsAt 25 = .ok (.invokestatic 28, 3) := by decide +kernel
theorem dX4_findsAt_28 : decode cX4_findsAt 28 = .ok (.ifCond .eq 7, 3) := by decide +kernel
theorem dX4_findsAt_31 : decode cX4_findsAt 31 = .ok (.iconst 0, 1) := by decide +kernel
theorem dX4_findsAt_32 : decode cX4_findsAt 32 = .ok (.goto 4, 3) := by decide +kernel
theorem dX4_findsAt_35 : decode cX4_findsAt 35 = .ok (.iconst 2, 1) := by decide +kernel
theorem dX4_findsAt_36 : decode cX4_findsAt 36 = .ok (.ireturn, 1) := by decide +kernel
theorem dX4_item_0 : decode cX4_item 0 = .ok (.iload_n 1, 1) := by decide +kernel
theorem dX4_item_1 : decode cX4_item 1 = .ok (.aload_n 0, 1) := by decide +kernel
theorem dX4_item_2 : decode cX4_item 2 = .ok (.getfield 19, 3) := by decide +kernel
theorem dX4_item_5 : decode cX4_item 5 = .ok (.invokestatic 28, 3) := by decide +kernel
theorem dX4_item_8 : decode cX4_item 8 = .ok (.ifCond .eq 21, 3) := by decide +kernel
theorem dX4_item_11 : decode cX4_item 11 = .ok (.iload_n 1, 1) := by decide +kernel
theorem dX4_item_12 : decode cX4_item 12 = .ok (.bipush 60, 2) := by decide +kernel
theorem dX4_item_14 : decode cX4_item 14 = .ok (.invokestatic 28, 3) := by decide +kernel
theorem dX4_item_17 : decode cX4_item 17 = .ok (.ifCond .eq 12, 3) := by decide +kernel
theorem dX4_item_20 : decode cX4_item 20 = .ok (.aload_n 0, 1) := by decide +kernel
theorem dX4_item_21 : decode cX4_item 21 = .ok (.getfield 9, 3) := by decide +kernel
theorem dX4_item_24 : decode cX4_item 24 = .ok (.iload_n 1, 1) := by decide +kernel
theorem dX4_item_25 : decode cX4_item 25 = .ok (.iaload, 1) := by decide +kernel
theorem dX4_item_26 : decode cX4_item 26 = .ok (.goto 4, 3) := by decide +kernel
theorem dX4_item_29 : decode cX4_item 29 = .ok (.iconst 0, 1) := by decide +kernel
theorem dX4_item_30 : decode cX4_item 30 = .ok (.ireturn, 1) := by decide +kernel
theorem dX4_put_0 : decode cX4_put 0 = .ok (.iload_n 1, 1) := by decide +kernel
theorem dX4_put_1 : decode cX4_put 1 = .ok (.aload_n 0, 1) := by decide +kernel
theorem dX4_put_2 : decode cX4_put 2 = .ok (.getfield 19, 3) := by decide +kernel
theorem dX4_put_5 : decode cX4_put 5 = .ok (.invokestatic 28, 3) := by decide +kernel
theorem dX4_put_8 : decode cX4_put 8 = .ok (.ifCond .eq 23, 3) := by decide +kernel
theorem dX4_put_11 : decode cX4_put 11 = .ok (.iload_n 1, 1) := by decide +kernel
theorem dX4_put_12 : decode cX4_put 12 = .ok (.bipush 60, 2) := by decide +kernel
theorem dX4_put_14 : decode cX4_put 14 = .ok (.invokestatic 28, 3) := by decide +kernel
theorem dX4_put_17 : decode cX4_put 17 = .ok (.ifCond .eq 14, 3) := by decide +kernel
theorem dX4_put_20 : decode cX4_put 20 = .ok (.aload_n 0, 1) := by decide +kernel
theorem dX4_put_21 : decode cX4_put 21 = .ok (.getfield 9, 3) := by decide +kernel
theorem dX4_put_24 : decode cX4_put 24 = .ok (.iload_n 1, 1) := by decide +kernel
theorem dX4_put_25 : decode cX4_put 25 = .ok (.aload_n 0, 1) := by decide +kernel
theorem dX4_put_26 : decode cX4_put 26 = .ok (.iload_n 2, 1) := by decide +kernel
theorem dX4_put_27 : decode cX4_put 27 = .ok (.invokevirtual 32, 3) := by decide +kernel
theorem dX4_put_30 : decode cX4_put 30 = .ok (.iastore, 1) := by decide +kernel
theorem dX4_put_31 : decode cX4_put 31 = .ok (.return_, 1) := by decide +kernel
theorem dX4_cut_0 : decode cX4_cut 0 = .ok (.aload_n 0, 1) := by decide +kernel
theorem dX4_cut_1 : decode cX4_cut 1 = .ok (.getfield 15, 3) := by decide +kernel
theorem dX4_cut_4 : decode cX4_cut 4 = .ok (.ifCond .ne 6, 3) := by decide +kernel
theorem dX4_cut_7 : decode cX4_cut 7 = .ok (.iload_n 1, 1) := by decide +kernel
theorem dX4_cut_8 : decode cX4_cut 8 = .ok (.i2b, 1) := by decide +kernel
theorem dX4_cut_9 : decode cX4_cut 9 = .ok (.ireturn, 1) := by decide +kernel
theorem dX4_cut_10 : decode cX4_cut 10 = .ok (.aload_n 0, 1) := by decide +kernel
theorem dX4_cut_11 : decode cX4_cut 11 = .ok (.getfield 15, 3) := by decide +kernel
theorem dX4_cut_14 : decode cX4_cut 14 = .ok (.iconst 1, 1) := by decide +kernel
theorem dX4_cut_15 : decode cX4_cut 15 = .ok (.if_icmp .ne 8, 3) := by decide +kernel
theorem dX4_cut_18 : decode cX4_cut 18 = .ok (.iload_n 1, 1) := by decide +kernel
theorem dX4_cut_19 : decode cX4_cut 19 = .ok (.i2s, 1) := by decide +kernel
theorem dX4_cut_20 : decode cX4_cut 20 = .ok (.goto 4, 3) := by decide +kernel
theorem dX4_cut_23 : decode cX4_cut 23 = .ok (.iload_n 1, 1) := by decide +kernel
theorem dX4_cut_24 : decode cX4_cut 24 = .ok (.ireturn, 1) := by decide +kernel
theorem dX5_init_0 : decode cX5_init 0 = .ok (.aload_n 0, 1) := by decide +kernel
theorem dX5_init_1 : decode cX5_init 1 = .ok (.invokespecial 3, 3) := by decide +kernel
theorem dX5_init_4 : decode cX5_init 4 = .ok (.aload_n 0, 1) := by decide +kernel
theorem dX5_init_5 : decode cX5_init 5 = .ok (.bipush 40, 2) := by decide +kernel
theorem dX5_init_7 : decode cX5_init 7 = .ok (.newarray .int, 2) := by decide +kernel
theorem dX5_init_9 : decode cX5_init 9 = .ok (.putfield 9, 3) := by decide +kernel
theorem dX5_init_12 : decode cX5_init 12 = .ok (.aload_n 0, 1) := by decide +kernel
theorem dX5_init_13 : decode cX5_init 13 = .ok (.iconst 0, 1) := by decide +kernel
theorem dX5_init_14 : decode cX5_init 14 = .ok (.putfield 15, 3) := by decide +kernel
theorem dX5_init_17 : decode cX5_init 17 = .ok (.return_, 1) := by decide +kernel
theorem dX5_add_0 : decode cX5_add 0 = .ok (.aload_n 0, 1) := by decide +kernel
theorem dX5_add_1 : decode cX5_add 1 = .ok (.getfield 15, 3) := by decide +kernel
theorem dX5_add_4 : decode cX5_add 4 = .ok (.bipush 40, 2) := by decide +kernel
theorem dX5_add_6 : decode cX5_add 6 = .ok (.invokestatic 19, 3) := by decide +kernel
theorem dX5_add_9 : decode cX5_add 9 = .ok (.ifCond .eq 23, 3) := by decide +kernel
theorem dX5_add_12 : decode cX5_add 12 = .ok (.aload_n 0, 1) := by decide +kernel
theorem dX5_add_13 : decode cX5_add 13 = .ok (.getfield 9, 3) := by decide +kernel
theorem dX5_add_16 : decode cX5_add 16 = .ok (.aload_n 0, 1) := by decide +kernel
theorem dX5_add_17 : decode cX5_add 17 = .ok (.getfield 15, 3) := by decide +kernel
theorem dX5_add_20 : decode cX5_add 20 = .ok (.iload_n 1, 1) := by decide +kernel
theorem dX5_add_21 : decode cX5_add 21 = .ok (.iastore, 1) := by decide +kernel
theorem dX5_add_22 : decode cX5_add 22 = .ok (.aload_n 0, 1) := by decide +kernel
theorem dX5_add_23 : decode cX5_add 23 = .ok (.dup, 1) := by decide +kernel
theorem dX5_add_24 : decode cX5_add 24 = .ok (.getfield 15, 3) := by decide +kernel
theorem dX5_add_27 : decode cX5_add 27 = .ok (.iconst 1, 1) := by decide +kernel
theorem dX5_add_28 : decode cX5_add 28 = .ok (.iadd, 1) := by decide +kernel
theorem dX5_add_29 : decode cX5_add 29 = .ok (.putfield 15, 3) := by decide +kernel
theorem dX5_add_32 : decode cX5_add 32 = .ok (.return_, 1) := by decide +kernel
theorem dX5_byteAt_0 : decode cX5_byteAt 0 = .ok (.iload_n 1, 1) := by decide +kernel
theorem dX5_byteAt_1 : decode cX5_byteAt 1 = .ok (.ifCond .lt 26, 3) := by decide +kernel
theorem dX5_byteAt_4 : decode cX5_byteAt 4 = .ok (.iload_n 1, 1) := by decide +kernel
theorem dX5_byteAt_5 : decode cX5_byteAt 5 = .ok (.aload_n 0, 1) := by decide +kernel
theorem dX5_byteAt_6 : decode cX5_byteAt 6 = .ok (.getfield 15, 3) := by decide +kernel
theorem dX5_byteAt_9 : decode cX5_byteAt 9 = .ok (.if_icmp .ge 18, 3) := by decide +kernel
theorem dX5_byteAt_12 : decode cX5_byteAt 12 = .ok (.iload_n 1, 1) := by decide +kernel
theorem dX5_byteAt_13 : decode cX5_byteAt 13 = .ok (.bipush 40, 2) := by decide +kernel
theorem dX5_byteAt_15 : decode cX5_byteAt 15 = .ok (.if_icmp .ge 12, 3) := by decide +kernel
theorem dX5_byteAt_18 : decode cX5_byteAt 18 = .ok (.aload_n 0, 1) := by decide +kernel
theorem dX5_byteAt_19 : decode cX5_byteAt 19 = .ok (.getfield 9, 3) := by decide +kernel
theorem dX5_byteAt_22 : decode cX5_byteAt 22 = .ok (.iload_n 1, 1) := by decide +kernel
theorem dX5_byteAt_23 : decode cX5_byteAt 23 = .ok (.iaload, 1) := by decide +kernel
theorem dX5_byteAt_24 : decode cX5_byteAt 24 = .ok (.goto 4, 3) := by decide +kernel
theorem dX5_byteAt_27 : decode cX5_byteAt 27 = .ok (.iconst (-1), 1) := by decide +kernel
theorem dX5_byteAt_28 : decode cX5_byteAt 28 = .ok (.ireturn, 1) := by decide +kernel
theorem dX6_init_0 : decode cX6_init 0 = .ok (.aload_n 0, 1) := by decide +kernel
theorem dX6_init_1 : decode cX6_init 1 = .ok (.invokespecial 3, 3) := by decide +kernel
theorem dX6_init_4 : decode cX6_init 4 = .ok (.aload_n 0, 1) := by decide +kernel
theorem dX6_init_5 : decode cX6_init 5 = .ok (.iconst 0, 1) := by decide +kernel
theorem dX6_init_6 : decode cX6_init 6 = .ok (.putfield 9, 3) := by decide +kernel
theorem dX6_init_9 : decode cX6_init 9 = .ok (.aload_n 0, 1) := by decide +kernel
theorem dX6_init_10 : decode cX6_init 10 = .ok (.iconst (-1), 1) := by decide +kernel
theorem dX6_init_11 : decode cX6_init 11 = .ok (.putfield 15, 3) := by decide +kernel
theorem dX6_init_14 : decode cX6_init 14 = .ok (.aload_n 0, 1) := by decide +kernel
theorem dX6_init_15 : decode cX6_init 15 = .ok (.aload_n 1, 1) := by decide +kernel
theorem dX6_init_16 : decode cX6_init 16 = .ok (.putfield 18, 3) := by decide +kernel
theorem dX6_init_19 : decode cX6_init 19 = .ok (.aload_n 0, 1) := by decide +kernel
theorem dX6_init_20 : decode cX6_init 20 = .ok (.new 22, 3) := by decide +kernel
theorem dX6_init_23 : decode cX6_init 23 = .ok (.dup, 1) := by decide +kernel
theorem dX6_init_24 : decode cX6_init 24 = .ok (.aload_n 1, 1) := by decide +kernel
theorem dX6_init_25 : decode cX6_init 25 = .ok (.invokespecial 24, 3) := by decide +kernel
theorem dX6_init_28 : decode cX6_init 28 = .ok (.putfield 27, 3) := by decide +kernel
theorem dX6_init_31 : decode cX6_init 31 = .ok (.return_, 1) := by decide +kernel
theorem dX6_play_0 : decode cX6_play 0 = .ok (.aload_n 0, 1) := by decide +kernel
theorem dX6_play_1 : decode cX6_play 1 = .ok (.getfield 27, 3) := by decide +kernel
theorem dX6_play_4 : decode cX6_play 4 = .ok (.aload_n 1, 1) := by decide +kernel
theorem dX6_play_5 : decode cX6_play 5 = .ok (.getfield 31, 3) := by decide +kernel
theorem dX6_play_8 : decode cX6_play 8 = .ok (.invokevirtual 34, 3) := by decide +kernel
theorem dX6_play_11 : decode cX6_play 11 = .ok (.aload_n 0, 1) := by decide +kernel
theorem dX6_play_12 : decode cX6_play 12 = .ok (.aload_n 1, 1) := by decide +kernel
theorem dX6_play_13 : decode cX6_play 13 = .ok (.getfield 38, 3) := by decide +kernel
theorem dX6_play_16 : decode cX6_play 16 = .ok (.putfield 9, 3) := by decide +kernel
theorem dX6_play_19 : decode cX6_play 19 = .ok (.aload_n 0, 1) := by decide +kernel
theorem dX6_play_20 : decode cX6_play 20 = .ok (.iconst 0, 1) := by decide +kernel
theorem dX6_play_21 : decode cX6_play 21 = .ok (.iload_n 2, 1) := by decide +kernel
theorem dX6_play_22 : decode cX6_play 22 = .ok (.sipush (-10000), 3) := by decide +kernel
theorem dX6_play_25 : decode cX6_play 25 = .ok (.sipush 10000, 3) := by decide +kernel
theorem dX6_play_28 : decode cX6_play 28 = .ok (.invokevirtual 39, 3) := by decide +kernel
theorem dX6_play_31 : decode cX6_play 31 = .ok (.ireturn, 1) := by decide +kernel
theorem dX6_gain_0 : decode cX6_gain 0 = .ok (.aload_n 0, 1) := by decide +kernel
theorem dX6_gain_1 : decode cX6_gain 1 = .ok (.iconst (-1), 1) := by decide +kernel
theorem dX6_gain_2 : decode cX6_gain 2 = .ok (.putfield 15, 3) := by decide +kernel
theorem dX6_gain_5 : decode cX6_gain 5 = .ok (.iload_n 2, 1) := by decide +kernel
theorem dX6_gain_6 : decode cX6_gain 6 = .ok (.ifCond .le 17, 3) := by decide +kernel
theorem dX6_gain_9 : decode cX6_gain 9 = .ok (.aload_n 0, 1) := by decide +kernel
theorem dX6_gain_10 : decode cX6_gain 10 = .ok (.getfield 18, 3) := by decide +kernel
theorem dX6_gain_13 : decode cX6_gain 13 = .ok (.aload_n 0, 1) := by decide +kernel
theorem dX6_gain_14 : decode cX6_gain 14 = .ok (.getfield 9, 3) := by decide +kernel
theorem dX6_gain_17 : decode cX6_gain 17 = .ok (.invokevirtual 43, 3) := by decide +kernel
theorem dX6_gain_20 : decode cX6_gain 20 = .ok (.ifCond .ne 5, 3) := by decide +kernel
theorem dX6_gain_23 : decode cX6_gain 23 = .ok (.iconst 0, 1) := by decide +kernel
theorem dX6_gain_24 : decode cX6_gain 24 = .ok (.ireturn, 1) := by decide +kernel
theorem dX6_gain_25 : decode cX6_gain 25 = .ok (.aload_n 0, 1) := by decide +kernel
theorem dX6_gain_26 : decode cX6_gain 26 = .ok (.iconst 1, 1) := by decide +kernel
theorem dX6_gain_27 : decode cX6_gain 27 = .ok (.iload_n 1, 1) := by decide +kernel
theorem dX6_gain_28 : decode cX6_gain 28 = .ok (.isub, 1) := by decide +kernel
theorem dX6_gain_29 : decode cX6_gain 29 = .ok (.iload_n 2, 1) := by decide +kernel
theorem dX6_gain_30 : decode cX6_gain 30 = .ok (.iconst 1, 1) := by decide +kernel
theorem dX6_gain_31 : decode cX6_gain 31 = .ok (.isub, 1) := by decide +kernel
theorem dX6_gain_32 : decode cX6_gain 32 = .ok (.iload 4, 2) := by decide +kernel
theorem dX6_gain_34 : decode cX6_gain 34 = .ok (.ineg, 1) := by decide +kernel
theorem dX6_gain_35 : decode cX6_gain 35 = .ok (.iload_n 3, 1) := by decide +kernel
theorem dX6_gain_36 : decode cX6_gain 36 = .ok (.ineg, 1) := by decide +kernel
theorem dX6_gain_37 : decode cX6_gain 37 = .ok (.invokevirtual 39, 3) := by decide +kernel
theorem dX6_gain_40 : decode cX6_gain 40 = .ok (.ineg, 1) := by decide +kernel
theorem dX6_gain_41 : decode cX6_gain 41 = .ok (.istore 5, 2) := by decide +kernel
theorem dX6_gain_43 : decode cX6_gain 43 = .ok (.iconst (-1), 1) := by decide +kernel
theorem dX6_gain_44 : decode cX6_gain 44 = .ok (.istore 6, 2) := by decide +kernel
theorem dX6_gain_46 : decode cX6_gain 46 = .ok (.iconst 0, 1) := by decide +kernel
theorem dX6_gain_47 : decode cX6_gain 47 = .ok (.istore 7, 2) := by decide +kernel
theorem dX6_gain_49 : decode cX6_gain 49 = .ok (.iload 7, 2) := by decide +kernel
theorem dX6_gain_51 : decode cX6_gain 51 = .ok (.aload_n 0, 1) := by decide +kernel
theorem dX6_gain_52 : decode cX6_gain 52 = .ok (.getfield 18, 3) := by decide +kernel
theorem dX6_gain_55 : decode cX6_gain 55 = .ok (.getfield 49, 3) := by decide +kernel
theorem dX6_gain_58 : decode cX6_gain 58 = .ok (.if_icmp .ge 100, 3) := by decide +kernel
theorem dX6_gain_61 : decode cX6_gain 61 = .ok (.iload 5, 2) := by decide +kernel
theorem dX6_gain_63 : decode cX6_gain 63 = .ok (.iload 4, 2) := by decide +kernel
theorem dX6_gain_65 : decode cX6_gain 65 = .ok (.if_icmp .ge 93, 3) := by decide +kernel
theorem dX6_gain_68 : decode cX6_gain 68 = .ok (.aload_n 0, 1) := by decide +kernel
theorem dX6_gain_69 : decode cX6_gain 69 = .ok (.getfield 27, 3) := by decide +kernel
theorem dX6_gain_72 : decode cX6_gain 72 = .ok (.iload_n 1, 1) := by decide +kernel
theorem dX6_gain_73 : decode cX6_gain 73 = .ok (.iload 7, 2) := by decide +kernel
theorem dX6_gain_75 : decode cX6_gain 75 = .ok (.invokevirtual 52, 3) := by decide +kernel
theorem dX6_gain_78 : decode cX6_gain 78 = .ok (.ifCond .ne 6, 3) := by decide +kernel
theorem dX6_gain_81 : decode cX6_gain 81 = .ok (.goto 71, 3) := by decide +kernel
theorem dX6_gain_84 : decode cX6_gain 84 = .ok (.aload_n 0, 1) := by decide +kernel
theorem dX6_gain_85 : decode cX6_gain 85 = .ok (.getfield 27, 3) := by decide +kernel
theorem dX6_gain_88 : decode cX6_gain 88 = .ok (.iload_n 1, 1) := by decide +kernel
theorem dX6_gain_89 : decode cX6_gain 89 = .ok (.iload 7, 2) := by decide +kernel
theorem dX6_gain_91 : decode cX6_gain 91 = .ok (.invokevirtual 56, 3) := by decide +kernel
theorem dX6_gain_94 : decode cX6_gain 94 = .ok (.aload_n 0, 1) := by decide +kernel
theorem dX6_gain_95 : decode cX6_gain 95 = .ok (.getfield 27, 3) := by decide +kernel
theorem dX6_gain_98 : decode cX6_gain 98 = .ok (.getfield 60, 3) := by decide +kernel
theorem dX6_gain_101 : decode cX6_gain 101 = .ok (.aload_n 0, 1) := by decide +kernel
theorem dX6_gain_102 : decode cX6_gain 102 = .ok (.getfield 18, 3) := by decide +kernel
theorem dX6_gain_105 : decode cX6_gain 105 = .ok (.getfield 63, 3) := by decide +kernel
theorem dX6_gain_108 : decode cX6_gain 108 = .ok (.if_icmp .gt 34, 3) := by decide +kernel
theorem dX6_gain_111 : decode cX6_gain 111 = .ok (.aload_n 0, 1) := by decide +kernel
theorem dX6_gain_112 : decode cX6_gain 112 = .ok (.iload_n 1, 1) := by decide +kernel
theorem dX6_gain_113 : decode cX6_gain 113 = .ok (.iload_n 2, 1) := by decide +kernel
theorem dX6_gain_114 : decode cX6_gain 114 = .ok (.iload_n 3, 1) := by decide +kernel
theorem dX6_gain_115 : decode cX6_gain 115 = .ok (.iload 5, 2) := by decide +kernel
theorem dX6_gain_117 : decode cX6_gain 117 = .ok (.invokestatic 66, 3) := by decide +kernel
theorem dX6_gain_120 : decode cX6_gain 120 = .ok (.iload 4, 2) := by decide +kernel
theorem dX6_gain_122 : decode cX6_gain 122 = .ok (.invokevirtual 72, 3) := by decide +kernel
theorem dX6_gain_125 : decode cX6_gain 125 = .ok (.istore 8, 2) := by decide +kernel
theorem dX6_gain_127 : decode cX6_gain 127 = .ok (.iload 8, 2) := by decide +kernel
theorem dX6_gain_129 : decode cX6_gain 129 = .ok (.iload 5, 2) := by decide +kernel
theorem dX6_gain_131 : decode cX6_gain 131 = .ok (.if_icmp .le 11, 3) := by decide +kernel
theorem dX6_gain_134 : decode cX6_gain 134 = .ok (.iload 8, 2) := by decide +kernel
theorem dX6_gain_136 : decode cX6_gain 136 = .ok (.istore 5, 2) := by decide +kernel
theorem dX6_gain_138 : decode cX6_gain 138 = .ok (.iload 7, 2) := by decide +kernel
theorem dX6_gain_140 : decode cX6_gain 140 = .ok (.istore 6, 2) := by decide +kernel
theorem dX6_gain_142 : decode cX6_gain 142 = .ok (.aload_n 0, 1) := by decide +kernel
theorem dX6_gain_143 : decode cX6_gain 143 = .ok (.getfield 27, 3) := by decide +kernel
theorem dX6_gain_146 : decode cX6_gain 146 = .ok (.iload_n 1, 1) := by decide +kernel
theorem dX6_gain_147 : decode cX6_gain 147 = .ok (.iload 7, 2) := by decide +kernel
theorem dX6_gain_149 : decode cX6_gain 149 = .ok (.invokevirtual 56, 3) := by decide +kernel
theorem dX6_gain_152 : decode cX6_gain 152 = .ok (.iinc 7 1, 3) := by decide +kernel
theorem dX6_gain_155 : decode cX6_gain 155 = .ok (.goto (-106), 3) := by decide +kernel
theorem dX6_gain_158 : decode cX6_gain 158 = .ok (.aload_n 0, 1) := by decide +kernel
theorem dX6_gain_159 : decode cX6_gain 159 = .ok (.iload 6, 2) := by decide +kernel
theorem dX6_gain_161 : decode cX6_gain 161 = .ok (.putfield 15, 3) := by decide +kernel
theorem dX6_gain_164 : decode cX6_gain 164 = .ok (.iload 5, 2) := by decide +kernel
theorem dX6_gain_166 : decode cX6_gain 166 = .ok (.ireturn, 1) := by decide +kernel
theorem dX6_gainByStep_0 : decode cX6_gainByStep 0 = .ok (.aload_n 0, 1) := by decide +kernel
theorem dX6_gainByStep_1 : decode cX6_gainByStep 1 = .ok (.getfield 9, 3) := by decide +kernel
theorem dX6_gainByStep_4 : decode cX6_gainByStep 4 = .ok (.istore 5, 2) := by decide +kernel
theorem dX6_gainByStep_6 : decode cX6_gainByStep 6 = .ok (.iload_n 1, 1) := by decide +kernel
theorem dX6_gainByStep_7 : decode cX6_gainByStep 7 = .ok (.iconst 2, 1) := by decide +kernel
theorem dX6_gainByStep_8 : decode cX6_gainByStep 8 = .ok (.invokestatic 75, 3) := by decide +kernel
theorem dX6_gainByStep_11 : decode cX6_gainByStep 11 = .ok (.ifCond .eq 15, 3) := by decide +kernel
theorem dX6_gainByStep_14 : decode cX6_gainByStep 14 = .ok (.aload_n 0, 1) := by decide +kernel
theorem dX6_gainByStep_15 : decode cX6_gainByStep 15 = .ok (.getfield 27, 3) := by decide +kernel
theorem dX6_gainByStep_18 : decode cX6_gainByStep 18 = .ok (.getfield 78, 3) := by decide +kernel
theorem dX6_gainByStep_21 : decode cX6_gainByStep 21 = .ok (.iload_n 1, 1) := by decide +kernel
theorem dX6_gainByStep_22 : decode cX6_gainByStep 22 = .ok (.iaload, 1) := by decide +kernel
theorem dX6_gainByStep_23 : decode cX6_gainByStep 23 = .ok (.goto 4, 3) := by decide +kernel
theorem dX6_gainByStep_26 : decode cX6_gainByStep 26 = .ok (.iconst (-1), 1) := by decide +kernel
theorem dX6_gainByStep_27 : decode cX6_gainByStep 27 = .ok (.istore 6, 2) := by decide +kernel
theorem dX6_gainByStep_29 : decode cX6_gainByStep 29 = .ok (.aload_n 0, 1) := by decide +kernel
theorem dX6_gainByStep_30 : decode cX6_gainByStep 30 = .ok (.getfield 18, 3) := by decide +kernel
theorem dX6_gainByStep_33 : decode cX6_gainByStep 33 = .ok (.iload 6, 2) := by decide +kernel
theorem dX6_gainByStep_35 : decode cX6_gainByStep 35 = .ok (.aload_n 0, 1) := by decide +kernel
theorem dX6_gainByStep_36 : decode cX6_gainByStep 36 = .ok (.getfield 9, 3) := by decide +kernel
theorem dX6_gainByStep_39 : decode cX6_gainByStep 39 = .ok (.invokevirtual 82, 3) := by decide +kernel
theorem dX6_gainByStep_42 : decode cX6_gainByStep 42 = .ok (.istore 7, 2) := by decide +kernel
theorem dX6_gainByStep_44 : decode cX6_gainByStep 44 = .ok (.aload_n 0, 1) := by decide +kernel
theorem dX6_gainByStep_45 : decode cX6_gainByStep 45 = .ok (.dup, 1) := by decide +kernel
theorem dX6_gainByStep_46 : decode cX6_gainByStep 46 = .ok (.getfield 9, 3) := by decide +kernel
theorem dX6_gainByStep_49 : decode cX6_gainByStep 49 = .ok (.iload 6, 2) := by decide +kernel
theorem dX6_gainByStep_51 : decode cX6_gainByStep 51 = .ok (.bipush 8, 2) := by decide +kernel
theorem dX6_gainByStep_53 : decode cX6_gainByStep 53 = .ok (.invokestatic 75, 3) := by decide +kernel
theorem dX6_gainByStep_56 : decode cX6_gainByStep 56 = .ok (.ifCond .eq 10, 3) := by decide +kernel
theorem dX6_gainByStep_59 : decode cX6_gainByStep 59 = .ok (.iconst 1, 1) := by decide +kernel
theorem dX6_gainByStep_60 : decode cX6_gainByStep 60 = .ok (.iload 6, 2) := by decide +kernel
theorem dX6_gainByStep_62 : decode cX6_gainByStep 62 = .ok (.ishl, 1) := by decide +kernel
theorem dX6_gainByStep_63 : decode cX6_gainByStep 63 = .ok (.goto 4, 3) := by decide +kernel
theorem dX6_gainByStep_66 : decode cX6_gainByStep 66 = .ok (.iconst 0, 1) := by decide +kernel
theorem dX6_gainByStep_67 : decode cX6_gainByStep 67 = .ok (.ior, 1) := by decide +kernel
theorem dX6_gainByStep_68 : decode cX6_gainByStep 68 = .ok (.putfield 9, 3) := by decide +kernel
theorem dX6_gainByStep_71 : decode cX6_gainByStep 71 = .ok (.iload 7, 2) := by decide +kernel
theorem dX6_gainByStep_73 : decode cX6_gainByStep 73 = .ok (.aload_n 0, 1) := by decide +kernel
theorem dX6_gainByStep_74 : decode cX6_gainByStep 74 = .ok (.iconst 1, 1) := by decide +kernel
theorem dX6_gainByStep_75 : decode cX6_gainByStep 75 = .ok (.iload_n 1, 1) := by decide +kernel
theorem dX6_gainByStep_76 : decode cX6_gainByStep 76 = .ok (.isub, 1) := by decide +kernel
theorem dX6_gainByStep_77 : decode cX6_gainByStep 77 = .ok (.iload_n 2, 1) := by decide +kernel
theorem dX6_gainByStep_78 : decode cX6_gainByStep 78 = .ok (.iconst 1, 1) := by decide +kernel
theorem dX6_gainByStep_79 : decode cX6_gainByStep 79 = .ok (.isub, 1) := by decide +kernel
theorem dX6_gainByStep_80 : decode cX6_gainByStep 80 = .ok (.iload 7, 2) := by decide +kernel
theorem dX6_gainByStep_82 : decode cX6_gainByStep 82 = .ok (.iload 4, 2) := by decide +kernel
theorem dX6_gainByStep_84 : decode cX6_gainByStep 84 = .ok (.isub, 1) := by decide +kernel
theorem dX6_gainByStep_85 : decode cX6_gainByStep 85 = .ok (.iload 7, 2) := by decide +kernel
theorem dX6_gainByStep_87 : decode cX6_gainByStep 87 = .ok (.iload_n 3, 1) := by decide +kernel
theorem dX6_gainByStep_88 : decode cX6_gainByStep 88 = .ok (.isub, 1) := by decide +kernel
theorem dX6_gainByStep_89 : decode cX6_gainByStep 89 = .ok (.invokevirtual 39, 3) := by decide +kernel
theorem dX6_gainByStep_92 : decode cX6_gainByStep 92 = .ok (.isub, 1) := by decide +kernel
theorem dX6_gainByStep_93 : decode cX6_gainByStep 93 = .ok (.istore 8, 2) := by decide +kernel
theorem dX6_gainByStep_95 : decode cX6_gainByStep 95 = .ok (.aload_n 0, 1) := by decide +kernel
theorem dX6_gainByStep_96 : decode cX6_gainByStep 96 = .ok (.iload 5, 2) := by decide +kernel
theorem dX6_gainByStep_98 : decode cX6_gainByStep 98 = .ok (.putfield 9, 3) := by decide +kernel
theorem dX6_gainByStep_101 : decode cX6_gainByStep 101 = .ok (.iload 8, 2) := by decide +kernel
theorem dX6_gainByStep_103 : decode cX6_gainByStep 103 = .ok (.ireturn, 1) := by decide +kernel
theorem dX7_init_0 : decode cX7_init 0 = .ok (.aload_n 0, 1) := by decide +kernel
theorem dX7_init_1 : decode cX7_init 1 = .ok (.invokespecial 3, 3) := by decide +kernel
theorem dX7_init_4 : decode cX7_init 4 = .ok (.aload_n 0, 1) := by decide +kernel
theorem dX7_init_5 : decode cX7_init 5 = .ok (.new 9, 3) := by decide +kernel
theorem dX7_init_8 : decode cX7_init 8 = .ok (.dup, 1) := by decide +kernel
theorem dX7_init_9 : decode cX7_init 9 = .ok (.invokespecial 11, 3) := by decide +kernel
theorem dX7_init_12 : decode cX7_init 12 = .ok (.putfield 12, 3) := by decide +kernel
theorem dX7_init_15 : decode cX7_init 15 = .ok (.aload_n 0, 1) := by decide +kernel
theorem dX7_init_16 : decode cX7_init 16 = .ok (.new 16, 3) := by decide +kernel
theorem dX7_init_19 : decode cX7_init 19 = .ok (.dup, 1) := by decide +kernel
theorem dX7_init_20 : decode cX7_init 20 = .ok (.aload_n 0, 1) := by decide +kernel
theorem dX7_init_21 : decode cX7_init 21 = .ok (.getfield 12, 3) := by decide +kernel
theorem dX7_init_24 : decode cX7_init 24 = .ok (.invokespecial 18, 3) := by decide +kernel
theorem dX7_init_27 : decode cX7_init 27 = .ok (.putfield 21, 3) := by decide +kernel
theorem dX7_init_30 : decode cX7_init 30 = .ok (.aload_n 0, 1) := by decide +kernel
theorem dX7_init_31 : decode cX7_init 31 = .ok (.new 16, 3) := by decide +kernel
theorem dX7_init_34 : decode cX7_init 34 = .ok (.dup, 1) := by decide +kernel
theorem dX7_init_35 : decode cX7_init 35 = .ok (.aload_n 0, 1) := by decide +kernel
theorem dX7_init_36 : decode cX7_init 36 = .ok (.getfield 12, 3) := by decide +kernel
theorem dX7_init_39 : decode cX7_init 39 = .ok (.invokespecial 18, 3) := by decide +kernel
theorem dX7_init_42 : decode cX7_init 42 = .ok (.putfield 25, 3) := by decide +kernel
theorem dX7_init_45 : decode cX7_init 45 = .ok (.aload_n 0, 1) := by decide +kernel
theorem dX7_init_46 : decode cX7_init 46 = .ok (.new 28, 3) := by decide +kernel
theorem dX7_init_49 : decode cX7_init 49 = .ok (.dup, 1) := by decide +kernel
theorem dX7_init_50 : decode cX7_init 50 = .ok (.aload_n 0, 1) := by decide +kernel
theorem dX7_init_51 : decode cX7_init 51 = .ok (.getfield 12, 3) := by decide +kernel
theorem dX7_init_54 : decode cX7_init 54 = .ok (.invokespecial 30, 3) := by decide +kernel
theorem dX7_init_57 : decode cX7_init 57 = .ok (.putfield 31, 3) := by decide +kernel
theorem dX7_init_60 : decode cX7_init 60 = .ok (.aload_n 0, 1) := by decide +kernel
theorem dX7_init_61 : decode cX7_init 61 = .ok (.new 35, 3) := by decide +kernel
theorem dX7_init_64 : decode cX7_init 64 = .ok (.dup, 1) := by decide +kernel
theorem dX7_init_65 : decode cX7_init 65 = .ok (.aload_n 0, 1) := by decide +kernel
theorem dX7_init_66 : decode cX7_init 66 = .ok (.getfield 12, 3) := by decide +kernel
theorem dX7_init_69 : decode cX7_init 69 = .ok (.invokespecial 37, 3) := by decide +kernel
theorem dX7_init_72 : decode cX7_init 72 = .ok (.putfield 38, 3) := by decide +kernel
theorem dX7_init_75 : decode cX7_init 75 = .ok (.aload_n 0, 1) := by decide +kernel
theorem dX7_init_76 : decode cX7_init 76 = .ok (.new 42, 3) := by decide +kernel
theorem dX7_init_79 : decode cX7_init 79 = .ok (.dup, 1) := by decide +kernel
theorem dX7_init_80 : decode cX7_init 80 = .ok (.aload_n 0, 1) := by decide +kernel
theorem dX7_init_81 : decode cX7_init 81 = .ok (.getfield 12, 3) := by decide +kernel
theorem dX7_init_84 : decode cX7_init 84 = .ok (.invokespecial 44, 3) := by decide +kernel
theorem dX7_init_87 : decode cX7_init 87 = .ok (.putfield 45, 3) := by decide +kernel
theorem dX7_init_90 : decode cX7_init 90 = .ok (.aload_n 0, 1) := by decide +kernel
theorem dX7_init_91 : decode cX7_init 91 = .ok (.iconst 4, 1) := by decide +kernel
theorem dX7_init_92 : decode cX7_init 92 = .ok (.anewarray 49, 3) := by decide +kernel
theorem dX7_init_95 : decode cX7_init 95 = .ok (.putfield 51, 3) := by decide +kernel
theorem dX7_init_98 : decode cX7_init 98 = .ok (.aload_n 0, 1) := by decide +kernel
theorem dX7_init_99 : decode cX7_init 99 = .ok (.iconst 0, 1) := by decide +kernel
theorem dX7_init_100 : decode cX7_init 100 = .ok (.putfield 55, 3) := by decide +kernel
theorem dX7_init_103 : decode cX7_init 103 = .ok (.iconst 0, 1) := by decide +kernel
theorem dX7_init_104 : decode cX7_init 104 = .ok (.istore_n 1, 1) := by decide +kernel
theorem dX7_init_105 : decode cX7_init 105 = .ok (.iload_n 1, 1) := by decide +kernel
theorem dX7_init_106 : decode cX7_init 106 = .ok (.iconst 4, 1) := by decide +kernel
theorem dX7_init_107 : decode cX7_init 107 = .ok (.if_icmp .ge 22, 3) := by decide +kernel
theorem dX7_init_110 : decode cX7_init 110 = .ok (.aload_n 0, 1) := by decide +kernel
theorem dX7_init_111 : decode cX7_init 111 = .ok (.getfield 51, 3) := by decide +kernel
theorem dX7_init_114 : decode cX7_init 114 = .ok (.iload_n 1, 1) := by decide +kernel
theorem dX7_init_115 : decode cX7_init 115 = .ok (.new 49, 3) := by decide +kernel
theorem dX7_init_118 : decode cX7_init 118 = .ok (.dup, 1) := by decide +kernel
theorem dX7_init_119 : decode cX7_init 119 = .ok (.invokespecial 59, 3) := by decide +kernel
theorem dX7_init_122 : decode cX7_init 122 = .ok (.aastore, 1) := by decide +kernel
theorem dX7_init_123 : decode cX7_init 123 = .ok (.iinc 1 1, 3) := by decide +kernel
theorem dX7_init_126 : decode cX7_init 126 = .ok (.goto (-21), 3) := by decide +kernel
theorem dX7_init_129 : decode cX7_init 129 = .ok (.return_, 1) := by decide +kernel
theorem dX7_type_0 : decode cX7_type 0 = .ok (.iload_n 1, 1) := by decide +kernel
theorem dX7_type_1 : decode cX7_type 1 = .ok (.iconst 3, 1) := by decide +kernel
theorem dX7_type_2 : decode cX7_type 2 = .ok (.invokestatic 60, 3) := by decide +kernel
theorem dX7_type_5 : decode cX7_type 5 = .ok (.ifCond .eq 13, 3) := by decide +kernel
theorem dX7_type_8 : decode cX7_type 8 = .ok (.iload_n 2, 1) := by decide +kernel
theorem dX7_type_9 : decode cX7_type 9 = .ok (.sipush 256, 3) := by decide +kernel
theorem dX7_type_12 : decode cX7_type 12 = .ok (.invokestatic 60, 3) := by decide +kernel
theorem dX7_type_15 : decode cX7_type 15 = .ok (.ifCond .ne 6, 3) := by decide +kernel
theorem dX7_type_18 : decode cX7_type 18 = .ok (.bipush (-2), 2) := by decide +kernel
theorem dX7_type_20 : decode cX7_type 20 = .ok (.ireturn, 1) := by decide +kernel
theorem dX7_type_21 : decode cX7_type 21 = .ok (.aload_n 0, 1) := by decide +kernel
theorem dX7_type_22 : decode cX7_type 22 = .ok (.iload_n 1, 1) := by decide +kernel
theorem dX7_type_23 : decode cX7_type 23 = .ok (.invokevirtual 64, 3) := by decide +kernel
theorem dX7_type_26 : decode cX7_type 26 = .ok (.astore_n 3, 1) := by decide +kernel
theorem dX7_type_27 : decode cX7_type 27 = .ok (.aload_n 3, 1) := by decide +kernel
theorem dX7_type_28 : decode cX7_type 28 = .ok (.getfield 68, 3) := by decide +kernel
theorem dX7_type_31 : decode cX7_type 31 = .ok (.bipush 40, 2) := by decide +kernel
theorem dX7_type_33 : decode cX7_type 33 = .ok (.if_icmp .lt 6, 3) := by decide +kernel
theorem dX7_type_36 : decode cX7_type 36 = .ok (.bipush (-4), 2) := by decide +kernel
theorem dX7_type_38 : decode cX7_type 38 = .ok (.ireturn, 1) := by decide +kernel
theorem dX7_type_39 : decode cX7_type 39 = .ok (.aload_n 3, 1) := by decide +kernel
theorem dX7_type_40 : decode cX7_type 40 = .ok (.iload_n 2, 1) := by decide +kernel
theorem dX7_type_41 : decode cX7_type 41 = .ok (.invokevirtual 73, 3) := by decide +kernel
theorem dX7_type_44 : decode cX7_type 44 = .ok (.aload_n 0, 1) := by decide +kernel
theorem dX7_type_45 : decode cX7_type 45 = .ok (.getfield 12, 3) := by decide +kernel
theorem dX7_type_48 : decode cX7_type 48 = .ok (.invokevirtual 77, 3) := by decide +kernel
theorem dX7_type_51 : decode cX7_type 51 = .ok (.aload_n 3, 1) := by decide +kernel
theorem dX7_type_52 : decode cX7_type 52 = .ok (.getfield 68, 3) := by decide +kernel
theorem dX7_type_55 : decode cX7_type 55 = .ok (.ireturn, 1) := by decide +kernel
theorem dX7_wipe_0 : decode cX7_wipe 0 = .ok (.iload_n 1, 1) := by decide +kernel
theorem dX7_wipe_1 : decode cX7_wipe 1 = .ok (.iconst 3, 1) := by decide +kernel
theorem dX7_wipe_2 : decode cX7_wipe 2 = .ok (.invokestatic 60, 3) := by decide +kernel
theorem dX7_wipe_5 : decode cX7_wipe 5 = .ok (.ifCond .ne 6, 3) := by decide +kernel
theorem dX7_wipe_8 : decode cX7_wipe 8 = .ok (.bipush (-2), 2) := by decide +kernel
theorem dX7_wipe_10 : decode cX7_wipe 10 = .ok (.ireturn, 1) := by decide +kernel
theorem dX7_wipe_11 : decode cX7_wipe 11 = .ok (.aload_n 0, 1) := by decide +kernel
theorem dX7_wipe_12 : decode cX7_wipe 12 = .ok (.iload_n 1, 1) := by decide +kernel
theorem dX7_wipe_13 : decode cX7_wipe 13 = .ok (.invokevirtual 64, 3) := by decide +kernel
theorem dX7_wipe_16 : decode cX7_wipe 16 = .ok (.astore_n 2, 1) := by decide +kernel
theorem dX7_wipe_17 : decode cX7_wipe 17 = .ok (.aload_n 2, 1) := by decide +kernel
theorem dX7_wipe_18 : decode cX7_wipe 18 = .ok (.getfield 68, 3) := by decide +kernel
theorem dX7_wipe_21 : decode cX7_wipe 21 = .ok (.istore_n 3, 1) := by decide +kernel
theorem dX7_wipe_22 : decode cX7_wipe 22 = .ok (.aload_n 2, 1) := by decide +kernel
theorem dX7_wipe_23 : decode cX7_wipe 23 = .ok (.iconst 0, 1) := by decide +kernel
theorem dX7_wipe_24 : decode cX7_wipe 24 = .ok (.putfield 68, 3) := by decide +kernel
theorem dX7_wipe_27 : decode cX7_wipe 27 = .ok (.aload_n 0, 1) := by decide +kernel
theorem dX7_wipe_28 : decode cX7_wipe 28 = .ok (.getfield 12, 3) := by decide +kernel
theorem dX7_wipe_31 : decode cX7_wipe 31 = .ok (.invokevirtual 77, 3) := by decide +kernel
theorem dX7_wipe_34 : decode cX7_wipe 34 = .ok (.iload_n 3, 1) := by decide +kernel
theorem dX7_wipe_35 : decode cX7_wipe 35 = .ok (.ireturn, 1) := by decide +kernel
theorem dX7_fault_0 : decode cX7_fault 0 = .ok (.aload_n 0, 1) := by decide +kernel
theorem dX7_fault_1 : decode cX7_fault 1 = .ok (.getfield 12, 3) := by decide +kernel
theorem dX7_fault_4 : decode cX7_fault 4 = .ok (.getfield 80, 3) := by decide +kernel
theorem dX7_fault_7 : decode cX7_fault 7 = .ok (.ireturn, 1) := by decide +kernel
theorem dX7_path_0 : decode cX7_path 0 = .ok (.iload_n 1, 1) := by decide +kernel
theorem dX7_path_1 : decode cX7_path 1 = .ok (.aload_n 0, 1) := by decide +kernel
theorem dX7_path_2 : decode cX7_path 2 = .ok (.getfield 12, 3) := by decide +kernel
theorem dX7_path_5 : decode cX7_path 5 = .ok (.getfield 83, 3) := by decide +kernel
theorem dX7_path_8 : decode cX7_path 8 = .ok (.invokestatic 60, 3) := by decide +kernel
theorem dX7_path_11 : decode cX7_path 11 = .ok (.ifCond .eq 11, 3) := by decide +kernel
theorem dX7_path_14 : decode cX7_path 14 = .ok (.iload_n 2, 1) := by decide +kernel
theorem dX7_path_15 : decode cX7_path 15 = .ok (.iconst 3, 1) := by decide +kernel
theorem dX7_path_16 : decode cX7_path 16 = .ok (.invokestatic 60, 3) := by decide +kernel
theorem dX7_path_19 : decode cX7_path 19 = .ok (.ifCond .ne 6, 3) := by decide +kernel
theorem dX7_path_22 : decode cX7_path 22 = .ok (.bipush (-2), 2) := by decide +kernel
theorem dX7_path_24 : decode cX7_path 24 = .ok (.ireturn, 1) := by decide +kernel
theorem dX7_path_25 : decode cX7_path 25 = .ok (.aload_n 0, 1) := by decide +kernel
theorem dX7_path_26 : decode cX7_path 26 = .ok (.getfield 12, 3) := by decide +kernel
theorem dX7_path_29 : decode cX7_path 29 = .ok (.iload_n 1, 1) := by decide +kernel
theorem dX7_path_30 : decode cX7_path 30 = .ok (.iload_n 2, 1) := by decide +kernel
theorem dX7_path_31 : decode cX7_path 31 = .ok (.invokevirtual 86, 3) := by decide +kernel
theorem dX7_path_34 : decode cX7_path 34 = .ok (.ireturn, 1) := by decide +kernel
theorem dX7_start_0 : decode cX7_start 0 = .ok (.iload_n 1, 1) := by decide +kernel
theorem dX7_start_1 : decode cX7_start 1 = .ok (.iconst 2, 1) := by decide +kernel
theorem dX7_start_2 : decode cX7_start 2 = .ok (.invokestatic 60, 3) := by decide +kernel
theorem dX7_start_5 : decode cX7_start 5 = .ok (.ifCond .eq 12, 3) := by decide +kernel
theorem dX7_start_8 : decode cX7_start 8 = .ok (.iload_n 2, 1) := by decide +kernel
theorem dX7_start_9 : decode cX7_start 9 = .ok (.bipush 8, 2) := by decide +kernel
theorem dX7_start_11 : decode cX7_start 11 = .ok (.invokestatic 60, 3) := by decide +kernel
theorem dX7_start_14 : decode cX7_start 14 = .ok (.ifCond .ne 6, 3) := by decide +kernel
theorem dX7_start_17 : decode cX7_start 17 = .ok (.bipush (-2), 2) := by decide +kernel
theorem dX7_start_19 : decode cX7_start 19 = .ok (.ireturn, 1) := by decide +kernel
theorem dX7_start_20 : decode cX7_start 20 = .ok (.aload_n 0, 1) := by decide +kernel
theorem dX7_start_21 : decode cX7_start 21 = .ok (.iload_n 1, 1) := by decide +kernel
theorem dX7_start_22 : decode cX7_start 22 = .ok (.invokevirtual 90, 3) := by decide +kernel
theorem dX7_start_25 : decode cX7_start 25 = .ok (.astore_n 3, 1) := by decide +kernel
theorem dX7_start_26 : decode cX7_start 26 = .ok (.aload_n 3, 1) := by decide +kernel
theorem dX7_start_27 : decode cX7_start 27 = .ok (.getfield 94, 3) := by decide +kernel
theorem dX7_start_30 : decode cX7_start 30 = .ok (.istore 4, 2) := by decide +kernel
theorem dX7_start_32 : decode cX7_start 32 = .ok (.aload_n 3, 1) := by decide +kernel
theorem dX7_start_33 : decode cX7_start 33 = .ok (.iload_n 2, 1) := by decide +kernel
theorem dX7_start_34 : decode cX7_start 34 = .ok (.putfield 94, 3) := by decide +kernel
theorem dX7_start_37 : decode cX7_start 37 = .ok (.iload 4, 2) := by decide +kernel
theorem dX7_start_39 : decode cX7_start 39 = .ok (.ireturn, 1) := by decide +kernel
theorem dX7_set_0 : decode cX7_set 0 = .ok (.iload_n 1, 1) := by decide +kernel
theorem dX7_set_1 : decode cX7_set 1 = .ok (.ifCond .eq 8, 3) := by decide +kernel
theorem dX7_set_4 : decode cX7_set 4 = .ok (.iload_n 1, 1) := by decide +kernel
theorem dX7_set_5 : decode cX7_set 5 = .ok (.iconst 1, 1) := by decide +kernel
theorem dX7_set_6 : decode cX7_set 6 = .ok (.if_icmp .ne 10, 3) := by decide +kernel
theorem dX7_set_9 : decode cX7_set 9 = .ok (.aload_n 0, 1) := by decide +kernel
theorem dX7_set_10 : decode cX7_set 10 = .ok (.iload_n 1, 1) := by decide +kernel
theorem dX7_set_11 : decode cX7_set 11 = .ok (.iload_n 2, 1) := by decide +kernel
theorem dX7_set_12 : decode cX7_set 12 = .ok (.invokevirtual 97, 3) := by decide +kernel
theorem dX7_set_15 : decode cX7_set 15 = .ok (.ireturn, 1) := by decide +kernel
theorem dX7_set_16 : decode cX7_set 16 = .ok (.iload_n 1, 1) := by decide +kernel
theorem dX7_set_17 : decode cX7_set 17 = .ok (.iconst 2, 1) := by decide +kernel
theorem dX7_set_18 : decode cX7_set 18 = .ok (.if_icmp .ne 14, 3) := by decide +kernel
theorem dX7_set_21 : decode cX7_set 21 = .ok (.iload_n 2, 1) := by decide +kernel
theorem dX7_set_22 : decode cX7_set 22 = .ok (.iconst 1, 1) := by decide +kernel
theorem dX7_set_23 : decode cX7_set 23 = .ok (.if_icmp .lt 9, 3) := by decide +kernel
theorem dX7_set_26 : decode cX7_set 26 = .ok (.iload_n 2, 1) := by decide +kernel
theorem dX7_set_27 : decode cX7_set 27 = .ok (.bipush 18, 2) := by decide +kernel
theorem dX7_set_29 : decode cX7_set 29 = .ok (.if_icmp .le 6, 3) := by decide +kernel
theorem dX7_set_32 : decode cX7_set 32 = .ok (.bipush (-2), 2) := by decide +kernel
theorem dX7_set_34 : decode cX7_set 34 = .ok (.ireturn, 1) := by decide +kernel
theorem dX7_set_35 : decode cX7_set 35 = .ok (.aload_n 0, 1) := by decide +kernel
theorem dX7_set_36 : decode cX7_set 36 = .ok (.getfield 12, 3) := by decide +kernel
theorem dX7_set_39 : decode cX7_set 39 = .ok (.getfield 100, 3) := by decide +kernel
theorem dX7_set_42 : decode cX7_set 42 = .ok (.istore_n 3, 1) := by decide +kernel
theorem dX7_set_43 : decode cX7_set 43 = .ok (.aload_n 0, 1) := by decide +kernel
theorem dX7_set_44 : decode cX7_set 44 = .ok (.getfield 12, 3) := by decide +kernel
theorem dX7_set_47 : decode cX7_set 47 = .ok (.iload_n 2, 1) := by decide +kernel
theorem dX7_set_48 : decode cX7_set 48 = .ok (.putfield 100, 3) := by decide +kernel
theorem dX7_set_51 : decode cX7_set 51 = .ok (.iload_n 3, 1) := by decide +kernel
theorem dX7_set_52 : decode cX7_set 52 = .ok (.ireturn, 1) := by decide +kernel
theorem dX7_setHeavy_0 : decode cX7_setHeavy 0 = .ok (.iload_n 1, 1) := by decide +kernel
theorem dX7_setHeavy_1 : decode cX7_setHeavy 1 = .ok (.iconst 2, 1) := by decide +kernel
theorem dX7_setHeavy_2 : decode cX7_setHeavy 2 = .ok (.invokestatic 60, 3) := by decide +kernel
theorem dX7_setHeavy_5 : decode cX7_setHeavy 5 = .ok (.ifCond .eq 13, 3) := by decide +kernel
theorem dX7_setHeavy_8 : decode cX7_setHeavy 8 = .ok (.iload_n 2, 1) := by decide +kernel
theorem dX7_setHeavy_9 : decode cX7_setHeavy 9 = .ok (.ifCond .lt 9, 3) := by decide +kernel
theorem dX7_setHeavy_12 : decode cX7_setHeavy 12 = .ok (.iload_n 2, 1) := by decide +kernel
theorem dX7_setHeavy_13 : decode cX7_setHeavy 13 = .ok (.bipush 9, 2) := by decide +kernel
theorem dX7_setHeavy_15 : decode cX7_setHeavy 15 = .ok (.if_icmp .le 6, 3) := by decide +kernel
theorem dX7_setHeavy_18 : decode cX7_setHeavy 18 = .ok (.bipush (-2), 2) := by decide +kernel
theorem dX7_setHeavy_20 : decode cX7_setHeavy 20 = .ok (.ireturn, 1) := by decide +kernel
theorem dX7_setHeavy_21 : decode cX7_setHeavy 21 = .ok (.aload_n 0, 1) := by decide +kernel
theorem dX7_setHeavy_22 : decode cX7_setHeavy 22 = .ok (.getfield 12, 3) := by decide +kernel
theorem dX7_setHeavy_25 : decode cX7_setHeavy 25 = .ok (.getfield 103, 3) := by decide +kernel
theorem dX7_setHeavy_28 : decode cX7_setHeavy 28 = .ok (.iload_n 1, 1) := by decide +kernel
theorem dX7_setHeavy_29 : decode cX7_setHeavy 29 = .ok (.iaload, 1) := by decide +kernel
theorem dX7_setHeavy_30 : decode cX7_setHeavy 30 = .ok (.istore_n 3, 1) := by decide +kernel
theorem dX7_setHeavy_31 : decode cX7_setHeavy 31 = .ok (.aload_n 0, 1) := by decide +kernel
theorem dX7_setHeavy_32 : decode cX7_setHeavy 32 = .ok (.getfield 12, 3) := by decide +kernel
theorem dX7_setHeavy_35 : decode cX7_setHeavy 35 = .ok (.getfield 103, 3) := by decide +kernel
theorem dX7_setHeavy_38 : decode cX7_setHeavy 38 = .ok (.iload_n 1, 1) := by decide +kernel
theorem dX7_setHeavy_39 : decode cX7_setHeavy 39 = .ok (.iload_n 2, 1) := by decide +kernel
theorem dX7_setHeavy_40 : decode cX7_setHeavy 40 = .ok (.iastore, 1) := by decide +kernel
theorem dX7_setHeavy_41 : decode cX7_setHeavy 41 = .ok (.iload_n 3, 1) := by decide +kernel
theorem dX7_setHeavy_42 : decode cX7_setHeavy 42 = .ok (.ireturn, 1) := by decide +kernel
theorem dX7_thistle_0 : decode cX7_thistle 0 = .ok (.iload_n 1, 1) := by decide +kernel
theorem dX7_thistle_1 : decode cX7_thistle 1 = .ok (.bipush 8, 2) := by decide +kernel
theorem dX7_thistle_3 : decode cX7_thistle 3 = .ok (.invokestatic 60, 3) := by decide +kernel
theorem dX7_thistle_6 : decode cX7_thistle 6 = .ok (.ifCond .eq 13, 3) := by decide +kernel
theorem dX7_thistle_9 : decode cX7_thistle 9 = .ok (.iload_n 2, 1) := by decide +kernel
theorem dX7_thistle_10 : decode cX7_thistle 10 = .ok (.ifCond .lt 9, 3) := by decide +kernel
theorem dX7_thistle_13 : decode cX7_thistle 13 = .ok (.iload_n 2, 1) := by decide +kernel
theorem dX7_thistle_14 : decode cX7_thistle 14 = .ok (.bipush 99, 2) := by decide +kernel
theorem dX7_thistle_16 : decode cX7_thistle 16 = .ok (.if_icmp .le 6, 3) := by decide +kernel
theorem dX7_thistle_19 : decode cX7_thistle 19 = .ok (.bipush (-2), 2) := by decide +kernel
theorem dX7_thistle_21 : decode cX7_thistle 21 = .ok (.ireturn, 1) := by decide +kernel
theorem dX7_thistle_22 : decode cX7_thistle 22 = .ok (.aload_n 0, 1) := by decide +kernel
theorem dX7_thistle_23 : decode cX7_thistle 23 = .ok (.getfield 12, 3) := by decide +kernel
theorem dX7_thistle_26 : decode cX7_thistle 26 = .ok (.getfield 107, 3) := by decide +kernel
theorem dX7_thistle_29 : decode cX7_thistle 29 = .ok (.iload_n 1, 1) := by decide +kernel
theorem dX7_thistle_30 : decode cX7_thistle 30 = .ok (.iaload, 1) := by decide +kernel
theorem dX7_thistle_31 : decode cX7_thistle 31 = .ok (.istore_n 3, 1) := by decide +kernel
theorem dX7_thistle_32 : decode cX7_thistle 32 = .ok (.aload_n 0, 1) := by decide +kernel
theorem dX7_thistle_33 : decode cX7_thistle 33 = .ok (.getfield 12, 3) := by decide +kernel
theorem dX7_thistle_36 : decode cX7_thistle 36 = .ok (.getfield 107, 3) := by decide +kernel
theorem dX7_thistle_39 : decode cX7_thistle 39 = .ok (.iload_n 1, 1) := by decide +kernel
theorem dX7_thistle_40 : decode cX7_thistle 40 = .ok (.iload_n 2, 1) := by decide +kernel
theorem dX7_thistle_41 : decode cX7_thistle 41 = .ok (.iastore, 1) := by decide +kernel
theorem dX7_thistle_42 : decode cX7_thistle 42 = .ok (.iload_n 3, 1) := by decide +kernel
theorem dX7_thistle_43 : decode cX7_thistle 43 = .ok (.ireturn, 1) := by decide +kernel
theorem dX7_read_0 : decode cX7_read 0 = .ok (.iload_n 1, 1) := by decide +kernel
theorem dX7_read_1 : decode cX7_read 1 = .ok (.iconst 4, 1) := by decide +kernel
theorem dX7_read_2 : decode cX7_read 2 = .ok (.invokestatic 60, 3) := by decide +kernel
theorem dX7_read_5 : decode cX7_read 5 = .ok (.ifCond .eq 11, 3) := by decide +kernel
theorem dX7_read_8 : decode cX7_read 8 = .ok (.iload_n 2, 1) := by decide +kernel
theorem dX7_read_9 : decode cX7_read 9 = .ok (.iconst 2, 1) := by decide +kernel
theorem dX7_read_10 : decode cX7_read 10 = .ok (.invokestatic 60, 3) := by decide +kernel
theorem dX7_read_13 : decode cX7_read 13 = .ok (.ifCond .ne 6, 3) := by decide +kernel
theorem dX7_read_16 : decode cX7_read 16 = .ok (.bipush (-2), 2) := by decide +kernel
theorem dX7_read_18 : decode cX7_read 18 = .ok (.ireturn, 1) := by decide +kernel
theorem dX7_read_19 : decode cX7_read 19 = .ok (.aload_n 0, 1) := by decide +kernel
theorem dX7_read_20 : decode cX7_read 20 = .ok (.getfield 51, 3) := by decide +kernel
theorem dX7_read_23 : decode cX7_read 23 = .ok (.iload_n 1, 1) := by decide +kernel
theorem dX7_read_24 : decode cX7_read 24 = .ok (.aaload, 1) := by decide +kernel
theorem dX7_read_25 : decode cX7_read 25 = .ok (.astore_n 3, 1) := by decide +kernel
theorem dX7_read_26 : decode cX7_read 26 = .ok (.aload_n 3, 1) := by decide +kernel
theorem dX7_read_27 : decode cX7_read 27 = .ok (.getfield 110, 3) := by decide +kernel
theorem dX7_read_30 : decode cX7_read 30 = .ok (.iconst (-1), 1) := by decide +kernel
theorem dX7_read_31 : decode cX7_read 31 = .ok (.if_icmp .ne 9, 3) := by decide +kernel
theorem dX7_read_34 : decode cX7_read 34 = .ok (.aload_n 0, 1) := by decide +kernel
theorem dX7_read_35 : decode cX7_read 35 = .ok (.iconst 1, 1) := by decide +kernel
theorem dX7_read_36 : decode cX7_read 36 = .ok (.invokevirtual 113, 3) := by decide +kernel
theorem dX7_read_39 : decode cX7_read 39 = .ok (.ireturn, 1) := by decide +kernel
theorem dX7_read_40 : decode cX7_read 40 = .ok (.aload_n 0, 1) := by decide +kernel
theorem dX7_read_41 : decode cX7_read 41 = .ok (.iload_n 2, 1) := by decide +kernel
theorem dX7_read_42 : decode cX7_read 42 = .ok (.invokevirtual 90, 3) := by decide +kernel
theorem dX7_read_45 : decode cX7_read 45 = .ok (.getfield 117, 3) := by decide +kernel
theorem dX7_read_48 : decode cX7_read 48 = .ok (.astore 4, 2) := by decide +kernel
theorem dX7_read_50 : decode cX7_read 50 = .ok (.aload 4, 2) := by decide +kernel
theorem dX7_read_52 : decode cX7_read 52 = .ok (.iconst 0, 1) := by decide +kernel
theorem dX7_read_53 : decode cX7_read 53 = .ok (.putfield 68, 3) := by decide +kernel
theorem dX7_read_56 : decode cX7_read 56 = .ok (.iconst 0, 1) := by decide +kernel
theorem dX7_read_57 : decode cX7_read 57 = .ok (.istore 5, 2) := by decide +kernel
theorem dX7_read_59 : decode cX7_read 59 = .ok (.iload 5, 2) := by decide +kernel
theorem dX7_read_61 : decode cX7_read 61 = .ok (.aload_n 3, 1) := by decide +kernel
theorem dX7_read_62 : decode cX7_read 62 = .ok (.getfield 121, 3) := by decide +kernel
theorem dX7_read_65 : decode cX7_read 65 = .ok (.if_icmp .ge 48, 3) := by decide +kernel
theorem dX7_read_68 : decode cX7_read 68 = .ok (.iload 5, 2) := by decide +kernel
theorem dX7_read_70 : decode cX7_read 70 = .ok (.bipush 40, 2) := by decide +kernel
theorem dX7_read_72 : decode cX7_read 72 = .ok (.if_icmp .ge 41, 3) := by decide +kernel
theorem dX7_read_75 : decode cX7_read 75 = .ok (.aload_n 3, 1) := by decide +kernel
theorem dX7_read_76 : decode cX7_read 76 = .ok (.getfield 122, 3) := by decide +kernel
theorem dX7_read_79 : decode cX7_read 79 = .ok (.iload 5, 2) := by decide +kernel
theorem dX7_read_81 : decode cX7_read 81 = .ok (.iaload, 1) := by decide +kernel
theorem dX7_read_82 : decode cX7_read 82 = .ok (.istore 6, 2) := by decide +kernel
theorem dX7_read_84 : decode cX7_read 84 = .ok (.iload 6, 2) := by decide +kernel
theorem dX7_read_86 : decode cX7_read 86 = .ok (.bipush 16, 2) := by decide +kernel
theorem dX7_read_88 : decode cX7_read 88 = .ok (.invokestatic 60, 3) := by decide +kernel
theorem dX7_read_91 : decode cX7_read 91 = .ok (.ifCond .ne 6, 3) := by decide +kernel
theorem dX7_read_94 : decode cX7_read 94 = .ok (.goto 19, 3) := by decide +kernel
theorem dX7_read_97 : decode cX7_read 97 = .ok (.aload 4, 2) := by decide +kernel
theorem dX7_read_99 : decode cX7_read 99 = .ok (.iload 6, 2) := by decide +kernel
theorem dX7_read_101 : decode cX7_read 101 = .ok (.invokestatic 125, 3) := by decide +kernel
theorem dX7_read_104 : decode cX7_read 104 = .ok (.invokevirtual 73, 3) := by decide +kernel
theorem dX7_read_107 : decode cX7_read 107 = .ok (.iinc 5 1, 3) := by decide +kernel
theorem dX7_read_110 : decode cX7_read 110 = .ok (.goto (-51), 3) := by decide +kernel
theorem dX7_read_113 : decode cX7_read 113 = .ok (.aload 4, 2) := by decide +kernel
theorem dX7_read_115 : decode cX7_read 115 = .ok (.getfield 68, 3) := by decide +kernel
theorem dX7_read_118 : decode cX7_read 118 = .ok (.ireturn, 1) := by decide +kernel
theorem dX7_undo_0 : decode cX7_undo 0 = .ok (.iload_n 1, 1) := by decide +kernel
theorem dX7_undo_1 : decode cX7_undo 1 = .ok (.iconst 2, 1) := by decide +kernel
theorem dX7_undo_2 : decode cX7_undo 2 = .ok (.invokestatic 60, 3) := by decide +kernel
theorem dX7_undo_5 : decode cX7_undo 5 = .ok (.ifCond .ne 6, 3) := by decide +kernel
theorem dX7_undo_8 : decode cX7_undo 8 = .ok (.bipush (-2), 2) := by decide +kernel
theorem dX7_undo_10 : decode cX7_undo 10 = .ok (.ireturn, 1) := by decide +kernel
theorem dX7_undo_11 : decode cX7_undo 11 = .ok (.aload_n 0, 1) := by decide +kernel
theorem dX7_undo_12 : decode cX7_undo 12 = .ok (.iload_n 1, 1) := by decide +kernel
theorem dX7_undo_13 : decode cX7_undo 13 = .ok (.invokevirtual 90, 3) := by decide +kernel
theorem dX7_undo_16 : decode cX7_undo 16 = .ok (.getfield 117, 3) := by decide +kernel
theorem dX7_undo_19 : decode cX7_undo 19 = .ok (.astore_n 2, 1) := by decide +kernel
theorem dX7_undo_20 : decode cX7_undo 20 = .ok (.aload_n 2, 1) := by decide +kernel
theorem dX7_undo_21 : decode cX7_undo 21 = .ok (.getfield 68, 3) := by decide +kernel
theorem dX7_undo_24 : decode cX7_undo 24 = .ok (.ifCond .gt 6, 3) := by decide +kernel
theorem dX7_undo_27 : decode cX7_undo 27 = .ok (.bipush (-3), 2) := by decide +kernel
theorem dX7_undo_29 : decode cX7_undo 29 = .ok (.ireturn, 1) := by decide +kernel
theorem dX7_undo_30 : decode cX7_undo 30 = .ok (.aload_n 2, 1) := by decide +kernel
theorem dX7_undo_31 : decode cX7_undo 31 = .ok (.dup, 1) := by decide +kernel
theorem dX7_undo_32 : decode cX7_undo 32 = .ok (.getfield 68, 3) := by decide +kernel
theorem dX7_undo_35 : decode cX7_undo 35 = .ok (.iconst 1, 1) := by decide +kernel
theorem dX7_undo_36 : decode cX7_undo 36 = .ok (.isub, 1) := by decide +kernel
theorem dX7_undo_37 : decode cX7_undo 37 = .ok (.putfield 68, 3) := by decide +kernel
theorem dX7_undo_40 : decode cX7_undo 40 = .ok (.aload_n 2, 1) := by decide +kernel
theorem dX7_undo_41 : decode cX7_undo 41 = .ok (.getfield 68, 3) := by decide +kernel
theorem dX7_undo_44 : decode cX7_undo 44 = .ok (.ireturn, 1) := by decide +kernel
theorem dX7_judged_0 : decode cX7_judged 0 = .ok (.iload_n 1, 1) := by decide +kernel
theorem dX7_judged_1 : decode cX7_judged 1 = .ok (.iconst 2, 1) := by decide +kernel
theorem dX7_judged_2 : decode cX7_judged 2 = .ok (.invokestatic 60, 3) := by decide +kernel
theorem dX7_judged_5 : decode cX7_judged 5 = .ok (.ifCond .ne 6, 3) := by decide +kernel
theorem dX7_judged_8 : decode cX7_judged 8 = .ok (.bipush (-2), 2) := by decide +kernel
theorem dX7_judged_10 : decode cX7_judged 10 = .ok (.ireturn, 1) := by decide +kernel
theorem dX7_judged_11 : decode cX7_judged 11 = .ok (.aload_n 0, 1) := by decide +kernel
theorem dX7_judged_12 : decode cX7_judged 12 = .ok (.iload_n 1, 1) := by decide +kernel
theorem dX7_judged_13 : decode cX7_judged 13 = .ok (.invokevirtual 128, 3) := by decide +kernel
theorem dX7_judged_16 : decode cX7_judged 16 = .ok (.astore_n 2, 1) := by decide +kernel
theorem dX7_judged_17 : decode cX7_judged 17 = .ok (.aload_n 2, 1) := by decide +kernel
theorem dX7_judged_18 : decode cX7_judged 18 = .ok (.getfield 131, 3) := by decide +kernel
theorem dX7_judged_21 : decode cX7_judged 21 = .ok (.aload_n 2, 1) := by decide +kernel
theorem dX7_judged_22 : decode cX7_judged 22 = .ok (.getfield 117, 3) := by decide +kernel
theorem dX7_judged_25 : decode cX7_judged 25 = .ok (.getfield 68, 3) := by decide +kernel
theorem dX7_judged_28 : decode cX7_judged 28 = .ok (.if_icmp .ge 10, 3) := by decide +kernel
theorem dX7_judged_31 : decode cX7_judged 31 = .ok (.aload_n 2, 1) := by decide +kernel
theorem dX7_judged_32 : decode cX7_judged 32 = .ok (.getfield 131, 3) := by decide +kernel
theorem dX7_judged_35 : decode cX7_judged 35 = .ok (.goto 4, 3) := by decide +kernel
theorem dX7_judged_38 : decode cX7_judged 38 = .ok (.iconst (-1), 1) := by decide +kernel
theorem dX7_judged_39 : decode cX7_judged 39 = .ok (.ireturn, 1) := by decide +kernel
theorem dX7_state_0 : decode cX7_state 0 = .ok (.iload_n 1, 1) := by decide +kernel
theorem dX7_state_1 : decode cX7_state 1 = .ok (.iconst 2, 1) := by decide +kernel
theorem dX7_state_2 : decode cX7_state 2 = .ok (.invokestatic 60, 3) := by decide +kernel
theorem dX7_state_5 : decode cX7_state 5 = .ok (.ifCond .eq 16, 3) := by decide +kernel
theorem dX7_state_8 : decode cX7_state 8 = .ok (.iload_n 2, 1) := by decide +kernel
theorem dX7_state_9 : decode cX7_state 9 = .ok (.ifCond .lt 12, 3) := by decide +kernel
theorem dX7_state_12 : decode cX7_state 12 = .ok (.iload_n 3, 1) := by decide +kernel
theorem dX7_state_13 : decode cX7_state 13 = .ok (.bipush 8, 2) := by decide +kernel
theorem dX7_state_15 : decode cX7_state 15 = .ok (.invokestatic 60, 3) := by decide +kernel
theorem dX7_state_18 : decode cX7_state 18 = .ok (.ifCond .ne 6, 3) := by decide +kernel
theorem dX7_state_21 : decode cX7_state 21 = .ok (.bipush (-2), 2) := by decide +kernel
theorem dX7_state_23 : decode cX7_state 23 = .ok (.ireturn, 1) := by decide +kernel
theorem dX7_state_24 : decode cX7_state 24 = .ok (.aload_n 0, 1) := by decide +kernel
theorem dX7_state_25 : decode cX7_state 25 = .ok (.iload_n 1, 1) := by decide +kernel
theorem dX7_state_26 : decode cX7_state 26 = .ok (.invokevirtual 90, 3) := by decide +kernel
theorem dX7_state_29 : decode cX7_state 29 = .ok (.astore 4, 2) := by decide +kernel
theorem dX7_state_31 : decode cX7_state 31 = .ok (.aload 4, 2) := by decide +kernel
theorem dX7_state_33 : decode cX7_state 33 = .ok (.iload_n 2, 1) := by decide +kernel
theorem dX7_state_34 : decode cX7_state 34 = .ok (.invokevirtual 134, 3) := by decide +kernel
theorem dX7_state_37 : decode cX7_state 37 = .ok (.aload 4, 2) := by decide +kernel
theorem dX7_state_39 : decode cX7_state 39 = .ok (.getfield 131, 3) := by decide +kernel
theorem dX7_state_42 : decode cX7_state 42 = .ok (.iload_n 2, 1) := by decide +kernel
theorem dX7_state_43 : decode cX7_state 43 = .ok (.if_icmp .ge 8, 3) := by decide +kernel
theorem dX7_state_46 : decode cX7_state 46 = .ok (.bipush (-2), 2) := by decide +kernel
theorem dX7_state_48 : decode cX7_state 48 = .ok (.goto 9, 3) := by decide +kernel
theorem dX7_state_51 : decode cX7_state 51 = .ok (.aload 4, 2) := by decide +kernel
theorem dX7_state_53 : decode cX7_state 53 = .ok (.iload_n 3, 1) := by decide +kernel
theorem dX7_state_54 : decode cX7_state 54 = .ok (.invokevirtual 137, 3) := by decide +kernel
theorem dX7_state_57 : decode cX7_state 57 = .ok (.ireturn, 1) := by decide +kernel
theorem dX7_rope_0 : decode cX7_rope 0 = .ok (.iload_n 1, 1) := by decide +kernel
theorem dX7_rope_1 : decode cX7_rope 1 = .ok (.iconst 2, 1) := by decide +kernel
theorem dX7_rope_2 : decode cX7_rope 2 = .ok (.invokestatic 60, 3) := by decide +kernel
theorem dX7_rope_5 : decode cX7_rope 5 = .ok (.ifCond .eq 11, 3) := by decide +kernel
theorem dX7_rope_8 : decode cX7_rope 8 = .ok (.iload_n 2, 1) := by decide +kernel
theorem dX7_rope_9 : decode cX7_rope 9 = .ok (.ifCond .lt 7, 3) := by decide +kernel
theorem dX7_rope_12 : decode cX7_rope 12 = .ok (.iload_n 3, 1) := by decide +kernel
theorem dX7_rope_13 : decode cX7_rope 13 = .ok (.ifCond .ge 6, 3) := by decide +kernel
theorem dX7_rope_16 : decode cX7_rope 16 = .ok (.bipush (-2), 2) := by decide +kernel
theorem dX7_rope_18 : decode cX7_rope 18 = .ok (.ireturn, 1) := by decide +kernel
theorem dX7_rope_19 : decode cX7_rope 19 = .ok (.aload_n 0, 1) := by decide +kernel
theorem dX7_rope_20 : decode cX7_rope 20 = .ok (.iload_n 1, 1) := by decide +kernel
theorem dX7_rope_21 : decode cX7_rope 21 = .ok (.invokevirtual 90, 3) := by decide +kernel
theorem dX7_rope_24 : decode cX7_rope 24 = .ok (.astore 4, 2) := by decide +kernel
theorem dX7_rope_26 : decode cX7_rope 26 = .ok (.aload 4, 2) := by decide +kernel
theorem dX7_rope_28 : decode cX7_rope 28 = .ok (.iload_n 2, 1) := by decide +kernel
theorem dX7_rope_29 : decode cX7_rope 29 = .ok (.invokevirtual 134, 3) := by decide +kernel
theorem dX7_rope_32 : decode cX7_rope 32 = .ok (.aload 4, 2) := by decide +kernel
theorem dX7_rope_34 : decode cX7_rope 34 = .ok (.getfield 131, 3) := by decide +kernel
theorem dX7_rope_37 : decode cX7_rope 37 = .ok (.iload_n 2, 1) := by decide +kernel
theorem dX7_rope_38 : decode cX7_rope 38 = .ok (.if_icmp .ge 8, 3) := by decide +kernel
theorem dX7_rope_41 : decode cX7_rope 41 = .ok (.bipush (-2), 2) := by decide +kernel
theorem dX7_rope_43 : decode cX7_rope 43 = .ok (.goto 12, 3) := by decide +kernel
theorem dX7_rope_46 : decode cX7_rope 46 = .ok (.aload 4, 2) := by decide +kernel
theorem dX7_rope_48 : decode cX7_rope 48 = .ok (.getfield 140, 3) := by decide +kernel
theorem dX7_rope_51 : decode cX7_rope 51 = .ok (.iload_n 3, 1) := by decide +kernel
theorem dX7_rope_52 : decode cX7_rope 52 = .ok (.invokevirtual 143, 3) := by decide +kernel
theorem dX7_rope_55 : decode cX7_rope 55 = .ok (.ireturn, 1) := by decide +kernel
theorem dX7_needs_0 : decode cX7_needs 0 = .ok (.iload_n 1, 1) := by decide +kernel
theorem dX7_needs_1 : decode cX7_needs 1 = .ok (.iconst 2, 1) := by decide +kernel
theorem dX7_needs_2 : decode cX7_needs 2 = .ok (.invokestatic 60, 3) := by decide +kernel
theorem dX7_needs_5 : decode cX7_needs 5 = .ok (.ifCond .eq 14, 3) := by decide +kernel
theorem dX7_needs_8 : decode cX7_needs 8 = .ok (.aload_n 0, 1) := by decide +kernel
theorem dX7_needs_9 : decode cX7_needs 9 = .ok (.iload_n 1, 1) := by decide +kernel
theorem dX7_needs_10 : decode cX7_needs 10 = .ok (.invokevirtual 90, 3) := by decide +kernel
theorem dX7_needs_13 : decode cX7_needs 13 = .ok (.invokevirtual 146, 3) := by decide +kernel
theorem dX7_needs_16 : decode cX7_needs 16 = .ok (.goto 5, 3) := by decide +kernel
theorem dX7_needs_19 : decode cX7_needs 19 = .ok (.bipush (-2), 2) := by decide +kernel
theorem dX7_needs_21 : decode cX7_needs 21 = .ok (.ireturn, 1) := by decide +kernel
theorem dX7_soon_0 : decode cX7_soon 0 = .ok (.iload_n 1, 1) := by decide +kernel
theorem dX7_soon_1 : decode cX7_soon 1 = .ok (.iconst 2, 1) := by decide +kernel
theorem dX7_soon_2 : decode cX7_soon 2 = .ok (.invokestatic 60, 3) := by decide +kernel
theorem dX7_soon_5 : decode cX7_soon 5 = .ok (.ifCond .eq 21, 3) := by decide +kernel
theorem dX7_soon_8 : decode cX7_soon 8 = .ok (.iload_n 2, 1) := by decide +kernel
theorem dX7_soon_9 : decode cX7_soon 9 = .ok (.bipush 8, 2) := by decide +kernel
theorem dX7_soon_11 : decode cX7_soon 11 = .ok (.invokestatic 60, 3) := by decide +kernel
theorem dX7_soon_14 : decode cX7_soon 14 = .ok (.ifCond .eq 12, 3) := by decide +kernel
theorem dX7_soon_17 : decode cX7_soon 17 = .ok (.iload_n 3, 1) := by decide +kernel
theorem dX7_soon_18 : decode cX7_soon 18 = .ok (.bipush 8, 2) := by decide +kernel
theorem dX7_soon_20 : decode cX7_soon 20 = .ok (.invokestatic 60, 3) := by decide +kernel
theorem dX7_soon_23 : decode cX7_soon 23 = .ok (.ifCond .ne 6, 3) := by decide +kernel
theorem dX7_soon_26 : decode cX7_soon 26 = .ok (.bipush (-2), 2) := by decide +kernel
theorem dX7_soon_28 : decode cX7_soon 28 = .ok (.ireturn, 1) := by decide +kernel
theorem dX7_soon_29 : decode cX7_soon 29 = .ok (.aload_n 0, 1) := by decide +kernel
theorem dX7_soon_30 : decode cX7_soon 30 = .ok (.getfield 31, 3) := by decide +kernel
theorem dX7_soon_33 : decode cX7_soon 33 = .ok (.aload_n 0, 1) := by decide +kernel
theorem dX7_soon_34 : decode cX7_soon 34 = .ok (.iload_n 1, 1) := by decide +kernel
theorem dX7_soon_35 : decode cX7_soon 35 = .ok (.invokevirtual 128, 3) := by decide +kernel
theorem dX7_soon_38 : decode cX7_soon 38 = .ok (.getfield 140, 3) := by decide +kernel
theorem dX7_soon_41 : decode cX7_soon 41 = .ok (.iload_n 2, 1) := by decide +kernel
theorem dX7_soon_42 : decode cX7_soon 42 = .ok (.iload_n 3, 1) := by decide +kernel
theorem dX7_soon_43 : decode cX7_soon 43 = .ok (.invokevirtual 150, 3) := by decide +kernel
theorem dX7_soon_46 : decode cX7_soon 46 = .ok (.ireturn, 1) := by decide +kernel
theorem dX7_loose_0 : decode cX7_loose 0 = .ok (.iload_n 1, 1) := by decide +kernel
theorem dX7_loose_1 : decode cX7_loose 1 = .ok (.iconst 2, 1) := by decide +kernel
theorem dX7_loose_2 : decode cX7_loose 2 = .ok (.invokestatic 60, 3) := by decide +kernel
theorem dX7_loose_5 : decode cX7_loose 5 = .ok (.ifCond .eq 17, 3) := by decide +kernel
theorem dX7_loose_8 : decode cX7_loose 8 = .ok (.aload_n 0, 1) := by decide +kernel
theorem dX7_loose_9 : decode cX7_loose 9 = .ok (.iload_n 1, 1) := by decide +kernel
theorem dX7_loose_10 : decode cX7_loose 10 = .ok (.invokevirtual 128, 3) := by decide +kernel
theorem dX7_loose_13 : decode cX7_loose 13 = .ok (.getfield 140, 3) := by decide +kernel
theorem dX7_loose_16 : decode cX7_loose 16 = .ok (.getfield 154, 3) := by decide +kernel
theorem dX7_loose_19 : decode cX7_loose 19 = .ok (.goto 5, 3) := by decide +kernel
theorem dX7_loose_22 : decode cX7_loose 22 = .ok (.bipush (-2), 2) := by decide +kernel
theorem dX7_loose_24 : decode cX7_loose 24 = .ok (.ireturn, 1) := by decide +kernel
theorem dX7_pulled_0 : decode cX7_pulled 0 = .ok (.iload_n 1, 1) := by decide +kernel
theorem dX7_pulled_1 : decode cX7_pulled 1 = .ok (.iconst 2, 1) := by decide +kernel
theorem dX7_pulled_2 : decode cX7_pulled 2 = .ok (.invokestatic 60, 3) := by decide +kernel
theorem dX7_pulled_5 : decode cX7_pulled 5 = .ok (.ifCond .eq 31, 3) := by decide +kernel
theorem dX7_pulled_8 : decode cX7_pulled 8 = .ok (.iload_n 2, 1) := by decide +kernel
theorem dX7_pulled_9 : decode cX7_pulled 9 = .ok (.aload_n 0, 1) := by decide +kernel
theorem dX7_pulled_10 : decode cX7_pulled 10 = .ok (.getfield 12, 3) := by decide +kernel
theorem dX7_pulled_13 : decode cX7_pulled 13 = .ok (.getfield 83, 3) := by decide +kernel
theorem dX7_pulled_16 : decode cX7_pulled 16 = .ok (.invokestatic 60, 3) := by decide +kernel
theorem dX7_pulled_19 : decode cX7_pulled 19 = .ok (.ifCond .eq 17, 3) := by decide +kernel
theorem dX7_pulled_22 : decode cX7_pulled 22 = .ok (.iload_n 3, 1) := by decide +kernel
theorem dX7_pulled_23 : decode cX7_pulled 23 = .ok (.aload_n 0, 1) := by decide +kernel
theorem dX7_pulled_24 : decode cX7_pulled 24 = .ok (.getfield 12, 3) := by decide +kernel
theorem dX7_pulled_27 : decode cX7_pulled 27 = .ok (.getfield 83, 3) := by decide +kernel
theorem dX7_pulled_30 : decode cX7_pulled 30 = .ok (.invokestatic 60, 3) := by decide +kernel
theorem dX7_pulled_33 : decode cX7_pulled 33 = .ok (.ifCond .ne 6, 3) := by decide +kernel
theorem dX7_pulled_36 : decode cX7_pulled 36 = .ok (.bipush (-2), 2) := by decide +kernel
theorem dX7_pulled_38 : decode cX7_pulled 38 = .ok (.ireturn, 1) := by decide +kernel
theorem dX7_pulled_39 : decode cX7_pulled 39 = .ok (.iload_n 2, 1) := by decide +kernel
theorem dX7_pulled_40 : decode cX7_pulled 40 = .ok (.iload_n 3, 1) := by decide +kernel
theorem dX7_pulled_41 : decode cX7_pulled 41 = .ok (.if_icmp .eq 12, 3) := by decide +kernel
theorem dX7_pulled_44 : decode cX7_pulled 44 = .ok (.iload 4, 2) := by decide +kernel
theorem dX7_pulled_46 : decode cX7_pulled 46 = .ok (.iconst 2, 1) := by decide +kernel
theorem dX7_pulled_47 : decode cX7_pulled 47 = .ok (.invokestatic 60, 3) := by decide +kernel
theorem dX7_pulled_50 : decode cX7_pulled 50 = .ok (.ifCond .ne 6, 3) := by decide +kernel
theorem dX7_pulled_53 : decode cX7_pulled 53 = .ok (.bipush (-2), 2) := by decide +kernel
theorem dX7_pulled_55 : decode cX7_pulled 55 = .ok (.ireturn, 1) := by decide +kernel
theorem dX7_pulled_56 : decode cX7_pulled 56 = .ok (.aload_n 0, 1) := by decide +kernel
theorem dX7_pulled_57 : decode cX7_pulled 57 = .ok (.getfield 12, 3) := by decide +kernel
theorem dX7_pulled_60 : decode cX7_pulled 60 = .ok (.iload_n 2, 1) := by decide +kernel
theorem dX7_pulled_61 : decode cX7_pulled 61 = .ok (.iload_n 3, 1) := by decide +kernel
theorem dX7_pulled_62 : decode cX7_pulled 62 = .ok (.invokevirtual 155, 3) := by decide +kernel
theorem dX7_pulled_65 : decode cX7_pulled 65 = .ok (.ifCond .ne 6, 3) := by decide +kernel
theorem dX7_pulled_68 : decode cX7_pulled 68 = .ok (.bipush (-3), 2) := by decide +kernel
theorem dX7_pulled_70 : decode cX7_pulled 70 = .ok (.ireturn, 1) := by decide +kernel
theorem dX7_pulled_71 : decode cX7_pulled 71 = .ok (.aload_n 0, 1) := by decide +kernel
theorem dX7_pulled_72 : decode cX7_pulled 72 = .ok (.getfield 45, 3) := by decide +kernel
theorem dX7_pulled_75 : decode cX7_pulled 75 = .ok (.aload_n 0, 1) := by decide +kernel
theorem dX7_pulled_76 : decode cX7_pulled 76 = .ok (.iload_n 1, 1) := by decide +kernel
theorem dX7_pulled_77 : decode cX7_pulled 77 = .ok (.invokevirtual 128, 3) := by decide +kernel
theorem dX7_pulled_80 : decode cX7_pulled 80 = .ok (.getfield 140, 3) := by decide +kernel
theorem dX7_pulled_83 : decode cX7_pulled 83 = .ok (.iload_n 2, 1) := by decide +kernel
theorem dX7_pulled_84 : decode cX7_pulled 84 = .ok (.iload_n 3, 1) := by decide +kernel
theorem dX7_pulled_85 : decode cX7_pulled 85 = .ok (.invokevirtual 158, 3) := by decide +kernel
theorem dX7_pulled_88 : decode cX7_pulled 88 = .ok (.iload 4, 2) := by decide +kernel
theorem dX7_pulled_90 : decode cX7_pulled 90 = .ok (.ifCond .ne 13, 3) := by decide +kernel
theorem dX7_pulled_93 : decode cX7_pulled 93 = .ok (.aload_n 0, 1) := by decide +kernel
theorem dX7_pulled_94 : decode cX7_pulled 94 = .ok (.getfield 45, 3) := by decide +kernel
theorem dX7_pulled_97 : decode cX7_pulled 97 = .ok (.getfield 154, 3) := by decide +kernel
theorem dX7_pulled_100 : decode cX7_pulled 100 = .ok (.goto 10, 3) := by decide +kernel
theorem dX7_pulled_103 : decode cX7_pulled 103 = .ok (.aload_n 0, 1) := by decide +kernel
theorem dX7_pulled_104 : decode cX7_pulled 104 = .ok (.getfield 45, 3) := by decide +kernel
theorem dX7_pulled_107 : decode cX7_pulled 107 = .ok (.getfield 162, 3) := by decide +kernel
theorem dX7_pulled_110 : decode cX7_pulled 110 = .ok (.ireturn, 1) := by decide +kernel
theorem dX7_began_0 : decode cX7_began 0 = .ok (.iload_n 1, 1) := by decide +kernel
theorem dX7_began_1 : decode cX7_began 1 = .ok (.iconst 2, 1) := by decide +kernel
theorem dX7_began_2 : decode cX7_began 2 = .ok (.invokestatic 60, 3) := by decide +kernel
theorem dX7_began_5 : decode cX7_began 5 = .ok (.ifCond .eq 12, 3) := by decide +kernel
theorem dX7_began_8 : decode cX7_began 8 = .ok (.iload_n 2, 1) := by decide +kernel
theorem dX7_began_9 : decode cX7_began 9 = .ok (.bipush 8, 2) := by decide +kernel
theorem dX7_began_11 : decode cX7_began 11 = .ok (.invokestatic 60, 3) := by decide +kernel
theorem dX7_began_14 : decode cX7_began 14 = .ok (.ifCond .ne 6, 3) := by decide +kernel
theorem dX7_began_17 : decode cX7_began 17 = .ok (.bipush (-2), 2) := by decide +kernel
theorem dX7_began_19 : decode cX7_began 19 = .ok (.ireturn, 1) := by decide +kernel
theorem dX7_began_20 : decode cX7_began 20 = .ok (.aload_n 0, 1) := by decide +kernel
theorem dX7_began_21 : decode cX7_began 21 = .ok (.iload_n 1, 1) := by decide +kernel
theorem dX7_began_22 : decode cX7_began 22 = .ok (.invokevirtual 128, 3) := by decide +kernel
theorem dX7_began_25 : decode cX7_began 25 = .ok (.getfield 140, 3) := by decide +kernel
theorem dX7_began_28 : decode cX7_began 28 = .ok (.astore_n 3, 1) := by decide +kernel
theorem dX7_began_29 : decode cX7_began 29 = .ok (.aload_n 3, 1) := by decide +kernel
theorem dX7_began_30 : decode cX7_began 30 = .ok (.iload_n 2, 1) := by decide +kernel
theorem dX7_began_31 : decode cX7_began 31 = .ok (.invokevirtual 165, 3) := by decide +kernel
theorem dX7_began_34 : decode cX7_began 34 = .ok (.istore 4, 2) := by decide +kernel
theorem dX7_began_36 : decode cX7_began 36 = .ok (.iload 4, 2) := by decide +kernel
theorem dX7_began_38 : decode cX7_began 38 = .ok (.iconst (-1), 1) := by decide +kernel
theorem dX7_began_39 : decode cX7_began 39 = .ok (.if_icmp .ne 7, 3) := by decide +kernel
theorem dX7_began_42 : decode cX7_began 42 = .ok (.iconst (-1), 1) := by decide +kernel
theorem dX7_began_43 : decode cX7_began 43 = .ok (.goto 12, 3) := by decide +kernel
theorem dX7_began_46 : decode cX7_began 46 = .ok (.aload_n 3, 1) := by decide +kernel
theorem dX7_began_47 : decode cX7_began 47 = .ok (.getfield 154, 3) := by decide +kernel
theorem dX7_began_50 : decode cX7_began 50 = .ok (.iconst 2, 1) := by decide +kernel
theorem dX7_began_51 : decode cX7_began 51 = .ok (.iload 4, 2) := by decide +kernel
theorem dX7_began_53 : decode cX7_began 53 = .ok (.imul, 1) := by decide +kernel
theorem dX7_began_54 : decode cX7_began 54 = .ok (.iadd, 1) := by decide +kernel
theorem dX7_began_55 : decode cX7_began 55 = .ok (.ireturn, 1) := by decide +kernel
theorem dX7_game_0 : decode cX7_game 0 = .ok (.iload_n 1, 1) := by decide +kernel
theorem dX7_game_1 : decode cX7_game 1 = .ok (.iconst 2, 1) := by decide +kernel
theorem dX7_game_2 : decode cX7_game 2 = .ok (.invokestatic 60, 3) := by decide +kernel
end
section
theorem dX7_game_5 : decode cX7_game 5 = .ok (.ifCond .eq 21, 3) := by decide +kernel
theorem dX7_game_8 : decode cX7_game 8 = .ok (.iload_n 2, 1) := by decide +kernel
theorem dX7_game_9 : decode cX7_game 9 = .ok (.iconst 1, 1) := by decide +kernel
theorem dX7_game_10 : decode cX7_game 10 = .ok (.if_icmp .lt 16, 3) := by decide +kernel
theorem dX7_game_13 : decode cX7_game 13 = .ok (.iload_n 2, 1) := by decide +kernel
theorem dX7_game_14 : decode cX7_game 14 = .ok (.iconst 5, 1) := by decide +kernel
theorem dX7_game_15 : decode cX7_game 15 = .ok (.if_icmp .gt 11, 3) := by decide +kernel
theorem dX7_game_18 : decode cX7_game 18 = .ok (.iload_n 3, 1) := by decide +kernel
theorem dX7_game_19 : decode cX7_game 19 = .ok (.iconst 2, 1) := by decide +kernel
theorem dX7_game_20 : decode cX7_game 20 = .ok (.invokestatic 60, 3) := by decide +kernel
theorem dX7_game_23 : decode cX7_game 23 = .ok (.ifCond .ne 7, 3) := by decide +kernel
theorem dX7_game_26 : decode cX7_game 26 = .ok (.sipush (-10002), 3) := by decide +kernel
theorem dX7_game_29 : decode cX7_game 29 = .ok (.ireturn, 1) := by decide +kernel
theorem dX7_game_30 : decode cX7_game 30 = .ok (.aload_n 0, 1) := by decide +kernel
theorem dX7_game_31 : decode cX7_game 31 = .ok (.getfield 38, 3) := by decide +kernel
theorem dX7_game_34 : decode cX7_game 34 = .ok (.aload_n 0, 1) := by decide +kernel
theorem dX7_game_35 : decode cX7_game 35 = .ok (.iload_n 1, 1) := by decide +kernel
theorem dX7_game_36 : decode cX7_game 36 = .ok (.invokevirtual 128, 3) := by decide +kernel
theorem dX7_game_39 : decode cX7_game 39 = .ok (.iload_n 2, 1) := by decide +kernel
theorem dX7_game_40 : decode cX7_game 40 = .ok (.invokevirtual 168, 3) := by decide +kernel
theorem dX7_game_43 : decode cX7_game 43 = .ok (.istore 4, 2) := by decide +kernel
theorem dX7_game_45 : decode cX7_game 45 = .ok (.iload_n 3, 1) := by decide +kernel
theorem dX7_game_46 : decode cX7_game 46 = .ok (.ifCond .ne 8, 3) := by decide +kernel
theorem dX7_game_49 : decode cX7_game 49 = .ok (.iload 4, 2) := by decide +kernel
theorem dX7_game_51 : decode cX7_game 51 = .ok (.goto 10, 3) := by decide +kernel
theorem dX7_game_54 : decode cX7_game 54 = .ok (.aload_n 0, 1) := by decide +kernel
theorem dX7_game_55 : decode cX7_game 55 = .ok (.getfield 38, 3) := by decide +kernel
theorem dX7_game_58 : decode cX7_game 58 = .ok (.getfield 172, 3) := by decide +kernel
theorem dX7_game_61 : decode cX7_game 61 = .ok (.ireturn, 1) := by decide +kernel
theorem dX7_alike_0 : decode cX7_alike 0 = .ok (.aload_n 0, 1) := by decide +kernel
theorem dX7_alike_1 : decode cX7_alike 1 = .ok (.iconst 0, 1) := by decide +kernel
theorem dX7_alike_2 : decode cX7_alike 2 = .ok (.invokevirtual 128, 3) := by decide +kernel
theorem dX7_alike_5 : decode cX7_alike 5 = .ok (.getfield 140, 3) := by decide +kernel
theorem dX7_alike_8 : decode cX7_alike 8 = .ok (.astore_n 1, 1) := by decide +kernel
theorem dX7_alike_9 : decode cX7_alike 9 = .ok (.aload_n 0, 1) := by decide +kernel
theorem dX7_alike_10 : decode cX7_alike 10 = .ok (.iconst 1, 1) := by decide +kernel
theorem dX7_alike_11 : decode cX7_alike 11 = .ok (.invokevirtual 128, 3) := by decide +kernel
theorem dX7_alike_14 : decode cX7_alike 14 = .ok (.getfield 140, 3) := by decide +kernel
theorem dX7_alike_17 : decode cX7_alike 17 = .ok (.astore_n 2, 1) := by decide +kernel
theorem dX7_alike_18 : decode cX7_alike 18 = .ok (.aload_n 1, 1) := by decide +kernel
theorem dX7_alike_19 : decode cX7_alike 19 = .ok (.aload_n 2, 1) := by decide +kernel
theorem dX7_alike_20 : decode cX7_alike 20 = .ok (.invokevirtual 175, 3) := by decide +kernel
theorem dX7_alike_23 : decode cX7_alike 23 = .ok (.ifCond .ne 5, 3) := by decide +kernel
theorem dX7_alike_26 : decode cX7_alike 26 = .ok (.iconst 0, 1) := by decide +kernel
theorem dX7_alike_27 : decode cX7_alike 27 = .ok (.ireturn, 1) := by decide +kernel
theorem dX7_alike_28 : decode cX7_alike 28 = .ok (.aload_n 1, 1) := by decide +kernel
theorem dX7_alike_29 : decode cX7_alike 29 = .ok (.aload_n 2, 1) := by decide +kernel
theorem dX7_alike_30 : decode cX7_alike 30 = .ok (.invokevirtual 179, 3) := by decide +kernel
theorem dX7_alike_33 : decode cX7_alike 33 = .ok (.ifCond .eq 7, 3) := by decide +kernel
theorem dX7_alike_36 : decode cX7_alike 36 = .ok (.iconst 1, 1) := by decide +kernel
theorem dX7_alike_37 : decode cX7_alike 37 = .ok (.goto 4, 3) := by decide +kernel
theorem dX7_alike_40 : decode cX7_alike 40 = .ok (.iconst 2, 1) := by decide +kernel
theorem dX7_alike_41 : decode cX7_alike 41 = .ok (.ireturn, 1) := by decide +kernel
theorem dX7_sheet_0 : decode cX7_sheet 0 = .ok (.iload_n 1, 1) := by decide +kernel
theorem dX7_sheet_1 : decode cX7_sheet 1 = .ok (.iconst 4, 1) := by decide +kernel
theorem dX7_sheet_2 : decode cX7_sheet 2 = .ok (.invokestatic 60, 3) := by decide +kernel
theorem dX7_sheet_5 : decode cX7_sheet 5 = .ok (.ifCond .eq 17, 3) := by decide +kernel
theorem dX7_sheet_8 : decode cX7_sheet 8 = .ok (.iload_n 2, 1) := by decide +kernel
theorem dX7_sheet_9 : decode cX7_sheet 9 = .ok (.iconst 3, 1) := by decide +kernel
theorem dX7_sheet_10 : decode cX7_sheet 10 = .ok (.invokestatic 60, 3) := by decide +kernel
theorem dX7_sheet_13 : decode cX7_sheet 13 = .ok (.ifCond .eq 9, 3) := by decide +kernel
theorem dX7_sheet_16 : decode cX7_sheet 16 = .ok (.iload_n 3, 1) := by decide +kernel
theorem dX7_sheet_17 : decode cX7_sheet 17 = .ok (.bipush 60, 2) := by decide +kernel
theorem dX7_sheet_19 : decode cX7_sheet 19 = .ok (.if_icmp .le 6, 3) := by decide +kernel
theorem dX7_sheet_22 : decode cX7_sheet 22 = .ok (.bipush (-2), 2) := by decide +kernel
theorem dX7_sheet_24 : decode cX7_sheet 24 = .ok (.ireturn, 1) := by decide +kernel
theorem dX7_sheet_25 : decode cX7_sheet 25 = .ok (.iload_n 3, 1) := by decide +kernel
theorem dX7_sheet_26 : decode cX7_sheet 26 = .ok (.ifCond .ge 9, 3) := by decide +kernel
theorem dX7_sheet_29 : decode cX7_sheet 29 = .ok (.aload_n 0, 1) := by decide +kernel
theorem dX7_sheet_30 : decode cX7_sheet 30 = .ok (.iconst 5, 1) := by decide +kernel
theorem dX7_sheet_31 : decode cX7_sheet 31 = .ok (.invokevirtual 113, 3) := by decide +kernel
theorem dX7_sheet_34 : decode cX7_sheet 34 = .ok (.ireturn, 1) := by decide +kernel
theorem dX7_sheet_35 : decode cX7_sheet 35 = .ok (.aload_n 0, 1) := by decide +kernel
theorem dX7_sheet_36 : decode cX7_sheet 36 = .ok (.getfield 51, 3) := by decide +kernel
theorem dX7_sheet_39 : decode cX7_sheet 39 = .ok (.iload_n 1, 1) := by decide +kernel
theorem dX7_sheet_40 : decode cX7_sheet 40 = .ok (.aaload, 1) := by decide +kernel
theorem dX7_sheet_41 : decode cX7_sheet 41 = .ok (.iload_n 2, 1) := by decide +kernel
theorem dX7_sheet_42 : decode cX7_sheet 42 = .ok (.iload_n 3, 1) := by decide +kernel
theorem dX7_sheet_43 : decode cX7_sheet 43 = .ok (.invokevirtual 182, 3) := by decide +kernel
theorem dX7_sheet_46 : decode cX7_sheet 46 = .ok (.iload_n 3, 1) := by decide +kernel
theorem dX7_sheet_47 : decode cX7_sheet 47 = .ok (.ireturn, 1) := by decide +kernel
theorem dX7_lose_0 : decode cX7_lose 0 = .ok (.iload_n 1, 1) := by decide +kernel
theorem dX7_lose_1 : decode cX7_lose 1 = .ok (.iconst 4, 1) := by decide +kernel
theorem dX7_lose_2 : decode cX7_lose 2 = .ok (.invokestatic 60, 3) := by decide +kernel
theorem dX7_lose_5 : decode cX7_lose 5 = .ok (.ifCond .ne 6, 3) := by decide +kernel
theorem dX7_lose_8 : decode cX7_lose 8 = .ok (.bipush (-2), 2) := by decide +kernel
theorem dX7_lose_10 : decode cX7_lose 10 = .ok (.ireturn, 1) := by decide +kernel
theorem dX7_lose_11 : decode cX7_lose 11 = .ok (.aload_n 0, 1) := by decide +kernel
theorem dX7_lose_12 : decode cX7_lose 12 = .ok (.getfield 51, 3) := by decide +kernel
theorem dX7_lose_15 : decode cX7_lose 15 = .ok (.iload_n 1, 1) := by decide +kernel
theorem dX7_lose_16 : decode cX7_lose 16 = .ok (.aaload, 1) := by decide +kernel
theorem dX7_lose_17 : decode cX7_lose 17 = .ok (.astore_n 2, 1) := by decide +kernel
theorem dX7_lose_18 : decode cX7_lose 18 = .ok (.aload_n 2, 1) := by decide +kernel
theorem dX7_lose_19 : decode cX7_lose 19 = .ok (.getfield 110, 3) := by decide +kernel
theorem dX7_lose_22 : decode cX7_lose 22 = .ok (.iconst (-1), 1) := by decide +kernel
theorem dX7_lose_23 : decode cX7_lose 23 = .ok (.if_icmp .ne 9, 3) := by decide +kernel
theorem dX7_lose_26 : decode cX7_lose 26 = .ok (.aload_n 0, 1) := by decide +kernel
theorem dX7_lose_27 : decode cX7_lose 27 = .ok (.iconst 1, 1) := by decide +kernel
theorem dX7_lose_28 : decode cX7_lose 28 = .ok (.invokevirtual 113, 3) := by decide +kernel
theorem dX7_lose_31 : decode cX7_lose 31 = .ok (.ireturn, 1) := by decide +kernel
theorem dX7_lose_32 : decode cX7_lose 32 = .ok (.aload_n 2, 1) := by decide +kernel
theorem dX7_lose_33 : decode cX7_lose 33 = .ok (.getfield 121, 3) := by decide +kernel
theorem dX7_lose_36 : decode cX7_lose 36 = .ok (.istore_n 3, 1) := by decide +kernel
theorem dX7_lose_37 : decode cX7_lose 37 = .ok (.aload_n 2, 1) := by decide +kernel
theorem dX7_lose_38 : decode cX7_lose 38 = .ok (.iconst (-1), 1) := by decide +kernel
theorem dX7_lose_39 : decode cX7_lose 39 = .ok (.iconst 0, 1) := by decide +kernel
theorem dX7_lose_40 : decode cX7_lose 40 = .ok (.invokevirtual 182, 3) := by decide +kernel
theorem dX7_lose_43 : decode cX7_lose 43 = .ok (.iload_n 3, 1) := by decide +kernel
theorem dX7_lose_44 : decode cX7_lose 44 = .ok (.ireturn, 1) := by decide +kernel
theorem dX7_lay_0 : decode cX7_lay 0 = .ok (.iload_n 1, 1) := by decide +kernel
theorem dX7_lay_1 : decode cX7_lay 1 = .ok (.iconst 4, 1) := by decide +kernel
theorem dX7_lay_2 : decode cX7_lay 2 = .ok (.invokestatic 60, 3) := by decide +kernel
theorem dX7_lay_5 : decode cX7_lay 5 = .ok (.ifCond .eq 11, 3) := by decide +kernel
theorem dX7_lay_8 : decode cX7_lay 8 = .ok (.iload_n 2, 1) := by decide +kernel
theorem dX7_lay_9 : decode cX7_lay 9 = .ok (.iconst 3, 1) := by decide +kernel
theorem dX7_lay_10 : decode cX7_lay 10 = .ok (.invokestatic 60, 3) := by decide +kernel
theorem dX7_lay_13 : decode cX7_lay 13 = .ok (.ifCond .ne 6, 3) := by decide +kernel
theorem dX7_lay_16 : decode cX7_lay 16 = .ok (.bipush (-2), 2) := by decide +kernel
theorem dX7_lay_18 : decode cX7_lay 18 = .ok (.ireturn, 1) := by decide +kernel
theorem dX7_lay_19 : decode cX7_lay 19 = .ok (.aload_n 0, 1) := by decide +kernel
theorem dX7_lay_20 : decode cX7_lay 20 = .ok (.getfield 51, 3) := by decide +kernel
theorem dX7_lay_23 : decode cX7_lay 23 = .ok (.iload_n 1, 1) := by decide +kernel
theorem dX7_lay_24 : decode cX7_lay 24 = .ok (.aaload, 1) := by decide +kernel
theorem dX7_lay_25 : decode cX7_lay 25 = .ok (.astore 5, 2) := by decide +kernel
theorem dX7_lay_27 : decode cX7_lay 27 = .ok (.aload 5, 2) := by decide +kernel
theorem dX7_lay_29 : decode cX7_lay 29 = .ok (.iload_n 2, 1) := by decide +kernel
theorem dX7_lay_30 : decode cX7_lay 30 = .ok (.iload_n 3, 1) := by decide +kernel
theorem dX7_lay_31 : decode cX7_lay 31 = .ok (.invokevirtual 186, 3) := by decide +kernel
theorem dX7_lay_34 : decode cX7_lay 34 = .ok (.istore 6, 2) := by decide +kernel
theorem dX7_lay_36 : decode cX7_lay 36 = .ok (.iload 6, 2) := by decide +kernel
theorem dX7_lay_38 : decode cX7_lay 38 = .ok (.ifCond .eq 10, 3) := by decide +kernel
theorem dX7_lay_41 : decode cX7_lay 41 = .ok (.aload_n 0, 1) := by decide +kernel
theorem dX7_lay_42 : decode cX7_lay 42 = .ok (.iload 6, 2) := by decide +kernel
theorem dX7_lay_44 : decode cX7_lay 44 = .ok (.invokevirtual 113, 3) := by decide +kernel
theorem dX7_lay_47 : decode cX7_lay 47 = .ok (.ireturn, 1) := by decide +kernel
theorem dX7_lay_48 : decode cX7_lay 48 = .ok (.aload 5, 2) := by decide +kernel
theorem dX7_lay_50 : decode cX7_lay 50 = .ok (.iload_n 3, 1) := by decide +kernel
theorem dX7_lay_51 : decode cX7_lay 51 = .ok (.iload 4, 2) := by decide +kernel
theorem dX7_lay_53 : decode cX7_lay 53 = .ok (.invokevirtual 189, 3) := by decide +kernel
theorem dX7_lay_56 : decode cX7_lay 56 = .ok (.iconst 1, 1) := by decide +kernel
theorem dX7_lay_57 : decode cX7_lay 57 = .ok (.ireturn, 1) := by decide +kernel
theorem dX7_get_0 : decode cX7_get 0 = .ok (.iload_n 1, 1) := by decide +kernel
theorem dX7_get_1 : decode cX7_get 1 = .ok (.iconst 4, 1) := by decide +kernel
theorem dX7_get_2 : decode cX7_get 2 = .ok (.invokestatic 60, 3) := by decide +kernel
theorem dX7_get_5 : decode cX7_get 5 = .ok (.ifCond .eq 11, 3) := by decide +kernel
theorem dX7_get_8 : decode cX7_get 8 = .ok (.iload_n 2, 1) := by decide +kernel
theorem dX7_get_9 : decode cX7_get 9 = .ok (.iconst 3, 1) := by decide +kernel
theorem dX7_get_10 : decode cX7_get 10 = .ok (.invokestatic 60, 3) := by decide +kernel
theorem dX7_get_13 : decode cX7_get 13 = .ok (.ifCond .ne 6, 3) := by decide +kernel
theorem dX7_get_16 : decode cX7_get 16 = .ok (.ldc 192, 2) := by decide +kernel
theorem dX7_get_18 : decode cX7_get 18 = .ok (.ireturn, 1) := by decide +kernel
theorem dX7_get_19 : decode cX7_get 19 = .ok (.aload_n 0, 1) := by decide +kernel
theorem dX7_get_20 : decode cX7_get 20 = .ok (.getfield 51, 3) := by decide +kernel
theorem dX7_get_23 : decode cX7_get 23 = .ok (.iload_n 1, 1) := by decide +kernel
theorem dX7_get_24 : decode cX7_get 24 = .ok (.aaload, 1) := by decide +kernel
theorem dX7_get_25 : decode cX7_get 25 = .ok (.astore 4, 2) := by decide +kernel
theorem dX7_get_27 : decode cX7_get 27 = .ok (.aload 4, 2) := by decide +kernel
theorem dX7_get_29 : decode cX7_get 29 = .ok (.iload_n 2, 1) := by decide +kernel
theorem dX7_get_30 : decode cX7_get 30 = .ok (.iload_n 3, 1) := by decide +kernel
theorem dX7_get_31 : decode cX7_get 31 = .ok (.invokevirtual 186, 3) := by decide +kernel
theorem dX7_get_34 : decode cX7_get 34 = .ok (.istore 5, 2) := by decide +kernel
theorem dX7_get_36 : decode cX7_get 36 = .ok (.iload 5, 2) := by decide +kernel
theorem dX7_get_38 : decode cX7_get 38 = .ok (.ifCond .eq 13, 3) := by decide +kernel
theorem dX7_get_41 : decode cX7_get 41 = .ok (.aload_n 0, 1) := by decide +kernel
theorem dX7_get_42 : decode cX7_get 42 = .ok (.iload 5, 2) := by decide +kernel
theorem dX7_get_44 : decode cX7_get 44 = .ok (.invokevirtual 113, 3) := by decide +kernel
theorem dX7_get_47 : decode cX7_get 47 = .ok (.pop, 1) := by decide +kernel
theorem dX7_get_48 : decode cX7_get 48 = .ok (.ldc 192, 2) := by decide +kernel
theorem dX7_get_50 : decode cX7_get 50 = .ok (.ireturn, 1) := by decide +kernel
theorem dX7_get_51 : decode cX7_get 51 = .ok (.aload 4, 2) := by decide +kernel
theorem dX7_get_53 : decode cX7_get 53 = .ok (.iload_n 3, 1) := by decide +kernel
theorem dX7_get_54 : decode cX7_get 54 = .ok (.invokevirtual 193, 3) := by decide +kernel
theorem dX7_get_57 : decode cX7_get 57 = .ok (.ireturn, 1) := by decide +kernel
theorem dX7_copy_0 : decode cX7_copy 0 = .ok (.iload_n 1, 1) := by decide +kernel
theorem dX7_copy_1 : decode cX7_copy 1 = .ok (.iconst 4, 1) := by decide +kernel
theorem dX7_copy_2 : decode cX7_copy 2 = .ok (.invokestatic 60, 3) := by decide +kernel
theorem dX7_copy_5 : decode cX7_copy 5 = .ok (.ifCond .eq 11, 3) := by decide +kernel
theorem dX7_copy_8 : decode cX7_copy 8 = .ok (.iload_n 3, 1) := by decide +kernel
theorem dX7_copy_9 : decode cX7_copy 9 = .ok (.iconst 4, 1) := by decide +kernel
theorem dX7_copy_10 : decode cX7_copy 10 = .ok (.invokestatic 60, 3) := by decide +kernel
theorem dX7_copy_13 : decode cX7_copy 13 = .ok (.ifCond .ne 6, 3) := by decide +kernel
theorem dX7_copy_16 : decode cX7_copy 16 = .ok (.bipush (-2), 2) := by decide +kernel
theorem dX7_copy_18 : decode cX7_copy 18 = .ok (.ireturn, 1) := by decide +kernel
theorem dX7_copy_19 : decode cX7_copy 19 = .ok (.aload_n 0, 1) := by decide +kernel
theorem dX7_copy_20 : decode cX7_copy 20 = .ok (.getfield 51, 3) := by decide +kernel
theorem dX7_copy_23 : decode cX7_copy 23 = .ok (.iload_n 1, 1) := by decide +kernel
theorem dX7_copy_24 : decode cX7_copy 24 = .ok (.aaload, 1) := by decide +kernel
theorem dX7_copy_25 : decode cX7_copy 25 = .ok (.astore 6, 2) := by decide +kernel
theorem dX7_copy_27 : decode cX7_copy 27 = .ok (.aload_n 0, 1) := by decide +kernel
theorem dX7_copy_28 : decode cX7_copy 28 = .ok (.getfield 51, 3) := by decide +kernel
theorem dX7_copy_31 : decode cX7_copy 31 = .ok (.iload_n 3, 1) := by decide +kernel
theorem dX7_copy_32 : decode cX7_copy 32 = .ok (.aaload, 1) := by decide +kernel
theorem dX7_copy_33 : decode cX7_copy 33 = .ok (.astore 7, 2) := by decide +kernel
theorem dX7_copy_35 : decode cX7_copy 35 = .ok (.aload 6, 2) := by decide +kernel
theorem dX7_copy_37 : decode cX7_copy 37 = .ok (.getfield 110, 3) := by decide +kernel
theorem dX7_copy_40 : decode cX7_copy 40 = .ok (.iconst (-1), 1) := by decide +kernel
theorem dX7_copy_41 : decode cX7_copy 41 = .ok (.if_icmp .eq 12, 3) := by decide +kernel
theorem dX7_copy_44 : decode cX7_copy 44 = .ok (.aload 7, 2) := by decide +kernel
theorem dX7_copy_46 : decode cX7_copy 46 = .ok (.getfield 110, 3) := by decide +kernel
theorem dX7_copy_49 : decode cX7_copy 49 = .ok (.iconst (-1), 1) := by decide +kernel
theorem dX7_copy_50 : decode cX7_copy 50 = .ok (.if_icmp .ne 9, 3) := by decide +kernel
theorem dX7_copy_53 : decode cX7_copy 53 = .ok (.aload_n 0, 1) := by decide +kernel
theorem dX7_copy_54 : decode cX7_copy 54 = .ok (.iconst 1, 1) := by decide +kernel
theorem dX7_copy_55 : decode cX7_copy 55 = .ok (.invokevirtual 113, 3) := by decide +kernel
theorem dX7_copy_58 : decode cX7_copy 58 = .ok (.ireturn, 1) := by decide +kernel
theorem dX7_copy_59 : decode cX7_copy 59 = .ok (.aload 6, 2) := by decide +kernel
theorem dX7_copy_61 : decode cX7_copy 61 = .ok (.getfield 110, 3) := by decide +kernel
theorem dX7_copy_64 : decode cX7_copy 64 = .ok (.aload 7, 2) := by decide +kernel
theorem dX7_copy_66 : decode cX7_copy 66 = .ok (.getfield 110, 3) := by decide +kernel
theorem dX7_copy_69 : decode cX7_copy 69 = .ok (.if_icmp .eq 9, 3) := by decide +kernel
theorem dX7_copy_72 : decode cX7_copy 72 = .ok (.aload_n 0, 1) := by decide +kernel
theorem dX7_copy_73 : decode cX7_copy 73 = .ok (.iconst 4, 1) := by decide +kernel
theorem dX7_copy_74 : decode cX7_copy 74 = .ok (.invokevirtual 113, 3) := by decide +kernel
theorem dX7_copy_77 : decode cX7_copy 77 = .ok (.ireturn, 1) := by decide +kernel
theorem dX7_copy_78 : decode cX7_copy 78 = .ok (.aload 6, 2) := by decide +kernel
theorem dX7_copy_80 : decode cX7_copy 80 = .ok (.iload_n 2, 1) := by decide +kernel
theorem dX7_copy_81 : decode cX7_copy 81 = .ok (.iload 5, 2) := by decide +kernel
theorem dX7_copy_83 : decode cX7_copy 83 = .ok (.invokevirtual 196, 3) := by decide +kernel
theorem dX7_copy_86 : decode cX7_copy 86 = .ok (.ifCond .eq 15, 3) := by decide +kernel
theorem dX7_copy_89 : decode cX7_copy 89 = .ok (.aload 7, 2) := by decide +kernel
theorem dX7_copy_91 : decode cX7_copy 91 = .ok (.iload 4, 2) := by decide +kernel
theorem dX7_copy_93 : decode cX7_copy 93 = .ok (.iload 5, 2) := by decide +kernel
theorem dX7_copy_95 : decode cX7_copy 95 = .ok (.invokevirtual 196, 3) := by decide +kernel
theorem dX7_copy_98 : decode cX7_copy 98 = .ok (.ifCond .ne 9, 3) := by decide +kernel
theorem dX7_copy_101 : decode cX7_copy 101 = .ok (.aload_n 0, 1) := by decide +kernel
theorem dX7_copy_102 : decode cX7_copy 102 = .ok (.iconst 2, 1) := by decide +kernel
theorem dX7_copy_103 : decode cX7_copy 103 = .ok (.invokevirtual 113, 3) := by decide +kernel
theorem dX7_copy_106 : decode cX7_copy 106 = .ok (.ireturn, 1) := by decide +kernel
theorem dX7_copy_107 : decode cX7_copy 107 = .ok (.aload 6, 2) := by decide +kernel
theorem dX7_copy_109 : decode cX7_copy 109 = .ok (.getfield 122, 3) := by decide +kernel
theorem dX7_copy_112 : decode cX7_copy 112 = .ok (.iload_n 2, 1) := by decide +kernel
theorem dX7_copy_113 : decode cX7_copy 113 = .ok (.aload 7, 2) := by decide +kernel
theorem dX7_copy_115 : decode cX7_copy 115 = .ok (.getfield 122, 3) := by decide +kernel
theorem dX7_copy_118 : decode cX7_copy 118 = .ok (.iload 4, 2) := by decide +kernel
theorem dX7_copy_120 : decode cX7_copy 120 = .ok (.iload 5, 2) := by decide +kernel
theorem dX7_copy_122 : decode cX7_copy 122 = .ok (.invokestatic 199, 3) := by decide +kernel
theorem dX7_copy_125 : decode cX7_copy 125 = .ok (.iconst 1, 1) := by decide +kernel
theorem dX7_copy_126 : decode cX7_copy 126 = .ok (.ireturn, 1) := by decide +kernel
theorem dX7_write_0 : decode cX7_write 0 = .ok (.iload_n 1, 1) := by decide +kernel
theorem dX7_write_1 : decode cX7_write 1 = .ok (.iconst 2, 1) := by decide +kernel
theorem dX7_write_2 : decode cX7_write 2 = .ok (.invokestatic 60, 3) := by decide +kernel
theorem dX7_write_5 : decode cX7_write 5 = .ok (.ifCond .eq 11, 3) := by decide +kernel
theorem dX7_write_8 : decode cX7_write 8 = .ok (.iload_n 2, 1) := by decide +kernel
theorem dX7_write_9 : decode cX7_write 9 = .ok (.iconst 4, 1) := by decide +kernel
theorem dX7_write_10 : decode cX7_write 10 = .ok (.invokestatic 60, 3) := by decide +kernel
theorem dX7_write_13 : decode cX7_write 13 = .ok (.ifCond .ne 6, 3) := by decide +kernel
theorem dX7_write_16 : decode cX7_write 16 = .ok (.bipush (-2), 2) := by decide +kernel
theorem dX7_write_18 : decode cX7_write 18 = .ok (.ireturn, 1) := by decide +kernel
theorem dX7_write_19 : decode cX7_write 19 = .ok (.aload_n 0, 1) := by decide +kernel
theorem dX7_write_20 : decode cX7_write 20 = .ok (.getfield 51, 3) := by decide +kernel
theorem dX7_write_23 : decode cX7_write 23 = .ok (.iload_n 2, 1) := by decide +kernel
theorem dX7_write_24 : decode cX7_write 24 = .ok (.aaload, 1) := by decide +kernel
theorem dX7_write_25 : decode cX7_write 25 = .ok (.astore_n 3, 1) := by decide +kernel
theorem dX7_write_26 : decode cX7_write 26 = .ok (.aload_n 3, 1) := by decide +kernel
theorem dX7_write_27 : decode cX7_write 27 = .ok (.getfield 110, 3) := by decide +kernel
theorem dX7_write_30 : decode cX7_write 30 = .ok (.iconst (-1), 1) := by decide +kernel
theorem dX7_write_31 : decode cX7_write 31 = .ok (.if_icmp .ne 9, 3) := by decide +kernel
theorem dX7_write_34 : decode cX7_write 34 = .ok (.aload_n 0, 1) := by decide +kernel
theorem dX7_write_35 : decode cX7_write 35 = .ok (.iconst 1, 1) := by decide +kernel
theorem dX7_write_36 : decode cX7_write 36 = .ok (.invokevirtual 113, 3) := by decide +kernel
theorem dX7_write_39 : decode cX7_write 39 = .ok (.ireturn, 1) := by decide +kernel
theorem dX7_write_40 : decode cX7_write 40 = .ok (.aload_n 0, 1) := by decide +kernel
theorem dX7_write_41 : decode cX7_write 41 = .ok (.iload_n 1, 1) := by decide +kernel
theorem dX7_write_42 : decode cX7_write 42 = .ok (.invokevirtual 128, 3) := by decide +kernel
theorem dX7_write_45 : decode cX7_write 45 = .ok (.getfield 140, 3) := by decide +kernel
theorem dX7_write_48 : decode cX7_write 48 = .ok (.astore 4, 2) := by decide +kernel
theorem dX7_write_50 : decode cX7_write 50 = .ok (.aload_n 3, 1) := by decide +kernel
theorem dX7_write_51 : decode cX7_write 51 = .ok (.getfield 121, 3) := by decide +kernel
theorem dX7_write_54 : decode cX7_write 54 = .ok (.aload 4, 2) := by decide +kernel
theorem dX7_write_56 : decode cX7_write 56 = .ok (.getfield 154, 3) := by decide +kernel
theorem dX7_write_59 : decode cX7_write 59 = .ok (.invokestatic 205, 3) := by decide +kernel
theorem dX7_write_62 : decode cX7_write 62 = .ok (.istore 5, 2) := by decide +kernel
theorem dX7_write_64 : decode cX7_write 64 = .ok (.iconst 0, 1) := by decide +kernel
theorem dX7_write_65 : decode cX7_write 65 = .ok (.istore 6, 2) := by decide +kernel
theorem dX7_write_67 : decode cX7_write 67 = .ok (.iload 6, 2) := by decide +kernel
theorem dX7_write_69 : decode cX7_write 69 = .ok (.iload 5, 2) := by decide +kernel
theorem dX7_write_71 : decode cX7_write 71 = .ok (.if_icmp .ge 22, 3) := by decide +kernel
theorem dX7_write_74 : decode cX7_write 74 = .ok (.aload_n 3, 1) := by decide +kernel
theorem dX7_write_75 : decode cX7_write 75 = .ok (.iload 6, 2) := by decide +kernel
theorem dX7_write_77 : decode cX7_write 77 = .ok (.aload 4, 2) := by decide +kernel
theorem dX7_write_79 : decode cX7_write 79 = .ok (.iload 6, 2) := by decide +kernel
theorem dX7_write_81 : decode cX7_write 81 = .ok (.invokevirtual 143, 3) := by decide +kernel
theorem dX7_write_84 : decode cX7_write 84 = .ok (.invokevirtual 189, 3) := by decide +kernel
theorem dX7_write_87 : decode cX7_write 87 = .ok (.iinc 6 1, 3) := by decide +kernel
theorem dX7_write_90 : decode cX7_write 90 = .ok (.goto (-23), 3) := by decide +kernel
theorem dX7_write_93 : decode cX7_write 93 = .ok (.iload 5, 2) := by decide +kernel
theorem dX7_write_95 : decode cX7_write 95 = .ok (.ireturn, 1) := by decide +kernel
theorem dX7_count_0 : decode cX7_count 0 = .ok (.iload_n 1, 1) := by decide +kernel
theorem dX7_count_1 : decode cX7_count 1 = .ok (.bipush 9, 2) := by decide +kernel
theorem dX7_count_3 : decode cX7_count 3 = .ok (.invokestatic 60, 3) := by decide +kernel
theorem dX7_count_6 : decode cX7_count 6 = .ok (.ifCond .ne 6, 3) := by decide +kernel
theorem dX7_count_9 : decode cX7_count 9 = .ok (.bipush (-2), 2) := by decide +kernel
theorem dX7_count_11 : decode cX7_count 11 = .ok (.ireturn, 1) := by decide +kernel
theorem dX7_count_12 : decode cX7_count 12 = .ok (.iload_n 1, 1) := by decide +kernel
theorem dX7_count_13 : decode cX7_count 13 = .ok (.tableswitch 99 0 8 #[51, 99, 99, 99, 59, 67, 76, 85, 94], 51) := by decide +kernel
theorem dX7_count_64 : decode cX7_count 64 = .ok (.aload_n 0, 1) := by decide +kernel
theorem dX7_count_65 : decode cX7_count 65 = .ok (.getfield 12, 3) := by decide +kernel
theorem dX7_count_68 : decode cX7_count 68 = .ok (.getfield 83, 3) := by decide +kernel
theorem dX7_count_71 : decode cX7_count 71 = .ok (.ireturn, 1) := by decide +kernel
theorem dX7_count_72 : decode cX7_count 72 = .ok (.aload_n 0, 1) := by decide +kernel
theorem dX7_count_73 : decode cX7_count 73 = .ok (.getfield 12, 3) := by decide +kernel
theorem dX7_count_76 : decode cX7_count 76 = .ok (.invokevirtual 210, 3) := by decide +kernel
theorem dX7_count_79 : decode cX7_count 79 = .ok (.ireturn, 1) := by decide +kernel
theorem dX7_count_80 : decode cX7_count 80 = .ok (.aload_n 0, 1) := by decide +kernel
theorem dX7_count_81 : decode cX7_count 81 = .ok (.getfield 12, 3) := by decide +kernel
theorem dX7_count_84 : decode cX7_count 84 = .ok (.iconst 0, 1) := by decide +kernel
theorem dX7_count_85 : decode cX7_count 85 = .ok (.invokevirtual 213, 3) := by decide +kernel
theorem dX7_count_88 : decode cX7_count 88 = .ok (.ireturn, 1) := by decide +kernel
theorem dX7_count_89 : decode cX7_count 89 = .ok (.aload_n 0, 1) := by decide +kernel
theorem dX7_count_90 : decode cX7_count 90 = .ok (.iconst 0, 1) := by decide +kernel
theorem dX7_count_91 : decode cX7_count 91 = .ok (.invokevirtual 128, 3) := by decide +kernel
theorem dX7_count_94 : decode cX7_count 94 = .ok (.getfield 131, 3) := by decide +kernel
theorem dX7_count_97 : decode cX7_count 97 = .ok (.ireturn, 1) := by decide +kernel
theorem dX7_count_98 : decode cX7_count 98 = .ok (.aload_n 0, 1) := by decide +kernel
theorem dX7_count_99 : decode cX7_count 99 = .ok (.iconst 1, 1) := by decide +kernel
theorem dX7_count_100 : decode cX7_count 100 = .ok (.invokevirtual 128, 3) := by decide +kernel
theorem dX7_count_103 : decode cX7_count 103 = .ok (.getfield 131, 3) := by decide +kernel
theorem dX7_count_106 : decode cX7_count 106 = .ok (.ireturn, 1) := by decide +kernel
theorem dX7_count_107 : decode cX7_count 107 = .ok (.aload_n 0, 1) := by decide +kernel
theorem dX7_count_108 : decode cX7_count 108 = .ok (.getfield 55, 3) := by decide +kernel
theorem dX7_count_111 : decode cX7_count 111 = .ok (.ireturn, 1) := by decide +kernel
theorem dX7_count_112 : decode cX7_count 112 = .ok (.aload_n 0, 1) := by decide +kernel
theorem dX7_count_113 : decode cX7_count 113 = .ok (.iload_n 1, 1) := by decide +kernel
theorem dX7_count_114 : decode cX7_count 114 = .ok (.iconst 1, 1) := by decide +kernel
theorem dX7_count_115 : decode cX7_count 115 = .ok (.isub, 1) := by decide +kernel
theorem dX7_count_116 : decode cX7_count 116 = .ok (.invokevirtual 64, 3) := by decide +kernel
theorem dX7_count_119 : decode cX7_count 119 = .ok (.getfield 68, 3) := by decide +kernel
theorem dX7_count_122 : decode cX7_count 122 = .ok (.ireturn, 1) := by decide +kernel
theorem dX7_digest_0 : decode cX7_digest 0 = .ok (.ldc2_w 216, 3) := by decide +kernel
theorem dX7_digest_3 : decode cX7_digest 3 = .ok (.lstore_n 1, 1) := by decide +kernel
theorem dX7_digest_4 : decode cX7_digest 4 = .ok (.iconst 0, 1) := by decide +kernel
theorem dX7_digest_5 : decode cX7_digest 5 = .ok (.istore_n 3, 1) := by decide +kernel
theorem dX7_digest_6 : decode cX7_digest 6 = .ok (.iload_n 3, 1) := by decide +kernel
theorem dX7_digest_7 : decode cX7_digest 7 = .ok (.bipush 8, 2) := by decide +kernel
theorem dX7_digest_9 : decode cX7_digest 9 = .ok (.if_icmp .ge 22, 3) := by decide +kernel
theorem dX7_digest_12 : decode cX7_digest 12 = .ok (.ldc2_w 218, 3) := by decide +kernel
theorem dX7_digest_15 : decode cX7_digest 15 = .ok (.lload_n 1, 1) := by decide +kernel
theorem dX7_digest_16 : decode cX7_digest 16 = .ok (.lmul, 1) := by decide +kernel
theorem dX7_digest_17 : decode cX7_digest 17 = .ok (.aload_n 0, 1) := by decide +kernel
theorem dX7_digest_18 : decode cX7_digest 18 = .ok (.iload_n 3, 1) := by decide +kernel
theorem dX7_digest_19 : decode cX7_digest 19 = .ok (.invokevirtual 220, 3) := by decide +kernel
theorem dX7_digest_22 : decode cX7_digest 22 = .ok (.i2l, 1) := by decide +kernel
theorem dX7_digest_23 : decode cX7_digest 23 = .ok (.ladd, 1) := by decide +kernel
theorem dX7_digest_24 : decode cX7_digest 24 = .ok (.lstore_n 1, 1) := by decide +kernel
theorem dX7_digest_25 : decode cX7_digest 25 = .ok (.iinc 3 1, 3) := by decide +kernel
theorem dX7_digest_28 : decode cX7_digest 28 = .ok (.goto (-22), 3) := by decide +kernel
theorem dX7_digest_31 : decode cX7_digest 31 = .ok (.ldc2_w 218, 3) := by decide +kernel
theorem dX7_digest_34 : decode cX7_digest 34 = .ok (.lload_n 1, 1) := by decide +kernel
theorem dX7_digest_35 : decode cX7_digest 35 = .ok (.lmul, 1) := by decide +kernel
theorem dX7_digest_36 : decode cX7_digest 36 = .ok (.aload_n 0, 1) := by decide +kernel
theorem dX7_digest_37 : decode cX7_digest 37 = .ok (.invokevirtual 223, 3) := by decide +kernel
theorem dX7_digest_40 : decode cX7_digest 40 = .ok (.i2l, 1) := by decide +kernel
theorem dX7_digest_41 : decode cX7_digest 41 = .ok (.ladd, 1) := by decide +kernel
theorem dX7_digest_42 : decode cX7_digest 42 = .ok (.lstore_n 1, 1) := by decide +kernel
theorem dX7_digest_43 : decode cX7_digest 43 = .ok (.iconst 0, 1) := by decide +kernel
theorem dX7_digest_44 : decode cX7_digest 44 = .ok (.istore_n 3, 1) := by decide +kernel
theorem dX7_digest_45 : decode cX7_digest 45 = .ok (.iload_n 3, 1) := by decide +kernel
theorem dX7_digest_46 : decode cX7_digest 46 = .ok (.aload_n 0, 1) := by decide +kernel
theorem dX7_digest_47 : decode cX7_digest 47 = .ok (.getfield 12, 3) := by decide +kernel
theorem dX7_digest_50 : decode cX7_digest 50 = .ok (.getfield 83, 3) := by decide +kernel
theorem dX7_digest_53 : decode cX7_digest 53 = .ok (.if_icmp .ge 39, 3) := by decide +kernel
theorem dX7_digest_56 : decode cX7_digest 56 = .ok (.iconst 0, 1) := by decide +kernel
theorem dX7_digest_57 : decode cX7_digest 57 = .ok (.istore 4, 2) := by decide +kernel
theorem dX7_digest_59 : decode cX7_digest 59 = .ok (.iload 4, 2) := by decide +kernel
theorem dX7_digest_61 : decode cX7_digest 61 = .ok (.iconst 3, 1) := by decide +kernel
theorem dX7_digest_62 : decode cX7_digest 62 = .ok (.if_icmp .ge 24, 3) := by decide +kernel
theorem dX7_digest_65 : decode cX7_digest 65 = .ok (.ldc2_w 218, 3) := by decide +kernel
theorem dX7_digest_68 : decode cX7_digest 68 = .ok (.lload_n 1, 1) := by decide +kernel
theorem dX7_digest_69 : decode cX7_digest 69 = .ok (.lmul, 1) := by decide +kernel
theorem dX7_digest_70 : decode cX7_digest 70 = .ok (.aload_n 0, 1) := by decide +kernel
theorem dX7_digest_71 : decode cX7_digest 71 = .ok (.iload_n 3, 1) := by decide +kernel
theorem dX7_digest_72 : decode cX7_digest 72 = .ok (.iload 4, 2) := by decide +kernel
theorem dX7_digest_74 : decode cX7_digest 74 = .ok (.invokevirtual 226, 3) := by decide +kernel
theorem dX7_digest_77 : decode cX7_digest 77 = .ok (.i2l, 1) := by decide +kernel
theorem dX7_digest_78 : decode cX7_digest 78 = .ok (.ladd, 1) := by decide +kernel
theorem dX7_digest_79 : decode cX7_digest 79 = .ok (.lstore_n 1, 1) := by decide +kernel
theorem dX7_digest_80 : decode cX7_digest 80 = .ok (.iinc 4 1, 3) := by decide +kernel
theorem dX7_digest_83 : decode cX7_digest 83 = .ok (.goto (-24), 3) := by decide +kernel
theorem dX7_digest_86 : decode cX7_digest 86 = .ok (.iinc 3 1, 3) := by decide +kernel
theorem dX7_digest_89 : decode cX7_digest 89 = .ok (.goto (-44), 3) := by decide +kernel
theorem dX7_digest_92 : decode cX7_digest 92 = .ok (.iconst 0, 1) := by decide +kernel
theorem dX7_digest_93 : decode cX7_digest 93 = .ok (.istore_n 3, 1) := by decide +kernel
theorem dX7_digest_94 : decode cX7_digest 94 = .ok (.iload_n 3, 1) := by decide +kernel
theorem dX7_digest_95 : decode cX7_digest 95 = .ok (.iconst 2, 1) := by decide +kernel
theorem dX7_digest_96 : decode cX7_digest 96 = .ok (.if_icmp .ge 195, 3) := by decide +kernel
theorem dX7_digest_99 : decode cX7_digest 99 = .ok (.aload_n 0, 1) := by decide +kernel
theorem dX7_digest_100 : decode cX7_digest 100 = .ok (.iload_n 3, 1) := by decide +kernel
theorem dX7_digest_101 : decode cX7_digest 101 = .ok (.invokevirtual 128, 3) := by decide +kernel
theorem dX7_digest_104 : decode cX7_digest 104 = .ok (.getfield 131, 3) := by decide +kernel
theorem dX7_digest_107 : decode cX7_digest 107 = .ok (.istore 4, 2) := by decide +kernel
theorem dX7_digest_109 : decode cX7_digest 109 = .ok (.ldc2_w 218, 3) := by decide +kernel
theorem dX7_digest_112 : decode cX7_digest 112 = .ok (.lload_n 1, 1) := by decide +kernel
theorem dX7_digest_113 : decode cX7_digest 113 = .ok (.lmul, 1) := by decide +kernel
theorem dX7_digest_114 : decode cX7_digest 114 = .ok (.aload_n 0, 1) := by decide +kernel
theorem dX7_digest_115 : decode cX7_digest 115 = .ok (.iload_n 3, 1) := by decide +kernel
theorem dX7_digest_116 : decode cX7_digest 116 = .ok (.invokevirtual 229, 3) := by decide +kernel
theorem dX7_digest_119 : decode cX7_digest 119 = .ok (.i2l, 1) := by decide +kernel
theorem dX7_digest_120 : decode cX7_digest 120 = .ok (.ladd, 1) := by decide +kernel
theorem dX7_digest_121 : decode cX7_digest 121 = .ok (.lstore_n 1, 1) := by decide +kernel
theorem dX7_digest_122 : decode cX7_digest 122 = .ok (.iconst 0, 1) := by decide +kernel
theorem dX7_digest_123 : decode cX7_digest 123 = .ok (.istore 5, 2) := by decide +kernel
theorem dX7_digest_125 : decode cX7_digest 125 = .ok (.iload 5, 2) := by decide +kernel
theorem dX7_digest_127 : decode cX7_digest 127 = .ok (.bipush 8, 2) := by decide +kernel
theorem dX7_digest_129 : decode cX7_digest 129 = .ok (.if_icmp .ge 26, 3) := by decide +kernel
theorem dX7_digest_132 : decode cX7_digest 132 = .ok (.ldc2_w 218, 3) := by decide +kernel
theorem dX7_digest_135 : decode cX7_digest 135 = .ok (.lload_n 1, 1) := by decide +kernel
theorem dX7_digest_136 : decode cX7_digest 136 = .ok (.lmul, 1) := by decide +kernel
theorem dX7_digest_137 : decode cX7_digest 137 = .ok (.aload_n 0, 1) := by decide +kernel
theorem dX7_digest_138 : decode cX7_digest 138 = .ok (.iload_n 3, 1) := by decide +kernel
theorem dX7_digest_139 : decode cX7_digest 139 = .ok (.iload 4, 2) := by decide +kernel
theorem dX7_digest_141 : decode cX7_digest 141 = .ok (.iload 5, 2) := by decide +kernel
theorem dX7_digest_143 : decode cX7_digest 143 = .ok (.invokevirtual 232, 3) := by decide +kernel
theorem dX7_digest_146 : decode cX7_digest 146 = .ok (.i2l, 1) := by decide +kernel
theorem dX7_digest_147 : decode cX7_digest 147 = .ok (.ladd, 1) := by decide +kernel
theorem dX7_digest_148 : decode cX7_digest 148 = .ok (.lstore_n 1, 1) := by decide +kernel
theorem dX7_digest_149 : decode cX7_digest 149 = .ok (.iinc 5 1, 3) := by decide +kernel
theorem dX7_digest_152 : decode cX7_digest 152 = .ok (.goto (-27), 3) := by decide +kernel
theorem dX7_digest_155 : decode cX7_digest 155 = .ok (.ldc2_w 218, 3) := by decide +kernel
theorem dX7_digest_158 : decode cX7_digest 158 = .ok (.lload_n 1, 1) := by decide +kernel
theorem dX7_digest_159 : decode cX7_digest 159 = .ok (.lmul, 1) := by decide +kernel
theorem dX7_digest_160 : decode cX7_digest 160 = .ok (.aload_n 0, 1) := by decide +kernel
theorem dX7_digest_161 : decode cX7_digest 161 = .ok (.iload_n 3, 1) := by decide +kernel
theorem dX7_digest_162 : decode cX7_digest 162 = .ok (.iload 4, 2) := by decide +kernel
theorem dX7_digest_164 : decode cX7_digest 164 = .ok (.iconst 0, 1) := by decide +kernel
theorem dX7_digest_165 : decode cX7_digest 165 = .ok (.invokevirtual 236, 3) := by decide +kernel
theorem dX7_digest_168 : decode cX7_digest 168 = .ok (.i2l, 1) := by decide +kernel
theorem dX7_digest_169 : decode cX7_digest 169 = .ok (.ladd, 1) := by decide +kernel
theorem dX7_digest_170 : decode cX7_digest 170 = .ok (.lstore_n 1, 1) := by decide +kernel
theorem dX7_digest_171 : decode cX7_digest 171 = .ok (.ldc2_w 218, 3) := by decide +kernel
theorem dX7_digest_174 : decode cX7_digest 174 = .ok (.lload_n 1, 1) := by decide +kernel
theorem dX7_digest_175 : decode cX7_digest 175 = .ok (.lmul, 1) := by decide +kernel
theorem dX7_digest_176 : decode cX7_digest 176 = .ok (.aload_n 0, 1) := by decide +kernel
theorem dX7_digest_177 : decode cX7_digest 177 = .ok (.iload_n 3, 1) := by decide +kernel
theorem dX7_digest_178 : decode cX7_digest 178 = .ok (.invokevirtual 239, 3) := by decide +kernel
theorem dX7_digest_181 : decode cX7_digest 181 = .ok (.i2l, 1) := by decide +kernel
theorem dX7_digest_182 : decode cX7_digest 182 = .ok (.ladd, 1) := by decide +kernel
theorem dX7_digest_183 : decode cX7_digest 183 = .ok (.lstore_n 1, 1) := by decide +kernel
theorem dX7_digest_184 : decode cX7_digest 184 = .ok (.ldc2_w 218, 3) := by decide +kernel
theorem dX7_digest_187 : decode cX7_digest 187 = .ok (.lload_n 1, 1) := by decide +kernel
theorem dX7_digest_188 : decode cX7_digest 188 = .ok (.lmul, 1) := by decide +kernel
theorem dX7_digest_189 : decode cX7_digest 189 = .ok (.aload_n 0, 1) := by decide +kernel
theorem dX7_digest_190 : decode cX7_digest 190 = .ok (.iload_n 3, 1) := by decide +kernel
theorem dX7_digest_191 : decode cX7_digest 191 = .ok (.iconst 0, 1) := by decide +kernel
theorem dX7_digest_192 : decode cX7_digest 192 = .ok (.iconst 1, 1) := by decide +kernel
theorem dX7_digest_193 : decode cX7_digest 193 = .ok (.invokevirtual 242, 3) := by decide +kernel
theorem dX7_digest_196 : decode cX7_digest 196 = .ok (.i2l, 1) := by decide +kernel
theorem dX7_digest_197 : decode cX7_digest 197 = .ok (.ladd, 1) := by decide +kernel
theorem dX7_digest_198 : decode cX7_digest 198 = .ok (.lstore_n 1, 1) := by decide +kernel
theorem dX7_digest_199 : decode cX7_digest 199 = .ok (.ldc2_w 218, 3) := by decide +kernel
theorem dX7_digest_202 : decode cX7_digest 202 = .ok (.lload_n 1, 1) := by decide +kernel
theorem dX7_digest_203 : decode cX7_digest 203 = .ok (.lmul, 1) := by decide +kernel
theorem dX7_digest_204 : decode cX7_digest 204 = .ok (.aload_n 0, 1) := by decide +kernel
theorem dX7_digest_205 : decode cX7_digest 205 = .ok (.iload_n 3, 1) := by decide +kernel
theorem dX7_digest_206 : decode cX7_digest 206 = .ok (.iconst 2, 1) := by decide +kernel
theorem dX7_digest_207 : decode cX7_digest 207 = .ok (.iconst 2, 1) := by decide +kernel
theorem dX7_digest_208 : decode cX7_digest 208 = .ok (.invokevirtual 242, 3) := by decide +kernel
theorem dX7_digest_211 : decode cX7_digest 211 = .ok (.i2l, 1) := by decide +kernel
theorem dX7_digest_212 : decode cX7_digest 212 = .ok (.ladd, 1) := by decide +kernel
theorem dX7_digest_213 : decode cX7_digest 213 = .ok (.lstore_n 1, 1) := by decide +kernel
theorem dX7_digest_214 : decode cX7_digest 214 = .ok (.ldc2_w 218, 3) := by decide +kernel
theorem dX7_digest_217 : decode cX7_digest 217 = .ok (.lload_n 1, 1) := by decide +kernel
theorem dX7_digest_218 : decode cX7_digest 218 = .ok (.lmul, 1) := by decide +kernel
theorem dX7_digest_219 : decode cX7_digest 219 = .ok (.aload_n 0, 1) := by decide +kernel
theorem dX7_digest_220 : decode cX7_digest 220 = .ok (.iload_n 3, 1) := by decide +kernel
theorem dX7_digest_221 : decode cX7_digest 221 = .ok (.invokevirtual 245, 3) := by decide +kernel
theorem dX7_digest_224 : decode cX7_digest 224 = .ok (.i2l, 1) := by decide +kernel
theorem dX7_digest_225 : decode cX7_digest 225 = .ok (.ladd, 1) := by decide +kernel
theorem dX7_digest_226 : decode cX7_digest 226 = .ok (.lstore_n 1, 1) := by decide +kernel
theorem dX7_digest_227 : decode cX7_digest 227 = .ok (.ldc2_w 218, 3) := by decide +kernel
theorem dX7_digest_230 : decode cX7_digest 230 = .ok (.lload_n 1, 1) := by decide +kernel
theorem dX7_digest_231 : decode cX7_digest 231 = .ok (.lmul, 1) := by decide +kernel
theorem dX7_digest_232 : decode cX7_digest 232 = .ok (.aload_n 0, 1) := by decide +kernel
theorem dX7_digest_233 : decode cX7_digest 233 = .ok (.iload_n 3, 1) := by decide +kernel
theorem dX7_digest_234 : decode cX7_digest 234 = .ok (.iconst 0, 1) := by decide +kernel
theorem dX7_digest_235 : decode cX7_digest 235 = .ok (.invokevirtual 248, 3) := by decide +kernel
theorem dX7_digest_238 : decode cX7_digest 238 = .ok (.i2l, 1) := by decide +kernel
theorem dX7_digest_239 : decode cX7_digest 239 = .ok (.ladd, 1) := by decide +kernel
theorem dX7_digest_240 : decode cX7_digest 240 = .ok (.lstore_n 1, 1) := by decide +kernel
theorem dX7_digest_241 : decode cX7_digest 241 = .ok (.ldc2_w 218, 3) := by decide +kernel
theorem dX7_digest_244 : decode cX7_digest 244 = .ok (.lload_n 1, 1) := by decide +kernel
theorem dX7_digest_245 : decode cX7_digest 245 = .ok (.lmul, 1) := by decide +kernel
theorem dX7_digest_246 : decode cX7_digest 246 = .ok (.aload_n 0, 1) := by decide +kernel
theorem dX7_digest_247 : decode cX7_digest 247 = .ok (.iload_n 3, 1) := by decide +kernel
theorem dX7_digest_248 : decode cX7_digest 248 = .ok (.iconst 1, 1) := by decide +kernel
theorem dX7_digest_249 : decode cX7_digest 249 = .ok (.invokevirtual 248, 3) := by decide +kernel
theorem dX7_digest_252 : decode cX7_digest 252 = .ok (.i2l, 1) := by decide +kernel
theorem dX7_digest_253 : decode cX7_digest 253 = .ok (.ladd, 1) := by decide +kernel
theorem dX7_digest_254 : decode cX7_digest 254 = .ok (.lstore_n 1, 1) := by decide +kernel
theorem dX7_digest_255 : decode cX7_digest 255 = .ok (.ldc2_w 218, 3) := by decide +kernel
theorem dX7_digest_258 : decode cX7_digest 258 = .ok (.lload_n 1, 1) := by decide +kernel
theorem dX7_digest_259 : decode cX7_digest 259 = .ok (.lmul, 1) := by decide +kernel
theorem dX7_digest_260 : decode cX7_digest 260 = .ok (.aload_n 0, 1) := by decide +kernel
theorem dX7_digest_261 : decode cX7_digest 261 = .ok (.iload_n 3, 1) := by decide +kernel
theorem dX7_digest_262 : decode cX7_digest 262 = .ok (.iconst 3, 1) := by decide +kernel
theorem dX7_digest_263 : decode cX7_digest 263 = .ok (.iconst 0, 1) := by decide +kernel
theorem dX7_digest_264 : decode cX7_digest 264 = .ok (.invokevirtual 251, 3) := by decide +kernel
theorem dX7_digest_267 : decode cX7_digest 267 = .ok (.i2l, 1) := by decide +kernel
theorem dX7_digest_268 : decode cX7_digest 268 = .ok (.ladd, 1) := by decide +kernel
theorem dX7_digest_269 : decode cX7_digest 269 = .ok (.lstore_n 1, 1) := by decide +kernel
theorem dX7_digest_270 : decode cX7_digest 270 = .ok (.ldc2_w 218, 3) := by decide +kernel
theorem dX7_digest_273 : decode cX7_digest 273 = .ok (.lload_n 1, 1) := by decide +kernel
theorem dX7_digest_274 : decode cX7_digest 274 = .ok (.lmul, 1) := by decide +kernel
theorem dX7_digest_275 : decode cX7_digest 275 = .ok (.aload_n 0, 1) := by decide +kernel
theorem dX7_digest_276 : decode cX7_digest 276 = .ok (.iload_n 3, 1) := by decide +kernel
theorem dX7_digest_277 : decode cX7_digest 277 = .ok (.iconst 3, 1) := by decide +kernel
theorem dX7_digest_278 : decode cX7_digest 278 = .ok (.iconst 1, 1) := by decide +kernel
theorem dX7_digest_279 : decode cX7_digest 279 = .ok (.invokevirtual 251, 3) := by decide +kernel
theorem dX7_digest_282 : decode cX7_digest 282 = .ok (.i2l, 1) := by decide +kernel
theorem dX7_digest_283 : decode cX7_digest 283 = .ok (.ladd, 1) := by decide +kernel
theorem dX7_digest_284 : decode cX7_digest 284 = .ok (.lstore_n 1, 1) := by decide +kernel
theorem dX7_digest_285 : decode cX7_digest 285 = .ok (.iinc 3 1, 3) := by decide +kernel
theorem dX7_digest_288 : decode cX7_digest 288 = .ok (.goto (-194), 3) := by decide +kernel
theorem dX7_digest_291 : decode cX7_digest 291 = .ok (.ldc2_w 218, 3) := by decide +kernel
theorem dX7_digest_294 : decode cX7_digest 294 = .ok (.lload_n 1, 1) := by decide +kernel
theorem dX7_digest_295 : decode cX7_digest 295 = .ok (.lmul, 1) := by decide +kernel
theorem dX7_digest_296 : decode cX7_digest 296 = .ok (.aload_n 0, 1) := by decide +kernel
theorem dX7_digest_297 : decode cX7_digest 297 = .ok (.iconst 0, 1) := by decide +kernel
theorem dX7_digest_298 : decode cX7_digest 298 = .ok (.iconst 0, 1) := by decide +kernel
theorem dX7_digest_299 : decode cX7_digest 299 = .ok (.iconst 1, 1) := by decide +kernel
theorem dX7_digest_300 : decode cX7_digest 300 = .ok (.iconst 0, 1) := by decide +kernel
theorem dX7_digest_301 : decode cX7_digest 301 = .ok (.invokevirtual 254, 3) := by decide +kernel
theorem dX7_digest_304 : decode cX7_digest 304 = .ok (.i2l, 1) := by decide +kernel
theorem dX7_digest_305 : decode cX7_digest 305 = .ok (.ladd, 1) := by decide +kernel
theorem dX7_digest_306 : decode cX7_digest 306 = .ok (.lstore_n 1, 1) := by decide +kernel
theorem dX7_digest_307 : decode cX7_digest 307 = .ok (.ldc2_w 218, 3) := by decide +kernel
theorem dX7_digest_310 : decode cX7_digest 310 = .ok (.lload_n 1, 1) := by decide +kernel
theorem dX7_digest_311 : decode cX7_digest 311 = .ok (.lmul, 1) := by decide +kernel
theorem dX7_digest_312 : decode cX7_digest 312 = .ok (.aload_n 0, 1) := by decide +kernel
theorem dX7_digest_313 : decode cX7_digest 313 = .ok (.iconst 0, 1) := by decide +kernel
theorem dX7_digest_314 : decode cX7_digest 314 = .ok (.iconst 0, 1) := by decide +kernel
theorem dX7_digest_315 : decode cX7_digest 315 = .ok (.iconst 1, 1) := by decide +kernel
theorem dX7_digest_316 : decode cX7_digest 316 = .ok (.iconst 1, 1) := by decide +kernel
theorem dX7_digest_317 : decode cX7_digest 317 = .ok (.invokevirtual 254, 3) := by decide +kernel
theorem dX7_digest_320 : decode cX7_digest 320 = .ok (.i2l, 1) := by decide +kernel
theorem dX7_digest_321 : decode cX7_digest 321 = .ok (.ladd, 1) := by decide +kernel
theorem dX7_digest_322 : decode cX7_digest 322 = .ok (.lstore_n 1, 1) := by decide +kernel
theorem dX7_digest_323 : decode cX7_digest 323 = .ok (.ldc2_w 218, 3) := by decide +kernel
theorem dX7_digest_326 : decode cX7_digest 326 = .ok (.lload_n 1, 1) := by decide +kernel
theorem dX7_digest_327 : decode cX7_digest 327 = .ok (.lmul, 1) := by decide +kernel
theorem dX7_digest_328 : decode cX7_digest 328 = .ok (.aload_n 0, 1) := by decide +kernel
theorem dX7_digest_329 : decode cX7_digest 329 = .ok (.invokevirtual 258, 3) := by decide +kernel
theorem dX7_digest_332 : decode cX7_digest 332 = .ok (.i2l, 1) := by decide +kernel
theorem dX7_digest_333 : decode cX7_digest 333 = .ok (.ladd, 1) := by decide +kernel
theorem dX7_digest_334 : decode cX7_digest 334 = .ok (.lreturn, 1) := by decide +kernel
theorem dX7_isBelow_0 : decode cX7_isBelow 0 = .ok (.iload_n 0, 1) := by decide +kernel
theorem dX7_isBelow_1 : decode cX7_isBelow 1 = .ok (.ifCond .lt 12, 3) := by decide +kernel
theorem dX7_isBelow_4 : decode cX7_isBelow 4 = .ok (.iload_n 0, 1) := by decide +kernel
theorem dX7_isBelow_5 : decode cX7_isBelow 5 = .ok (.iload_n 1, 1) := by decide +kernel
theorem dX7_isBelow_6 : decode cX7_isBelow 6 = .ok (.if_icmp .ge 7, 3) := by decide +kernel
theorem dX7_isBelow_9 : decode cX7_isBelow 9 = .ok (.iconst 1, 1) := by decide +kernel
theorem dX7_isBelow_10 : decode cX7_isBelow 10 = .ok (.goto 4, 3) := by decide +kernel
theorem dX7_isBelow_13 : decode cX7_isBelow 13 = .ok (.iconst 0, 1) := by decide +kernel
theorem dX7_isBelow_14 : decode cX7_isBelow 14 = .ok (.ireturn, 1) := by decide +kernel
theorem dX7_textOf_0 : decode cX7_textOf 0 = .ok (.iload_n 1, 1) := by decide +kernel
theorem dX7_textOf_1 : decode cX7_textOf 1 = .ok (.ifCond .ne 13, 3) := by decide +kernel
theorem dX7_textOf_4 : decode cX7_textOf 4 = .ok (.aload_n 0, 1) := by decide +kernel
theorem dX7_textOf_5 : decode cX7_textOf 5 = .ok (.getfield 12, 3) := by decide +kernel
theorem dX7_textOf_8 : decode cX7_textOf 8 = .ok (.getfield 261, 3) := by decide +kernel
theorem dX7_textOf_11 : decode cX7_textOf 11 = .ok (.goto 13, 3) := by decide +kernel
theorem dX7_textOf_14 : decode cX7_textOf 14 = .ok (.aload_n 0, 1) := by decide +kernel
theorem dX7_textOf_15 : decode cX7_textOf 15 = .ok (.iload_n 1, 1) := by decide +kernel
theorem dX7_textOf_16 : decode cX7_textOf 16 = .ok (.iconst 1, 1) := by decide +kernel
theorem dX7_textOf_17 : decode cX7_textOf 17 = .ok (.isub, 1) := by decide +kernel
theorem dX7_textOf_18 : decode cX7_textOf 18 = .ok (.invokevirtual 90, 3) := by decide +kernel
theorem dX7_textOf_21 : decode cX7_textOf 21 = .ok (.getfield 117, 3) := by decide +kernel
theorem dX7_textOf_24 : decode cX7_textOf 24 = .ok (.areturn, 1) := by decide +kernel
theorem dX7_dayOf_0 : decode cX7_dayOf 0 = .ok (.iload_n 1, 1) := by decide +kernel
theorem dX7_dayOf_1 : decode cX7_dayOf 1 = .ok (.ifCond .ne 10, 3) := by decide +kernel
theorem dX7_dayOf_4 : decode cX7_dayOf 4 = .ok (.aload_n 0, 1) := by decide +kernel
theorem dX7_dayOf_5 : decode cX7_dayOf 5 = .ok (.getfield 21, 3) := by decide +kernel
theorem dX7_dayOf_8 : decode cX7_dayOf 8 = .ok (.goto 7, 3) := by decide +kernel
theorem dX7_dayOf_11 : decode cX7_dayOf 11 = .ok (.aload_n 0, 1) := by decide +kernel
theorem dX7_dayOf_12 : decode cX7_dayOf 12 = .ok (.getfield 25, 3) := by decide +kernel
theorem dX7_dayOf_15 : decode cX7_dayOf 15 = .ok (.areturn, 1) := by decide +kernel
theorem dX7_ended_0 : decode cX7_ended 0 = .ok (.aload_n 0, 1) := by decide +kernel
theorem dX7_ended_1 : decode cX7_ended 1 = .ok (.iload_n 1, 1) := by decide +kernel
theorem dX7_ended_2 : decode cX7_ended 2 = .ok (.invokevirtual 90, 3) := by decide +kernel
theorem dX7_ended_5 : decode cX7_ended 5 = .ok (.astore_n 2, 1) := by decide +kernel
theorem dX7_ended_6 : decode cX7_ended 6 = .ok (.aload_n 2, 1) := by decide +kernel
theorem dX7_ended_7 : decode cX7_ended 7 = .ok (.bipush 40, 2) := by decide +kernel
theorem dX7_ended_9 : decode cX7_ended 9 = .ok (.invokevirtual 134, 3) := by decide +kernel
theorem dX7_ended_12 : decode cX7_ended 12 = .ok (.aload_n 2, 1) := by decide +kernel
theorem dX7_ended_13 : decode cX7_ended 13 = .ok (.areturn, 1) := by decide +kernel
theorem dX7_found_0 : decode cX7_found 0 = .ok (.aload_n 0, 1) := by decide +kernel
theorem dX7_found_1 : decode cX7_found 1 = .ok (.iload_n 1, 1) := by decide +kernel
theorem dX7_found_2 : decode cX7_found 2 = .ok (.putfield 55, 3) := by decide +kernel
theorem dX7_found_5 : decode cX7_found 5 = .ok (.bipush (-10), 2) := by decide +kernel
theorem dX7_found_7 : decode cX7_found 7 = .ok (.iload_n 1, 1) := by decide +kernel
theorem dX7_found_8 : decode cX7_found 8 = .ok (.isub, 1) := by decide +kernel
theorem dX7_found_9 : decode cX7_found 9 = .ok (.ireturn, 1) := by decide +kernel
theorem dX7_codeOfByte_0 : decode cX7_codeOfByte 0 = .ok (.iload_n 0, 1) := by decide +kernel
theorem dX7_codeOfByte_1 : decode cX7_codeOfByte 1 = .ok (.bipush 97, 2) := by decide +kernel
theorem dX7_codeOfByte_3 : decode cX7_codeOfByte 3 = .ok (.if_icmp .lt 14, 3) := by decide +kernel
theorem dX7_codeOfByte_6 : decode cX7_codeOfByte 6 = .ok (.iload_n 0, 1) := by decide +kernel
theorem dX7_codeOfByte_7 : decode cX7_codeOfByte 7 = .ok (.bipush 104, 2) := by decide +kernel
theorem dX7_codeOfByte_9 : decode cX7_codeOfByte 9 = .ok (.if_icmp .gt 8, 3) := by decide +kernel
theorem dX7_codeOfByte_12 : decode cX7_codeOfByte 12 = .ok (.iload_n 0, 1) := by decide +kernel
theorem dX7_codeOfByte_13 : decode cX7_codeOfByte 13 = .ok (.bipush 97, 2) := by decide +kernel
theorem dX7_codeOfByte_15 : decode cX7_codeOfByte 15 = .ok (.isub, 1) := by decide +kernel
theorem dX7_codeOfByte_16 : decode cX7_codeOfByte 16 = .ok (.ireturn, 1) := by decide +kernel
theorem dX7_codeOfByte_17 : decode cX7_codeOfByte 17 = .ok (.iload_n 0, 1) := by decide +kernel
theorem dX7_codeOfByte_18 : decode cX7_codeOfByte 18 = .ok (.bipush 65, 2) := by decide +kernel
theorem dX7_codeOfByte_20 : decode cX7_codeOfByte 20 = .ok (.if_icmp .lt 19, 3) := by decide +kernel
theorem dX7_codeOfByte_23 : decode cX7_codeOfByte 23 = .ok (.iload_n 0, 1) := by decide +kernel
theorem dX7_codeOfByte_24 : decode cX7_codeOfByte 24 = .ok (.bipush 72, 2) := by decide +kernel
theorem dX7_codeOfByte_26 : decode cX7_codeOfByte 26 = .ok (.if_icmp .gt 13, 3) := by decide +kernel
theorem dX7_codeOfByte_29 : decode cX7_codeOfByte 29 = .ok (.iload_n 0, 1) := by decide +kernel
theorem dX7_codeOfByte_30 : decode cX7_codeOfByte 30 = .ok (.bipush 65, 2) := by decide +kernel
theorem dX7_codeOfByte_32 : decode cX7_codeOfByte 32 = .ok (.isub, 1) := by decide +kernel
theorem dX7_codeOfByte_33 : decode cX7_codeOfByte 33 = .ok (.bipush 8, 2) := by decide +kernel
theorem dX7_codeOfByte_35 : decode cX7_codeOfByte 35 = .ok (.iadd, 1) := by decide +kernel
theorem dX7_codeOfByte_36 : decode cX7_codeOfByte 36 = .ok (.goto 4, 3) := by decide +kernel
theorem dX7_codeOfByte_39 : decode cX7_codeOfByte 39 = .ok (.iconst (-1), 1) := by decide +kernel
theorem dX7_codeOfByte_40 : decode cX7_codeOfByte 40 = .ok (.ireturn, 1) := by decide +kernel
theorem dX7_byteOfCode_0 : decode cX7_byteOfCode 0 = .ok (.iload_n 0, 1) := by decide +kernel
theorem dX7_byteOfCode_1 : decode cX7_byteOfCode 1 = .ok (.bipush 8, 2) := by decide +kernel
theorem dX7_byteOfCode_3 : decode cX7_byteOfCode 3 = .ok (.if_icmp .ge 10, 3) := by decide +kernel
theorem dX7_byteOfCode_6 : decode cX7_byteOfCode 6 = .ok (.bipush 97, 2) := by decide +kernel
theorem dX7_byteOfCode_8 : decode cX7_byteOfCode 8 = .ok (.iload_n 0, 1) := by decide +kernel
theorem dX7_byteOfCode_9 : decode cX7_byteOfCode 9 = .ok (.iadd, 1) := by decide +kernel
theorem dX7_byteOfCode_10 : decode cX7_byteOfCode 10 = .ok (.goto 10, 3) := by decide +kernel
theorem dX7_byteOfCode_13 : decode cX7_byteOfCode 13 = .ok (.bipush 65, 2) := by decide +kernel
theorem dX7_byteOfCode_15 : decode cX7_byteOfCode 15 = .ok (.iload_n 0, 1) := by decide +kernel
theorem dX7_byteOfCode_16 : decode cX7_byteOfCode 16 = .ok (.iadd, 1) := by decide +kernel
theorem dX7_byteOfCode_17 : decode cX7_byteOfCode 17 = .ok (.bipush 8, 2) := by decide +kernel
theorem dX7_byteOfCode_19 : decode cX7_byteOfCode 19 = .ok (.isub, 1) := by decide +kernel
theorem dX7_byteOfCode_20 : decode cX7_byteOfCode 20 = .ok (.ireturn, 1) := by decide +kernel
theorem dX8_init_0 : decode cX8_init 0 = .ok (.aload_n 0, 1) := by decide +kernel
theorem dX8_init_1 : decode cX8_init 1 = .ok (.invokespecial 1, 3) := by decide +kernel
theorem dX8_init_4 : decode cX8_init 4 = .ok (.aload_n 0, 1) := by decide +kernel
theorem dX8_init_5 : decode cX8_init 5 = .ok (.iconst 4, 1) := by decide +kernel
theorem dX8_init_6 : decode cX8_init 6 = .ok (.newarray .int, 2) := by decide +kernel
theorem dX8_init_8 : decode cX8_init 8 = .ok (.putfield 7, 3) := by decide +kernel
theorem dX8_init_11 : decode cX8_init 11 = .ok (.aload_n 0, 1) := by decide +kernel
theorem dX8_init_12 : decode cX8_init 12 = .ok (.iconst 4, 1) := by decide +kernel
theorem dX8_init_13 : decode cX8_init 13 = .ok (.newarray .int, 2) := by decide +kernel
theorem dX8_init_15 : decode cX8_init 15 = .ok (.putfield 13, 3) := by decide +kernel
theorem dX8_init_18 : decode cX8_init 18 = .ok (.aload_n 0, 1) := by decide +kernel
theorem dX8_init_19 : decode cX8_init 19 = .ok (.sipush 240, 3) := by decide +kernel
theorem dX8_init_22 : decode cX8_init 22 = .ok (.newarray .int, 2) := by decide +kernel
theorem dX8_init_24 : decode cX8_init 24 = .ok (.putfield 16, 3) := by decide +kernel
theorem dX8_init_27 : decode cX8_init 27 = .ok (.aload_n 0, 1) := by decide +kernel
theorem dX8_init_28 : decode cX8_init 28 = .ok (.bipush 60, 2) := by decide +kernel
theorem dX8_init_30 : decode cX8_init 30 = .ok (.newarray .int, 2) := by decide +kernel
theorem dX8_init_32 : decode cX8_init 32 = .ok (.putfield 19, 3) := by decide +kernel
theorem dX8_init_35 : decode cX8_init 35 = .ok (.aload_n 0, 1) := by decide +kernel
theorem dX8_init_36 : decode cX8_init 36 = .ok (.bipush 120, 2) := by decide +kernel
theorem dX8_init_38 : decode cX8_init 38 = .ok (.newarray .int, 2) := by decide +kernel
theorem dX8_init_40 : decode cX8_init 40 = .ok (.putfield 22, 3) := by decide +kernel
theorem dX8_init_43 : decode cX8_init 43 = .ok (.aload_n 0, 1) := by decide +kernel
theorem dX8_init_44 : decode cX8_init 44 = .ok (.iconst 3, 1) := by decide +kernel
theorem dX8_init_45 : decode cX8_init 45 = .ok (.newarray .int, 2) := by decide +kernel
theorem dX8_init_47 : decode cX8_init 47 = .ok (.putfield 25, 3) := by decide +kernel
theorem dX8_init_50 : decode cX8_init 50 = .ok (.aload_n 0, 1) := by decide +kernel
theorem dX8_init_51 : decode cX8_init 51 = .ok (.bipush 24, 2) := by decide +kernel
theorem dX8_init_53 : decode cX8_init 53 = .ok (.newarray .int, 2) := by decide +kernel
theorem dX8_init_55 : decode cX8_init 55 = .ok (.putfield 28, 3) := by decide +kernel
theorem dX8_init_58 : decode cX8_init 58 = .ok (.aload_n 0, 1) := by decide +kernel
theorem dX8_init_59 : decode cX8_init 59 = .ok (.iconst 2, 1) := by decide +kernel
theorem dX8_init_60 : decode cX8_init 60 = .ok (.newarray .int, 2) := by decide +kernel
theorem dX8_init_62 : decode cX8_init 62 = .ok (.putfield 31, 3) := by decide +kernel
theorem dX8_init_65 : decode cX8_init 65 = .ok (.aload_n 0, 1) := by decide +kernel
theorem dX8_init_66 : decode cX8_init 66 = .ok (.iconst 3, 1) := by decide +kernel
theorem dX8_init_67 : decode cX8_init 67 = .ok (.newarray .int, 2) := by decide +kernel
theorem dX8_init_69 : decode cX8_init 69 = .ok (.putfield 34, 3) := by decide +kernel
theorem dX8_init_72 : decode cX8_init 72 = .ok (.aload_n 0, 1) := by decide +kernel
theorem dX8_init_73 : decode cX8_init 73 = .ok (.bipush 8, 2) := by decide +kernel
theorem dX8_init_75 : decode cX8_init 75 = .ok (.newarray .int, 2) := by decide +kernel
theorem dX8_init_77 : decode cX8_init 77 = .ok (.putfield 37, 3) := by decide +kernel
theorem dX8_init_80 : decode cX8_init 80 = .ok (.aload_n 0, 1) := by decide +kernel
theorem dX8_init_81 : decode cX8_init 81 = .ok (.iconst 2, 1) := by decide +kernel
theorem dX8_init_82 : decode cX8_init 82 = .ok (.newarray .int, 2) := by decide +kernel
theorem dX8_init_84 : decode cX8_init 84 = .ok (.putfield 40, 3) := by decide +kernel
theorem dX8_init_87 : decode cX8_init 87 = .ok (.aload_n 0, 1) := by decide +kernel
theorem dX8_init_88 : decode cX8_init 88 = .ok (.bipush 64, 2) := by decide +kernel
theorem dX8_init_90 : decode cX8_init 90 = .ok (.newarray .int, 2) := by decide +kernel
theorem dX8_init_92 : decode cX8_init 92 = .ok (.putfield 43, 3) := by decide +kernel
theorem dX8_init_95 : decode cX8_init 95 = .ok (.aload_n 0, 1) := by decide +kernel
theorem dX8_init_96 : decode cX8_init 96 = .ok (.iconst 2, 1) := by decide +kernel
theorem dX8_init_97 : decode cX8_init 97 = .ok (.newarray .int, 2) := by decide +kernel
theorem dX8_init_99 : decode cX8_init 99 = .ok (.putfield 46, 3) := by decide +kernel
theorem dX8_init_102 : decode cX8_init 102 = .ok (.aload_n 0, 1) := by decide +kernel
theorem dX8_init_103 : decode cX8_init 103 = .ok (.iconst 2, 1) := by decide +kernel
theorem dX8_init_104 : decode cX8_init 104 = .ok (.newarray .int, 2) := by decide +kernel
theorem dX8_init_106 : decode cX8_init 106 = .ok (.putfield 49, 3) := by decide +kernel
theorem dX8_init_109 : decode cX8_init 109 = .ok (.aload_n 0, 1) := by decide +kernel
theorem dX8_init_110 : decode cX8_init 110 = .ok (.sipush 1024, 3) := by decide +kernel
theorem dX8_init_113 : decode cX8_init 113 = .ok (.newarray .long, 2) := by decide +kernel
theorem dX8_init_115 : decode cX8_init 115 = .ok (.putfield 52, 3) := by decide +kernel
theorem dX8_init_118 : decode cX8_init 118 = .ok (.aload_n 0, 1) := by decide +kernel
theorem dX8_init_119 : decode cX8_init 119 = .ok (.bipush 64, 2) := by decide +kernel
theorem dX8_init_121 : decode cX8_init 121 = .ok (.newarray .int, 2) := by decide +kernel
theorem dX8_init_123 : decode cX8_init 123 = .ok (.putfield 56, 3) := by decide +kernel
theorem dX8_init_126 : decode cX8_init 126 = .ok (.aload_n 0, 1) := by decide +kernel
theorem dX8_init_127 : decode cX8_init 127 = .ok (.bipush 8, 2) := by decide +kernel
theorem dX8_init_129 : decode cX8_init 129 = .ok (.newarray .int, 2) := by decide +kernel
theorem dX8_init_131 : decode cX8_init 131 = .ok (.putfield 59, 3) := by decide +kernel
theorem dX8_init_134 : decode cX8_init 134 = .ok (.aload_n 0, 1) := by decide +kernel
theorem dX8_init_135 : decode cX8_init 135 = .ok (.bipush 6, 2) := by decide +kernel
theorem dX8_init_137 : decode cX8_init 137 = .ok (.newarray .long, 2) := by decide +kernel
theorem dX8_init_139 : decode cX8_init 139 = .ok (.putfield 62, 3) := by decide +kernel
theorem dX8_init_142 : decode cX8_init 142 = .ok (.aload_n 0, 1) := by decide +kernel
theorem dX8_init_143 : decode cX8_init 143 = .ok (.bipush 6, 2) := by decide +kernel
theorem dX8_init_145 : decode cX8_init 145 = .ok (.newarray .int, 2) := by decide +kernel
theorem dX8_init_147 : decode cX8_init 147 = .ok (.putfield 65, 3) := by decide +kernel
theorem dX8_init_150 : decode cX8_init 150 = .ok (.aload_n 0, 1) := by decide +kernel
theorem dX8_init_151 : decode cX8_init 151 = .ok (.bipush 6, 2) := by decide +kernel
theorem dX8_init_153 : decode cX8_init 153 = .ok (.newarray .int, 2) := by decide +kernel
theorem dX8_init_155 : decode cX8_init 155 = .ok (.putfield 68, 3) := by decide +kernel
theorem dX8_init_158 : decode cX8_init 158 = .ok (.aload_n 0, 1) := by decide +kernel
theorem dX8_init_159 : decode cX8_init 159 = .ok (.bipush 6, 2) := by decide +kernel
theorem dX8_init_161 : decode cX8_init 161 = .ok (.newarray .int, 2) := by decide +kernel
theorem dX8_init_163 : decode cX8_init 163 = .ok (.putfield 71, 3) := by decide +kernel
theorem dX8_init_166 : decode cX8_init 166 = .ok (.aload_n 0, 1) := by decide +kernel
theorem dX8_init_167 : decode cX8_init 167 = .ok (.bipush 6, 2) := by decide +kernel
theorem dX8_init_169 : decode cX8_init 169 = .ok (.newarray .int, 2) := by decide +kernel
theorem dX8_init_171 : decode cX8_init 171 = .ok (.putfield 74, 3) := by decide +kernel
theorem dX8_init_174 : decode cX8_init 174 = .ok (.iconst 0, 1) := by decide +kernel
theorem dX8_init_175 : decode cX8_init 175 = .ok (.istore_n 1, 1) := by decide +kernel
theorem dX8_init_176 : decode cX8_init 176 = .ok (.iload_n 1, 1) := by decide +kernel
theorem dX8_init_177 : decode cX8_init 177 = .ok (.iconst 4, 1) := by decide +kernel
theorem dX8_init_178 : decode cX8_init 178 = .ok (.if_icmp .ge 16, 3) := by decide +kernel
theorem dX8_init_181 : decode cX8_init 181 = .ok (.aload_n 0, 1) := by decide +kernel
theorem dX8_init_182 : decode cX8_init 182 = .ok (.getfield 7, 3) := by decide +kernel
theorem dX8_init_185 : decode cX8_init 185 = .ok (.iload_n 1, 1) := by decide +kernel
theorem dX8_init_186 : decode cX8_init 186 = .ok (.iconst (-1), 1) := by decide +kernel
theorem dX8_init_187 : decode cX8_init 187 = .ok (.iastore, 1) := by decide +kernel
theorem dX8_init_188 : decode cX8_init 188 = .ok (.iinc 1 1, 3) := by decide +kernel
theorem dX8_init_191 : decode cX8_init 191 = .ok (.goto (-15), 3) := by decide +kernel
theorem dX8_init_194 : decode cX8_init 194 = .ok (.aload_n 0, 1) := by decide +kernel
theorem dX8_init_195 : decode cX8_init 195 = .ok (.getfield 34, 3) := by decide +kernel
theorem dX8_init_198 : decode cX8_init 198 = .ok (.iconst 0, 1) := by decide +kernel
theorem dX8_init_199 : decode cX8_init 199 = .ok (.iconst 5, 1) := by decide +kernel
theorem dX8_init_200 : decode cX8_init 200 = .ok (.iastore, 1) := by decide +kernel
theorem dX8_init_201 : decode cX8_init 201 = .ok (.aload_n 0, 1) := by decide +kernel
theorem dX8_init_202 : decode cX8_init 202 = .ok (.getfield 34, 3) := by decide +kernel
theorem dX8_init_205 : decode cX8_init 205 = .ok (.iconst 1, 1) := by decide +kernel
theorem dX8_init_206 : decode cX8_init 206 = .ok (.iconst 5, 1) := by decide +kernel
theorem dX8_init_207 : decode cX8_init 207 = .ok (.iastore, 1) := by decide +kernel
theorem dX8_init_208 : decode cX8_init 208 = .ok (.aload_n 0, 1) := by decide +kernel
theorem dX8_init_209 : decode cX8_init 209 = .ok (.getfield 34, 3) := by decide +kernel
theorem dX8_init_212 : decode cX8_init 212 = .ok (.iconst 2, 1) := by decide +kernel
theorem dX8_init_213 : decode cX8_init 213 = .ok (.bipush 9, 2) := by decide +kernel
theorem dX8_init_215 : decode cX8_init 215 = .ok (.iastore, 1) := by decide +kernel
theorem dX8_init_216 : decode cX8_init 216 = .ok (.return_, 1) := by decide +kernel
theorem dX8_in_0 : decode cX8_in 0 = .ok (.lload_n 0, 1) := by decide +kernel
theorem dX8_in_1 : decode cX8_in 1 = .ok (.lload_n 2, 1) := by decide +kernel
theorem dX8_in_2 : decode cX8_in 2 = .ok (.lcmp, 1) := by decide +kernel
theorem dX8_in_3 : decode cX8_in 3 = .ok (.ifCond .lt 14, 3) := by decide +kernel
theorem dX8_in_6 : decode cX8_in 6 = .ok (.lload_n 0, 1) := by decide +kernel
theorem dX8_in_7 : decode cX8_in 7 = .ok (.lload 4, 2) := by decide +kernel
theorem dX8_in_9 : decode cX8_in 9 = .ok (.lcmp, 1) := by decide +kernel
theorem dX8_in_10 : decode cX8_in 10 = .ok (.ifCond .gt 7, 3) := by decide +kernel
theorem dX8_in_13 : decode cX8_in 13 = .ok (.iconst 1, 1) := by decide +kernel
theorem dX8_in_14 : decode cX8_in 14 = .ok (.goto 4, 3) := by decide +kernel
theorem dX8_in_17 : decode cX8_in 17 = .ok (.iconst 0, 1) := by decide +kernel
theorem dX8_in_18 : decode cX8_in 18 = .ok (.ireturn, 1) := by decide +kernel
theorem dX8_isTwo_0 : decode cX8_isTwo 0 = .ok (.iload_n 0, 1) := by decide +kernel
theorem dX8_isTwo_1 : decode cX8_isTwo 1 = .ok (.i2l, 1) := by decide +kernel
theorem dX8_isTwo_2 : decode cX8_isTwo 2 = .ok (.lconst 0, 1) := by decide +kernel
theorem dX8_isTwo_3 : decode cX8_isTwo 3 = .ok (.lconst 1, 1) := by decide +kernel
theorem dX8_isTwo_4 : decode cX8_isTwo 4 = .ok (.invokestatic 77, 3) := by decide +kernel
theorem dX8_isTwo_7 : decode cX8_isTwo 7 = .ok (.ireturn, 1) := by decide +kernel
theorem dX8_met_0 : decode cX8_met 0 = .ok (.aload_n 0, 1) := by decide +kernel
theorem dX8_met_1 : decode cX8_met 1 = .ok (.iload_n 1, 1) := by decide +kernel
theorem dX8_met_2 : decode cX8_met 2 = .ok (.putfield 81, 3) := by decide +kernel
theorem dX8_met_5 : decode cX8_met 5 = .ok (.bipush (-10), 2) := by decide +kernel
theorem dX8_met_7 : decode cX8_met 7 = .ok (.iload_n 1, 1) := by decide +kernel
theorem dX8_met_8 : decode cX8_met 8 = .ok (.isub, 1) := by decide +kernel
theorem dX8_met_9 : decode cX8_met 9 = .ok (.ireturn, 1) := by decide +kernel
theorem dX8_isSheet_0 : decode cX8_isSheet 0 = .ok (.iload_n 0, 1) := by decide +kernel
theorem dX8_isSheet_1 : decode cX8_isSheet 1 = .ok (.i2l, 1) := by decide +kernel
theorem dX8_isSheet_2 : decode cX8_isSheet 2 = .ok (.lconst 0, 1) := by decide +kernel
theorem dX8_isSheet_3 : decode cX8_isSheet 3 = .ok (.ldc2_w 85, 3) := by decide +kernel
theorem dX8_isSheet_6 : decode cX8_isSheet 6 = .ok (.invokestatic 77, 3) := by decide +kernel
theorem dX8_isSheet_9 : decode cX8_isSheet 9 = .ok (.ireturn, 1) := by decide +kernel
theorem dX8_sheet_0 : decode cX8_sheet 0 = .ok (.iload_n 1, 1) := by decide +kernel
theorem dX8_sheet_1 : decode cX8_sheet 1 = .ok (.invokestatic 87, 3) := by decide +kernel
theorem dX8_sheet_4 : decode cX8_sheet 4 = .ok (.ifCond .eq 21, 3) := by decide +kernel
theorem dX8_sheet_7 : decode cX8_sheet 7 = .ok (.iload_n 2, 1) := by decide +kernel
theorem dX8_sheet_8 : decode cX8_sheet 8 = .ok (.i2l, 1) := by decide +kernel
theorem dX8_sheet_9 : decode cX8_sheet 9 = .ok (.lconst 0, 1) := by decide +kernel
theorem dX8_sheet_10 : decode cX8_sheet 10 = .ok (.ldc2_w 91, 3) := by decide +kernel
theorem dX8_sheet_13 : decode cX8_sheet 13 = .ok (.invokestatic 77, 3) := by decide +kernel
theorem dX8_sheet_16 : decode cX8_sheet 16 = .ok (.ifCond .eq 9, 3) := by decide +kernel
theorem dX8_sheet_19 : decode cX8_sheet 19 = .ok (.iload_n 3, 1) := by decide +kernel
theorem dX8_sheet_20 : decode cX8_sheet 20 = .ok (.bipush 60, 2) := by decide +kernel
theorem dX8_sheet_22 : decode cX8_sheet 22 = .ok (.if_icmp .le 6, 3) := by decide +kernel
theorem dX8_sheet_25 : decode cX8_sheet 25 = .ok (.bipush (-2), 2) := by decide +kernel
theorem dX8_sheet_27 : decode cX8_sheet 27 = .ok (.ireturn, 1) := by decide +kernel
theorem dX8_sheet_28 : decode cX8_sheet 28 = .ok (.iload_n 3, 1) := by decide +kernel
theorem dX8_sheet_29 : decode cX8_sheet 29 = .ok (.ifCond .ge 9, 3) := by decide +kernel
theorem dX8_sheet_32 : decode cX8_sheet 32 = .ok (.aload_n 0, 1) := by decide +kernel
theorem dX8_sheet_33 : decode cX8_sheet 33 = .ok (.iconst 5, 1) := by decide +kernel
theorem dX8_sheet_34 : decode cX8_sheet 34 = .ok (.invokevirtual 93, 3) := by decide +kernel
theorem dX8_sheet_37 : decode cX8_sheet 37 = .ok (.ireturn, 1) := by decide +kernel
theorem dX8_sheet_38 : decode cX8_sheet 38 = .ok (.aload_n 0, 1) := by decide +kernel
theorem dX8_sheet_39 : decode cX8_sheet 39 = .ok (.getfield 7, 3) := by decide +kernel
theorem dX8_sheet_42 : decode cX8_sheet 42 = .ok (.iload_n 1, 1) := by decide +kernel
theorem dX8_sheet_43 : decode cX8_sheet 43 = .ok (.iload_n 2, 1) := by decide +kernel
theorem dX8_sheet_44 : decode cX8_sheet 44 = .ok (.iastore, 1) := by decide +kernel
theorem dX8_sheet_45 : decode cX8_sheet 45 = .ok (.aload_n 0, 1) := by decide +kernel
theorem dX8_sheet_46 : decode cX8_sheet 46 = .ok (.getfield 13, 3) := by decide +kernel
theorem dX8_sheet_49 : decode cX8_sheet 49 = .ok (.iload_n 1, 1) := by decide +kernel
theorem dX8_sheet_50 : decode cX8_sheet 50 = .ok (.iload_n 3, 1) := by decide +kernel
theorem dX8_sheet_51 : decode cX8_sheet 51 = .ok (.iastore, 1) := by decide +kernel
theorem dX8_sheet_52 : decode cX8_sheet 52 = .ok (.iconst 0, 1) := by decide +kernel
theorem dX8_sheet_53 : decode cX8_sheet 53 = .ok (.istore 4, 2) := by decide +kernel
theorem dX8_sheet_55 : decode cX8_sheet 55 = .ok (.iload 4, 2) := by decide +kernel
theorem dX8_sheet_57 : decode cX8_sheet 57 = .ok (.iload_n 3, 1) := by decide +kernel
theorem dX8_sheet_58 : decode cX8_sheet 58 = .ok (.if_icmp .ge 22, 3) := by decide +kernel
theorem dX8_sheet_61 : decode cX8_sheet 61 = .ok (.aload_n 0, 1) := by decide +kernel
theorem dX8_sheet_62 : decode cX8_sheet 62 = .ok (.getfield 16, 3) := by decide +kernel
theorem dX8_sheet_65 : decode cX8_sheet 65 = .ok (.bipush 60, 2) := by decide +kernel
theorem dX8_sheet_67 : decode cX8_sheet 67 = .ok (.iload_n 1, 1) := by decide +kernel
theorem dX8_sheet_68 : decode cX8_sheet 68 = .ok (.imul, 1) := by decide +kernel
theorem dX8_sheet_69 : decode cX8_sheet 69 = .ok (.iload 4, 2) := by decide +kernel
theorem dX8_sheet_71 : decode cX8_sheet 71 = .ok (.iadd, 1) := by decide +kernel
theorem dX8_sheet_72 : decode cX8_sheet 72 = .ok (.iconst 0, 1) := by decide +kernel
theorem dX8_sheet_73 : decode cX8_sheet 73 = .ok (.iastore, 1) := by decide +kernel
theorem dX8_sheet_74 : decode cX8_sheet 74 = .ok (.iinc 4 1, 3) := by decide +kernel
theorem dX8_sheet_77 : decode cX8_sheet 77 = .ok (.goto (-22), 3) := by decide +kernel
theorem dX8_sheet_80 : decode cX8_sheet 80 = .ok (.iload_n 3, 1) := by decide +kernel
theorem dX8_sheet_81 : decode cX8_sheet 81 = .ok (.ireturn, 1) := by decide +kernel
theorem dX8_lose_0 : decode cX8_lose 0 = .ok (.iload_n 1, 1) := by decide +kernel
theorem dX8_lose_1 : decode cX8_lose 1 = .ok (.invokestatic 87, 3) := by decide +kernel
theorem dX8_lose_4 : decode cX8_lose 4 = .ok (.ifCond .ne 6, 3) := by decide +kernel
theorem dX8_lose_7 : decode cX8_lose 7 = .ok (.bipush (-2), 2) := by decide +kernel
theorem dX8_lose_9 : decode cX8_lose 9 = .ok (.ireturn, 1) := by decide +kernel
theorem dX8_lose_10 : decode cX8_lose 10 = .ok (.aload_n 0, 1) := by decide +kernel
theorem dX8_lose_11 : decode cX8_lose 11 = .ok (.getfield 7, 3) := by decide +kernel
theorem dX8_lose_14 : decode cX8_lose 14 = .ok (.iload_n 1, 1) := by decide +kernel
theorem dX8_lose_15 : decode cX8_lose 15 = .ok (.iaload, 1) := by decide +kernel
theorem dX8_lose_16 : decode cX8_lose 16 = .ok (.ifCond .ge 9, 3) := by decide +kernel
theorem dX8_lose_19 : decode cX8_lose 19 = .ok (.aload_n 0, 1) := by decide +kernel
theorem dX8_lose_20 : decode cX8_lose 20 = .ok (.iconst 1, 1) := by decide +kernel
theorem dX8_lose_21 : decode cX8_lose 21 = .ok (.invokevirtual 93, 3) := by decide +kernel
theorem dX8_lose_24 : decode cX8_lose 24 = .ok (.ireturn, 1) := by decide +kernel
theorem dX8_lose_25 : decode cX8_lose 25 = .ok (.aload_n 0, 1) := by decide +kernel
theorem dX8_lose_26 : decode cX8_lose 26 = .ok (.getfield 7, 3) := by decide +kernel
theorem dX8_lose_29 : decode cX8_lose 29 = .ok (.iload_n 1, 1) := by decide +kernel
theorem dX8_lose_30 : decode cX8_lose 30 = .ok (.iconst (-1), 1) := by decide +kernel
theorem dX8_lose_31 : decode cX8_lose 31 = .ok (.iastore, 1) := by decide +kernel
theorem dX8_lose_32 : decode cX8_lose 32 = .ok (.aload_n 0, 1) := by decide +kernel
theorem dX8_lose_33 : decode cX8_lose 33 = .ok (.getfield 13, 3) := by decide +kernel
theorem dX8_lose_36 : decode cX8_lose 36 = .ok (.iload_n 1, 1) := by decide +kernel
theorem dX8_lose_37 : decode cX8_lose 37 = .ok (.iaload, 1) := by decide +kernel
theorem dX8_lose_38 : decode cX8_lose 38 = .ok (.ireturn, 1) := by decide +kernel
theorem dX8_lacks_0 : decode cX8_lacks 0 = .ok (.aload_n 0, 1) := by decide +kernel
theorem dX8_lacks_1 : decode cX8_lacks 1 = .ok (.getfield 7, 3) := by decide +kernel
theorem dX8_lacks_4 : decode cX8_lacks 4 = .ok (.iload_n 1, 1) := by decide +kernel
theorem dX8_lacks_5 : decode cX8_lacks 5 = .ok (.iaload, 1) := by decide +kernel
theorem dX8_lacks_6 : decode cX8_lacks 6 = .ok (.ifCond .ge 9, 3) := by decide +kernel
theorem dX8_lacks_9 : decode cX8_lacks 9 = .ok (.aload_n 0, 1) := by decide +kernel
theorem dX8_lacks_10 : decode cX8_lacks 10 = .ok (.iconst 1, 1) := by decide +kernel
theorem dX8_lacks_11 : decode cX8_lacks 11 = .ok (.invokevirtual 93, 3) := by decide +kernel
theorem dX8_lacks_14 : decode cX8_lacks 14 = .ok (.ireturn, 1) := by decide +kernel
theorem dX8_lacks_15 : decode cX8_lacks 15 = .ok (.aload_n 0, 1) := by decide +kernel
theorem dX8_lacks_16 : decode cX8_lacks 16 = .ok (.getfield 7, 3) := by decide +kernel
theorem dX8_lacks_19 : decode cX8_lacks 19 = .ok (.iload_n 1, 1) := by decide +kernel
theorem dX8_lacks_20 : decode cX8_lacks 20 = .ok (.iaload, 1) := by decide +kernel
theorem dX8_lacks_21 : decode cX8_lacks 21 = .ok (.iload_n 2, 1) := by decide +kernel
theorem dX8_lacks_22 : decode cX8_lacks 22 = .ok (.if_icmp .eq 9, 3) := by decide +kernel
theorem dX8_lacks_25 : decode cX8_lacks 25 = .ok (.aload_n 0, 1) := by decide +kernel
theorem dX8_lacks_26 : decode cX8_lacks 26 = .ok (.iconst 3, 1) := by decide +kernel
theorem dX8_lacks_27 : decode cX8_lacks 27 = .ok (.invokevirtual 93, 3) := by decide +kernel
theorem dX8_lacks_30 : decode cX8_lacks 30 = .ok (.ireturn, 1) := by decide +kernel
theorem dX8_lacks_31 : decode cX8_lacks 31 = .ok (.iload_n 3, 1) := by decide +kernel
theorem dX8_lacks_32 : decode cX8_lacks 32 = .ok (.i2l, 1) := by decide +kernel
theorem dX8_lacks_33 : decode cX8_lacks 33 = .ok (.lconst 0, 1) := by decide +kernel
theorem dX8_lacks_34 : decode cX8_lacks 34 = .ok (.aload_n 0, 1) := by decide +kernel
theorem dX8_lacks_35 : decode cX8_lacks 35 = .ok (.getfield 13, 3) := by decide +kernel
theorem dX8_lacks_38 : decode cX8_lacks 38 = .ok (.iload_n 1, 1) := by decide +kernel
theorem dX8_lacks_39 : decode cX8_lacks 39 = .ok (.iaload, 1) := by decide +kernel
theorem dX8_lacks_40 : decode cX8_lacks 40 = .ok (.iconst 1, 1) := by decide +kernel
theorem dX8_lacks_41 : decode cX8_lacks 41 = .ok (.isub, 1) := by decide +kernel
theorem dX8_lacks_42 : decode cX8_lacks 42 = .ok (.i2l, 1) := by decide +kernel
theorem dX8_lacks_43 : decode cX8_lacks 43 = .ok (.invokestatic 77, 3) := by decide +kernel
theorem dX8_lacks_46 : decode cX8_lacks 46 = .ok (.ifCond .eq 7, 3) := by decide +kernel
theorem dX8_lacks_49 : decode cX8_lacks 49 = .ok (.iconst 0, 1) := by decide +kernel
theorem dX8_lacks_50 : decode cX8_lacks 50 = .ok (.goto 8, 3) := by decide +kernel
theorem dX8_lacks_53 : decode cX8_lacks 53 = .ok (.aload_n 0, 1) := by decide +kernel
theorem dX8_lacks_54 : decode cX8_lacks 54 = .ok (.iconst 2, 1) := by decide +kernel
theorem dX8_lacks_55 : decode cX8_lacks 55 = .ok (.invokevirtual 93, 3) := by decide +kernel
theorem dX8_lacks_58 : decode cX8_lacks 58 = .ok (.ireturn, 1) := by decide +kernel
theorem dX8_cut_0 : decode cX8_cut 0 = .ok (.iload_n 0, 1) := by decide +kernel
theorem dX8_cut_1 : decode cX8_cut 1 = .ok (.ifCond .ne 8, 3) := by decide +kernel
theorem dX8_cut_4 : decode cX8_cut 4 = .ok (.iload_n 1, 1) := by decide +kernel
theorem dX8_cut_5 : decode cX8_cut 5 = .ok (.i2b, 1) := by decide +kernel
theorem dX8_cut_6 : decode cX8_cut 6 = .ok (.goto 14, 3) := by decide +kernel
theorem dX8_cut_9 : decode cX8_cut 9 = .ok (.iload_n 0, 1) := by decide +kernel
theorem dX8_cut_10 : decode cX8_cut 10 = .ok (.iconst 1, 1) := by decide +kernel
theorem dX8_cut_11 : decode cX8_cut 11 = .ok (.if_icmp .ne 8, 3) := by decide +kernel
theorem dX8_cut_14 : decode cX8_cut 14 = .ok (.iload_n 1, 1) := by decide +kernel
theorem dX8_cut_15 : decode cX8_cut 15 = .ok (.i2s, 1) := by decide +kernel
theorem dX8_cut_16 : decode cX8_cut 16 = .ok (.goto 4, 3) := by decide +kernel
theorem dX8_cut_19 : decode cX8_cut 19 = .ok (.iload_n 1, 1) := by decide +kernel
theorem dX8_cut_20 : decode cX8_cut 20 = .ok (.ireturn, 1) := by decide +kernel
theorem dX8_lay_0 : decode cX8_lay 0 = .ok (.iload_n 1, 1) := by decide +kernel
theorem dX8_lay_1 : decode cX8_lay 1 = .ok (.invokestatic 87, 3) := by decide +kernel
theorem dX8_lay_4 : decode cX8_lay 4 = .ok (.ifCond .eq 15, 3) := by decide +kernel
theorem dX8_lay_7 : decode cX8_lay 7 = .ok (.iload_n 2, 1) := by decide +kernel
theorem dX8_lay_8 : decode cX8_lay 8 = .ok (.i2l, 1) := by decide +kernel
theorem dX8_lay_9 : decode cX8_lay 9 = .ok (.lconst 0, 1) := by decide +kernel
theorem dX8_lay_10 : decode cX8_lay 10 = .ok (.ldc2_w 91, 3) := by decide +kernel
theorem dX8_lay_13 : decode cX8_lay 13 = .ok (.invokestatic 77, 3) := by decide +kernel
theorem dX8_lay_16 : decode cX8_lay 16 = .ok (.ifCond .ne 6, 3) := by decide +kernel
theorem dX8_lay_19 : decode cX8_lay 19 = .ok (.bipush (-2), 2) := by decide +kernel
theorem dX8_lay_21 : decode cX8_lay 21 = .ok (.ireturn, 1) := by decide +kernel
theorem dX8_lay_22 : decode cX8_lay 22 = .ok (.aload_n 0, 1) := by decide +kernel
theorem dX8_lay_23 : decode cX8_lay 23 = .ok (.iload_n 1, 1) := by decide +kernel
theorem dX8_lay_24 : decode cX8_lay 24 = .ok (.iload_n 2, 1) := by decide +kernel
theorem dX8_lay_25 : decode cX8_lay 25 = .ok (.iload_n 3, 1) := by decide +kernel
theorem dX8_lay_26 : decode cX8_lay 26 = .ok (.invokevirtual 97, 3) := by decide +kernel
theorem dX8_lay_29 : decode cX8_lay 29 = .ok (.istore 5, 2) := by decide +kernel
theorem dX8_lay_31 : decode cX8_lay 31 = .ok (.iload 5, 2) := by decide +kernel
theorem dX8_lay_33 : decode cX8_lay 33 = .ok (.ifCond .eq 6, 3) := by decide +kernel
theorem dX8_lay_36 : decode cX8_lay 36 = .ok (.iload 5, 2) := by decide +kernel
theorem dX8_lay_38 : decode cX8_lay 38 = .ok (.ireturn, 1) := by decide +kernel
theorem dX8_lay_39 : decode cX8_lay 39 = .ok (.aload_n 0, 1) := by decide +kernel
theorem dX8_lay_40 : decode cX8_lay 40 = .ok (.getfield 16, 3) := by decide +kernel
theorem dX8_lay_43 : decode cX8_lay 43 = .ok (.bipush 60, 2) := by decide +kernel
theorem dX8_lay_45 : decode cX8_lay 45 = .ok (.iload_n 1, 1) := by decide +kernel
theorem dX8_lay_46 : decode cX8_lay 46 = .ok (.imul, 1) := by decide +kernel
theorem dX8_lay_47 : decode cX8_lay 47 = .ok (.iload_n 3, 1) := by decide +kernel
theorem dX8_lay_48 : decode cX8_lay 48 = .ok (.iadd, 1) := by decide +kernel
theorem dX8_lay_49 : decode cX8_lay 49 = .ok (.iload_n 2, 1) := by decide +kernel
theorem dX8_lay_50 : decode cX8_lay 50 = .ok (.iload 4, 2) := by decide +kernel
theorem dX8_lay_52 : decode cX8_lay 52 = .ok (.invokestatic 101, 3) := by decide +kernel
theorem dX8_lay_55 : decode cX8_lay 55 = .ok (.iastore, 1) := by decide +kernel
theorem dX8_lay_56 : decode cX8_lay 56 = .ok (.iconst 1, 1) := by decide +kernel
theorem dX8_lay_57 : decode cX8_lay 57 = .ok (.ireturn, 1) := by decide +kernel
theorem dX8_get_0 : decode cX8_get 0 = .ok (.iload_n 1, 1) := by decide +kernel
theorem dX8_get_1 : decode cX8_get 1 = .ok (.invokestatic 87, 3) := by decide +kernel
theorem dX8_get_4 : decode cX8_get 4 = .ok (.ifCond .eq 25, 3) := by decide +kernel
theorem dX8_get_7 : decode cX8_get 7 = .ok (.iload_n 2, 1) := by decide +kernel
theorem dX8_get_8 : decode cX8_get 8 = .ok (.i2l, 1) := by decide +kernel
theorem dX8_get_9 : decode cX8_get 9 = .ok (.lconst 0, 1) := by decide +kernel
theorem dX8_get_10 : decode cX8_get 10 = .ok (.ldc2_w 91, 3) := by decide +kernel
theorem dX8_get_13 : decode cX8_get 13 = .ok (.invokestatic 77, 3) := by decide +kernel
theorem dX8_get_16 : decode cX8_get 16 = .ok (.ifCond .eq 13, 3) := by decide +kernel
theorem dX8_get_19 : decode cX8_get 19 = .ok (.aload_n 0, 1) := by decide +kernel
theorem dX8_get_20 : decode cX8_get 20 = .ok (.iload_n 1, 1) := by decide +kernel
theorem dX8_get_21 : decode cX8_get 21 = .ok (.iload_n 2, 1) := by decide +kernel
theorem dX8_get_22 : decode cX8_get 22 = .ok (.iload_n 3, 1) := by decide +kernel
theorem dX8_get_23 : decode cX8_get 23 = .ok (.invokevirtual 97, 3) := by decide +kernel
theorem dX8_get_26 : decode cX8_get 26 = .ok (.ifCond .eq 6, 3) := by decide +kernel
theorem dX8_get_29 : decode cX8_get 29 = .ok (.ldc 105, 2) := by decide +kernel
theorem dX8_get_31 : decode cX8_get 31 = .ok (.ireturn, 1) := by decide +kernel
theorem dX8_get_32 : decode cX8_get 32 = .ok (.aload_n 0, 1) := by decide +kernel
theorem dX8_get_33 : decode cX8_get 33 = .ok (.getfield 16, 3) := by decide +kernel
theorem dX8_get_36 : decode cX8_get 36 = .ok (.bipush 60, 2) := by decide +kernel
theorem dX8_get_38 : decode cX8_get 38 = .ok (.iload_n 1, 1) := by decide +kernel
theorem dX8_get_39 : decode cX8_get 39 = .ok (.imul, 1) := by decide +kernel
theorem dX8_get_40 : decode cX8_get 40 = .ok (.iload_n 3, 1) := by decide +kernel
theorem dX8_get_41 : decode cX8_get 41 = .ok (.iadd, 1) := by decide +kernel
theorem dX8_get_42 : decode cX8_get 42 = .ok (.iaload, 1) := by decide +kernel
theorem dX8_get_43 : decode cX8_get 43 = .ok (.ireturn, 1) := by decide +kernel
theorem dX8_copy_0 : decode cX8_copy 0 = .ok (.iload_n 1, 1) := by decide +kernel
theorem dX8_copy_1 : decode cX8_copy 1 = .ok (.invokestatic 87, 3) := by decide +kernel
theorem dX8_copy_4 : decode cX8_copy 4 = .ok (.ifCond .eq 10, 3) := by decide +kernel
theorem dX8_copy_7 : decode cX8_copy 7 = .ok (.iload_n 3, 1) := by decide +kernel
theorem dX8_copy_8 : decode cX8_copy 8 = .ok (.invokestatic 87, 3) := by decide +kernel
theorem dX8_copy_11 : decode cX8_copy 11 = .ok (.ifCond .ne 6, 3) := by decide +kernel
theorem dX8_copy_14 : decode cX8_copy 14 = .ok (.bipush (-2), 2) := by decide +kernel
theorem dX8_copy_16 : decode cX8_copy 16 = .ok (.ireturn, 1) := by decide +kernel
theorem dX8_copy_17 : decode cX8_copy 17 = .ok (.aload_n 0, 1) := by decide +kernel
theorem dX8_copy_18 : decode cX8_copy 18 = .ok (.getfield 7, 3) := by decide +kernel
theorem dX8_copy_21 : decode cX8_copy 21 = .ok (.iload_n 1, 1) := by decide +kernel
theorem dX8_copy_22 : decode cX8_copy 22 = .ok (.iaload, 1) := by decide +kernel
theorem dX8_copy_23 : decode cX8_copy 23 = .ok (.ifCond .lt 12, 3) := by decide +kernel
theorem dX8_copy_26 : decode cX8_copy 26 = .ok (.aload_n 0, 1) := by decide +kernel
theorem dX8_copy_27 : decode cX8_copy 27 = .ok (.getfield 7, 3) := by decide +kernel
theorem dX8_copy_30 : decode cX8_copy 30 = .ok (.iload_n 3, 1) := by decide +kernel
theorem dX8_copy_31 : decode cX8_copy 31 = .ok (.iaload, 1) := by decide +kernel
theorem dX8_copy_32 : decode cX8_copy 32 = .ok (.ifCond .ge 9, 3) := by decide +kernel
theorem dX8_copy_35 : decode cX8_copy 35 = .ok (.aload_n 0, 1) := by decide +kernel
theorem dX8_copy_36 : decode cX8_copy 36 = .ok (.iconst 1, 1) := by decide +kernel
theorem dX8_copy_37 : decode cX8_copy 37 = .ok (.invokevirtual 93, 3) := by decide +kernel
theorem dX8_copy_40 : decode cX8_copy 40 = .ok (.ireturn, 1) := by decide +kernel
theorem dX8_copy_41 : decode cX8_copy 41 = .ok (.aload_n 0, 1) := by decide +kernel
theorem dX8_copy_42 : decode cX8_copy 42 = .ok (.getfield 7, 3) := by decide +kernel
theorem dX8_copy_45 : decode cX8_copy 45 = .ok (.iload_n 1, 1) := by decide +kernel
theorem dX8_copy_46 : decode cX8_copy 46 = .ok (.iaload, 1) := by decide +kernel
theorem dX8_copy_47 : decode cX8_copy 47 = .ok (.aload_n 0, 1) := by decide +kernel
theorem dX8_copy_48 : decode cX8_copy 48 = .ok (.getfield 7, 3) := by decide +kernel
theorem dX8_copy_51 : decode cX8_copy 51 = .ok (.iload_n 3, 1) := by decide +kernel
theorem dX8_copy_52 : decode cX8_copy 52 = .ok (.iaload, 1) := by decide +kernel
theorem dX8_copy_53 : decode cX8_copy 53 = .ok (.if_icmp .eq 9, 3) := by decide +kernel
theorem dX8_copy_56 : decode cX8_copy 56 = .ok (.aload_n 0, 1) := by decide +kernel
theorem dX8_copy_57 : decode cX8_copy 57 = .ok (.iconst 4, 1) := by decide +kernel
theorem dX8_copy_58 : decode cX8_copy 58 = .ok (.invokevirtual 93, 3) := by decide +kernel
theorem dX8_copy_61 : decode cX8_copy 61 = .ok (.ireturn, 1) := by decide +kernel
theorem dX8_copy_62 : decode cX8_copy 62 = .ok (.iload_n 2, 1) := by decide +kernel
theorem dX8_copy_63 : decode cX8_copy 63 = .ok (.ifCond .lt 48, 3) := by decide +kernel
theorem dX8_copy_66 : decode cX8_copy 66 = .ok (.iload 4, 2) := by decide +kernel
theorem dX8_copy_68 : decode cX8_copy 68 = .ok (.ifCond .lt 43, 3) := by decide +kernel
theorem dX8_copy_71 : decode cX8_copy 71 = .ok (.iload 5, 2) := by decide +kernel
theorem dX8_copy_73 : decode cX8_copy 73 = .ok (.ifCond .lt 38, 3) := by decide +kernel
theorem dX8_copy_76 : decode cX8_copy 76 = .ok (.iload_n 2, 1) := by decide +kernel
theorem dX8_copy_77 : decode cX8_copy 77 = .ok (.i2l, 1) := by decide +kernel
theorem dX8_copy_78 : decode cX8_copy 78 = .ok (.iload 5, 2) := by decide +kernel
theorem dX8_copy_80 : decode cX8_copy 80 = .ok (.i2l, 1) := by decide +kernel
theorem dX8_copy_81 : decode cX8_copy 81 = .ok (.ladd, 1) := by decide +kernel
theorem dX8_copy_82 : decode cX8_copy 82 = .ok (.aload_n 0, 1) := by decide +kernel
theorem dX8_copy_83 : decode cX8_copy 83 = .ok (.getfield 13, 3) := by decide +kernel
theorem dX8_copy_86 : decode cX8_copy 86 = .ok (.iload_n 1, 1) := by decide +kernel
theorem dX8_copy_87 : decode cX8_copy 87 = .ok (.iaload, 1) := by decide +kernel
theorem dX8_copy_88 : decode cX8_copy 88 = .ok (.i2l, 1) := by decide +kernel
theorem dX8_copy_89 : decode cX8_copy 89 = .ok (.lcmp, 1) := by decide +kernel
theorem dX8_copy_90 : decode cX8_copy 90 = .ok (.ifCond .gt 21, 3) := by decide +kernel
theorem dX8_copy_93 : decode cX8_copy 93 = .ok (.iload 4, 2) := by decide +kernel
theorem dX8_copy_95 : decode cX8_copy 95 = .ok (.i2l, 1) := by decide +kernel
theorem dX8_copy_96 : decode cX8_copy 96 = .ok (.iload 5, 2) := by decide +kernel
theorem dX8_copy_98 : decode cX8_copy 98 = .ok (.i2l, 1) := by decide +kernel
theorem dX8_copy_99 : decode cX8_copy 99 = .ok (.ladd, 1) := by decide +kernel
theorem dX8_copy_100 : decode cX8_copy 100 = .ok (.aload_n 0, 1) := by decide +kernel
theorem dX8_copy_101 : decode cX8_copy 101 = .ok (.getfield 13, 3) := by decide +kernel
theorem dX8_copy_104 : decode cX8_copy 104 = .ok (.iload_n 3, 1) := by decide +kernel
theorem dX8_copy_105 : decode cX8_copy 105 = .ok (.iaload, 1) := by decide +kernel
theorem dX8_copy_106 : decode cX8_copy 106 = .ok (.i2l, 1) := by decide +kernel
theorem dX8_copy_107 : decode cX8_copy 107 = .ok (.lcmp, 1) := by decide +kernel
theorem dX8_copy_108 : decode cX8_copy 108 = .ok (.ifCond .le 9, 3) := by decide +kernel
theorem dX8_copy_111 : decode cX8_copy 111 = .ok (.aload_n 0, 1) := by decide +kernel
theorem dX8_copy_112 : decode cX8_copy 112 = .ok (.iconst 2, 1) := by decide +kernel
theorem dX8_copy_113 : decode cX8_copy 113 = .ok (.invokevirtual 93, 3) := by decide +kernel
theorem dX8_copy_116 : decode cX8_copy 116 = .ok (.ireturn, 1) := by decide +kernel
theorem dX8_copy_117 : decode cX8_copy 117 = .ok (.iconst 0, 1) := by decide +kernel
theorem dX8_copy_118 : decode cX8_copy 118 = .ok (.istore 6, 2) := by decide +kernel
theorem dX8_copy_120 : decode cX8_copy 120 = .ok (.iload 6, 2) := by decide +kernel
theorem dX8_copy_122 : decode cX8_copy 122 = .ok (.iload 5, 2) := by decide +kernel
theorem dX8_copy_124 : decode cX8_copy 124 = .ok (.if_icmp .ge 30, 3) := by decide +kernel
theorem dX8_copy_127 : decode cX8_copy 127 = .ok (.aload_n 0, 1) := by decide +kernel
theorem dX8_copy_128 : decode cX8_copy 128 = .ok (.getfield 19, 3) := by decide +kernel
theorem dX8_copy_131 : decode cX8_copy 131 = .ok (.iload 6, 2) := by decide +kernel
theorem dX8_copy_133 : decode cX8_copy 133 = .ok (.aload_n 0, 1) := by decide +kernel
theorem dX8_copy_134 : decode cX8_copy 134 = .ok (.getfield 16, 3) := by decide +kernel
theorem dX8_copy_137 : decode cX8_copy 137 = .ok (.bipush 60, 2) := by decide +kernel
theorem dX8_copy_139 : decode cX8_copy 139 = .ok (.iload_n 1, 1) := by decide +kernel
theorem dX8_copy_140 : decode cX8_copy 140 = .ok (.imul, 1) := by decide +kernel
theorem dX8_copy_141 : decode cX8_copy 141 = .ok (.iload_n 2, 1) := by decide +kernel
theorem dX8_copy_142 : decode cX8_copy 142 = .ok (.iadd, 1) := by decide +kernel
theorem dX8_copy_143 : decode cX8_copy 143 = .ok (.iload 6, 2) := by decide +kernel
theorem dX8_copy_145 : decode cX8_copy 145 = .ok (.iadd, 1) := by decide +kernel
theorem dX8_copy_146 : decode cX8_copy 146 = .ok (.iaload, 1) := by decide +kernel
theorem dX8_copy_147 : decode cX8_copy 147 = .ok (.iastore, 1) := by decide +kernel
theorem dX8_copy_148 : decode cX8_copy 148 = .ok (.iinc 6 1, 3) := by decide +kernel
theorem dX8_copy_151 : decode cX8_copy 151 = .ok (.goto (-31), 3) := by decide +kernel
theorem dX8_copy_154 : decode cX8_copy 154 = .ok (.iconst 0, 1) := by decide +kernel
theorem dX8_copy_155 : decode cX8_copy 155 = .ok (.istore 6, 2) := by decide +kernel
theorem dX8_copy_157 : decode cX8_copy 157 = .ok (.iload 6, 2) := by decide +kernel
theorem dX8_copy_159 : decode cX8_copy 159 = .ok (.iload 5, 2) := by decide +kernel
theorem dX8_copy_161 : decode cX8_copy 161 = .ok (.if_icmp .ge 31, 3) := by decide +kernel
theorem dX8_copy_164 : decode cX8_copy 164 = .ok (.aload_n 0, 1) := by decide +kernel
theorem dX8_copy_165 : decode cX8_copy 165 = .ok (.getfield 16, 3) := by decide +kernel
theorem dX8_copy_168 : decode cX8_copy 168 = .ok (.bipush 60, 2) := by decide +kernel
theorem dX8_copy_170 : decode cX8_copy 170 = .ok (.iload_n 3, 1) := by decide +kernel
theorem dX8_copy_171 : decode cX8_copy 171 = .ok (.imul, 1) := by decide +kernel
theorem dX8_copy_172 : decode cX8_copy 172 = .ok (.iload 4, 2) := by decide +kernel
theorem dX8_copy_174 : decode cX8_copy 174 = .ok (.iadd, 1) := by decide +kernel
theorem dX8_copy_175 : decode cX8_copy 175 = .ok (.iload 6, 2) := by decide +kernel
theorem dX8_copy_177 : decode cX8_copy 177 = .ok (.iadd, 1) := by decide +kernel
theorem dX8_copy_178 : decode cX8_copy 178 = .ok (.aload_n 0, 1) := by decide +kernel
theorem dX8_copy_179 : decode cX8_copy 179 = .ok (.getfield 19, 3) := by decide +kernel
theorem dX8_copy_182 : decode cX8_copy 182 = .ok (.iload 6, 2) := by decide +kernel
theorem dX8_copy_184 : decode cX8_copy 184 = .ok (.iaload, 1) := by decide +kernel
theorem dX8_copy_185 : decode cX8_copy 185 = .ok (.iastore, 1) := by decide +kernel
theorem dX8_copy_186 : decode cX8_copy 186 = .ok (.iinc 6 1, 3) := by decide +kernel
theorem dX8_copy_189 : decode cX8_copy 189 = .ok (.goto (-32), 3) := by decide +kernel
theorem dX8_copy_192 : decode cX8_copy 192 = .ok (.iconst 1, 1) := by decide +kernel
theorem dX8_copy_193 : decode cX8_copy 193 = .ok (.ireturn, 1) := by decide +kernel
theorem dX8_type_0 : decode cX8_type 0 = .ok (.iload_n 1, 1) := by decide +kernel
theorem dX8_type_1 : decode cX8_type 1 = .ok (.i2l, 1) := by decide +kernel
theorem dX8_type_2 : decode cX8_type 2 = .ok (.lconst 0, 1) := by decide +kernel
theorem dX8_type_3 : decode cX8_type 3 = .ok (.ldc2_w 91, 3) := by decide +kernel
theorem dX8_type_6 : decode cX8_type 6 = .ok (.invokestatic 77, 3) := by decide +kernel
theorem dX8_type_9 : decode cX8_type 9 = .ok (.ifCond .eq 15, 3) := by decide +kernel
theorem dX8_type_12 : decode cX8_type 12 = .ok (.iload_n 2, 1) := by decide +kernel
theorem dX8_type_13 : decode cX8_type 13 = .ok (.i2l, 1) := by decide +kernel
theorem dX8_type_14 : decode cX8_type 14 = .ok (.lconst 0, 1) := by decide +kernel
theorem dX8_type_15 : decode cX8_type 15 = .ok (.ldc2_w 106, 3) := by decide +kernel
theorem dX8_type_18 : decode cX8_type 18 = .ok (.invokestatic 77, 3) := by decide +kernel
theorem dX8_type_21 : decode cX8_type 21 = .ok (.ifCond .ne 6, 3) := by decide +kernel
theorem dX8_type_24 : decode cX8_type 24 = .ok (.bipush (-2), 2) := by decide +kernel
theorem dX8_type_26 : decode cX8_type 26 = .ok (.ireturn, 1) := by decide +kernel
theorem dX8_type_27 : decode cX8_type 27 = .ok (.aload_n 0, 1) := by decide +kernel
theorem dX8_type_28 : decode cX8_type 28 = .ok (.getfield 25, 3) := by decide +kernel
theorem dX8_type_31 : decode cX8_type 31 = .ok (.iload_n 1, 1) := by decide +kernel
theorem dX8_type_32 : decode cX8_type 32 = .ok (.iaload, 1) := by decide +kernel
theorem dX8_type_33 : decode cX8_type 33 = .ok (.bipush 40, 2) := by decide +kernel
theorem dX8_type_35 : decode cX8_type 35 = .ok (.if_icmp .ne 6, 3) := by decide +kernel
theorem dX8_type_38 : decode cX8_type 38 = .ok (.bipush (-4), 2) := by decide +kernel
theorem dX8_type_40 : decode cX8_type 40 = .ok (.ireturn, 1) := by decide +kernel
theorem dX8_type_41 : decode cX8_type 41 = .ok (.aload_n 0, 1) := by decide +kernel
theorem dX8_type_42 : decode cX8_type 42 = .ok (.getfield 22, 3) := by decide +kernel
theorem dX8_type_45 : decode cX8_type 45 = .ok (.bipush 40, 2) := by decide +kernel
theorem dX8_type_47 : decode cX8_type 47 = .ok (.iload_n 1, 1) := by decide +kernel
theorem dX8_type_48 : decode cX8_type 48 = .ok (.imul, 1) := by decide +kernel
theorem dX8_type_49 : decode cX8_type 49 = .ok (.aload_n 0, 1) := by decide +kernel
theorem dX8_type_50 : decode cX8_type 50 = .ok (.getfield 25, 3) := by decide +kernel
theorem dX8_type_53 : decode cX8_type 53 = .ok (.iload_n 1, 1) := by decide +kernel
theorem dX8_type_54 : decode cX8_type 54 = .ok (.iaload, 1) := by decide +kernel
theorem dX8_type_55 : decode cX8_type 55 = .ok (.iadd, 1) := by decide +kernel
theorem dX8_type_56 : decode cX8_type 56 = .ok (.iload_n 2, 1) := by decide +kernel
theorem dX8_type_57 : decode cX8_type 57 = .ok (.iastore, 1) := by decide +kernel
theorem dX8_type_58 : decode cX8_type 58 = .ok (.aload_n 0, 1) := by decide +kernel
theorem dX8_type_59 : decode cX8_type 59 = .ok (.getfield 25, 3) := by decide +kernel
theorem dX8_type_62 : decode cX8_type 62 = .ok (.iload_n 1, 1) := by decide +kernel
theorem dX8_type_63 : decode cX8_type 63 = .ok (.dup2, 1) := by decide +kernel
theorem dX8_type_64 : decode cX8_type 64 = .ok (.iaload, 1) := by decide +kernel
theorem dX8_type_65 : decode cX8_type 65 = .ok (.iconst 1, 1) := by decide +kernel
theorem dX8_type_66 : decode cX8_type 66 = .ok (.iadd, 1) := by decide +kernel
theorem dX8_type_67 : decode cX8_type 67 = .ok (.iastore, 1) := by decide +kernel
theorem dX8_type_68 : decode cX8_type 68 = .ok (.aload_n 0, 1) := by decide +kernel
theorem dX8_type_69 : decode cX8_type 69 = .ok (.getfield 25, 3) := by decide +kernel
theorem dX8_type_72 : decode cX8_type 72 = .ok (.iload_n 1, 1) := by decide +kernel
theorem dX8_type_73 : decode cX8_type 73 = .ok (.iaload, 1) := by decide +kernel
theorem dX8_type_74 : decode cX8_type 74 = .ok (.ireturn, 1) := by decide +kernel
theorem dX8_wipe_0 : decode cX8_wipe 0 = .ok (.iload_n 1, 1) := by decide +kernel
theorem dX8_wipe_1 : decode cX8_wipe 1 = .ok (.i2l, 1) := by decide +kernel
theorem dX8_wipe_2 : decode cX8_wipe 2 = .ok (.lconst 0, 1) := by decide +kernel
theorem dX8_wipe_3 : decode cX8_wipe 3 = .ok (.ldc2_w 91, 3) := by decide +kernel
theorem dX8_wipe_6 : decode cX8_wipe 6 = .ok (.invokestatic 77, 3) := by decide +kernel
theorem dX8_wipe_9 : decode cX8_wipe 9 = .ok (.ifCond .ne 6, 3) := by decide +kernel
theorem dX8_wipe_12 : decode cX8_wipe 12 = .ok (.bipush (-2), 2) := by decide +kernel
theorem dX8_wipe_14 : decode cX8_wipe 14 = .ok (.ireturn, 1) := by decide +kernel
theorem dX8_wipe_15 : decode cX8_wipe 15 = .ok (.aload_n 0, 1) := by decide +kernel
theorem dX8_wipe_16 : decode cX8_wipe 16 = .ok (.getfield 25, 3) := by decide +kernel
theorem dX8_wipe_19 : decode cX8_wipe 19 = .ok (.iload_n 1, 1) := by decide +kernel
theorem dX8_wipe_20 : decode cX8_wipe 20 = .ok (.iaload, 1) := by decide +kernel
theorem dX8_wipe_21 : decode cX8_wipe 21 = .ok (.istore_n 2, 1) := by decide +kernel
theorem dX8_wipe_22 : decode cX8_wipe 22 = .ok (.aload_n 0, 1) := by decide +kernel
theorem dX8_wipe_23 : decode cX8_wipe 23 = .ok (.getfield 25, 3) := by decide +kernel
theorem dX8_wipe_26 : decode cX8_wipe 26 = .ok (.iload_n 1, 1) := by decide +kernel
theorem dX8_wipe_27 : decode cX8_wipe 27 = .ok (.iconst 0, 1) := by decide +kernel
theorem dX8_wipe_28 : decode cX8_wipe 28 = .ok (.iastore, 1) := by decide +kernel
theorem dX8_wipe_29 : decode cX8_wipe 29 = .ok (.iload_n 2, 1) := by decide +kernel
theorem dX8_wipe_30 : decode cX8_wipe 30 = .ok (.ireturn, 1) := by decide +kernel
theorem dX8_here_0 : decode cX8_here 0 = .ok (.aload_n 0, 1) := by decide +kernel
theorem dX8_here_1 : decode cX8_here 1 = .ok (.getfield 108, 3) := by decide +kernel
theorem dX8_here_4 : decode cX8_here 4 = .ok (.aload_n 0, 1) := by decide +kernel
theorem dX8_here_5 : decode cX8_here 5 = .ok (.getfield 25, 3) := by decide +kernel
theorem dX8_here_8 : decode cX8_here 8 = .ok (.iconst 0, 1) := by decide +kernel
theorem dX8_here_9 : decode cX8_here 9 = .ok (.iaload, 1) := by decide +kernel
theorem dX8_here_10 : decode cX8_here 10 = .ok (.if_icmp .ge 15, 3) := by decide +kernel
theorem dX8_here_13 : decode cX8_here 13 = .ok (.aload_n 0, 1) := by decide +kernel
theorem dX8_here_14 : decode cX8_here 14 = .ok (.getfield 22, 3) := by decide +kernel
theorem dX8_here_17 : decode cX8_here 17 = .ok (.aload_n 0, 1) := by decide +kernel
theorem dX8_here_18 : decode cX8_here 18 = .ok (.getfield 108, 3) := by decide +kernel
theorem dX8_here_21 : decode cX8_here 21 = .ok (.iaload, 1) := by decide +kernel
theorem dX8_here_22 : decode cX8_here 22 = .ok (.goto 4, 3) := by decide +kernel
theorem dX8_here_25 : decode cX8_here 25 = .ok (.iconst (-1), 1) := by decide +kernel
theorem dX8_here_26 : decode cX8_here 26 = .ok (.ireturn, 1) := by decide +kernel
theorem dX8_readsPart_0 : decode cX8_readsPart 0 = .ok (.aload_n 0, 1) := by decide +kernel
theorem dX8_readsPart_1 : decode cX8_readsPart 1 = .ok (.getfield 111, 3) := by decide +kernel
theorem dX8_readsPart_4 : decode cX8_readsPart 4 = .ok (.bipush 8, 2) := by decide +kernel
theorem dX8_readsPart_6 : decode cX8_readsPart 6 = .ok (.if_icmp .ne 5, 3) := by decide +kernel
theorem dX8_readsPart_9 : decode cX8_readsPart 9 = .ok (.iconst 0, 1) := by decide +kernel
theorem dX8_readsPart_10 : decode cX8_readsPart 10 = .ok (.ireturn, 1) := by decide +kernel
theorem dX8_readsPart_11 : decode cX8_readsPart 11 = .ok (.iconst 0, 1) := by decide +kernel
theorem dX8_readsPart_12 : decode cX8_readsPart 12 = .ok (.istore_n 1, 1) := by decide +kernel
theorem dX8_readsPart_13 : decode cX8_readsPart 13 = .ok (.iload_n 1, 1) := by decide +kernel
theorem dX8_readsPart_14 : decode cX8_readsPart 14 = .ok (.iconst 3, 1) := by decide +kernel
theorem dX8_readsPart_15 : decode cX8_readsPart 15 = .ok (.if_icmp .ge 94, 3) := by decide +kernel
theorem dX8_readsPart_18 : decode cX8_readsPart 18 = .ok (.aload_n 0, 1) := by decide +kernel
theorem dX8_readsPart_19 : decode cX8_readsPart 19 = .ok (.invokevirtual 114, 3) := by decide +kernel
theorem dX8_readsPart_22 : decode cX8_readsPart 22 = .ok (.bipush 48, 2) := by decide +kernel
theorem dX8_readsPart_24 : decode cX8_readsPart 24 = .ok (.isub, 1) := by decide +kernel
theorem dX8_readsPart_25 : decode cX8_readsPart 25 = .ok (.istore_n 2, 1) := by decide +kernel
theorem dX8_readsPart_26 : decode cX8_readsPart 26 = .ok (.iload_n 1, 1) := by decide +kernel
theorem dX8_readsPart_27 : decode cX8_readsPart 27 = .ok (.iconst 2, 1) := by decide +kernel
theorem dX8_readsPart_28 : decode cX8_readsPart 28 = .ok (.if_icmp .ge 15, 3) := by decide +kernel
theorem dX8_readsPart_31 : decode cX8_readsPart 31 = .ok (.iload_n 2, 1) := by decide +kernel
theorem dX8_readsPart_32 : decode cX8_readsPart 32 = .ok (.i2l, 1) := by decide +kernel
theorem dX8_readsPart_33 : decode cX8_readsPart 33 = .ok (.lconst 0, 1) := by decide +kernel
theorem dX8_readsPart_34 : decode cX8_readsPart 34 = .ok (.ldc2_w 118, 3) := by decide +kernel
theorem dX8_readsPart_37 : decode cX8_readsPart 37 = .ok (.invokestatic 77, 3) := by decide +kernel
theorem dX8_readsPart_40 : decode cX8_readsPart 40 = .ok (.goto 12, 3) := by decide +kernel
theorem dX8_readsPart_43 : decode cX8_readsPart 43 = .ok (.iload_n 2, 1) := by decide +kernel
theorem dX8_readsPart_44 : decode cX8_readsPart 44 = .ok (.i2l, 1) := by decide +kernel
theorem dX8_readsPart_45 : decode cX8_readsPart 45 = .ok (.lconst 1, 1) := by decide +kernel
theorem dX8_readsPart_46 : decode cX8_readsPart 46 = .ok (.ldc2_w 120, 3) := by decide +kernel
theorem dX8_readsPart_49 : decode cX8_readsPart 49 = .ok (.invokestatic 77, 3) := by decide +kernel
theorem dX8_readsPart_52 : decode cX8_readsPart 52 = .ok (.istore_n 3, 1) := by decide +kernel
theorem dX8_readsPart_53 : decode cX8_readsPart 53 = .ok (.iload_n 3, 1) := by decide +kernel
theorem dX8_readsPart_54 : decode cX8_readsPart 54 = .ok (.ifCond .eq 23, 3) := by decide +kernel
theorem dX8_readsPart_57 : decode cX8_readsPart 57 = .ok (.iload_n 1, 1) := by decide +kernel
theorem dX8_readsPart_58 : decode cX8_readsPart 58 = .ok (.iconst 1, 1) := by decide +kernel
theorem dX8_readsPart_59 : decode cX8_readsPart 59 = .ok (.if_icmp .ne 20, 3) := by decide +kernel
theorem dX8_readsPart_62 : decode cX8_readsPart 62 = .ok (.iload_n 2, 1) := by decide +kernel
theorem dX8_readsPart_63 : decode cX8_readsPart 63 = .ok (.aload_n 0, 1) := by decide +kernel
theorem dX8_readsPart_64 : decode cX8_readsPart 64 = .ok (.getfield 28, 3) := by decide +kernel
theorem dX8_readsPart_67 : decode cX8_readsPart 67 = .ok (.iconst 3, 1) := by decide +kernel
theorem dX8_readsPart_68 : decode cX8_readsPart 68 = .ok (.aload_n 0, 1) := by decide +kernel
theorem dX8_readsPart_69 : decode cX8_readsPart 69 = .ok (.getfield 111, 3) := by decide +kernel
theorem dX8_readsPart_72 : decode cX8_readsPart 72 = .ok (.imul, 1) := by decide +kernel
theorem dX8_readsPart_73 : decode cX8_readsPart 73 = .ok (.iaload, 1) := by decide +kernel
theorem dX8_readsPart_74 : decode cX8_readsPart 74 = .ok (.if_icmp .ne 5, 3) := by decide +kernel
theorem dX8_readsPart_77 : decode cX8_readsPart 77 = .ok (.iconst 0, 1) := by decide +kernel
theorem dX8_readsPart_78 : decode cX8_readsPart 78 = .ok (.ireturn, 1) := by decide +kernel
theorem dX8_readsPart_79 : decode cX8_readsPart 79 = .ok (.aload_n 0, 1) := by decide +kernel
theorem dX8_readsPart_80 : decode cX8_readsPart 80 = .ok (.getfield 28, 3) := by decide +kernel
theorem dX8_readsPart_83 : decode cX8_readsPart 83 = .ok (.iconst 3, 1) := by decide +kernel
theorem dX8_readsPart_84 : decode cX8_readsPart 84 = .ok (.aload_n 0, 1) := by decide +kernel
theorem dX8_readsPart_85 : decode cX8_readsPart 85 = .ok (.getfield 111, 3) := by decide +kernel
theorem dX8_readsPart_88 : decode cX8_readsPart 88 = .ok (.imul, 1) := by decide +kernel
theorem dX8_readsPart_89 : decode cX8_readsPart 89 = .ok (.iload_n 1, 1) := by decide +kernel
theorem dX8_readsPart_90 : decode cX8_readsPart 90 = .ok (.iadd, 1) := by decide +kernel
theorem dX8_readsPart_91 : decode cX8_readsPart 91 = .ok (.iload_n 2, 1) := by decide +kernel
theorem dX8_readsPart_92 : decode cX8_readsPart 92 = .ok (.iastore, 1) := by decide +kernel
theorem dX8_readsPart_93 : decode cX8_readsPart 93 = .ok (.aload_n 0, 1) := by decide +kernel
theorem dX8_readsPart_94 : decode cX8_readsPart 94 = .ok (.dup, 1) := by decide +kernel
theorem dX8_readsPart_95 : decode cX8_readsPart 95 = .ok (.getfield 108, 3) := by decide +kernel
theorem dX8_readsPart_98 : decode cX8_readsPart 98 = .ok (.iconst 1, 1) := by decide +kernel
theorem dX8_readsPart_99 : decode cX8_readsPart 99 = .ok (.iadd, 1) := by decide +kernel
theorem dX8_readsPart_100 : decode cX8_readsPart 100 = .ok (.putfield 108, 3) := by decide +kernel
theorem dX8_readsPart_103 : decode cX8_readsPart 103 = .ok (.iinc 1 1, 3) := by decide +kernel
theorem dX8_readsPart_106 : decode cX8_readsPart 106 = .ok (.goto (-93), 3) := by decide +kernel
theorem dX8_readsPart_109 : decode cX8_readsPart 109 = .ok (.aload_n 0, 1) := by decide +kernel
theorem dX8_readsPart_110 : decode cX8_readsPart 110 = .ok (.dup, 1) := by decide +kernel
theorem dX8_readsPart_111 : decode cX8_readsPart 111 = .ok (.getfield 111, 3) := by decide +kernel
theorem dX8_readsPart_114 : decode cX8_readsPart 114 = .ok (.iconst 1, 1) := by decide +kernel
theorem dX8_readsPart_115 : decode cX8_readsPart 115 = .ok (.iadd, 1) := by decide +kernel
theorem dX8_readsPart_116 : decode cX8_readsPart 116 = .ok (.putfield 111, 3) := by decide +kernel
theorem dX8_readsPart_119 : decode cX8_readsPart 119 = .ok (.iconst 1, 1) := by decide +kernel
theorem dX8_readsPart_120 : decode cX8_readsPart 120 = .ok (.ireturn, 1) := by decide +kernel
theorem dX8_none_0 : decode cX8_none 0 = .ok (.aload_n 0, 1) := by decide +kernel
theorem dX8_none_1 : decode cX8_none 1 = .ok (.iconst 0, 1) := by decide +kernel
theorem dX8_none_2 : decode cX8_none 2 = .ok (.putfield 111, 3) := by decide +kernel
theorem dX8_none_5 : decode cX8_none 5 = .ok (.aload_n 0, 1) := by decide +kernel
theorem dX8_none_6 : decode cX8_none 6 = .ok (.getfield 108, 3) := by decide +kernel
theorem dX8_none_9 : decode cX8_none 9 = .ok (.ireturn, 1) := by decide +kernel
theorem dX8_reads_0 : decode cX8_reads 0 = .ok (.aload_n 0, 1) := by decide +kernel
theorem dX8_reads_1 : decode cX8_reads 1 = .ok (.iconst 0, 1) := by decide +kernel
theorem dX8_reads_2 : decode cX8_reads 2 = .ok (.putfield 108, 3) := by decide +kernel
theorem dX8_reads_5 : decode cX8_reads 5 = .ok (.aload_n 0, 1) := by decide +kernel
theorem dX8_reads_6 : decode cX8_reads 6 = .ok (.iconst 0, 1) := by decide +kernel
theorem dX8_reads_7 : decode cX8_reads 7 = .ok (.putfield 111, 3) := by decide +kernel
theorem dX8_reads_10 : decode cX8_reads 10 = .ok (.aload_n 0, 1) := by decide +kernel
theorem dX8_reads_11 : decode cX8_reads 11 = .ok (.getfield 25, 3) := by decide +kernel
theorem dX8_reads_14 : decode cX8_reads 14 = .ok (.iconst 0, 1) := by decide +kernel
theorem dX8_reads_15 : decode cX8_reads 15 = .ok (.iaload, 1) := by decide +kernel
theorem dX8_reads_16 : decode cX8_reads 16 = .ok (.ifCond .le 7, 3) := by decide +kernel
theorem dX8_reads_19 : decode cX8_reads 19 = .ok (.iconst 1, 1) := by decide +kernel
theorem dX8_reads_20 : decode cX8_reads 20 = .ok (.goto 4, 3) := by decide +kernel
theorem dX8_reads_23 : decode cX8_reads 23 = .ok (.iconst 0, 1) := by decide +kernel
theorem dX8_reads_24 : decode cX8_reads 24 = .ok (.istore_n 1, 1) := by decide +kernel
theorem dX8_reads_25 : decode cX8_reads 25 = .ok (.iload_n 1, 1) := by decide +kernel
theorem dX8_reads_26 : decode cX8_reads 26 = .ok (.ifCond .eq 73, 3) := by decide +kernel
theorem dX8_reads_29 : decode cX8_reads 29 = .ok (.aload_n 0, 1) := by decide +kernel
theorem dX8_reads_30 : decode cX8_reads 30 = .ok (.invokevirtual 122, 3) := by decide +kernel
theorem dX8_reads_33 : decode cX8_reads 33 = .ok (.ifCond .ne 8, 3) := by decide +kernel
theorem dX8_reads_36 : decode cX8_reads 36 = .ok (.aload_n 0, 1) := by decide +kernel
theorem dX8_reads_37 : decode cX8_reads 37 = .ok (.invokevirtual 126, 3) := by decide +kernel
theorem dX8_reads_40 : decode cX8_reads 40 = .ok (.ireturn, 1) := by decide +kernel
theorem dX8_reads_41 : decode cX8_reads 41 = .ok (.aload_n 0, 1) := by decide +kernel
theorem dX8_reads_42 : decode cX8_reads 42 = .ok (.getfield 108, 3) := by decide +kernel
theorem dX8_reads_45 : decode cX8_reads 45 = .ok (.aload_n 0, 1) := by decide +kernel
theorem dX8_reads_46 : decode cX8_reads 46 = .ok (.getfield 25, 3) := by decide +kernel
theorem dX8_reads_49 : decode cX8_reads 49 = .ok (.iconst 0, 1) := by decide +kernel
theorem dX8_reads_50 : decode cX8_reads 50 = .ok (.iaload, 1) := by decide +kernel
theorem dX8_reads_51 : decode cX8_reads 51 = .ok (.if_icmp .ge 7, 3) := by decide +kernel
theorem dX8_reads_54 : decode cX8_reads 54 = .ok (.iconst 1, 1) := by decide +kernel
theorem dX8_reads_55 : decode cX8_reads 55 = .ok (.goto 4, 3) := by decide +kernel
theorem dX8_reads_58 : decode cX8_reads 58 = .ok (.iconst 0, 1) := by decide +kernel
theorem dX8_reads_59 : decode cX8_reads 59 = .ok (.istore_n 1, 1) := by decide +kernel
theorem dX8_reads_60 : decode cX8_reads 60 = .ok (.iload_n 1, 1) := by decide +kernel
theorem dX8_reads_61 : decode cX8_reads 61 = .ok (.ifCond .eq 17, 3) := by decide +kernel
theorem dX8_reads_64 : decode cX8_reads 64 = .ok (.aload_n 0, 1) := by decide +kernel
theorem dX8_reads_65 : decode cX8_reads 65 = .ok (.invokevirtual 114, 3) := by decide +kernel
theorem dX8_reads_68 : decode cX8_reads 68 = .ok (.bipush 59, 2) := by decide +kernel
theorem dX8_reads_70 : decode cX8_reads 70 = .ok (.if_icmp .eq 8, 3) := by decide +kernel
theorem dX8_reads_73 : decode cX8_reads 73 = .ok (.aload_n 0, 1) := by decide +kernel
theorem dX8_reads_74 : decode cX8_reads 74 = .ok (.invokevirtual 126, 3) := by decide +kernel
theorem dX8_reads_77 : decode cX8_reads 77 = .ok (.ireturn, 1) := by decide +kernel
theorem dX8_reads_78 : decode cX8_reads 78 = .ok (.aload_n 0, 1) := by decide +kernel
theorem dX8_reads_79 : decode cX8_reads 79 = .ok (.dup, 1) := by decide +kernel
theorem dX8_reads_80 : decode cX8_reads 80 = .ok (.getfield 108, 3) := by decide +kernel
theorem dX8_reads_83 : decode cX8_reads 83 = .ok (.iload_n 1, 1) := by decide +kernel
theorem dX8_reads_84 : decode cX8_reads 84 = .ok (.ifCond .eq 7, 3) := by decide +kernel
theorem dX8_reads_87 : decode cX8_reads 87 = .ok (.iconst 1, 1) := by decide +kernel
theorem dX8_reads_88 : decode cX8_reads 88 = .ok (.goto 4, 3) := by decide +kernel
theorem dX8_reads_91 : decode cX8_reads 91 = .ok (.iconst 0, 1) := by decide +kernel
theorem dX8_reads_92 : decode cX8_reads 92 = .ok (.iadd, 1) := by decide +kernel
theorem dX8_reads_93 : decode cX8_reads 93 = .ok (.putfield 108, 3) := by decide +kernel
theorem dX8_reads_96 : decode cX8_reads 96 = .ok (.goto (-71), 3) := by decide +kernel
theorem dX8_reads_99 : decode cX8_reads 99 = .ok (.iconst (-1), 1) := by decide +kernel
theorem dX8_reads_100 : decode cX8_reads 100 = .ok (.ireturn, 1) := by decide +kernel
theorem dX8_fault_0 : decode cX8_fault 0 = .ok (.aload_n 0, 1) := by decide +kernel
theorem dX8_fault_1 : decode cX8_fault 1 = .ok (.invokevirtual 129, 3) := by decide +kernel
theorem dX8_fault_4 : decode cX8_fault 4 = .ok (.ireturn, 1) := by decide +kernel
theorem dX8_isPath_0 : decode cX8_isPath 0 = .ok (.aload_n 0, 1) := by decide +kernel
theorem dX8_isPath_1 : decode cX8_isPath 1 = .ok (.invokevirtual 129, 3) := by decide +kernel
theorem dX8_isPath_4 : decode cX8_isPath 4 = .ok (.pop, 1) := by decide +kernel
theorem dX8_isPath_5 : decode cX8_isPath 5 = .ok (.iload_n 1, 1) := by decide +kernel
theorem dX8_isPath_6 : decode cX8_isPath 6 = .ok (.i2l, 1) := by decide +kernel
theorem dX8_isPath_7 : decode cX8_isPath 7 = .ok (.lconst 0, 1) := by decide +kernel
theorem dX8_isPath_8 : decode cX8_isPath 8 = .ok (.aload_n 0, 1) := by decide +kernel
theorem dX8_isPath_9 : decode cX8_isPath 9 = .ok (.getfield 111, 3) := by decide +kernel
theorem dX8_isPath_12 : decode cX8_isPath 12 = .ok (.iconst 1, 1) := by decide +kernel
theorem dX8_isPath_13 : decode cX8_isPath 13 = .ok (.isub, 1) := by decide +kernel
theorem dX8_isPath_14 : decode cX8_isPath 14 = .ok (.i2l, 1) := by decide +kernel
theorem dX8_isPath_15 : decode cX8_isPath 15 = .ok (.invokestatic 77, 3) := by decide +kernel
theorem dX8_isPath_18 : decode cX8_isPath 18 = .ok (.ireturn, 1) := by decide +kernel
theorem dX8_isPlace_0 : decode cX8_isPlace 0 = .ok (.iload_n 0, 1) := by decide +kernel
theorem dX8_isPlace_1 : decode cX8_isPlace 1 = .ok (.i2l, 1) := by decide +kernel
theorem dX8_isPlace_2 : decode cX8_isPlace 2 = .ok (.lconst 0, 1) := by decide +kernel
theorem dX8_isPlace_3 : decode cX8_isPlace 3 = .ok (.ldc2_w 118, 3) := by decide +kernel
theorem dX8_isPlace_6 : decode cX8_isPlace 6 = .ok (.invokestatic 77, 3) := by decide +kernel
theorem dX8_isPlace_9 : decode cX8_isPlace 9 = .ok (.ireturn, 1) := by decide +kernel
theorem dX8_path_0 : decode cX8_path 0 = .ok (.aload_n 0, 1) := by decide +kernel
theorem dX8_path_1 : decode cX8_path 1 = .ok (.iload_n 1, 1) := by decide +kernel
theorem dX8_path_2 : decode cX8_path 2 = .ok (.invokevirtual 132, 3) := by decide +kernel
theorem dX8_path_5 : decode cX8_path 5 = .ok (.ifCond .eq 28, 3) := by decide +kernel
theorem dX8_path_8 : decode cX8_path 8 = .ok (.iload_n 2, 1) := by decide +kernel
theorem dX8_path_9 : decode cX8_path 9 = .ok (.i2l, 1) := by decide +kernel
theorem dX8_path_10 : decode cX8_path 10 = .ok (.lconst 0, 1) := by decide +kernel
theorem dX8_path_11 : decode cX8_path 11 = .ok (.ldc2_w 91, 3) := by decide +kernel
theorem dX8_path_14 : decode cX8_path 14 = .ok (.invokestatic 77, 3) := by decide +kernel
theorem dX8_path_17 : decode cX8_path 17 = .ok (.ifCond .eq 16, 3) := by decide +kernel
theorem dX8_path_20 : decode cX8_path 20 = .ok (.aload_n 0, 1) := by decide +kernel
theorem dX8_path_21 : decode cX8_path 21 = .ok (.getfield 28, 3) := by decide +kernel
theorem dX8_path_24 : decode cX8_path 24 = .ok (.iconst 3, 1) := by decide +kernel
theorem dX8_path_25 : decode cX8_path 25 = .ok (.iload_n 1, 1) := by decide +kernel
theorem dX8_path_26 : decode cX8_path 26 = .ok (.imul, 1) := by decide +kernel
theorem dX8_path_27 : decode cX8_path 27 = .ok (.iload_n 2, 1) := by decide +kernel
theorem dX8_path_28 : decode cX8_path 28 = .ok (.iadd, 1) := by decide +kernel
theorem dX8_path_29 : decode cX8_path 29 = .ok (.iaload, 1) := by decide +kernel
theorem dX8_path_30 : decode cX8_path 30 = .ok (.goto 5, 3) := by decide +kernel
theorem dX8_path_33 : decode cX8_path 33 = .ok (.bipush (-2), 2) := by decide +kernel
theorem dX8_path_35 : decode cX8_path 35 = .ok (.ireturn, 1) := by decide +kernel
theorem dX8_start_0 : decode cX8_start 0 = .ok (.iload_n 1, 1) := by decide +kernel
theorem dX8_start_1 : decode cX8_start 1 = .ok (.invokestatic 135, 3) := by decide +kernel
theorem dX8_start_4 : decode cX8_start 4 = .ok (.ifCond .eq 10, 3) := by decide +kernel
theorem dX8_start_7 : decode cX8_start 7 = .ok (.iload_n 2, 1) := by decide +kernel
theorem dX8_start_8 : decode cX8_start 8 = .ok (.invokestatic 138, 3) := by decide +kernel
theorem dX8_start_11 : decode cX8_start 11 = .ok (.ifCond .ne 6, 3) := by decide +kernel
theorem dX8_start_14 : decode cX8_start 14 = .ok (.bipush (-2), 2) := by decide +kernel
theorem dX8_start_16 : decode cX8_start 16 = .ok (.ireturn, 1) := by decide +kernel
theorem dX8_start_17 : decode cX8_start 17 = .ok (.aload_n 0, 1) := by decide +kernel
theorem dX8_start_18 : decode cX8_start 18 = .ok (.getfield 31, 3) := by decide +kernel
theorem dX8_start_21 : decode cX8_start 21 = .ok (.iload_n 1, 1) := by decide +kernel
theorem dX8_start_22 : decode cX8_start 22 = .ok (.iaload, 1) := by decide +kernel
theorem dX8_start_23 : decode cX8_start 23 = .ok (.istore_n 3, 1) := by decide +kernel
theorem dX8_start_24 : decode cX8_start 24 = .ok (.aload_n 0, 1) := by decide +kernel
theorem dX8_start_25 : decode cX8_start 25 = .ok (.getfield 31, 3) := by decide +kernel
theorem dX8_start_28 : decode cX8_start 28 = .ok (.iload_n 1, 1) := by decide +kernel
theorem dX8_start_29 : decode cX8_start 29 = .ok (.iload_n 2, 1) := by decide +kernel
theorem dX8_start_30 : decode cX8_start 30 = .ok (.iastore, 1) := by decide +kernel
theorem dX8_start_31 : decode cX8_start 31 = .ok (.iload_n 3, 1) := by decide +kernel
theorem dX8_start_32 : decode cX8_start 32 = .ok (.ireturn, 1) := by decide +kernel
theorem dX8_set_0 : decode cX8_set 0 = .ok (.iload_n 1, 1) := by decide +kernel
theorem dX8_set_1 : decode cX8_set 1 = .ok (.i2l, 1) := by decide +kernel
theorem dX8_set_2 : decode cX8_set 2 = .ok (.lconst 0, 1) := by decide +kernel
theorem dX8_set_3 : decode cX8_set 3 = .ok (.ldc2_w 91, 3) := by decide +kernel
theorem dX8_set_6 : decode cX8_set 6 = .ok (.invokestatic 77, 3) := by decide +kernel
theorem dX8_set_9 : decode cX8_set 9 = .ok (.ifCond .eq 35, 3) := by decide +kernel
theorem dX8_set_12 : decode cX8_set 12 = .ok (.iload_n 2, 1) := by decide +kernel
theorem dX8_set_13 : decode cX8_set 13 = .ok (.i2l, 1) := by decide +kernel
theorem dX8_set_14 : decode cX8_set 14 = .ok (.iload_n 1, 1) := by decide +kernel
theorem dX8_set_15 : decode cX8_set 15 = .ok (.iconst 2, 1) := by decide +kernel
theorem dX8_set_16 : decode cX8_set 16 = .ok (.if_icmp .ne 7, 3) := by decide +kernel
theorem dX8_set_19 : decode cX8_set 19 = .ok (.lconst 1, 1) := by decide +kernel
theorem dX8_set_20 : decode cX8_set 20 = .ok (.goto 4, 3) := by decide +kernel
theorem dX8_set_23 : decode cX8_set 23 = .ok (.lconst 0, 1) := by decide +kernel
theorem dX8_set_24 : decode cX8_set 24 = .ok (.iload_n 1, 1) := by decide +kernel
theorem dX8_set_25 : decode cX8_set 25 = .ok (.iconst 2, 1) := by decide +kernel
theorem dX8_set_26 : decode cX8_set 26 = .ok (.if_icmp .ne 9, 3) := by decide +kernel
theorem dX8_set_29 : decode cX8_set 29 = .ok (.ldc2_w 141, 3) := by decide +kernel
theorem dX8_set_32 : decode cX8_set 32 = .ok (.goto 6, 3) := by decide +kernel
theorem dX8_set_35 : decode cX8_set 35 = .ok (.ldc2_w 120, 3) := by decide +kernel
theorem dX8_set_38 : decode cX8_set 38 = .ok (.invokestatic 77, 3) := by decide +kernel
theorem dX8_set_41 : decode cX8_set 41 = .ok (.ifCond .ne 6, 3) := by decide +kernel
theorem dX8_set_44 : decode cX8_set 44 = .ok (.bipush (-2), 2) := by decide +kernel
theorem dX8_set_46 : decode cX8_set 46 = .ok (.ireturn, 1) := by decide +kernel
theorem dX8_set_47 : decode cX8_set 47 = .ok (.aload_n 0, 1) := by decide +kernel
theorem dX8_set_48 : decode cX8_set 48 = .ok (.getfield 34, 3) := by decide +kernel
theorem dX8_set_51 : decode cX8_set 51 = .ok (.iload_n 1, 1) := by decide +kernel
theorem dX8_set_52 : decode cX8_set 52 = .ok (.iaload, 1) := by decide +kernel
theorem dX8_set_53 : decode cX8_set 53 = .ok (.istore_n 3, 1) := by decide +kernel
theorem dX8_set_54 : decode cX8_set 54 = .ok (.aload_n 0, 1) := by decide +kernel
theorem dX8_set_55 : decode cX8_set 55 = .ok (.getfield 34, 3) := by decide +kernel
theorem dX8_set_58 : decode cX8_set 58 = .ok (.iload_n 1, 1) := by decide +kernel
theorem dX8_set_59 : decode cX8_set 59 = .ok (.iload_n 2, 1) := by decide +kernel
theorem dX8_set_60 : decode cX8_set 60 = .ok (.iastore, 1) := by decide +kernel
theorem dX8_set_61 : decode cX8_set 61 = .ok (.iload_n 3, 1) := by decide +kernel
theorem dX8_set_62 : decode cX8_set 62 = .ok (.ireturn, 1) := by decide +kernel
theorem dX8_thistle_0 : decode cX8_thistle 0 = .ok (.iload_n 1, 1) := by decide +kernel
theorem dX8_thistle_1 : decode cX8_thistle 1 = .ok (.invokestatic 138, 3) := by decide +kernel
theorem dX8_thistle_4 : decode cX8_thistle 4 = .ok (.ifCond .eq 15, 3) := by decide +kernel
theorem dX8_thistle_7 : decode cX8_thistle 7 = .ok (.iload_n 2, 1) := by decide +kernel
theorem dX8_thistle_8 : decode cX8_thistle 8 = .ok (.i2l, 1) := by decide +kernel
theorem dX8_thistle_9 : decode cX8_thistle 9 = .ok (.lconst 0, 1) := by decide +kernel
theorem dX8_thistle_10 : decode cX8_thistle 10 = .ok (.ldc2_w 143, 3) := by decide +kernel
theorem dX8_thistle_13 : decode cX8_thistle 13 = .ok (.invokestatic 77, 3) := by decide +kernel
theorem dX8_thistle_16 : decode cX8_thistle 16 = .ok (.ifCond .ne 6, 3) := by decide +kernel
theorem dX8_thistle_19 : decode cX8_thistle 19 = .ok (.bipush (-2), 2) := by decide +kernel
theorem dX8_thistle_21 : decode cX8_thistle 21 = .ok (.ireturn, 1) := by decide +kernel
theorem dX8_thistle_22 : decode cX8_thistle 22 = .ok (.aload_n 0, 1) := by decide +kernel
theorem dX8_thistle_23 : decode cX8_thistle 23 = .ok (.getfield 37, 3) := by decide +kernel
theorem dX8_thistle_26 : decode cX8_thistle 26 = .ok (.iload_n 1, 1) := by decide +kernel
theorem dX8_thistle_27 : decode cX8_thistle 27 = .ok (.iaload, 1) := by decide +kernel
theorem dX8_thistle_28 : decode cX8_thistle 28 = .ok (.istore_n 3, 1) := by decide +kernel
theorem dX8_thistle_29 : decode cX8_thistle 29 = .ok (.aload_n 0, 1) := by decide +kernel
theorem dX8_thistle_30 : decode cX8_thistle 30 = .ok (.getfield 37, 3) := by decide +kernel
theorem dX8_thistle_33 : decode cX8_thistle 33 = .ok (.iload_n 1, 1) := by decide +kernel
theorem dX8_thistle_34 : decode cX8_thistle 34 = .ok (.iload_n 2, 1) := by decide +kernel
theorem dX8_thistle_35 : decode cX8_thistle 35 = .ok (.iastore, 1) := by decide +kernel
theorem dX8_thistle_36 : decode cX8_thistle 36 = .ok (.iload_n 3, 1) := by decide +kernel
theorem dX8_thistle_37 : decode cX8_thistle 37 = .ok (.ireturn, 1) := by decide +kernel
theorem dX8_read_0 : decode cX8_read 0 = .ok (.iload_n 1, 1) := by decide +kernel
theorem dX8_read_1 : decode cX8_read 1 = .ok (.invokestatic 87, 3) := by decide +kernel
theorem dX8_read_4 : decode cX8_read 4 = .ok (.ifCond .eq 10, 3) := by decide +kernel
theorem dX8_read_7 : decode cX8_read 7 = .ok (.iload_n 2, 1) := by decide +kernel
theorem dX8_read_8 : decode cX8_read 8 = .ok (.invokestatic 135, 3) := by decide +kernel
theorem dX8_read_11 : decode cX8_read 11 = .ok (.ifCond .ne 6, 3) := by decide +kernel
theorem dX8_read_14 : decode cX8_read 14 = .ok (.bipush (-2), 2) := by decide +kernel
theorem dX8_read_16 : decode cX8_read 16 = .ok (.ireturn, 1) := by decide +kernel
theorem dX8_read_17 : decode cX8_read 17 = .ok (.aload_n 0, 1) := by decide +kernel
theorem dX8_read_18 : decode cX8_read 18 = .ok (.getfield 7, 3) := by decide +kernel
theorem dX8_read_21 : decode cX8_read 21 = .ok (.iload_n 1, 1) := by decide +kernel
theorem dX8_read_22 : decode cX8_read 22 = .ok (.iaload, 1) := by decide +kernel
theorem dX8_read_23 : decode cX8_read 23 = .ok (.ifCond .ge 9, 3) := by decide +kernel
theorem dX8_read_26 : decode cX8_read 26 = .ok (.aload_n 0, 1) := by decide +kernel
theorem dX8_read_27 : decode cX8_read 27 = .ok (.iconst 1, 1) := by decide +kernel
theorem dX8_read_28 : decode cX8_read 28 = .ok (.invokevirtual 93, 3) := by decide +kernel
theorem dX8_read_31 : decode cX8_read 31 = .ok (.ireturn, 1) := by decide +kernel
theorem dX8_read_32 : decode cX8_read 32 = .ok (.aload_n 0, 1) := by decide +kernel
theorem dX8_read_33 : decode cX8_read 33 = .ok (.getfield 25, 3) := by decide +kernel
theorem dX8_read_36 : decode cX8_read 36 = .ok (.iconst 1, 1) := by decide +kernel
theorem dX8_read_37 : decode cX8_read 37 = .ok (.iload_n 2, 1) := by decide +kernel
theorem dX8_read_38 : decode cX8_read 38 = .ok (.iadd, 1) := by decide +kernel
theorem dX8_read_39 : decode cX8_read 39 = .ok (.iconst 0, 1) := by decide +kernel
theorem dX8_read_40 : decode cX8_read 40 = .ok (.iastore, 1) := by decide +kernel
theorem dX8_read_41 : decode cX8_read 41 = .ok (.iconst 0, 1) := by decide +kernel
theorem dX8_read_42 : decode cX8_read 42 = .ok (.istore_n 3, 1) := by decide +kernel
theorem dX8_read_43 : decode cX8_read 43 = .ok (.iload_n 3, 1) := by decide +kernel
theorem dX8_read_44 : decode cX8_read 44 = .ok (.aload_n 0, 1) := by decide +kernel
theorem dX8_read_45 : decode cX8_read 45 = .ok (.getfield 13, 3) := by decide +kernel
theorem dX8_read_48 : decode cX8_read 48 = .ok (.iload_n 1, 1) := by decide +kernel
theorem dX8_read_49 : decode cX8_read 49 = .ok (.iaload, 1) := by decide +kernel
theorem dX8_read_50 : decode cX8_read 50 = .ok (.if_icmp .ge 81, 3) := by decide +kernel
theorem dX8_read_53 : decode cX8_read 53 = .ok (.iload_n 3, 1) := by decide +kernel
theorem dX8_read_54 : decode cX8_read 54 = .ok (.bipush 40, 2) := by decide +kernel
theorem dX8_read_56 : decode cX8_read 56 = .ok (.if_icmp .ge 75, 3) := by decide +kernel
theorem dX8_read_59 : decode cX8_read 59 = .ok (.aload_n 0, 1) := by decide +kernel
theorem dX8_read_60 : decode cX8_read 60 = .ok (.getfield 16, 3) := by decide +kernel
theorem dX8_read_63 : decode cX8_read 63 = .ok (.bipush 60, 2) := by decide +kernel
theorem dX8_read_65 : decode cX8_read 65 = .ok (.iload_n 1, 1) := by decide +kernel
theorem dX8_read_66 : decode cX8_read 66 = .ok (.imul, 1) := by decide +kernel
theorem dX8_read_67 : decode cX8_read 67 = .ok (.iload_n 3, 1) := by decide +kernel
theorem dX8_read_68 : decode cX8_read 68 = .ok (.iadd, 1) := by decide +kernel
theorem dX8_read_69 : decode cX8_read 69 = .ok (.iaload, 1) := by decide +kernel
theorem dX8_read_70 : decode cX8_read 70 = .ok (.i2l, 1) := by decide +kernel
theorem dX8_read_71 : decode cX8_read 71 = .ok (.lconst 0, 1) := by decide +kernel
theorem dX8_read_72 : decode cX8_read 72 = .ok (.ldc2_w 145, 3) := by decide +kernel
theorem dX8_read_75 : decode cX8_read 75 = .ok (.invokestatic 77, 3) := by decide +kernel
theorem dX8_read_78 : decode cX8_read 78 = .ok (.ifCond .eq 53, 3) := by decide +kernel
theorem dX8_read_81 : decode cX8_read 81 = .ok (.aload_n 0, 1) := by decide +kernel
theorem dX8_read_82 : decode cX8_read 82 = .ok (.getfield 16, 3) := by decide +kernel
theorem dX8_read_85 : decode cX8_read 85 = .ok (.bipush 60, 2) := by decide +kernel
theorem dX8_read_87 : decode cX8_read 87 = .ok (.iload_n 1, 1) := by decide +kernel
theorem dX8_read_88 : decode cX8_read 88 = .ok (.imul, 1) := by decide +kernel
theorem dX8_read_89 : decode cX8_read 89 = .ok (.iload_n 3, 1) := by decide +kernel
theorem dX8_read_90 : decode cX8_read 90 = .ok (.iadd, 1) := by decide +kernel
theorem dX8_read_91 : decode cX8_read 91 = .ok (.iaload, 1) := by decide +kernel
theorem dX8_read_92 : decode cX8_read 92 = .ok (.istore 4, 2) := by decide +kernel
theorem dX8_read_94 : decode cX8_read 94 = .ok (.aload_n 0, 1) := by decide +kernel
theorem dX8_read_95 : decode cX8_read 95 = .ok (.iconst 1, 1) := by decide +kernel
theorem dX8_read_96 : decode cX8_read 96 = .ok (.iload_n 2, 1) := by decide +kernel
theorem dX8_read_97 : decode cX8_read 97 = .ok (.iadd, 1) := by decide +kernel
theorem dX8_read_98 : decode cX8_read 98 = .ok (.iload 4, 2) := by decide +kernel
theorem dX8_read_100 : decode cX8_read 100 = .ok (.bipush 8, 2) := by decide +kernel
theorem dX8_read_102 : decode cX8_read 102 = .ok (.if_icmp .ge 11, 3) := by decide +kernel
theorem dX8_read_105 : decode cX8_read 105 = .ok (.bipush 97, 2) := by decide +kernel
theorem dX8_read_107 : decode cX8_read 107 = .ok (.iload 4, 2) := by decide +kernel
theorem dX8_read_109 : decode cX8_read 109 = .ok (.iadd, 1) := by decide +kernel
theorem dX8_read_110 : decode cX8_read 110 = .ok (.goto 11, 3) := by decide +kernel
theorem dX8_read_113 : decode cX8_read 113 = .ok (.bipush 65, 2) := by decide +kernel
theorem dX8_read_115 : decode cX8_read 115 = .ok (.iload 4, 2) := by decide +kernel
theorem dX8_read_117 : decode cX8_read 117 = .ok (.iadd, 1) := by decide +kernel
theorem dX8_read_118 : decode cX8_read 118 = .ok (.bipush 8, 2) := by decide +kernel
theorem dX8_read_120 : decode cX8_read 120 = .ok (.isub, 1) := by decide +kernel
theorem dX8_read_121 : decode cX8_read 121 = .ok (.invokevirtual 147, 3) := by decide +kernel
theorem dX8_read_124 : decode cX8_read 124 = .ok (.pop, 1) := by decide +kernel
theorem dX8_read_125 : decode cX8_read 125 = .ok (.iinc 3 1, 3) := by decide +kernel
theorem dX8_read_128 : decode cX8_read 128 = .ok (.goto (-85), 3) := by decide +kernel
theorem dX8_read_131 : decode cX8_read 131 = .ok (.iload_n 3, 1) := by decide +kernel
theorem dX8_read_132 : decode cX8_read 132 = .ok (.ireturn, 1) := by decide +kernel
theorem dX8_undo_0 : decode cX8_undo 0 = .ok (.iload_n 1, 1) := by decide +kernel
theorem dX8_undo_1 : decode cX8_undo 1 = .ok (.invokestatic 135, 3) := by decide +kernel
theorem dX8_undo_4 : decode cX8_undo 4 = .ok (.ifCond .ne 6, 3) := by decide +kernel
theorem dX8_undo_7 : decode cX8_undo 7 = .ok (.bipush (-2), 2) := by decide +kernel
theorem dX8_undo_9 : decode cX8_undo 9 = .ok (.ireturn, 1) := by decide +kernel
theorem dX8_undo_10 : decode cX8_undo 10 = .ok (.aload_n 0, 1) := by decide +kernel
theorem dX8_undo_11 : decode cX8_undo 11 = .ok (.getfield 25, 3) := by decide +kernel
theorem dX8_undo_14 : decode cX8_undo 14 = .ok (.iconst 1, 1) := by decide +kernel
theorem dX8_undo_15 : decode cX8_undo 15 = .ok (.iload_n 1, 1) := by decide +kernel
theorem dX8_undo_16 : decode cX8_undo 16 = .ok (.iadd, 1) := by decide +kernel
theorem dX8_undo_17 : decode cX8_undo 17 = .ok (.iaload, 1) := by decide +kernel
theorem dX8_undo_18 : decode cX8_undo 18 = .ok (.ifCond .ne 6, 3) := by decide +kernel
theorem dX8_undo_21 : decode cX8_undo 21 = .ok (.bipush (-3), 2) := by decide +kernel
theorem dX8_undo_23 : decode cX8_undo 23 = .ok (.ireturn, 1) := by decide +kernel
theorem dX8_undo_24 : decode cX8_undo 24 = .ok (.aload_n 0, 1) := by decide +kernel
theorem dX8_undo_25 : decode cX8_undo 25 = .ok (.getfield 25, 3) := by decide +kernel
theorem dX8_undo_28 : decode cX8_undo 28 = .ok (.iconst 1, 1) := by decide +kernel
theorem dX8_undo_29 : decode cX8_undo 29 = .ok (.iload_n 1, 1) := by decide +kernel
theorem dX8_undo_30 : decode cX8_undo 30 = .ok (.iadd, 1) := by decide +kernel
theorem dX8_undo_31 : decode cX8_undo 31 = .ok (.dup2, 1) := by decide +kernel
theorem dX8_undo_32 : decode cX8_undo 32 = .ok (.iaload, 1) := by decide +kernel
theorem dX8_undo_33 : decode cX8_undo 33 = .ok (.iconst 1, 1) := by decide +kernel
theorem dX8_undo_34 : decode cX8_undo 34 = .ok (.isub, 1) := by decide +kernel
theorem dX8_undo_35 : decode cX8_undo 35 = .ok (.iastore, 1) := by decide +kernel
theorem dX8_undo_36 : decode cX8_undo 36 = .ok (.aload_n 0, 1) := by decide +kernel
theorem dX8_undo_37 : decode cX8_undo 37 = .ok (.getfield 25, 3) := by decide +kernel
theorem dX8_undo_40 : decode cX8_undo 40 = .ok (.iconst 1, 1) := by decide +kernel
theorem dX8_undo_41 : decode cX8_undo 41 = .ok (.iload_n 1, 1) := by decide +kernel
theorem dX8_undo_42 : decode cX8_undo 42 = .ok (.iadd, 1) := by decide +kernel
theorem dX8_undo_43 : decode cX8_undo 43 = .ok (.iaload, 1) := by decide +kernel
theorem dX8_undo_44 : decode cX8_undo 44 = .ok (.ireturn, 1) := by decide +kernel
theorem dX8_touches_0 : decode cX8_touches 0 = .ok (.aload_n 0, 1) := by decide +kernel
theorem dX8_touches_1 : decode cX8_touches 1 = .ok (.getfield 28, 3) := by decide +kernel
theorem dX8_touches_4 : decode cX8_touches 4 = .ok (.iconst 3, 1) := by decide +kernel
theorem dX8_touches_5 : decode cX8_touches 5 = .ok (.iload_n 1, 1) := by decide +kernel
theorem dX8_touches_6 : decode cX8_touches 6 = .ok (.imul, 1) := by decide +kernel
theorem dX8_touches_7 : decode cX8_touches 7 = .ok (.iaload, 1) := by decide +kernel
theorem dX8_touches_8 : decode cX8_touches 8 = .ok (.iload_n 2, 1) := by decide +kernel
theorem dX8_touches_9 : decode cX8_touches 9 = .ok (.if_icmp .eq 17, 3) := by decide +kernel
theorem dX8_touches_12 : decode cX8_touches 12 = .ok (.aload_n 0, 1) := by decide +kernel
theorem dX8_touches_13 : decode cX8_touches 13 = .ok (.getfield 28, 3) := by decide +kernel
theorem dX8_touches_16 : decode cX8_touches 16 = .ok (.iconst 3, 1) := by decide +kernel
theorem dX8_touches_17 : decode cX8_touches 17 = .ok (.iload_n 1, 1) := by decide +kernel
theorem dX8_touches_18 : decode cX8_touches 18 = .ok (.imul, 1) := by decide +kernel
theorem dX8_touches_19 : decode cX8_touches 19 = .ok (.iconst 1, 1) := by decide +kernel
theorem dX8_touches_20 : decode cX8_touches 20 = .ok (.iadd, 1) := by decide +kernel
theorem dX8_touches_21 : decode cX8_touches 21 = .ok (.iaload, 1) := by decide +kernel
theorem dX8_touches_22 : decode cX8_touches 22 = .ok (.iload_n 2, 1) := by decide +kernel
theorem dX8_touches_23 : decode cX8_touches 23 = .ok (.if_icmp .ne 7, 3) := by decide +kernel
theorem dX8_touches_26 : decode cX8_touches 26 = .ok (.iconst 1, 1) := by decide +kernel
theorem dX8_touches_27 : decode cX8_touches 27 = .ok (.goto 4, 3) := by decide +kernel
theorem dX8_touches_30 : decode cX8_touches 30 = .ok (.iconst 0, 1) := by decide +kernel
theorem dX8_touches_31 : decode cX8_touches 31 = .ok (.ireturn, 1) := by decide +kernel
theorem dX8_otherEnd_0 : decode cX8_otherEnd 0 = .ok (.aload_n 0, 1) := by decide +kernel
theorem dX8_otherEnd_1 : decode cX8_otherEnd 1 = .ok (.getfield 28, 3) := by decide +kernel
theorem dX8_otherEnd_4 : decode cX8_otherEnd 4 = .ok (.iconst 3, 1) := by decide +kernel
theorem dX8_otherEnd_5 : decode cX8_otherEnd 5 = .ok (.iload_n 1, 1) := by decide +kernel
theorem dX8_otherEnd_6 : decode cX8_otherEnd 6 = .ok (.imul, 1) := by decide +kernel
theorem dX8_otherEnd_7 : decode cX8_otherEnd 7 = .ok (.iaload, 1) := by decide +kernel
theorem dX8_otherEnd_8 : decode cX8_otherEnd 8 = .ok (.aload_n 0, 1) := by decide +kernel
theorem dX8_otherEnd_9 : decode cX8_otherEnd 9 = .ok (.getfield 28, 3) := by decide +kernel
theorem dX8_otherEnd_12 : decode cX8_otherEnd 12 = .ok (.iconst 3, 1) := by decide +kernel
theorem dX8_otherEnd_13 : decode cX8_otherEnd 13 = .ok (.iload_n 1, 1) := by decide +kernel
theorem dX8_otherEnd_14 : decode cX8_otherEnd 14 = .ok (.imul, 1) := by decide +kernel
theorem dX8_otherEnd_15 : decode cX8_otherEnd 15 = .ok (.iconst 1, 1) := by decide +kernel
theorem dX8_otherEnd_16 : decode cX8_otherEnd 16 = .ok (.iadd, 1) := by decide +kernel
theorem dX8_otherEnd_17 : decode cX8_otherEnd 17 = .ok (.iaload, 1) := by decide +kernel
theorem dX8_otherEnd_18 : decode cX8_otherEnd 18 = .ok (.iadd, 1) := by decide +kernel
theorem dX8_otherEnd_19 : decode cX8_otherEnd 19 = .ok (.iload_n 2, 1) := by decide +kernel
theorem dX8_otherEnd_20 : decode cX8_otherEnd 20 = .ok (.isub, 1) := by decide +kernel
theorem dX8_otherEnd_21 : decode cX8_otherEnd 21 = .ok (.ireturn, 1) := by decide +kernel
theorem dX8_next_0 : decode cX8_next 0 = .ok (.aload_n 0, 1) := by decide +kernel
theorem dX8_next_1 : decode cX8_next 1 = .ok (.getfield 150, 3) := by decide +kernel
theorem dX8_next_4 : decode cX8_next 4 = .ok (.ifCond .ne 7, 3) := by decide +kernel
theorem dX8_next_7 : decode cX8_next 7 = .ok (.iconst (-1), 1) := by decide +kernel
theorem dX8_next_8 : decode cX8_next 8 = .ok (.goto 27, 3) := by decide +kernel
theorem dX8_next_11 : decode cX8_next 11 = .ok (.iload_n 1, 1) := by decide +kernel
theorem dX8_next_12 : decode cX8_next 12 = .ok (.ifCond .ne 12, 3) := by decide +kernel
theorem dX8_next_15 : decode cX8_next 15 = .ok (.aload_n 0, 1) := by decide +kernel
theorem dX8_next_16 : decode cX8_next 16 = .ok (.getfield 43, 3) := by decide +kernel
theorem dX8_next_19 : decode cX8_next 19 = .ok (.iconst 0, 1) := by decide +kernel
theorem dX8_next_20 : decode cX8_next 20 = .ok (.iaload, 1) := by decide +kernel
theorem dX8_next_21 : decode cX8_next 21 = .ok (.goto 14, 3) := by decide +kernel
theorem dX8_next_24 : decode cX8_next 24 = .ok (.aload_n 0, 1) := by decide +kernel
theorem dX8_next_25 : decode cX8_next 25 = .ok (.getfield 43, 3) := by decide +kernel
theorem dX8_next_28 : decode cX8_next 28 = .ok (.aload_n 0, 1) := by decide +kernel
theorem dX8_next_29 : decode cX8_next 29 = .ok (.getfield 150, 3) := by decide +kernel
theorem dX8_next_32 : decode cX8_next 32 = .ok (.iconst 1, 1) := by decide +kernel
theorem dX8_next_33 : decode cX8_next 33 = .ok (.isub, 1) := by decide +kernel
theorem dX8_next_34 : decode cX8_next 34 = .ok (.iaload, 1) := by decide +kernel
theorem dX8_next_35 : decode cX8_next 35 = .ok (.ireturn, 1) := by decide +kernel
theorem dX8_goes_0 : decode cX8_goes 0 = .ok (.aload_n 0, 1) := by decide +kernel
theorem dX8_goes_1 : decode cX8_goes 1 = .ok (.iload_n 1, 1) := by decide +kernel
theorem dX8_goes_2 : decode cX8_goes 2 = .ok (.invokevirtual 153, 3) := by decide +kernel
theorem dX8_goes_5 : decode cX8_goes 5 = .ok (.iload_n 2, 1) := by decide +kernel
theorem dX8_goes_6 : decode cX8_goes 6 = .ok (.if_icmp .ne 7, 3) := by decide +kernel
theorem dX8_goes_9 : decode cX8_goes 9 = .ok (.iconst 1, 1) := by decide +kernel
theorem dX8_goes_10 : decode cX8_goes 10 = .ok (.goto 4, 3) := by decide +kernel
theorem dX8_goes_13 : decode cX8_goes 13 = .ok (.iconst 0, 1) := by decide +kernel
theorem dX8_goes_14 : decode cX8_goes 14 = .ok (.istore_n 3, 1) := by decide +kernel
theorem dX8_goes_15 : decode cX8_goes 15 = .ok (.aload_n 0, 1) := by decide +kernel
theorem dX8_goes_16 : decode cX8_goes 16 = .ok (.getfield 40, 3) := by decide +kernel
theorem dX8_goes_19 : decode cX8_goes 19 = .ok (.iload_n 1, 1) := by decide +kernel
theorem dX8_goes_20 : decode cX8_goes 20 = .ok (.aload_n 0, 1) := by decide +kernel
theorem dX8_goes_21 : decode cX8_goes 21 = .ok (.iload_n 2, 1) := by decide +kernel
theorem dX8_goes_22 : decode cX8_goes 22 = .ok (.aload_n 0, 1) := by decide +kernel
theorem dX8_goes_23 : decode cX8_goes 23 = .ok (.getfield 40, 3) := by decide +kernel
theorem dX8_goes_26 : decode cX8_goes 26 = .ok (.iload_n 1, 1) := by decide +kernel
theorem dX8_goes_27 : decode cX8_goes 27 = .ok (.iaload, 1) := by decide +kernel
theorem dX8_goes_28 : decode cX8_goes 28 = .ok (.invokevirtual 156, 3) := by decide +kernel
theorem dX8_goes_31 : decode cX8_goes 31 = .ok (.iastore, 1) := by decide +kernel
theorem dX8_goes_32 : decode cX8_goes 32 = .ok (.aload_n 0, 1) := by decide +kernel
theorem dX8_goes_33 : decode cX8_goes 33 = .ok (.dup, 1) := by decide +kernel
theorem dX8_goes_34 : decode cX8_goes 34 = .ok (.getfield 159, 3) := by decide +kernel
theorem dX8_goes_37 : decode cX8_goes 37 = .ok (.iload_n 3, 1) := by decide +kernel
theorem dX8_goes_38 : decode cX8_goes 38 = .ok (.ifCond .eq 17, 3) := by decide +kernel
theorem dX8_goes_41 : decode cX8_goes 41 = .ok (.aload_n 0, 1) := by decide +kernel
theorem dX8_goes_42 : decode cX8_goes 42 = .ok (.getfield 28, 3) := by decide +kernel
theorem dX8_goes_45 : decode cX8_goes 45 = .ok (.iconst 3, 1) := by decide +kernel
theorem dX8_goes_46 : decode cX8_goes 46 = .ok (.iload_n 2, 1) := by decide +kernel
theorem dX8_goes_47 : decode cX8_goes 47 = .ok (.imul, 1) := by decide +kernel
theorem dX8_goes_48 : decode cX8_goes 48 = .ok (.iconst 2, 1) := by decide +kernel
theorem dX8_goes_49 : decode cX8_goes 49 = .ok (.iadd, 1) := by decide +kernel
theorem dX8_goes_50 : decode cX8_goes 50 = .ok (.iaload, 1) := by decide +kernel
theorem dX8_goes_51 : decode cX8_goes 51 = .ok (.ineg, 1) := by decide +kernel
theorem dX8_goes_52 : decode cX8_goes 52 = .ok (.goto 13, 3) := by decide +kernel
theorem dX8_goes_55 : decode cX8_goes 55 = .ok (.aload_n 0, 1) := by decide +kernel
theorem dX8_goes_56 : decode cX8_goes 56 = .ok (.getfield 28, 3) := by decide +kernel
theorem dX8_goes_59 : decode cX8_goes 59 = .ok (.iconst 3, 1) := by decide +kernel
theorem dX8_goes_60 : decode cX8_goes 60 = .ok (.iload_n 2, 1) := by decide +kernel
theorem dX8_goes_61 : decode cX8_goes 61 = .ok (.imul, 1) := by decide +kernel
theorem dX8_goes_62 : decode cX8_goes 62 = .ok (.iconst 2, 1) := by decide +kernel
theorem dX8_goes_63 : decode cX8_goes 63 = .ok (.iadd, 1) := by decide +kernel
theorem dX8_goes_64 : decode cX8_goes 64 = .ok (.iaload, 1) := by decide +kernel
theorem dX8_goes_65 : decode cX8_goes 65 = .ok (.iadd, 1) := by decide +kernel
theorem dX8_goes_66 : decode cX8_goes 66 = .ok (.putfield 159, 3) := by decide +kernel
theorem dX8_goes_69 : decode cX8_goes 69 = .ok (.iload_n 1, 1) := by decide +kernel
theorem dX8_goes_70 : decode cX8_goes 70 = .ok (.ifCond .ne 41, 3) := by decide +kernel
theorem dX8_goes_73 : decode cX8_goes 73 = .ok (.iload_n 3, 1) := by decide +kernel
theorem dX8_goes_74 : decode cX8_goes 74 = .ok (.ifCond .eq 37, 3) := by decide +kernel
theorem dX8_goes_77 : decode cX8_goes 77 = .ok (.iconst 1, 1) := by decide +kernel
theorem dX8_goes_78 : decode cX8_goes 78 = .ok (.istore 4, 2) := by decide +kernel
theorem dX8_goes_80 : decode cX8_goes 80 = .ok (.iload 4, 2) := by decide +kernel
theorem dX8_goes_82 : decode cX8_goes 82 = .ok (.aload_n 0, 1) := by decide +kernel
theorem dX8_goes_83 : decode cX8_goes 83 = .ok (.getfield 150, 3) := by decide +kernel
theorem dX8_goes_86 : decode cX8_goes 86 = .ok (.if_icmp .ge 25, 3) := by decide +kernel
theorem dX8_goes_89 : decode cX8_goes 89 = .ok (.aload_n 0, 1) := by decide +kernel
theorem dX8_goes_90 : decode cX8_goes 90 = .ok (.getfield 43, 3) := by decide +kernel
theorem dX8_goes_93 : decode cX8_goes 93 = .ok (.iload 4, 2) := by decide +kernel
theorem dX8_goes_95 : decode cX8_goes 95 = .ok (.iconst 1, 1) := by decide +kernel
theorem dX8_goes_96 : decode cX8_goes 96 = .ok (.isub, 1) := by decide +kernel
theorem dX8_goes_97 : decode cX8_goes 97 = .ok (.aload_n 0, 1) := by decide +kernel
theorem dX8_goes_98 : decode cX8_goes 98 = .ok (.getfield 43, 3) := by decide +kernel
theorem dX8_goes_101 : decode cX8_goes 101 = .ok (.iload 4, 2) := by decide +kernel
theorem dX8_goes_103 : decode cX8_goes 103 = .ok (.iaload, 1) := by decide +kernel
theorem dX8_goes_104 : decode cX8_goes 104 = .ok (.iastore, 1) := by decide +kernel
theorem dX8_goes_105 : decode cX8_goes 105 = .ok (.iinc 4 1, 3) := by decide +kernel
theorem dX8_goes_108 : decode cX8_goes 108 = .ok (.goto (-28), 3) := by decide +kernel
theorem dX8_goes_111 : decode cX8_goes 111 = .ok (.iload_n 1, 1) := by decide +kernel
theorem dX8_goes_112 : decode cX8_goes 112 = .ok (.ifCond .ne 47, 3) := by decide +kernel
theorem dX8_goes_115 : decode cX8_goes 115 = .ok (.iload_n 3, 1) := by decide +kernel
theorem dX8_goes_116 : decode cX8_goes 116 = .ok (.ifCond .ne 43, 3) := by decide +kernel
theorem dX8_goes_119 : decode cX8_goes 119 = .ok (.aload_n 0, 1) := by decide +kernel
theorem dX8_goes_120 : decode cX8_goes 120 = .ok (.getfield 150, 3) := by decide +kernel
theorem dX8_goes_123 : decode cX8_goes 123 = .ok (.istore 4, 2) := by decide +kernel
theorem dX8_goes_125 : decode cX8_goes 125 = .ok (.iload 4, 2) := by decide +kernel
theorem dX8_goes_127 : decode cX8_goes 127 = .ok (.ifCond .le 25, 3) := by decide +kernel
theorem dX8_goes_130 : decode cX8_goes 130 = .ok (.aload_n 0, 1) := by decide +kernel
theorem dX8_goes_131 : decode cX8_goes 131 = .ok (.getfield 43, 3) := by decide +kernel
theorem dX8_goes_134 : decode cX8_goes 134 = .ok (.iload 4, 2) := by decide +kernel
theorem dX8_goes_136 : decode cX8_goes 136 = .ok (.aload_n 0, 1) := by decide +kernel
theorem dX8_goes_137 : decode cX8_goes 137 = .ok (.getfield 43, 3) := by decide +kernel
theorem dX8_goes_140 : decode cX8_goes 140 = .ok (.iload 4, 2) := by decide +kernel
theorem dX8_goes_142 : decode cX8_goes 142 = .ok (.iconst 1, 1) := by decide +kernel
theorem dX8_goes_143 : decode cX8_goes 143 = .ok (.isub, 1) := by decide +kernel
theorem dX8_goes_144 : decode cX8_goes 144 = .ok (.iaload, 1) := by decide +kernel
theorem dX8_goes_145 : decode cX8_goes 145 = .ok (.iastore, 1) := by decide +kernel
theorem dX8_goes_146 : decode cX8_goes 146 = .ok (.iinc 4 (-1), 3) := by decide +kernel
theorem dX8_goes_149 : decode cX8_goes 149 = .ok (.goto (-24), 3) := by decide +kernel
theorem dX8_goes_152 : decode cX8_goes 152 = .ok (.aload_n 0, 1) := by decide +kernel
theorem dX8_goes_153 : decode cX8_goes 153 = .ok (.getfield 43, 3) := by decide +kernel
theorem dX8_goes_156 : decode cX8_goes 156 = .ok (.iconst 0, 1) := by decide +kernel
theorem dX8_goes_157 : decode cX8_goes 157 = .ok (.iload_n 2, 1) := by decide +kernel
theorem dX8_goes_158 : decode cX8_goes 158 = .ok (.iastore, 1) := by decide +kernel
theorem dX8_goes_159 : decode cX8_goes 159 = .ok (.iload_n 1, 1) := by decide +kernel
theorem dX8_goes_160 : decode cX8_goes 160 = .ok (.iconst 1, 1) := by decide +kernel
theorem dX8_goes_161 : decode cX8_goes 161 = .ok (.if_icmp .ne 17, 3) := by decide +kernel
theorem dX8_goes_164 : decode cX8_goes 164 = .ok (.iload_n 3, 1) := by decide +kernel
theorem dX8_goes_165 : decode cX8_goes 165 = .ok (.ifCond .ne 13, 3) := by decide +kernel
theorem dX8_goes_168 : decode cX8_goes 168 = .ok (.aload_n 0, 1) := by decide +kernel
theorem dX8_goes_169 : decode cX8_goes 169 = .ok (.getfield 43, 3) := by decide +kernel
theorem dX8_goes_172 : decode cX8_goes 172 = .ok (.aload_n 0, 1) := by decide +kernel
theorem dX8_goes_173 : decode cX8_goes 173 = .ok (.getfield 150, 3) := by decide +kernel
theorem dX8_goes_176 : decode cX8_goes 176 = .ok (.iload_n 2, 1) := by decide +kernel
theorem dX8_goes_177 : decode cX8_goes 177 = .ok (.iastore, 1) := by decide +kernel
theorem dX8_goes_178 : decode cX8_goes 178 = .ok (.aload_n 0, 1) := by decide +kernel
theorem dX8_goes_179 : decode cX8_goes 179 = .ok (.dup, 1) := by decide +kernel
theorem dX8_goes_180 : decode cX8_goes 180 = .ok (.getfield 150, 3) := by decide +kernel
theorem dX8_goes_183 : decode cX8_goes 183 = .ok (.iload_n 3, 1) := by decide +kernel
theorem dX8_goes_184 : decode cX8_goes 184 = .ok (.ifCond .eq 7, 3) := by decide +kernel
theorem dX8_goes_187 : decode cX8_goes 187 = .ok (.iconst (-1), 1) := by decide +kernel
theorem dX8_goes_188 : decode cX8_goes 188 = .ok (.goto 4, 3) := by decide +kernel
theorem dX8_goes_191 : decode cX8_goes 191 = .ok (.iconst 1, 1) := by decide +kernel
theorem dX8_goes_192 : decode cX8_goes 192 = .ok (.iadd, 1) := by decide +kernel
theorem dX8_goes_193 : decode cX8_goes 193 = .ok (.putfield 150, 3) := by decide +kernel
theorem dX8_goes_196 : decode cX8_goes 196 = .ok (.return_, 1) := by decide +kernel
theorem dX8_begins_0 : decode cX8_begins 0 = .ok (.aload_n 0, 1) := by decide +kernel
theorem dX8_begins_1 : decode cX8_begins 1 = .ok (.getfield 40, 3) := by decide +kernel
theorem dX8_begins_4 : decode cX8_begins 4 = .ok (.iconst 0, 1) := by decide +kernel
theorem dX8_begins_5 : decode cX8_begins 5 = .ok (.aload_n 0, 1) := by decide +kernel
theorem dX8_begins_6 : decode cX8_begins 6 = .ok (.getfield 31, 3) := by decide +kernel
theorem dX8_begins_9 : decode cX8_begins 9 = .ok (.iload_n 1, 1) := by decide +kernel
theorem dX8_begins_10 : decode cX8_begins 10 = .ok (.iaload, 1) := by decide +kernel
theorem dX8_begins_11 : decode cX8_begins 11 = .ok (.iastore, 1) := by decide +kernel
theorem dX8_begins_12 : decode cX8_begins 12 = .ok (.aload_n 0, 1) := by decide +kernel
theorem dX8_begins_13 : decode cX8_begins 13 = .ok (.getfield 40, 3) := by decide +kernel
theorem dX8_begins_16 : decode cX8_begins 16 = .ok (.iconst 1, 1) := by decide +kernel
theorem dX8_begins_17 : decode cX8_begins 17 = .ok (.aload_n 0, 1) := by decide +kernel
theorem dX8_begins_18 : decode cX8_begins 18 = .ok (.getfield 31, 3) := by decide +kernel
theorem dX8_begins_21 : decode cX8_begins 21 = .ok (.iload_n 1, 1) := by decide +kernel
theorem dX8_begins_22 : decode cX8_begins 22 = .ok (.iaload, 1) := by decide +kernel
theorem dX8_begins_23 : decode cX8_begins 23 = .ok (.iastore, 1) := by decide +kernel
theorem dX8_begins_24 : decode cX8_begins 24 = .ok (.aload_n 0, 1) := by decide +kernel
theorem dX8_begins_25 : decode cX8_begins 25 = .ok (.iconst 0, 1) := by decide +kernel
theorem dX8_begins_26 : decode cX8_begins 26 = .ok (.putfield 150, 3) := by decide +kernel
theorem dX8_begins_29 : decode cX8_begins 29 = .ok (.aload_n 0, 1) := by decide +kernel
theorem dX8_begins_30 : decode cX8_begins 30 = .ok (.iconst 0, 1) := by decide +kernel
theorem dX8_begins_31 : decode cX8_begins 31 = .ok (.putfield 159, 3) := by decide +kernel
theorem dX8_begins_34 : decode cX8_begins 34 = .ok (.aload_n 0, 1) := by decide +kernel
theorem dX8_begins_35 : decode cX8_begins 35 = .ok (.iconst 0, 1) := by decide +kernel
theorem dX8_begins_36 : decode cX8_begins 36 = .ok (.putfield 162, 3) := by decide +kernel
theorem dX8_begins_39 : decode cX8_begins 39 = .ok (.iconst 0, 1) := by decide +kernel
theorem dX8_begins_40 : decode cX8_begins 40 = .ok (.istore_n 2, 1) := by decide +kernel
theorem dX8_begins_41 : decode cX8_begins 41 = .ok (.iload_n 2, 1) := by decide +kernel
theorem dX8_begins_42 : decode cX8_begins 42 = .ok (.iconst 2, 1) := by decide +kernel
theorem dX8_begins_43 : decode cX8_begins 43 = .ok (.if_icmp .ge 23, 3) := by decide +kernel
theorem dX8_begins_46 : decode cX8_begins 46 = .ok (.aload_n 0, 1) := by decide +kernel
theorem dX8_begins_47 : decode cX8_begins 47 = .ok (.getfield 46, 3) := by decide +kernel
theorem dX8_begins_50 : decode cX8_begins 50 = .ok (.iload_n 2, 1) := by decide +kernel
theorem dX8_begins_51 : decode cX8_begins 51 = .ok (.iconst 0, 1) := by decide +kernel
theorem dX8_begins_52 : decode cX8_begins 52 = .ok (.iastore, 1) := by decide +kernel
theorem dX8_begins_53 : decode cX8_begins 53 = .ok (.aload_n 0, 1) := by decide +kernel
theorem dX8_begins_54 : decode cX8_begins 54 = .ok (.getfield 49, 3) := by decide +kernel
theorem dX8_begins_57 : decode cX8_begins 57 = .ok (.iload_n 2, 1) := by decide +kernel
theorem dX8_begins_58 : decode cX8_begins 58 = .ok (.iconst 0, 1) := by decide +kernel
theorem dX8_begins_59 : decode cX8_begins 59 = .ok (.iastore, 1) := by decide +kernel
theorem dX8_begins_60 : decode cX8_begins 60 = .ok (.iinc 2 1, 3) := by decide +kernel
theorem dX8_begins_63 : decode cX8_begins 63 = .ok (.goto (-22), 3) := by decide +kernel
theorem dX8_begins_66 : decode cX8_begins 66 = .ok (.return_, 1) := by decide +kernel
theorem dX8_stepOf_0 : decode cX8_stepOf 0 = .ok (.aload_n 0, 1) := by decide +kernel
theorem dX8_stepOf_1 : decode cX8_stepOf 1 = .ok (.getfield 22, 3) := by decide +kernel
theorem dX8_stepOf_4 : decode cX8_stepOf 4 = .ok (.bipush 40, 2) := by decide +kernel
theorem dX8_stepOf_6 : decode cX8_stepOf 6 = .ok (.bipush 40, 2) := by decide +kernel
theorem dX8_stepOf_8 : decode cX8_stepOf 8 = .ok (.iload_n 1, 1) := by decide +kernel
theorem dX8_stepOf_9 : decode cX8_stepOf 9 = .ok (.imul, 1) := by decide +kernel
theorem dX8_stepOf_10 : decode cX8_stepOf 10 = .ok (.iadd, 1) := by decide +kernel
theorem dX8_stepOf_11 : decode cX8_stepOf 11 = .ok (.iload_n 2, 1) := by decide +kernel
theorem dX8_stepOf_12 : decode cX8_stepOf 12 = .ok (.iadd, 1) := by decide +kernel
theorem dX8_stepOf_13 : decode cX8_stepOf 13 = .ok (.iaload, 1) := by decide +kernel
theorem dX8_stepOf_14 : decode cX8_stepOf 14 = .ok (.istore_n 3, 1) := by decide +kernel
theorem dX8_stepOf_15 : decode cX8_stepOf 15 = .ok (.iload_n 3, 1) := by decide +kernel
theorem dX8_stepOf_16 : decode cX8_stepOf 16 = .ok (.i2l, 1) := by decide +kernel
theorem dX8_stepOf_17 : decode cX8_stepOf 17 = .ok (.ldc2_w 165, 3) := by decide +kernel
theorem dX8_stepOf_20 : decode cX8_stepOf 20 = .ok (.ldc2_w 167, 3) := by decide +kernel
theorem dX8_stepOf_23 : decode cX8_stepOf 23 = .ok (.invokestatic 77, 3) := by decide +kernel
theorem dX8_stepOf_26 : decode cX8_stepOf 26 = .ok (.ifCond .eq 10, 3) := by decide +kernel
theorem dX8_stepOf_29 : decode cX8_stepOf 29 = .ok (.iload_n 3, 1) := by decide +kernel
theorem dX8_stepOf_30 : decode cX8_stepOf 30 = .ok (.bipush 97, 2) := by decide +kernel
theorem dX8_stepOf_32 : decode cX8_stepOf 32 = .ok (.isub, 1) := by decide +kernel
theorem dX8_stepOf_33 : decode cX8_stepOf 33 = .ok (.goto 28, 3) := by decide +kernel
theorem dX8_stepOf_36 : decode cX8_stepOf 36 = .ok (.iload_n 3, 1) := by decide +kernel
theorem dX8_stepOf_37 : decode cX8_stepOf 37 = .ok (.i2l, 1) := by decide +kernel
theorem dX8_stepOf_38 : decode cX8_stepOf 38 = .ok (.ldc2_w 169, 3) := by decide +kernel
theorem dX8_stepOf_41 : decode cX8_stepOf 41 = .ok (.ldc2_w 171, 3) := by decide +kernel
theorem dX8_stepOf_44 : decode cX8_stepOf 44 = .ok (.invokestatic 77, 3) := by decide +kernel
theorem dX8_stepOf_47 : decode cX8_stepOf 47 = .ok (.ifCond .eq 13, 3) := by decide +kernel
theorem dX8_stepOf_50 : decode cX8_stepOf 50 = .ok (.bipush 8, 2) := by decide +kernel
theorem dX8_stepOf_52 : decode cX8_stepOf 52 = .ok (.iload_n 3, 1) := by decide +kernel
theorem dX8_stepOf_53 : decode cX8_stepOf 53 = .ok (.iadd, 1) := by decide +kernel
theorem dX8_stepOf_54 : decode cX8_stepOf 54 = .ok (.bipush 65, 2) := by decide +kernel
theorem dX8_stepOf_56 : decode cX8_stepOf 56 = .ok (.isub, 1) := by decide +kernel
theorem dX8_stepOf_57 : decode cX8_stepOf 57 = .ok (.goto 4, 3) := by decide +kernel
theorem dX8_stepOf_60 : decode cX8_stepOf 60 = .ok (.iconst (-1), 1) := by decide +kernel
theorem dX8_stepOf_61 : decode cX8_stepOf 61 = .ok (.istore 4, 2) := by decide +kernel
theorem dX8_stepOf_63 : decode cX8_stepOf 63 = .ok (.iload 4, 2) := by decide +kernel
theorem dX8_stepOf_65 : decode cX8_stepOf 65 = .ok (.iconst (-1), 1) := by decide +kernel
theorem dX8_stepOf_66 : decode cX8_stepOf 66 = .ok (.if_icmp .eq 42, 3) := by decide +kernel
theorem dX8_stepOf_69 : decode cX8_stepOf 69 = .ok (.iload 4, 2) := by decide +kernel
theorem dX8_stepOf_71 : decode cX8_stepOf 71 = .ok (.bipush 8, 2) := by decide +kernel
theorem dX8_stepOf_73 : decode cX8_stepOf 73 = .ok (.irem, 1) := by decide +kernel
theorem dX8_stepOf_74 : decode cX8_stepOf 74 = .ok (.aload_n 0, 1) := by decide +kernel
theorem dX8_stepOf_75 : decode cX8_stepOf 75 = .ok (.getfield 111, 3) := by decide +kernel
theorem dX8_stepOf_78 : decode cX8_stepOf 78 = .ok (.if_icmp .ge 30, 3) := by decide +kernel
theorem dX8_stepOf_81 : decode cX8_stepOf 81 = .ok (.aload_n 0, 1) := by decide +kernel
theorem dX8_stepOf_82 : decode cX8_stepOf 82 = .ok (.iload 4, 2) := by decide +kernel
theorem dX8_stepOf_84 : decode cX8_stepOf 84 = .ok (.bipush 8, 2) := by decide +kernel
theorem dX8_stepOf_86 : decode cX8_stepOf 86 = .ok (.irem, 1) := by decide +kernel
theorem dX8_stepOf_87 : decode cX8_stepOf 87 = .ok (.aload_n 0, 1) := by decide +kernel
theorem dX8_stepOf_88 : decode cX8_stepOf 88 = .ok (.getfield 40, 3) := by decide +kernel
theorem dX8_stepOf_91 : decode cX8_stepOf 91 = .ok (.iload 4, 2) := by decide +kernel
theorem dX8_stepOf_93 : decode cX8_stepOf 93 = .ok (.bipush 8, 2) := by decide +kernel
theorem dX8_stepOf_95 : decode cX8_stepOf 95 = .ok (.idiv, 1) := by decide +kernel
theorem dX8_stepOf_96 : decode cX8_stepOf 96 = .ok (.iaload, 1) := by decide +kernel
theorem dX8_stepOf_97 : decode cX8_stepOf 97 = .ok (.invokevirtual 173, 3) := by decide +kernel
theorem dX8_stepOf_100 : decode cX8_stepOf 100 = .ok (.ifCond .eq 8, 3) := by decide +kernel
theorem dX8_stepOf_103 : decode cX8_stepOf 103 = .ok (.iload 4, 2) := by decide +kernel
theorem dX8_stepOf_105 : decode cX8_stepOf 105 = .ok (.goto 4, 3) := by decide +kernel
theorem dX8_stepOf_108 : decode cX8_stepOf 108 = .ok (.iconst (-1), 1) := by decide +kernel
theorem dX8_stepOf_109 : decode cX8_stepOf 109 = .ok (.ireturn, 1) := by decide +kernel
theorem dX8_lengthBehind_0 : decode cX8_lengthBehind 0 = .ok (.aload_n 0, 1) := by decide +kernel
theorem dX8_lengthBehind_1 : decode cX8_lengthBehind 1 = .ok (.iload_n 1, 1) := by decide +kernel
theorem dX8_lengthBehind_2 : decode cX8_lengthBehind 2 = .ok (.invokevirtual 153, 3) := by decide +kernel
theorem dX8_lengthBehind_5 : decode cX8_lengthBehind 5 = .ok (.iload_n 2, 1) := by decide +kernel
theorem dX8_lengthBehind_6 : decode cX8_lengthBehind 6 = .ok (.if_icmp .ne 21, 3) := by decide +kernel
theorem dX8_lengthBehind_9 : decode cX8_lengthBehind 9 = .ok (.aload_n 0, 1) := by decide +kernel
theorem dX8_lengthBehind_10 : decode cX8_lengthBehind 10 = .ok (.getfield 159, 3) := by decide +kernel
theorem dX8_lengthBehind_13 : decode cX8_lengthBehind 13 = .ok (.aload_n 0, 1) := by decide +kernel
theorem dX8_lengthBehind_14 : decode cX8_lengthBehind 14 = .ok (.getfield 28, 3) := by decide +kernel
theorem dX8_lengthBehind_17 : decode cX8_lengthBehind 17 = .ok (.iconst 3, 1) := by decide +kernel
theorem dX8_lengthBehind_18 : decode cX8_lengthBehind 18 = .ok (.iload_n 2, 1) := by decide +kernel
theorem dX8_lengthBehind_19 : decode cX8_lengthBehind 19 = .ok (.imul, 1) := by decide +kernel
theorem dX8_lengthBehind_20 : decode cX8_lengthBehind 20 = .ok (.iconst 2, 1) := by decide +kernel
theorem dX8_lengthBehind_21 : decode cX8_lengthBehind 21 = .ok (.iadd, 1) := by decide +kernel
theorem dX8_lengthBehind_22 : decode cX8_lengthBehind 22 = .ok (.iaload, 1) := by decide +kernel
theorem dX8_lengthBehind_23 : decode cX8_lengthBehind 23 = .ok (.isub, 1) := by decide +kernel
theorem dX8_lengthBehind_24 : decode cX8_lengthBehind 24 = .ok (.goto 18, 3) := by decide +kernel
theorem dX8_lengthBehind_27 : decode cX8_lengthBehind 27 = .ok (.aload_n 0, 1) := by decide +kernel
theorem dX8_lengthBehind_28 : decode cX8_lengthBehind 28 = .ok (.getfield 159, 3) := by decide +kernel
theorem dX8_lengthBehind_31 : decode cX8_lengthBehind 31 = .ok (.aload_n 0, 1) := by decide +kernel
theorem dX8_lengthBehind_32 : decode cX8_lengthBehind 32 = .ok (.getfield 28, 3) := by decide +kernel
theorem dX8_lengthBehind_35 : decode cX8_lengthBehind 35 = .ok (.iconst 3, 1) := by decide +kernel
theorem dX8_lengthBehind_36 : decode cX8_lengthBehind 36 = .ok (.iload_n 2, 1) := by decide +kernel
theorem dX8_lengthBehind_37 : decode cX8_lengthBehind 37 = .ok (.imul, 1) := by decide +kernel
theorem dX8_lengthBehind_38 : decode cX8_lengthBehind 38 = .ok (.iconst 2, 1) := by decide +kernel
theorem dX8_lengthBehind_39 : decode cX8_lengthBehind 39 = .ok (.iadd, 1) := by decide +kernel
theorem dX8_lengthBehind_40 : decode cX8_lengthBehind 40 = .ok (.iaload, 1) := by decide +kernel
theorem dX8_lengthBehind_41 : decode cX8_lengthBehind 41 = .ok (.iadd, 1) := by decide +kernel
theorem dX8_lengthBehind_42 : decode cX8_lengthBehind 42 = .ok (.ireturn, 1) := by decide +kernel
theorem dX8_isBorne_0 : decode cX8_isBorne 0 = .ok (.iload_n 1, 1) := by decide +kernel
theorem dX8_isBorne_1 : decode cX8_isBorne 1 = .ok (.iconst (-1), 1) := by decide +kernel
theorem dX8_isBorne_2 : decode cX8_isBorne 2 = .ok (.if_icmp .eq 51, 3) := by decide +kernel
theorem dX8_isBorne_5 : decode cX8_isBorne 5 = .ok (.aload_n 0, 1) := by decide +kernel
theorem dX8_isBorne_6 : decode cX8_isBorne 6 = .ok (.iload_n 1, 1) := by decide +kernel
theorem dX8_isBorne_7 : decode cX8_isBorne 7 = .ok (.bipush 8, 2) := by decide +kernel
theorem dX8_isBorne_9 : decode cX8_isBorne 9 = .ok (.idiv, 1) := by decide +kernel
theorem dX8_isBorne_10 : decode cX8_isBorne 10 = .ok (.iload_n 1, 1) := by decide +kernel
theorem dX8_isBorne_11 : decode cX8_isBorne 11 = .ok (.bipush 8, 2) := by decide +kernel
theorem dX8_isBorne_13 : decode cX8_isBorne 13 = .ok (.irem, 1) := by decide +kernel
theorem dX8_isBorne_14 : decode cX8_isBorne 14 = .ok (.invokevirtual 177, 3) := by decide +kernel
theorem dX8_isBorne_17 : decode cX8_isBorne 17 = .ok (.aload_n 0, 1) := by decide +kernel
theorem dX8_isBorne_18 : decode cX8_isBorne 18 = .ok (.getfield 34, 3) := by decide +kernel
theorem dX8_isBorne_21 : decode cX8_isBorne 21 = .ok (.iconst 2, 1) := by decide +kernel
theorem dX8_isBorne_22 : decode cX8_isBorne 22 = .ok (.iaload, 1) := by decide +kernel
theorem dX8_isBorne_23 : decode cX8_isBorne 23 = .ok (.if_icmp .le 26, 3) := by decide +kernel
theorem dX8_isBorne_26 : decode cX8_isBorne 26 = .ok (.aload_n 0, 1) := by decide +kernel
theorem dX8_isBorne_27 : decode cX8_isBorne 27 = .ok (.getfield 34, 3) := by decide +kernel
theorem dX8_isBorne_30 : decode cX8_isBorne 30 = .ok (.iload_n 1, 1) := by decide +kernel
theorem dX8_isBorne_31 : decode cX8_isBorne 31 = .ok (.bipush 8, 2) := by decide +kernel
theorem dX8_isBorne_33 : decode cX8_isBorne 33 = .ok (.idiv, 1) := by decide +kernel
theorem dX8_isBorne_34 : decode cX8_isBorne 34 = .ok (.iaload, 1) := by decide +kernel
theorem dX8_isBorne_35 : decode cX8_isBorne 35 = .ok (.aload_n 0, 1) := by decide +kernel
theorem dX8_isBorne_36 : decode cX8_isBorne 36 = .ok (.getfield 34, 3) := by decide +kernel
theorem dX8_isBorne_39 : decode cX8_isBorne 39 = .ok (.iconst 1, 1) := by decide +kernel
theorem dX8_isBorne_40 : decode cX8_isBorne 40 = .ok (.iload_n 1, 1) := by decide +kernel
theorem dX8_isBorne_41 : decode cX8_isBorne 41 = .ok (.bipush 8, 2) := by decide +kernel
theorem dX8_isBorne_43 : decode cX8_isBorne 43 = .ok (.idiv, 1) := by decide +kernel
theorem dX8_isBorne_44 : decode cX8_isBorne 44 = .ok (.isub, 1) := by decide +kernel
theorem dX8_isBorne_45 : decode cX8_isBorne 45 = .ok (.iaload, 1) := by decide +kernel
theorem dX8_isBorne_46 : decode cX8_isBorne 46 = .ok (.if_icmp .le 7, 3) := by decide +kernel
theorem dX8_isBorne_49 : decode cX8_isBorne 49 = .ok (.iconst 1, 1) := by decide +kernel
theorem dX8_isBorne_50 : decode cX8_isBorne 50 = .ok (.goto 4, 3) := by decide +kernel
theorem dX8_isBorne_53 : decode cX8_isBorne 53 = .ok (.iconst 0, 1) := by decide +kernel
theorem dX8_isBorne_54 : decode cX8_isBorne 54 = .ok (.ireturn, 1) := by decide +kernel
theorem dX8_does_0 : decode cX8_does 0 = .ok (.iload_n 1, 1) := by decide +kernel
theorem dX8_does_1 : decode cX8_does 1 = .ok (.bipush 8, 2) := by decide +kernel
theorem dX8_does_3 : decode cX8_does 3 = .ok (.idiv, 1) := by decide +kernel
theorem dX8_does_4 : decode cX8_does 4 = .ok (.istore_n 2, 1) := by decide +kernel
theorem dX8_does_5 : decode cX8_does 5 = .ok (.aload_n 0, 1) := by decide +kernel
theorem dX8_does_6 : decode cX8_does 6 = .ok (.iload_n 2, 1) := by decide +kernel
theorem dX8_does_7 : decode cX8_does 7 = .ok (.iload_n 1, 1) := by decide +kernel
theorem dX8_does_8 : decode cX8_does 8 = .ok (.bipush 8, 2) := by decide +kernel
theorem dX8_does_10 : decode cX8_does 10 = .ok (.irem, 1) := by decide +kernel
theorem dX8_does_11 : decode cX8_does 11 = .ok (.invokevirtual 180, 3) := by decide +kernel
theorem dX8_does_14 : decode cX8_does 14 = .ok (.aload_n 0, 1) := by decide +kernel
theorem dX8_does_15 : decode cX8_does 15 = .ok (.getfield 159, 3) := by decide +kernel
theorem dX8_does_18 : decode cX8_does 18 = .ok (.aload_n 0, 1) := by decide +kernel
theorem dX8_does_19 : decode cX8_does 19 = .ok (.getfield 34, 3) := by decide +kernel
theorem dX8_does_22 : decode cX8_does 22 = .ok (.iconst 2, 1) := by decide +kernel
theorem dX8_does_23 : decode cX8_does 23 = .ok (.iaload, 1) := by decide +kernel
theorem dX8_does_24 : decode cX8_does 24 = .ok (.if_icmp .le 32, 3) := by decide +kernel
theorem dX8_does_27 : decode cX8_does 27 = .ok (.aload_n 0, 1) := by decide +kernel
theorem dX8_does_28 : decode cX8_does 28 = .ok (.iconst 1, 1) := by decide +kernel
theorem dX8_does_29 : decode cX8_does 29 = .ok (.iload_n 2, 1) := by decide +kernel
theorem dX8_does_30 : decode cX8_does 30 = .ok (.isub, 1) := by decide +kernel
theorem dX8_does_31 : decode cX8_does 31 = .ok (.aload_n 0, 1) := by decide +kernel
theorem dX8_does_32 : decode cX8_does 32 = .ok (.iconst 1, 1) := by decide +kernel
theorem dX8_does_33 : decode cX8_does 33 = .ok (.iload_n 2, 1) := by decide +kernel
theorem dX8_does_34 : decode cX8_does 34 = .ok (.isub, 1) := by decide +kernel
theorem dX8_does_35 : decode cX8_does 35 = .ok (.invokevirtual 153, 3) := by decide +kernel
theorem dX8_does_38 : decode cX8_does 38 = .ok (.invokevirtual 180, 3) := by decide +kernel
theorem dX8_does_41 : decode cX8_does 41 = .ok (.aload_n 0, 1) := by decide +kernel
theorem dX8_does_42 : decode cX8_does 42 = .ok (.getfield 49, 3) := by decide +kernel
theorem dX8_does_45 : decode cX8_does 45 = .ok (.iconst 1, 1) := by decide +kernel
theorem dX8_does_46 : decode cX8_does 46 = .ok (.iload_n 2, 1) := by decide +kernel
theorem dX8_does_47 : decode cX8_does 47 = .ok (.isub, 1) := by decide +kernel
theorem dX8_does_48 : decode cX8_does 48 = .ok (.dup2, 1) := by decide +kernel
theorem dX8_does_49 : decode cX8_does 49 = .ok (.iaload, 1) := by decide +kernel
theorem dX8_does_50 : decode cX8_does 50 = .ok (.iconst 1, 1) := by decide +kernel
theorem dX8_does_51 : decode cX8_does 51 = .ok (.iadd, 1) := by decide +kernel
theorem dX8_does_52 : decode cX8_does 52 = .ok (.iastore, 1) := by decide +kernel
theorem dX8_does_53 : decode cX8_does 53 = .ok (.goto (-39), 3) := by decide +kernel
theorem dX8_does_56 : decode cX8_does 56 = .ok (.aload_n 0, 1) := by decide +kernel
theorem dX8_does_57 : decode cX8_does 57 = .ok (.getfield 40, 3) := by decide +kernel
theorem dX8_does_60 : decode cX8_does 60 = .ok (.iload_n 2, 1) := by decide +kernel
theorem dX8_does_61 : decode cX8_does 61 = .ok (.iaload, 1) := by decide +kernel
theorem dX8_does_62 : decode cX8_does 62 = .ok (.istore_n 3, 1) := by decide +kernel
theorem dX8_does_63 : decode cX8_does 63 = .ok (.aload_n 0, 1) := by decide +kernel
theorem dX8_does_64 : decode cX8_does 64 = .ok (.getfield 46, 3) := by decide +kernel
theorem dX8_does_67 : decode cX8_does 67 = .ok (.iload_n 2, 1) := by decide +kernel
theorem dX8_does_68 : decode cX8_does 68 = .ok (.dup2, 1) := by decide +kernel
theorem dX8_does_69 : decode cX8_does 69 = .ok (.iaload, 1) := by decide +kernel
theorem dX8_does_70 : decode cX8_does 70 = .ok (.aload_n 0, 1) := by decide +kernel
theorem dX8_does_71 : decode cX8_does 71 = .ok (.getfield 162, 3) := by decide +kernel
theorem dX8_does_74 : decode cX8_does 74 = .ok (.iload_n 3, 1) := by decide +kernel
theorem dX8_does_75 : decode cX8_does 75 = .ok (.ishr, 1) := by decide +kernel
theorem dX8_does_76 : decode cX8_does 76 = .ok (.iconst 1, 1) := by decide +kernel
theorem dX8_does_77 : decode cX8_does 77 = .ok (.iand, 1) := by decide +kernel
theorem dX8_does_78 : decode cX8_does 78 = .ok (.ifCond .ne 12, 3) := by decide +kernel
theorem dX8_does_81 : decode cX8_does 81 = .ok (.aload_n 0, 1) := by decide +kernel
theorem dX8_does_82 : decode cX8_does 82 = .ok (.getfield 37, 3) := by decide +kernel
theorem dX8_does_85 : decode cX8_does 85 = .ok (.iload_n 3, 1) := by decide +kernel
theorem dX8_does_86 : decode cX8_does 86 = .ok (.iaload, 1) := by decide +kernel
theorem dX8_does_87 : decode cX8_does 87 = .ok (.goto 4, 3) := by decide +kernel
theorem dX8_does_90 : decode cX8_does 90 = .ok (.iconst 0, 1) := by decide +kernel
theorem dX8_does_91 : decode cX8_does 91 = .ok (.iadd, 1) := by decide +kernel
theorem dX8_does_92 : decode cX8_does 92 = .ok (.iastore, 1) := by decide +kernel
theorem dX8_does_93 : decode cX8_does 93 = .ok (.aload_n 0, 1) := by decide +kernel
theorem dX8_does_94 : decode cX8_does 94 = .ok (.dup, 1) := by decide +kernel
theorem dX8_does_95 : decode cX8_does 95 = .ok (.getfield 162, 3) := by decide +kernel
theorem dX8_does_98 : decode cX8_does 98 = .ok (.iconst 1, 1) := by decide +kernel
theorem dX8_does_99 : decode cX8_does 99 = .ok (.iload_n 3, 1) := by decide +kernel
theorem dX8_does_100 : decode cX8_does 100 = .ok (.ishl, 1) := by decide +kernel
theorem dX8_does_101 : decode cX8_does 101 = .ok (.ior, 1) := by decide +kernel
theorem dX8_does_102 : decode cX8_does 102 = .ok (.putfield 162, 3) := by decide +kernel
theorem dX8_does_105 : decode cX8_does 105 = .ok (.return_, 1) := by decide +kernel
theorem dX8_runs_0 : decode cX8_runs 0 = .ok (.aload_n 0, 1) := by decide +kernel
theorem dX8_runs_1 : decode cX8_runs 1 = .ok (.iload_n 1, 1) := by decide +kernel
theorem dX8_runs_2 : decode cX8_runs 2 = .ok (.invokevirtual 184, 3) := by decide +kernel
theorem dX8_runs_5 : decode cX8_runs 5 = .ok (.iconst 0, 1) := by decide +kernel
theorem dX8_runs_6 : decode cX8_runs 6 = .ok (.istore_n 3, 1) := by decide +kernel
theorem dX8_runs_7 : decode cX8_runs 7 = .ok (.iload_n 3, 1) := by decide +kernel
theorem dX8_runs_8 : decode cX8_runs 8 = .ok (.iload_n 2, 1) := by decide +kernel
theorem dX8_runs_9 : decode cX8_runs 9 = .ok (.if_icmp .ge 44, 3) := by decide +kernel
theorem dX8_runs_12 : decode cX8_runs 12 = .ok (.iload_n 3, 1) := by decide +kernel
theorem dX8_runs_13 : decode cX8_runs 13 = .ok (.aload_n 0, 1) := by decide +kernel
theorem dX8_runs_14 : decode cX8_runs 14 = .ok (.getfield 25, 3) := by decide +kernel
theorem dX8_runs_17 : decode cX8_runs 17 = .ok (.iconst 1, 1) := by decide +kernel
theorem dX8_runs_18 : decode cX8_runs 18 = .ok (.iload_n 1, 1) := by decide +kernel
theorem dX8_runs_19 : decode cX8_runs 19 = .ok (.iadd, 1) := by decide +kernel
theorem dX8_runs_20 : decode cX8_runs 20 = .ok (.iaload, 1) := by decide +kernel
theorem dX8_runs_21 : decode cX8_runs 21 = .ok (.if_icmp .ge 32, 3) := by decide +kernel
theorem dX8_runs_24 : decode cX8_runs 24 = .ok (.aload_n 0, 1) := by decide +kernel
theorem dX8_runs_25 : decode cX8_runs 25 = .ok (.aload_n 0, 1) := by decide +kernel
theorem dX8_runs_26 : decode cX8_runs 26 = .ok (.iload_n 1, 1) := by decide +kernel
theorem dX8_runs_27 : decode cX8_runs 27 = .ok (.iload_n 3, 1) := by decide +kernel
theorem dX8_runs_28 : decode cX8_runs 28 = .ok (.invokevirtual 188, 3) := by decide +kernel
theorem dX8_runs_31 : decode cX8_runs 31 = .ok (.invokevirtual 191, 3) := by decide +kernel
theorem dX8_runs_34 : decode cX8_runs 34 = .ok (.ifCond .eq 19, 3) := by decide +kernel
theorem dX8_runs_37 : decode cX8_runs 37 = .ok (.aload_n 0, 1) := by decide +kernel
theorem dX8_runs_38 : decode cX8_runs 38 = .ok (.aload_n 0, 1) := by decide +kernel
theorem dX8_runs_39 : decode cX8_runs 39 = .ok (.iload_n 1, 1) := by decide +kernel
theorem dX8_runs_40 : decode cX8_runs 40 = .ok (.iload_n 3, 1) := by decide +kernel
theorem dX8_runs_41 : decode cX8_runs 41 = .ok (.invokevirtual 188, 3) := by decide +kernel
theorem dX8_runs_44 : decode cX8_runs 44 = .ok (.invokevirtual 194, 3) := by decide +kernel
theorem dX8_runs_47 : decode cX8_runs 47 = .ok (.iinc 3 1, 3) := by decide +kernel
theorem dX8_runs_50 : decode cX8_runs 50 = .ok (.goto (-43), 3) := by decide +kernel
theorem dX8_runs_53 : decode cX8_runs 53 = .ok (.iload_n 3, 1) := by decide +kernel
theorem dX8_runs_54 : decode cX8_runs 54 = .ok (.ireturn, 1) := by decide +kernel
theorem dX8_done_0 : decode cX8_done 0 = .ok (.aload_n 0, 1) := by decide +kernel
theorem dX8_done_1 : decode cX8_done 1 = .ok (.iload_n 1, 1) := by decide +kernel
theorem dX8_done_2 : decode cX8_done 2 = .ok (.bipush 40, 2) := by decide +kernel
theorem dX8_done_4 : decode cX8_done 4 = .ok (.invokevirtual 197, 3) := by decide +kernel
theorem dX8_done_7 : decode cX8_done 7 = .ok (.ireturn, 1) := by decide +kernel
theorem dX8_judgedOf_0 : decode cX8_judgedOf 0 = .ok (.aload_n 0, 1) := by decide +kernel
theorem dX8_judgedOf_1 : decode cX8_judgedOf 1 = .ok (.iload_n 1, 1) := by decide +kernel
theorem dX8_judgedOf_2 : decode cX8_judgedOf 2 = .ok (.invokevirtual 200, 3) := by decide +kernel
theorem dX8_judgedOf_5 : decode cX8_judgedOf 5 = .ok (.istore_n 2, 1) := by decide +kernel
theorem dX8_judgedOf_6 : decode cX8_judgedOf 6 = .ok (.iload_n 2, 1) := by decide +kernel
theorem dX8_judgedOf_7 : decode cX8_judgedOf 7 = .ok (.aload_n 0, 1) := by decide +kernel
theorem dX8_judgedOf_8 : decode cX8_judgedOf 8 = .ok (.getfield 25, 3) := by decide +kernel
theorem dX8_judgedOf_11 : decode cX8_judgedOf 11 = .ok (.iconst 1, 1) := by decide +kernel
theorem dX8_judgedOf_12 : decode cX8_judgedOf 12 = .ok (.iload_n 1, 1) := by decide +kernel
theorem dX8_judgedOf_13 : decode cX8_judgedOf 13 = .ok (.iadd, 1) := by decide +kernel
theorem dX8_judgedOf_14 : decode cX8_judgedOf 14 = .ok (.iaload, 1) := by decide +kernel
theorem dX8_judgedOf_15 : decode cX8_judgedOf 15 = .ok (.if_icmp .ge 7, 3) := by decide +kernel
theorem dX8_judgedOf_18 : decode cX8_judgedOf 18 = .ok (.iload_n 2, 1) := by decide +kernel
theorem dX8_judgedOf_19 : decode cX8_judgedOf 19 = .ok (.goto 4, 3) := by decide +kernel
theorem dX8_judgedOf_22 : decode cX8_judgedOf 22 = .ok (.iconst (-1), 1) := by decide +kernel
theorem dX8_judgedOf_23 : decode cX8_judgedOf 23 = .ok (.ireturn, 1) := by decide +kernel
theorem dX8_judged_0 : decode cX8_judged 0 = .ok (.aload_n 0, 1) := by decide +kernel
theorem dX8_judged_1 : decode cX8_judged 1 = .ok (.invokevirtual 129, 3) := by decide +kernel
theorem dX8_judged_4 : decode cX8_judged 4 = .ok (.pop, 1) := by decide +kernel
theorem dX8_judged_5 : decode cX8_judged 5 = .ok (.iload_n 1, 1) := by decide +kernel
theorem dX8_judged_6 : decode cX8_judged 6 = .ok (.invokestatic 135, 3) := by decide +kernel
theorem dX8_judged_9 : decode cX8_judged 9 = .ok (.ifCond .eq 11, 3) := by decide +kernel
theorem dX8_judged_12 : decode cX8_judged 12 = .ok (.aload_n 0, 1) := by decide +kernel
theorem dX8_judged_13 : decode cX8_judged 13 = .ok (.iload_n 1, 1) := by decide +kernel
theorem dX8_judged_14 : decode cX8_judged 14 = .ok (.invokevirtual 203, 3) := by decide +kernel
theorem dX8_judged_17 : decode cX8_judged 17 = .ok (.goto 5, 3) := by decide +kernel
theorem dX8_judged_20 : decode cX8_judged 20 = .ok (.bipush (-2), 2) := by decide +kernel
theorem dX8_judged_22 : decode cX8_judged 22 = .ok (.ireturn, 1) := by decide +kernel
theorem dX8_isSo_0 : decode cX8_isSo 0 = .ok (.aload_n 0, 1) := by decide +kernel
theorem dX8_isSo_1 : decode cX8_isSo 1 = .ok (.invokevirtual 129, 3) := by decide +kernel
theorem dX8_isSo_4 : decode cX8_isSo 4 = .ok (.pop, 1) := by decide +kernel
theorem dX8_isSo_5 : decode cX8_isSo 5 = .ok (.iload_n 1, 1) := by decide +kernel
theorem dX8_isSo_6 : decode cX8_isSo 6 = .ok (.invokestatic 135, 3) := by decide +kernel
theorem dX8_isSo_9 : decode cX8_isSo 9 = .ok (.ifCond .eq 22, 3) := by decide +kernel
theorem dX8_isSo_12 : decode cX8_isSo 12 = .ok (.iload_n 2, 1) := by decide +kernel
theorem dX8_isSo_13 : decode cX8_isSo 13 = .ok (.i2l, 1) := by decide +kernel
theorem dX8_isSo_14 : decode cX8_isSo 14 = .ok (.lconst 0, 1) := by decide +kernel
theorem dX8_isSo_15 : decode cX8_isSo 15 = .ok (.aload_n 0, 1) := by decide +kernel
theorem dX8_isSo_16 : decode cX8_isSo 16 = .ok (.iload_n 1, 1) := by decide +kernel
theorem dX8_isSo_17 : decode cX8_isSo 17 = .ok (.invokevirtual 200, 3) := by decide +kernel
theorem dX8_isSo_20 : decode cX8_isSo 20 = .ok (.i2l, 1) := by decide +kernel
theorem dX8_isSo_21 : decode cX8_isSo 21 = .ok (.invokestatic 77, 3) := by decide +kernel
theorem dX8_isSo_24 : decode cX8_isSo 24 = .ok (.ifCond .eq 7, 3) := by decide +kernel
theorem dX8_isSo_27 : decode cX8_isSo 27 = .ok (.iconst 1, 1) := by decide +kernel
theorem dX8_isSo_28 : decode cX8_isSo 28 = .ok (.goto 4, 3) := by decide +kernel
theorem dX8_isSo_31 : decode cX8_isSo 31 = .ok (.iconst 0, 1) := by decide +kernel
theorem dX8_isSo_32 : decode cX8_isSo 32 = .ok (.ireturn, 1) := by decide +kernel
theorem dX8_stateNow_0 : decode cX8_stateNow 0 = .ok (.iload_n 1, 1) := by decide +kernel
theorem dX8_stateNow_1 : decode cX8_stateNow 1 = .ok (.iconst 2, 1) := by decide +kernel
theorem dX8_stateNow_2 : decode cX8_stateNow 2 = .ok (.if_icmp .ge 12, 3) := by decide +kernel
theorem dX8_stateNow_5 : decode cX8_stateNow 5 = .ok (.aload_n 0, 1) := by decide +kernel
theorem dX8_stateNow_6 : decode cX8_stateNow 6 = .ok (.getfield 40, 3) := by decide +kernel
theorem dX8_stateNow_9 : decode cX8_stateNow 9 = .ok (.iload_n 1, 1) := by decide +kernel
theorem dX8_stateNow_10 : decode cX8_stateNow 10 = .ok (.iaload, 1) := by decide +kernel
theorem dX8_stateNow_11 : decode cX8_stateNow 11 = .ok (.goto 53, 3) := by decide +kernel
theorem dX8_stateNow_14 : decode cX8_stateNow 14 = .ok (.iload_n 1, 1) := by decide +kernel
theorem dX8_stateNow_15 : decode cX8_stateNow 15 = .ok (.iconst 2, 1) := by decide +kernel
theorem dX8_stateNow_16 : decode cX8_stateNow 16 = .ok (.if_icmp .ne 10, 3) := by decide +kernel
theorem dX8_stateNow_19 : decode cX8_stateNow 19 = .ok (.aload_n 0, 1) := by decide +kernel
theorem dX8_stateNow_20 : decode cX8_stateNow 20 = .ok (.getfield 150, 3) := by decide +kernel
theorem dX8_stateNow_23 : decode cX8_stateNow 23 = .ok (.goto 41, 3) := by decide +kernel
theorem dX8_stateNow_26 : decode cX8_stateNow 26 = .ok (.iload_n 1, 1) := by decide +kernel
theorem dX8_stateNow_27 : decode cX8_stateNow 27 = .ok (.iconst 3, 1) := by decide +kernel
theorem dX8_stateNow_28 : decode cX8_stateNow 28 = .ok (.if_icmp .ne 10, 3) := by decide +kernel
theorem dX8_stateNow_31 : decode cX8_stateNow 31 = .ok (.aload_n 0, 1) := by decide +kernel
theorem dX8_stateNow_32 : decode cX8_stateNow 32 = .ok (.getfield 159, 3) := by decide +kernel
theorem dX8_stateNow_35 : decode cX8_stateNow 35 = .ok (.goto 29, 3) := by decide +kernel
theorem dX8_stateNow_38 : decode cX8_stateNow 38 = .ok (.iload_n 1, 1) := by decide +kernel
theorem dX8_stateNow_39 : decode cX8_stateNow 39 = .ok (.bipush 6, 2) := by decide +kernel
theorem dX8_stateNow_41 : decode cX8_stateNow 41 = .ok (.if_icmp .ge 14, 3) := by decide +kernel
theorem dX8_stateNow_44 : decode cX8_stateNow 44 = .ok (.aload_n 0, 1) := by decide +kernel
theorem dX8_stateNow_45 : decode cX8_stateNow 45 = .ok (.getfield 46, 3) := by decide +kernel
theorem dX8_stateNow_48 : decode cX8_stateNow 48 = .ok (.iload_n 1, 1) := by decide +kernel
theorem dX8_stateNow_49 : decode cX8_stateNow 49 = .ok (.iconst 4, 1) := by decide +kernel
theorem dX8_stateNow_50 : decode cX8_stateNow 50 = .ok (.isub, 1) := by decide +kernel
theorem dX8_stateNow_51 : decode cX8_stateNow 51 = .ok (.iaload, 1) := by decide +kernel
theorem dX8_stateNow_52 : decode cX8_stateNow 52 = .ok (.goto 12, 3) := by decide +kernel
theorem dX8_stateNow_55 : decode cX8_stateNow 55 = .ok (.aload_n 0, 1) := by decide +kernel
theorem dX8_stateNow_56 : decode cX8_stateNow 56 = .ok (.getfield 49, 3) := by decide +kernel
theorem dX8_stateNow_59 : decode cX8_stateNow 59 = .ok (.iload_n 1, 1) := by decide +kernel
theorem dX8_stateNow_60 : decode cX8_stateNow 60 = .ok (.bipush 6, 2) := by decide +kernel
theorem dX8_stateNow_62 : decode cX8_stateNow 62 = .ok (.isub, 1) := by decide +kernel
theorem dX8_stateNow_63 : decode cX8_stateNow 63 = .ok (.iaload, 1) := by decide +kernel
theorem dX8_stateNow_64 : decode cX8_stateNow 64 = .ok (.ireturn, 1) := by decide +kernel
theorem dX8_state_0 : decode cX8_state 0 = .ok (.aload_n 0, 1) := by decide +kernel
theorem dX8_state_1 : decode cX8_state 1 = .ok (.iload_n 1, 1) := by decide +kernel
theorem dX8_state_2 : decode cX8_state 2 = .ok (.iload_n 2, 1) := by decide +kernel
theorem dX8_state_3 : decode cX8_state 3 = .ok (.invokevirtual 206, 3) := by decide +kernel
theorem dX8_state_6 : decode cX8_state 6 = .ok (.ifCond .eq 15, 3) := by decide +kernel
theorem dX8_state_9 : decode cX8_state 9 = .ok (.iload_n 3, 1) := by decide +kernel
theorem dX8_state_10 : decode cX8_state 10 = .ok (.i2l, 1) := by decide +kernel
theorem dX8_state_11 : decode cX8_state 11 = .ok (.lconst 0, 1) := by decide +kernel
theorem dX8_state_12 : decode cX8_state 12 = .ok (.ldc2_w 118, 3) := by decide +kernel
theorem dX8_state_15 : decode cX8_state 15 = .ok (.invokestatic 77, 3) := by decide +kernel
theorem dX8_state_18 : decode cX8_state 18 = .ok (.ifCond .ne 6, 3) := by decide +kernel
theorem dX8_state_21 : decode cX8_state 21 = .ok (.bipush (-2), 2) := by decide +kernel
theorem dX8_state_23 : decode cX8_state 23 = .ok (.ireturn, 1) := by decide +kernel
theorem dX8_state_24 : decode cX8_state 24 = .ok (.aload_n 0, 1) := by decide +kernel
theorem dX8_state_25 : decode cX8_state 25 = .ok (.iload_n 1, 1) := by decide +kernel
theorem dX8_state_26 : decode cX8_state 26 = .ok (.iload_n 2, 1) := by decide +kernel
theorem dX8_state_27 : decode cX8_state 27 = .ok (.invokevirtual 197, 3) := by decide +kernel
theorem dX8_state_30 : decode cX8_state 30 = .ok (.pop, 1) := by decide +kernel
theorem dX8_state_31 : decode cX8_state 31 = .ok (.aload_n 0, 1) := by decide +kernel
theorem dX8_state_32 : decode cX8_state 32 = .ok (.iload_n 3, 1) := by decide +kernel
theorem dX8_state_33 : decode cX8_state 33 = .ok (.invokevirtual 209, 3) := by decide +kernel
theorem dX8_state_36 : decode cX8_state 36 = .ok (.ireturn, 1) := by decide +kernel
theorem dX8_rope_0 : decode cX8_rope 0 = .ok (.aload_n 0, 1) := by decide +kernel
theorem dX8_rope_1 : decode cX8_rope 1 = .ok (.iload_n 1, 1) := by decide +kernel
theorem dX8_rope_2 : decode cX8_rope 2 = .ok (.iload_n 2, 1) := by decide +kernel
theorem dX8_rope_3 : decode cX8_rope 3 = .ok (.invokevirtual 206, 3) := by decide +kernel
theorem dX8_rope_6 : decode cX8_rope 6 = .ok (.ifCond .eq 7, 3) := by decide +kernel
theorem dX8_rope_9 : decode cX8_rope 9 = .ok (.iload_n 3, 1) := by decide +kernel
theorem dX8_rope_10 : decode cX8_rope 10 = .ok (.ifCond .ge 6, 3) := by decide +kernel
theorem dX8_rope_13 : decode cX8_rope 13 = .ok (.bipush (-2), 2) := by decide +kernel
theorem dX8_rope_15 : decode cX8_rope 15 = .ok (.ireturn, 1) := by decide +kernel
theorem dX8_rope_16 : decode cX8_rope 16 = .ok (.aload_n 0, 1) := by decide +kernel
theorem dX8_rope_17 : decode cX8_rope 17 = .ok (.iload_n 1, 1) := by decide +kernel
theorem dX8_rope_18 : decode cX8_rope 18 = .ok (.iload_n 2, 1) := by decide +kernel
theorem dX8_rope_19 : decode cX8_rope 19 = .ok (.invokevirtual 197, 3) := by decide +kernel
theorem dX8_rope_22 : decode cX8_rope 22 = .ok (.pop, 1) := by decide +kernel
theorem dX8_rope_23 : decode cX8_rope 23 = .ok (.iload_n 3, 1) := by decide +kernel
theorem dX8_rope_24 : decode cX8_rope 24 = .ok (.aload_n 0, 1) := by decide +kernel
theorem dX8_rope_25 : decode cX8_rope 25 = .ok (.getfield 150, 3) := by decide +kernel
theorem dX8_rope_28 : decode cX8_rope 28 = .ok (.if_icmp .ge 12, 3) := by decide +kernel
theorem dX8_rope_31 : decode cX8_rope 31 = .ok (.aload_n 0, 1) := by decide +kernel
theorem dX8_rope_32 : decode cX8_rope 32 = .ok (.getfield 43, 3) := by decide +kernel
theorem dX8_rope_35 : decode cX8_rope 35 = .ok (.iload_n 3, 1) := by decide +kernel
theorem dX8_rope_36 : decode cX8_rope 36 = .ok (.iaload, 1) := by decide +kernel
theorem dX8_rope_37 : decode cX8_rope 37 = .ok (.goto 4, 3) := by decide +kernel
theorem dX8_rope_40 : decode cX8_rope 40 = .ok (.iconst (-1), 1) := by decide +kernel
theorem dX8_rope_41 : decode cX8_rope 41 = .ok (.ireturn, 1) := by decide +kernel
theorem dX8_needsOf_0 : decode cX8_needsOf 0 = .ok (.aload_n 0, 1) := by decide +kernel
theorem dX8_needsOf_1 : decode cX8_needsOf 1 = .ok (.iload_n 1, 1) := by decide +kernel
theorem dX8_needsOf_2 : decode cX8_needsOf 2 = .ok (.invokevirtual 184, 3) := by decide +kernel
theorem dX8_needsOf_5 : decode cX8_needsOf 5 = .ok (.iconst 0, 1) := by decide +kernel
theorem dX8_needsOf_6 : decode cX8_needsOf 6 = .ok (.istore_n 2, 1) := by decide +kernel
theorem dX8_needsOf_7 : decode cX8_needsOf 7 = .ok (.iconst 0, 1) := by decide +kernel
theorem dX8_needsOf_8 : decode cX8_needsOf 8 = .ok (.istore_n 3, 1) := by decide +kernel
theorem dX8_needsOf_9 : decode cX8_needsOf 9 = .ok (.iload_n 3, 1) := by decide +kernel
theorem dX8_needsOf_10 : decode cX8_needsOf 10 = .ok (.aload_n 0, 1) := by decide +kernel
theorem dX8_needsOf_11 : decode cX8_needsOf 11 = .ok (.getfield 25, 3) := by decide +kernel
theorem dX8_needsOf_14 : decode cX8_needsOf 14 = .ok (.iconst 1, 1) := by decide +kernel
theorem dX8_needsOf_15 : decode cX8_needsOf 15 = .ok (.iload_n 1, 1) := by decide +kernel
theorem dX8_needsOf_16 : decode cX8_needsOf 16 = .ok (.iadd, 1) := by decide +kernel
theorem dX8_needsOf_17 : decode cX8_needsOf 17 = .ok (.iaload, 1) := by decide +kernel
theorem dX8_needsOf_18 : decode cX8_needsOf 18 = .ok (.if_icmp .ge 58, 3) := by decide +kernel
theorem dX8_needsOf_21 : decode cX8_needsOf 21 = .ok (.aload_n 0, 1) := by decide +kernel
theorem dX8_needsOf_22 : decode cX8_needsOf 22 = .ok (.iload_n 1, 1) := by decide +kernel
theorem dX8_needsOf_23 : decode cX8_needsOf 23 = .ok (.iload_n 3, 1) := by decide +kernel
theorem dX8_needsOf_24 : decode cX8_needsOf 24 = .ok (.invokevirtual 188, 3) := by decide +kernel
theorem dX8_needsOf_27 : decode cX8_needsOf 27 = .ok (.iconst (-1), 1) := by decide +kernel
theorem dX8_needsOf_28 : decode cX8_needsOf 28 = .ok (.if_icmp .eq 48, 3) := by decide +kernel
theorem dX8_needsOf_31 : decode cX8_needsOf 31 = .ok (.aload_n 0, 1) := by decide +kernel
theorem dX8_needsOf_32 : decode cX8_needsOf 32 = .ok (.iload_n 1, 1) := by decide +kernel
theorem dX8_needsOf_33 : decode cX8_needsOf 33 = .ok (.iload_n 3, 1) := by decide +kernel
theorem dX8_needsOf_34 : decode cX8_needsOf 34 = .ok (.invokevirtual 188, 3) := by decide +kernel
theorem dX8_needsOf_37 : decode cX8_needsOf 37 = .ok (.istore 4, 2) := by decide +kernel
theorem dX8_needsOf_39 : decode cX8_needsOf 39 = .ok (.aload_n 0, 1) := by decide +kernel
theorem dX8_needsOf_40 : decode cX8_needsOf 40 = .ok (.iload 4, 2) := by decide +kernel
theorem dX8_needsOf_42 : decode cX8_needsOf 42 = .ok (.bipush 8, 2) := by decide +kernel
theorem dX8_needsOf_44 : decode cX8_needsOf 44 = .ok (.idiv, 1) := by decide +kernel
theorem dX8_needsOf_45 : decode cX8_needsOf 45 = .ok (.iload 4, 2) := by decide +kernel
theorem dX8_needsOf_47 : decode cX8_needsOf 47 = .ok (.bipush 8, 2) := by decide +kernel
theorem dX8_needsOf_49 : decode cX8_needsOf 49 = .ok (.irem, 1) := by decide +kernel
theorem dX8_needsOf_50 : decode cX8_needsOf 50 = .ok (.invokevirtual 180, 3) := by decide +kernel
theorem dX8_needsOf_53 : decode cX8_needsOf 53 = .ok (.aload_n 0, 1) := by decide +kernel
theorem dX8_needsOf_54 : decode cX8_needsOf 54 = .ok (.getfield 159, 3) := by decide +kernel
theorem dX8_needsOf_57 : decode cX8_needsOf 57 = .ok (.iload_n 2, 1) := by decide +kernel
theorem dX8_needsOf_58 : decode cX8_needsOf 58 = .ok (.if_icmp .le 10, 3) := by decide +kernel
theorem dX8_needsOf_61 : decode cX8_needsOf 61 = .ok (.aload_n 0, 1) := by decide +kernel
theorem dX8_needsOf_62 : decode cX8_needsOf 62 = .ok (.getfield 159, 3) := by decide +kernel
theorem dX8_needsOf_65 : decode cX8_needsOf 65 = .ok (.goto 4, 3) := by decide +kernel
theorem dX8_needsOf_68 : decode cX8_needsOf 68 = .ok (.iload_n 2, 1) := by decide +kernel
theorem dX8_needsOf_69 : decode cX8_needsOf 69 = .ok (.istore_n 2, 1) := by decide +kernel
theorem dX8_needsOf_70 : decode cX8_needsOf 70 = .ok (.iinc 3 1, 3) := by decide +kernel
theorem dX8_needsOf_73 : decode cX8_needsOf 73 = .ok (.goto (-64), 3) := by decide +kernel
theorem dX8_needsOf_76 : decode cX8_needsOf 76 = .ok (.iload_n 2, 1) := by decide +kernel
theorem dX8_needsOf_77 : decode cX8_needsOf 77 = .ok (.ireturn, 1) := by decide +kernel
theorem dX8_needs_0 : decode cX8_needs 0 = .ok (.aload_n 0, 1) := by decide +kernel
theorem dX8_needs_1 : decode cX8_needs 1 = .ok (.invokevirtual 129, 3) := by decide +kernel
theorem dX8_needs_4 : decode cX8_needs 4 = .ok (.pop, 1) := by decide +kernel
theorem dX8_needs_5 : decode cX8_needs 5 = .ok (.iload_n 1, 1) := by decide +kernel
theorem dX8_needs_6 : decode cX8_needs 6 = .ok (.invokestatic 135, 3) := by decide +kernel
theorem dX8_needs_9 : decode cX8_needs 9 = .ok (.ifCond .eq 11, 3) := by decide +kernel
theorem dX8_needs_12 : decode cX8_needs 12 = .ok (.aload_n 0, 1) := by decide +kernel
theorem dX8_needs_13 : decode cX8_needs 13 = .ok (.iload_n 1, 1) := by decide +kernel
theorem dX8_needs_14 : decode cX8_needs 14 = .ok (.invokevirtual 212, 3) := by decide +kernel
theorem dX8_needs_17 : decode cX8_needs 17 = .ok (.goto 5, 3) := by decide +kernel
theorem dX8_needs_20 : decode cX8_needs 20 = .ok (.bipush (-2), 2) := by decide +kernel
theorem dX8_needs_22 : decode cX8_needs 22 = .ok (.ireturn, 1) := by decide +kernel
theorem dX8_wayNow_0 : decode cX8_wayNow 0 = .ok (.lconst 0, 1) := by decide +kernel
theorem dX8_wayNow_1 : decode cX8_wayNow 1 = .ok (.lstore_n 1, 1) := by decide +kernel
theorem dX8_wayNow_2 : decode cX8_wayNow 2 = .ok (.aload_n 0, 1) := by decide +kernel
theorem dX8_wayNow_3 : decode cX8_wayNow 3 = .ok (.getfield 150, 3) := by decide +kernel
theorem dX8_wayNow_6 : decode cX8_wayNow 6 = .ok (.iconst 1, 1) := by decide +kernel
theorem dX8_wayNow_7 : decode cX8_wayNow 7 = .ok (.isub, 1) := by decide +kernel
theorem dX8_wayNow_8 : decode cX8_wayNow 8 = .ok (.istore_n 3, 1) := by decide +kernel
theorem dX8_wayNow_9 : decode cX8_wayNow 9 = .ok (.iload_n 3, 1) := by decide +kernel
theorem dX8_wayNow_10 : decode cX8_wayNow 10 = .ok (.ifCond .lt 21, 3) := by decide +kernel
theorem dX8_wayNow_13 : decode cX8_wayNow 13 = .ok (.lload_n 1, 1) := by decide +kernel
theorem dX8_wayNow_14 : decode cX8_wayNow 14 = .ok (.iconst 3, 1) := by decide +kernel
theorem dX8_wayNow_15 : decode cX8_wayNow 15 = .ok (.lshl, 1) := by decide +kernel
theorem dX8_wayNow_16 : decode cX8_wayNow 16 = .ok (.aload_n 0, 1) := by decide +kernel
theorem dX8_wayNow_17 : decode cX8_wayNow 17 = .ok (.getfield 43, 3) := by decide +kernel
theorem dX8_wayNow_20 : decode cX8_wayNow 20 = .ok (.iload_n 3, 1) := by decide +kernel
theorem dX8_wayNow_21 : decode cX8_wayNow 21 = .ok (.iaload, 1) := by decide +kernel
theorem dX8_wayNow_22 : decode cX8_wayNow 22 = .ok (.i2l, 1) := by decide +kernel
theorem dX8_wayNow_23 : decode cX8_wayNow 23 = .ok (.lor, 1) := by decide +kernel
theorem dX8_wayNow_24 : decode cX8_wayNow 24 = .ok (.lstore_n 1, 1) := by decide +kernel
theorem dX8_wayNow_25 : decode cX8_wayNow 25 = .ok (.iinc 3 (-1), 3) := by decide +kernel
theorem dX8_wayNow_28 : decode cX8_wayNow 28 = .ok (.goto (-19), 3) := by decide +kernel
theorem dX8_wayNow_31 : decode cX8_wayNow 31 = .ok (.lload_n 1, 1) := by decide +kernel
theorem dX8_wayNow_32 : decode cX8_wayNow 32 = .ok (.bipush 8, 2) := by decide +kernel
theorem dX8_wayNow_34 : decode cX8_wayNow 34 = .ok (.lshl, 1) := by decide +kernel
theorem dX8_wayNow_35 : decode cX8_wayNow 35 = .ok (.aload_n 0, 1) := by decide +kernel
theorem dX8_wayNow_36 : decode cX8_wayNow 36 = .ok (.getfield 150, 3) := by decide +kernel
theorem dX8_wayNow_39 : decode cX8_wayNow 39 = .ok (.iconst 3, 1) := by decide +kernel
theorem dX8_wayNow_40 : decode cX8_wayNow 40 = .ok (.ishl, 1) := by decide +kernel
theorem dX8_wayNow_41 : decode cX8_wayNow 41 = .ok (.i2l, 1) := by decide +kernel
theorem dX8_wayNow_42 : decode cX8_wayNow 42 = .ok (.lor, 1) := by decide +kernel
theorem dX8_wayNow_43 : decode cX8_wayNow 43 = .ok (.aload_n 0, 1) := by decide +kernel
theorem dX8_wayNow_44 : decode cX8_wayNow 44 = .ok (.getfield 40, 3) := by decide +kernel
theorem dX8_wayNow_47 : decode cX8_wayNow 47 = .ok (.iconst 0, 1) := by decide +kernel
theorem dX8_wayNow_48 : decode cX8_wayNow 48 = .ok (.iaload, 1) := by decide +kernel
theorem dX8_wayNow_49 : decode cX8_wayNow 49 = .ok (.i2l, 1) := by decide +kernel
theorem dX8_wayNow_50 : decode cX8_wayNow 50 = .ok (.lor, 1) := by decide +kernel
theorem dX8_wayNow_51 : decode cX8_wayNow 51 = .ok (.lreturn, 1) := by decide +kernel
theorem dX8_comesTo_0 : decode cX8_comesTo 0 = .ok (.aload_n 0, 1) := by decide +kernel
theorem dX8_comesTo_1 : decode cX8_comesTo 1 = .ok (.getfield 40, 3) := by decide +kernel
theorem dX8_comesTo_4 : decode cX8_comesTo 4 = .ok (.iconst 0, 1) := by decide +kernel
theorem dX8_comesTo_5 : decode cX8_comesTo 5 = .ok (.lload_n 1, 1) := by decide +kernel
theorem dX8_comesTo_6 : decode cX8_comesTo 6 = .ok (.ldc2_w 118, 3) := by decide +kernel
theorem dX8_comesTo_9 : decode cX8_comesTo 9 = .ok (.land, 1) := by decide +kernel
theorem dX8_comesTo_10 : decode cX8_comesTo 10 = .ok (.l2i, 1) := by decide +kernel
theorem dX8_comesTo_11 : decode cX8_comesTo 11 = .ok (.iastore, 1) := by decide +kernel
theorem dX8_comesTo_12 : decode cX8_comesTo 12 = .ok (.aload_n 0, 1) := by decide +kernel
theorem dX8_comesTo_13 : decode cX8_comesTo 13 = .ok (.lload_n 1, 1) := by decide +kernel
theorem dX8_comesTo_14 : decode cX8_comesTo 14 = .ok (.iconst 3, 1) := by decide +kernel
theorem dX8_comesTo_15 : decode cX8_comesTo 15 = .ok (.lshr, 1) := by decide +kernel
theorem dX8_comesTo_16 : decode cX8_comesTo 16 = .ok (.ldc2_w 215, 3) := by decide +kernel
theorem dX8_comesTo_19 : decode cX8_comesTo 19 = .ok (.land, 1) := by decide +kernel
theorem dX8_comesTo_20 : decode cX8_comesTo 20 = .ok (.l2i, 1) := by decide +kernel
theorem dX8_comesTo_21 : decode cX8_comesTo 21 = .ok (.putfield 150, 3) := by decide +kernel
theorem dX8_comesTo_24 : decode cX8_comesTo 24 = .ok (.aload_n 0, 1) := by decide +kernel
theorem dX8_comesTo_25 : decode cX8_comesTo 25 = .ok (.getfield 40, 3) := by decide +kernel
theorem dX8_comesTo_28 : decode cX8_comesTo 28 = .ok (.iconst 0, 1) := by decide +kernel
theorem dX8_comesTo_29 : decode cX8_comesTo 29 = .ok (.iaload, 1) := by decide +kernel
theorem dX8_comesTo_30 : decode cX8_comesTo 30 = .ok (.istore_n 3, 1) := by decide +kernel
theorem dX8_comesTo_31 : decode cX8_comesTo 31 = .ok (.aload_n 0, 1) := by decide +kernel
theorem dX8_comesTo_32 : decode cX8_comesTo 32 = .ok (.iconst 0, 1) := by decide +kernel
theorem dX8_comesTo_33 : decode cX8_comesTo 33 = .ok (.putfield 159, 3) := by decide +kernel
theorem dX8_comesTo_36 : decode cX8_comesTo 36 = .ok (.iconst 0, 1) := by decide +kernel
theorem dX8_comesTo_37 : decode cX8_comesTo 37 = .ok (.istore 4, 2) := by decide +kernel
theorem dX8_comesTo_39 : decode cX8_comesTo 39 = .ok (.iload 4, 2) := by decide +kernel
theorem dX8_comesTo_41 : decode cX8_comesTo 41 = .ok (.aload_n 0, 1) := by decide +kernel
theorem dX8_comesTo_42 : decode cX8_comesTo 42 = .ok (.getfield 150, 3) := by decide +kernel
theorem dX8_comesTo_45 : decode cX8_comesTo 45 = .ok (.if_icmp .ge 68, 3) := by decide +kernel
theorem dX8_comesTo_48 : decode cX8_comesTo 48 = .ok (.aload_n 0, 1) := by decide +kernel
theorem dX8_comesTo_49 : decode cX8_comesTo 49 = .ok (.getfield 43, 3) := by decide +kernel
theorem dX8_comesTo_52 : decode cX8_comesTo 52 = .ok (.iload 4, 2) := by decide +kernel
theorem dX8_comesTo_54 : decode cX8_comesTo 54 = .ok (.lload_n 1, 1) := by decide +kernel
theorem dX8_comesTo_55 : decode cX8_comesTo 55 = .ok (.bipush 8, 2) := by decide +kernel
theorem dX8_comesTo_57 : decode cX8_comesTo 57 = .ok (.iconst 3, 1) := by decide +kernel
theorem dX8_comesTo_58 : decode cX8_comesTo 58 = .ok (.iload 4, 2) := by decide +kernel
theorem dX8_comesTo_60 : decode cX8_comesTo 60 = .ok (.imul, 1) := by decide +kernel
theorem dX8_comesTo_61 : decode cX8_comesTo 61 = .ok (.iadd, 1) := by decide +kernel
theorem dX8_comesTo_62 : decode cX8_comesTo 62 = .ok (.lshr, 1) := by decide +kernel
theorem dX8_comesTo_63 : decode cX8_comesTo 63 = .ok (.ldc2_w 118, 3) := by decide +kernel
theorem dX8_comesTo_66 : decode cX8_comesTo 66 = .ok (.land, 1) := by decide +kernel
theorem dX8_comesTo_67 : decode cX8_comesTo 67 = .ok (.l2i, 1) := by decide +kernel
theorem dX8_comesTo_68 : decode cX8_comesTo 68 = .ok (.iastore, 1) := by decide +kernel
theorem dX8_comesTo_69 : decode cX8_comesTo 69 = .ok (.aload_n 0, 1) := by decide +kernel
theorem dX8_comesTo_70 : decode cX8_comesTo 70 = .ok (.aload_n 0, 1) := by decide +kernel
theorem dX8_comesTo_71 : decode cX8_comesTo 71 = .ok (.getfield 43, 3) := by decide +kernel
theorem dX8_comesTo_74 : decode cX8_comesTo 74 = .ok (.iload 4, 2) := by decide +kernel
theorem dX8_comesTo_76 : decode cX8_comesTo 76 = .ok (.iaload, 1) := by decide +kernel
theorem dX8_comesTo_77 : decode cX8_comesTo 77 = .ok (.iload_n 3, 1) := by decide +kernel
theorem dX8_comesTo_78 : decode cX8_comesTo 78 = .ok (.invokevirtual 156, 3) := by decide +kernel
theorem dX8_comesTo_81 : decode cX8_comesTo 81 = .ok (.istore_n 3, 1) := by decide +kernel
theorem dX8_comesTo_82 : decode cX8_comesTo 82 = .ok (.aload_n 0, 1) := by decide +kernel
theorem dX8_comesTo_83 : decode cX8_comesTo 83 = .ok (.dup, 1) := by decide +kernel
theorem dX8_comesTo_84 : decode cX8_comesTo 84 = .ok (.getfield 159, 3) := by decide +kernel
theorem dX8_comesTo_87 : decode cX8_comesTo 87 = .ok (.aload_n 0, 1) := by decide +kernel
theorem dX8_comesTo_88 : decode cX8_comesTo 88 = .ok (.getfield 28, 3) := by decide +kernel
theorem dX8_comesTo_91 : decode cX8_comesTo 91 = .ok (.iconst 3, 1) := by decide +kernel
theorem dX8_comesTo_92 : decode cX8_comesTo 92 = .ok (.aload_n 0, 1) := by decide +kernel
theorem dX8_comesTo_93 : decode cX8_comesTo 93 = .ok (.getfield 43, 3) := by decide +kernel
theorem dX8_comesTo_96 : decode cX8_comesTo 96 = .ok (.iload 4, 2) := by decide +kernel
theorem dX8_comesTo_98 : decode cX8_comesTo 98 = .ok (.iaload, 1) := by decide +kernel
theorem dX8_comesTo_99 : decode cX8_comesTo 99 = .ok (.imul, 1) := by decide +kernel
theorem dX8_comesTo_100 : decode cX8_comesTo 100 = .ok (.iconst 2, 1) := by decide +kernel
theorem dX8_comesTo_101 : decode cX8_comesTo 101 = .ok (.iadd, 1) := by decide +kernel
theorem dX8_comesTo_102 : decode cX8_comesTo 102 = .ok (.iaload, 1) := by decide +kernel
theorem dX8_comesTo_103 : decode cX8_comesTo 103 = .ok (.iadd, 1) := by decide +kernel
theorem dX8_comesTo_104 : decode cX8_comesTo 104 = .ok (.putfield 159, 3) := by decide +kernel
theorem dX8_comesTo_107 : decode cX8_comesTo 107 = .ok (.iinc 4 1, 3) := by decide +kernel
theorem dX8_comesTo_110 : decode cX8_comesTo 110 = .ok (.goto (-71), 3) := by decide +kernel
theorem dX8_comesTo_113 : decode cX8_comesTo 113 = .ok (.aload_n 0, 1) := by decide +kernel
theorem dX8_comesTo_114 : decode cX8_comesTo 114 = .ok (.getfield 40, 3) := by decide +kernel
theorem dX8_comesTo_117 : decode cX8_comesTo 117 = .ok (.iconst 1, 1) := by decide +kernel
theorem dX8_comesTo_118 : decode cX8_comesTo 118 = .ok (.iload_n 3, 1) := by decide +kernel
theorem dX8_comesTo_119 : decode cX8_comesTo 119 = .ok (.iastore, 1) := by decide +kernel
theorem dX8_comesTo_120 : decode cX8_comesTo 120 = .ok (.return_, 1) := by decide +kernel
theorem dX8_keepsWay_0 : decode cX8_keepsWay 0 = .ok (.iconst 0, 1) := by decide +kernel
theorem dX8_keepsWay_1 : decode cX8_keepsWay 1 = .ok (.istore_n 3, 1) := by decide +kernel
theorem dX8_keepsWay_2 : decode cX8_keepsWay 2 = .ok (.iload_n 3, 1) := by decide +kernel
theorem dX8_keepsWay_3 : decode cX8_keepsWay 3 = .ok (.aload_n 0, 1) := by decide +kernel
theorem dX8_keepsWay_4 : decode cX8_keepsWay 4 = .ok (.getfield 217, 3) := by decide +kernel
theorem dX8_keepsWay_7 : decode cX8_keepsWay 7 = .ok (.if_icmp .ge 21, 3) := by decide +kernel
theorem dX8_keepsWay_10 : decode cX8_keepsWay 10 = .ok (.aload_n 0, 1) := by decide +kernel
theorem dX8_keepsWay_11 : decode cX8_keepsWay 11 = .ok (.getfield 52, 3) := by decide +kernel
theorem dX8_keepsWay_14 : decode cX8_keepsWay 14 = .ok (.iload_n 3, 1) := by decide +kernel
theorem dX8_keepsWay_15 : decode cX8_keepsWay 15 = .ok (.laload, 1) := by decide +kernel
theorem dX8_keepsWay_16 : decode cX8_keepsWay 16 = .ok (.lload_n 1, 1) := by decide +kernel
theorem dX8_keepsWay_17 : decode cX8_keepsWay 17 = .ok (.lcmp, 1) := by decide +kernel
theorem dX8_keepsWay_18 : decode cX8_keepsWay 18 = .ok (.ifCond .ne 4, 3) := by decide +kernel
theorem dX8_keepsWay_21 : decode cX8_keepsWay 21 = .ok (.return_, 1) := by decide +kernel
theorem dX8_keepsWay_22 : decode cX8_keepsWay 22 = .ok (.iinc 3 1, 3) := by decide +kernel
theorem dX8_keepsWay_25 : decode cX8_keepsWay 25 = .ok (.goto (-23), 3) := by decide +kernel
theorem dX8_keepsWay_28 : decode cX8_keepsWay 28 = .ok (.aload_n 0, 1) := by decide +kernel
theorem dX8_keepsWay_29 : decode cX8_keepsWay 29 = .ok (.getfield 217, 3) := by decide +kernel
theorem dX8_keepsWay_32 : decode cX8_keepsWay 32 = .ok (.sipush 1000, 3) := by decide +kernel
theorem dX8_keepsWay_35 : decode cX8_keepsWay 35 = .ok (.if_icmp .gt 23, 3) := by decide +kernel
theorem dX8_keepsWay_38 : decode cX8_keepsWay 38 = .ok (.aload_n 0, 1) := by decide +kernel
theorem dX8_keepsWay_39 : decode cX8_keepsWay 39 = .ok (.getfield 52, 3) := by decide +kernel
theorem dX8_keepsWay_42 : decode cX8_keepsWay 42 = .ok (.aload_n 0, 1) := by decide +kernel
theorem dX8_keepsWay_43 : decode cX8_keepsWay 43 = .ok (.getfield 217, 3) := by decide +kernel
theorem dX8_keepsWay_46 : decode cX8_keepsWay 46 = .ok (.lload_n 1, 1) := by decide +kernel
end
section
theorem dX8_keepsWay_47 : decode cX8_keepsWay 47 = .ok (.lastore, 1) := by decide +kernel
theorem dX8_keepsWay_48 : decode cX8_keepsWay 48 = .ok (.aload_n 0, 1) := by decide +kernel
theorem dX8_keepsWay_49 : decode cX8_keepsWay 49 = .ok (.dup, 1) := by decide +kernel
theorem dX8_keepsWay_50 : decode cX8_keepsWay 50 = .ok (.getfield 217, 3) := by decide +kernel
theorem dX8_keepsWay_53 : decode cX8_keepsWay 53 = .ok (.iconst 1, 1) := by decide +kernel
theorem dX8_keepsWay_54 : decode cX8_keepsWay 54 = .ok (.iadd, 1) := by decide +kernel
theorem dX8_keepsWay_55 : decode cX8_keepsWay 55 = .ok (.putfield 217, 3) := by decide +kernel
theorem dX8_keepsWay_58 : decode cX8_keepsWay 58 = .ok (.return_, 1) := by decide +kernel
theorem dX8_soonOf_0 : decode cX8_soonOf 0 = .ok (.aload_n 0, 1) := by decide +kernel
theorem dX8_soonOf_1 : decode cX8_soonOf 1 = .ok (.iload_n 1, 1) := by decide +kernel
theorem dX8_soonOf_2 : decode cX8_soonOf 2 = .ok (.invokevirtual 200, 3) := by decide +kernel
theorem dX8_soonOf_5 : decode cX8_soonOf 5 = .ok (.pop, 1) := by decide +kernel
theorem dX8_soonOf_6 : decode cX8_soonOf 6 = .ok (.aload_n 0, 1) := by decide +kernel
theorem dX8_soonOf_7 : decode cX8_soonOf 7 = .ok (.getfield 40, 3) := by decide +kernel
theorem dX8_soonOf_10 : decode cX8_soonOf 10 = .ok (.iconst 0, 1) := by decide +kernel
theorem dX8_soonOf_11 : decode cX8_soonOf 11 = .ok (.iaload, 1) := by decide +kernel
theorem dX8_soonOf_12 : decode cX8_soonOf 12 = .ok (.iload_n 2, 1) := by decide +kernel
theorem dX8_soonOf_13 : decode cX8_soonOf 13 = .ok (.if_icmp .ne 15, 3) := by decide +kernel
theorem dX8_soonOf_16 : decode cX8_soonOf 16 = .ok (.aload_n 0, 1) := by decide +kernel
theorem dX8_soonOf_17 : decode cX8_soonOf 17 = .ok (.getfield 40, 3) := by decide +kernel
theorem dX8_soonOf_20 : decode cX8_soonOf 20 = .ok (.iconst 1, 1) := by decide +kernel
theorem dX8_soonOf_21 : decode cX8_soonOf 21 = .ok (.iaload, 1) := by decide +kernel
theorem dX8_soonOf_22 : decode cX8_soonOf 22 = .ok (.iload_n 3, 1) := by decide +kernel
theorem dX8_soonOf_23 : decode cX8_soonOf 23 = .ok (.if_icmp .ne 5, 3) := by decide +kernel
theorem dX8_soonOf_26 : decode cX8_soonOf 26 = .ok (.iconst 0, 1) := by decide +kernel
theorem dX8_soonOf_27 : decode cX8_soonOf 27 = .ok (.ireturn, 1) := by decide +kernel
theorem dX8_soonOf_28 : decode cX8_soonOf 28 = .ok (.aload_n 0, 1) := by decide +kernel
theorem dX8_soonOf_29 : decode cX8_soonOf 29 = .ok (.iconst 0, 1) := by decide +kernel
theorem dX8_soonOf_30 : decode cX8_soonOf 30 = .ok (.putfield 217, 3) := by decide +kernel
theorem dX8_soonOf_33 : decode cX8_soonOf 33 = .ok (.aload_n 0, 1) := by decide +kernel
theorem dX8_soonOf_34 : decode cX8_soonOf 34 = .ok (.aload_n 0, 1) := by decide +kernel
theorem dX8_soonOf_35 : decode cX8_soonOf 35 = .ok (.invokevirtual 220, 3) := by decide +kernel
theorem dX8_soonOf_38 : decode cX8_soonOf 38 = .ok (.invokevirtual 224, 3) := by decide +kernel
theorem dX8_soonOf_41 : decode cX8_soonOf 41 = .ok (.iconst 0, 1) := by decide +kernel
theorem dX8_soonOf_42 : decode cX8_soonOf 42 = .ok (.istore 4, 2) := by decide +kernel
theorem dX8_soonOf_44 : decode cX8_soonOf 44 = .ok (.iconst 0, 1) := by decide +kernel
theorem dX8_soonOf_45 : decode cX8_soonOf 45 = .ok (.istore 5, 2) := by decide +kernel
theorem dX8_soonOf_47 : decode cX8_soonOf 47 = .ok (.iload 4, 2) := by decide +kernel
theorem dX8_soonOf_49 : decode cX8_soonOf 49 = .ok (.aload_n 0, 1) := by decide +kernel
theorem dX8_soonOf_50 : decode cX8_soonOf 50 = .ok (.getfield 217, 3) := by decide +kernel
theorem dX8_soonOf_53 : decode cX8_soonOf 53 = .ok (.if_icmp .ge 212, 3) := by decide +kernel
theorem dX8_soonOf_56 : decode cX8_soonOf 56 = .ok (.aload_n 0, 1) := by decide +kernel
theorem dX8_soonOf_57 : decode cX8_soonOf 57 = .ok (.getfield 217, 3) := by decide +kernel
theorem dX8_soonOf_60 : decode cX8_soonOf 60 = .ok (.istore 6, 2) := by decide +kernel
theorem dX8_soonOf_62 : decode cX8_soonOf 62 = .ok (.iconst 0, 1) := by decide +kernel
theorem dX8_soonOf_63 : decode cX8_soonOf 63 = .ok (.istore 7, 2) := by decide +kernel
theorem dX8_soonOf_65 : decode cX8_soonOf 65 = .ok (.iinc 5 1, 3) := by decide +kernel
theorem dX8_soonOf_68 : decode cX8_soonOf 68 = .ok (.iload 4, 2) := by decide +kernel
theorem dX8_soonOf_70 : decode cX8_soonOf 70 = .ok (.istore 8, 2) := by decide +kernel
theorem dX8_soonOf_72 : decode cX8_soonOf 72 = .ok (.iload 8, 2) := by decide +kernel
theorem dX8_soonOf_74 : decode cX8_soonOf 74 = .ok (.iload 6, 2) := by decide +kernel
theorem dX8_soonOf_76 : decode cX8_soonOf 76 = .ok (.if_icmp .ge 161, 3) := by decide +kernel
theorem dX8_soonOf_79 : decode cX8_soonOf 79 = .ok (.aload_n 0, 1) := by decide +kernel
theorem dX8_soonOf_80 : decode cX8_soonOf 80 = .ok (.getfield 52, 3) := by decide +kernel
theorem dX8_soonOf_83 : decode cX8_soonOf 83 = .ok (.iload 8, 2) := by decide +kernel
theorem dX8_soonOf_85 : decode cX8_soonOf 85 = .ok (.laload, 1) := by decide +kernel
theorem dX8_soonOf_86 : decode cX8_soonOf 86 = .ok (.lstore 9, 2) := by decide +kernel
theorem dX8_soonOf_88 : decode cX8_soonOf 88 = .ok (.iconst 0, 1) := by decide +kernel
theorem dX8_soonOf_89 : decode cX8_soonOf 89 = .ok (.istore 11, 2) := by decide +kernel
theorem dX8_soonOf_91 : decode cX8_soonOf 91 = .ok (.iload 11, 2) := by decide +kernel
theorem dX8_soonOf_93 : decode cX8_soonOf 93 = .ok (.bipush 16, 2) := by decide +kernel
theorem dX8_soonOf_95 : decode cX8_soonOf 95 = .ok (.if_icmp .ge 136, 3) := by decide +kernel
theorem dX8_soonOf_98 : decode cX8_soonOf 98 = .ok (.aload_n 0, 1) := by decide +kernel
theorem dX8_soonOf_99 : decode cX8_soonOf 99 = .ok (.lload 9, 2) := by decide +kernel
theorem dX8_soonOf_101 : decode cX8_soonOf 101 = .ok (.invokevirtual 228, 3) := by decide +kernel
theorem dX8_soonOf_104 : decode cX8_soonOf 104 = .ok (.iload 11, 2) := by decide +kernel
theorem dX8_soonOf_106 : decode cX8_soonOf 106 = .ok (.bipush 8, 2) := by decide +kernel
theorem dX8_soonOf_108 : decode cX8_soonOf 108 = .ok (.idiv, 1) := by decide +kernel
theorem dX8_soonOf_109 : decode cX8_soonOf 109 = .ok (.istore 12, 2) := by decide +kernel
theorem dX8_soonOf_111 : decode cX8_soonOf 111 = .ok (.iload 11, 2) := by decide +kernel
theorem dX8_soonOf_113 : decode cX8_soonOf 113 = .ok (.bipush 8, 2) := by decide +kernel
theorem dX8_soonOf_115 : decode cX8_soonOf 115 = .ok (.irem, 1) := by decide +kernel
theorem dX8_soonOf_116 : decode cX8_soonOf 116 = .ok (.aload_n 0, 1) := by decide +kernel
theorem dX8_soonOf_117 : decode cX8_soonOf 117 = .ok (.getfield 111, 3) := by decide +kernel
theorem dX8_soonOf_120 : decode cX8_soonOf 120 = .ok (.if_icmp .ge 46, 3) := by decide +kernel
theorem dX8_soonOf_123 : decode cX8_soonOf 123 = .ok (.aload_n 0, 1) := by decide +kernel
theorem dX8_soonOf_124 : decode cX8_soonOf 124 = .ok (.iload 11, 2) := by decide +kernel
theorem dX8_soonOf_126 : decode cX8_soonOf 126 = .ok (.bipush 8, 2) := by decide +kernel
theorem dX8_soonOf_128 : decode cX8_soonOf 128 = .ok (.irem, 1) := by decide +kernel
theorem dX8_soonOf_129 : decode cX8_soonOf 129 = .ok (.aload_n 0, 1) := by decide +kernel
theorem dX8_soonOf_130 : decode cX8_soonOf 130 = .ok (.getfield 40, 3) := by decide +kernel
theorem dX8_soonOf_133 : decode cX8_soonOf 133 = .ok (.iload 12, 2) := by decide +kernel
theorem dX8_soonOf_135 : decode cX8_soonOf 135 = .ok (.iaload, 1) := by decide +kernel
theorem dX8_soonOf_136 : decode cX8_soonOf 136 = .ok (.invokevirtual 173, 3) := by decide +kernel
theorem dX8_soonOf_139 : decode cX8_soonOf 139 = .ok (.ifCond .eq 27, 3) := by decide +kernel
theorem dX8_soonOf_142 : decode cX8_soonOf 142 = .ok (.aload_n 0, 1) := by decide +kernel
theorem dX8_soonOf_143 : decode cX8_soonOf 143 = .ok (.iload 12, 2) := by decide +kernel
theorem dX8_soonOf_145 : decode cX8_soonOf 145 = .ok (.iload 11, 2) := by decide +kernel
theorem dX8_soonOf_147 : decode cX8_soonOf 147 = .ok (.bipush 8, 2) := by decide +kernel
theorem dX8_soonOf_149 : decode cX8_soonOf 149 = .ok (.irem, 1) := by decide +kernel
theorem dX8_soonOf_150 : decode cX8_soonOf 150 = .ok (.invokevirtual 177, 3) := by decide +kernel
theorem dX8_soonOf_153 : decode cX8_soonOf 153 = .ok (.aload_n 0, 1) := by decide +kernel
theorem dX8_soonOf_154 : decode cX8_soonOf 154 = .ok (.getfield 34, 3) := by decide +kernel
theorem dX8_soonOf_157 : decode cX8_soonOf 157 = .ok (.iconst 2, 1) := by decide +kernel
theorem dX8_soonOf_158 : decode cX8_soonOf 158 = .ok (.iaload, 1) := by decide +kernel
theorem dX8_soonOf_159 : decode cX8_soonOf 159 = .ok (.if_icmp .gt 7, 3) := by decide +kernel
theorem dX8_soonOf_162 : decode cX8_soonOf 162 = .ok (.iconst 1, 1) := by decide +kernel
theorem dX8_soonOf_163 : decode cX8_soonOf 163 = .ok (.goto 4, 3) := by decide +kernel
theorem dX8_soonOf_166 : decode cX8_soonOf 166 = .ok (.iconst 0, 1) := by decide +kernel
theorem dX8_soonOf_167 : decode cX8_soonOf 167 = .ok (.istore 13, 2) := by decide +kernel
theorem dX8_soonOf_169 : decode cX8_soonOf 169 = .ok (.iload 13, 2) := by decide +kernel
theorem dX8_soonOf_171 : decode cX8_soonOf 171 = .ok (.ifCond .eq 54, 3) := by decide +kernel
theorem dX8_soonOf_174 : decode cX8_soonOf 174 = .ok (.aload_n 0, 1) := by decide +kernel
theorem dX8_soonOf_175 : decode cX8_soonOf 175 = .ok (.iload 12, 2) := by decide +kernel
theorem dX8_soonOf_177 : decode cX8_soonOf 177 = .ok (.iload 11, 2) := by decide +kernel
theorem dX8_soonOf_179 : decode cX8_soonOf 179 = .ok (.bipush 8, 2) := by decide +kernel
theorem dX8_soonOf_181 : decode cX8_soonOf 181 = .ok (.irem, 1) := by decide +kernel
theorem dX8_soonOf_182 : decode cX8_soonOf 182 = .ok (.invokevirtual 180, 3) := by decide +kernel
theorem dX8_soonOf_185 : decode cX8_soonOf 185 = .ok (.iload 7, 2) := by decide +kernel
theorem dX8_soonOf_187 : decode cX8_soonOf 187 = .ok (.ifCond .ne 23, 3) := by decide +kernel
theorem dX8_soonOf_190 : decode cX8_soonOf 190 = .ok (.aload_n 0, 1) := by decide +kernel
theorem dX8_soonOf_191 : decode cX8_soonOf 191 = .ok (.getfield 40, 3) := by decide +kernel
theorem dX8_soonOf_194 : decode cX8_soonOf 194 = .ok (.iconst 0, 1) := by decide +kernel
theorem dX8_soonOf_195 : decode cX8_soonOf 195 = .ok (.iaload, 1) := by decide +kernel
theorem dX8_soonOf_196 : decode cX8_soonOf 196 = .ok (.iload_n 2, 1) := by decide +kernel
theorem dX8_soonOf_197 : decode cX8_soonOf 197 = .ok (.if_icmp .ne 17, 3) := by decide +kernel
theorem dX8_soonOf_200 : decode cX8_soonOf 200 = .ok (.aload_n 0, 1) := by decide +kernel
theorem dX8_soonOf_201 : decode cX8_soonOf 201 = .ok (.getfield 40, 3) := by decide +kernel
theorem dX8_soonOf_204 : decode cX8_soonOf 204 = .ok (.iconst 1, 1) := by decide +kernel
theorem dX8_soonOf_205 : decode cX8_soonOf 205 = .ok (.iaload, 1) := by decide +kernel
theorem dX8_soonOf_206 : decode cX8_soonOf 206 = .ok (.iload_n 3, 1) := by decide +kernel
theorem dX8_soonOf_207 : decode cX8_soonOf 207 = .ok (.if_icmp .ne 7, 3) := by decide +kernel
theorem dX8_soonOf_210 : decode cX8_soonOf 210 = .ok (.iconst 1, 1) := by decide +kernel
theorem dX8_soonOf_211 : decode cX8_soonOf 211 = .ok (.goto 4, 3) := by decide +kernel
theorem dX8_soonOf_214 : decode cX8_soonOf 214 = .ok (.iconst 0, 1) := by decide +kernel
theorem dX8_soonOf_215 : decode cX8_soonOf 215 = .ok (.istore 7, 2) := by decide +kernel
theorem dX8_soonOf_217 : decode cX8_soonOf 217 = .ok (.aload_n 0, 1) := by decide +kernel
theorem dX8_soonOf_218 : decode cX8_soonOf 218 = .ok (.aload_n 0, 1) := by decide +kernel
theorem dX8_soonOf_219 : decode cX8_soonOf 219 = .ok (.invokevirtual 220, 3) := by decide +kernel
theorem dX8_soonOf_222 : decode cX8_soonOf 222 = .ok (.invokevirtual 224, 3) := by decide +kernel
theorem dX8_soonOf_225 : decode cX8_soonOf 225 = .ok (.iinc 11 1, 3) := by decide +kernel
theorem dX8_soonOf_228 : decode cX8_soonOf 228 = .ok (.goto (-137), 3) := by decide +kernel
theorem dX8_soonOf_231 : decode cX8_soonOf 231 = .ok (.iinc 8 1, 3) := by decide +kernel
theorem dX8_soonOf_234 : decode cX8_soonOf 234 = .ok (.goto (-162), 3) := by decide +kernel
theorem dX8_soonOf_237 : decode cX8_soonOf 237 = .ok (.iload 7, 2) := by decide +kernel
theorem dX8_soonOf_239 : decode cX8_soonOf 239 = .ok (.ifCond .eq 6, 3) := by decide +kernel
theorem dX8_soonOf_242 : decode cX8_soonOf 242 = .ok (.iload 5, 2) := by decide +kernel
theorem dX8_soonOf_244 : decode cX8_soonOf 244 = .ok (.ireturn, 1) := by decide +kernel
theorem dX8_soonOf_245 : decode cX8_soonOf 245 = .ok (.aload_n 0, 1) := by decide +kernel
theorem dX8_soonOf_246 : decode cX8_soonOf 246 = .ok (.getfield 217, 3) := by decide +kernel
theorem dX8_soonOf_249 : decode cX8_soonOf 249 = .ok (.sipush 1000, 3) := by decide +kernel
theorem dX8_soonOf_252 : decode cX8_soonOf 252 = .ok (.if_icmp .le 6, 3) := by decide +kernel
theorem dX8_soonOf_255 : decode cX8_soonOf 255 = .ok (.bipush (-4), 2) := by decide +kernel
theorem dX8_soonOf_257 : decode cX8_soonOf 257 = .ok (.ireturn, 1) := by decide +kernel
theorem dX8_soonOf_258 : decode cX8_soonOf 258 = .ok (.iload 6, 2) := by decide +kernel
theorem dX8_soonOf_260 : decode cX8_soonOf 260 = .ok (.istore 4, 2) := by decide +kernel
theorem dX8_soonOf_262 : decode cX8_soonOf 262 = .ok (.goto (-215), 3) := by decide +kernel
theorem dX8_soonOf_265 : decode cX8_soonOf 265 = .ok (.iconst (-1), 1) := by decide +kernel
theorem dX8_soonOf_266 : decode cX8_soonOf 266 = .ok (.ireturn, 1) := by decide +kernel
theorem dX8_soon_0 : decode cX8_soon 0 = .ok (.aload_n 0, 1) := by decide +kernel
theorem dX8_soon_1 : decode cX8_soon 1 = .ok (.invokevirtual 129, 3) := by decide +kernel
theorem dX8_soon_4 : decode cX8_soon 4 = .ok (.pop, 1) := by decide +kernel
theorem dX8_soon_5 : decode cX8_soon 5 = .ok (.iload_n 1, 1) := by decide +kernel
theorem dX8_soon_6 : decode cX8_soon 6 = .ok (.invokestatic 135, 3) := by decide +kernel
theorem dX8_soon_9 : decode cX8_soon 9 = .ok (.ifCond .eq 27, 3) := by decide +kernel
theorem dX8_soon_12 : decode cX8_soon 12 = .ok (.iload_n 2, 1) := by decide +kernel
theorem dX8_soon_13 : decode cX8_soon 13 = .ok (.invokestatic 138, 3) := by decide +kernel
theorem dX8_soon_16 : decode cX8_soon 16 = .ok (.ifCond .eq 20, 3) := by decide +kernel
theorem dX8_soon_19 : decode cX8_soon 19 = .ok (.iload_n 3, 1) := by decide +kernel
theorem dX8_soon_20 : decode cX8_soon 20 = .ok (.invokestatic 138, 3) := by decide +kernel
theorem dX8_soon_23 : decode cX8_soon 23 = .ok (.ifCond .eq 13, 3) := by decide +kernel
theorem dX8_soon_26 : decode cX8_soon 26 = .ok (.aload_n 0, 1) := by decide +kernel
theorem dX8_soon_27 : decode cX8_soon 27 = .ok (.iload_n 1, 1) := by decide +kernel
theorem dX8_soon_28 : decode cX8_soon 28 = .ok (.iload_n 2, 1) := by decide +kernel
theorem dX8_soon_29 : decode cX8_soon 29 = .ok (.iload_n 3, 1) := by decide +kernel
theorem dX8_soon_30 : decode cX8_soon 30 = .ok (.invokevirtual 231, 3) := by decide +kernel
theorem dX8_soon_33 : decode cX8_soon 33 = .ok (.goto 5, 3) := by decide +kernel
theorem dX8_soon_36 : decode cX8_soon 36 = .ok (.bipush (-2), 2) := by decide +kernel
theorem dX8_soon_38 : decode cX8_soon 38 = .ok (.ireturn, 1) := by decide +kernel
theorem dX8_looseOf_0 : decode cX8_looseOf 0 = .ok (.aload_n 0, 1) := by decide +kernel
theorem dX8_looseOf_1 : decode cX8_looseOf 1 = .ok (.iload_n 1, 1) := by decide +kernel
theorem dX8_looseOf_2 : decode cX8_looseOf 2 = .ok (.invokevirtual 200, 3) := by decide +kernel
theorem dX8_looseOf_5 : decode cX8_looseOf 5 = .ok (.pop, 1) := by decide +kernel
theorem dX8_looseOf_6 : decode cX8_looseOf 6 = .ok (.aload_n 0, 1) := by decide +kernel
theorem dX8_looseOf_7 : decode cX8_looseOf 7 = .ok (.getfield 150, 3) := by decide +kernel
theorem dX8_looseOf_10 : decode cX8_looseOf 10 = .ok (.ireturn, 1) := by decide +kernel
theorem dX8_loose_0 : decode cX8_loose 0 = .ok (.aload_n 0, 1) := by decide +kernel
theorem dX8_loose_1 : decode cX8_loose 1 = .ok (.invokevirtual 129, 3) := by decide +kernel
theorem dX8_loose_4 : decode cX8_loose 4 = .ok (.pop, 1) := by decide +kernel
theorem dX8_loose_5 : decode cX8_loose 5 = .ok (.iload_n 1, 1) := by decide +kernel
theorem dX8_loose_6 : decode cX8_loose 6 = .ok (.invokestatic 135, 3) := by decide +kernel
theorem dX8_loose_9 : decode cX8_loose 9 = .ok (.ifCond .eq 11, 3) := by decide +kernel
theorem dX8_loose_12 : decode cX8_loose 12 = .ok (.aload_n 0, 1) := by decide +kernel
theorem dX8_loose_13 : decode cX8_loose 13 = .ok (.iload_n 1, 1) := by decide +kernel
theorem dX8_loose_14 : decode cX8_loose 14 = .ok (.invokevirtual 234, 3) := by decide +kernel
theorem dX8_loose_17 : decode cX8_loose 17 = .ok (.goto 5, 3) := by decide +kernel
theorem dX8_loose_20 : decode cX8_loose 20 = .ok (.bipush (-2), 2) := by decide +kernel
theorem dX8_loose_22 : decode cX8_loose 22 = .ok (.ireturn, 1) := by decide +kernel
theorem dX8_haveLikeEnds_0 : decode cX8_haveLikeEnds 0 = .ok (.aload_n 0, 1) := by decide +kernel
theorem dX8_haveLikeEnds_1 : decode cX8_haveLikeEnds 1 = .ok (.iload_n 2, 1) := by decide +kernel
theorem dX8_haveLikeEnds_2 : decode cX8_haveLikeEnds 2 = .ok (.aload_n 0, 1) := by decide +kernel
theorem dX8_haveLikeEnds_3 : decode cX8_haveLikeEnds 3 = .ok (.getfield 28, 3) := by decide +kernel
theorem dX8_haveLikeEnds_6 : decode cX8_haveLikeEnds 6 = .ok (.iconst 3, 1) := by decide +kernel
theorem dX8_haveLikeEnds_7 : decode cX8_haveLikeEnds 7 = .ok (.iload_n 1, 1) := by decide +kernel
theorem dX8_haveLikeEnds_8 : decode cX8_haveLikeEnds 8 = .ok (.imul, 1) := by decide +kernel
theorem dX8_haveLikeEnds_9 : decode cX8_haveLikeEnds 9 = .ok (.iaload, 1) := by decide +kernel
theorem dX8_haveLikeEnds_10 : decode cX8_haveLikeEnds 10 = .ok (.invokevirtual 173, 3) := by decide +kernel
theorem dX8_haveLikeEnds_13 : decode cX8_haveLikeEnds 13 = .ok (.ifCond .eq 25, 3) := by decide +kernel
theorem dX8_haveLikeEnds_16 : decode cX8_haveLikeEnds 16 = .ok (.aload_n 0, 1) := by decide +kernel
theorem dX8_haveLikeEnds_17 : decode cX8_haveLikeEnds 17 = .ok (.iload_n 2, 1) := by decide +kernel
theorem dX8_haveLikeEnds_18 : decode cX8_haveLikeEnds 18 = .ok (.aload_n 0, 1) := by decide +kernel
theorem dX8_haveLikeEnds_19 : decode cX8_haveLikeEnds 19 = .ok (.getfield 28, 3) := by decide +kernel
theorem dX8_haveLikeEnds_22 : decode cX8_haveLikeEnds 22 = .ok (.iconst 3, 1) := by decide +kernel
theorem dX8_haveLikeEnds_23 : decode cX8_haveLikeEnds 23 = .ok (.iload_n 1, 1) := by decide +kernel
theorem dX8_haveLikeEnds_24 : decode cX8_haveLikeEnds 24 = .ok (.imul, 1) := by decide +kernel
theorem dX8_haveLikeEnds_25 : decode cX8_haveLikeEnds 25 = .ok (.iconst 1, 1) := by decide +kernel
theorem dX8_haveLikeEnds_26 : decode cX8_haveLikeEnds 26 = .ok (.iadd, 1) := by decide +kernel
theorem dX8_haveLikeEnds_27 : decode cX8_haveLikeEnds 27 = .ok (.iaload, 1) := by decide +kernel
theorem dX8_haveLikeEnds_28 : decode cX8_haveLikeEnds 28 = .ok (.invokevirtual 173, 3) := by decide +kernel
theorem dX8_haveLikeEnds_31 : decode cX8_haveLikeEnds 31 = .ok (.ifCond .eq 7, 3) := by decide +kernel
theorem dX8_haveLikeEnds_34 : decode cX8_haveLikeEnds 34 = .ok (.iconst 1, 1) := by decide +kernel
theorem dX8_haveLikeEnds_35 : decode cX8_haveLikeEnds 35 = .ok (.goto 4, 3) := by decide +kernel
theorem dX8_haveLikeEnds_38 : decode cX8_haveLikeEnds 38 = .ok (.iconst 0, 1) := by decide +kernel
theorem dX8_haveLikeEnds_39 : decode cX8_haveLikeEnds 39 = .ok (.ireturn, 1) := by decide +kernel
theorem dX8_pulledOf_0 : decode cX8_pulledOf 0 = .ok (.aload_n 0, 1) := by decide +kernel
theorem dX8_pulledOf_1 : decode cX8_pulledOf 1 = .ok (.iload_n 2, 1) := by decide +kernel
theorem dX8_pulledOf_2 : decode cX8_pulledOf 2 = .ok (.iload_n 3, 1) := by decide +kernel
theorem dX8_pulledOf_3 : decode cX8_pulledOf 3 = .ok (.invokevirtual 237, 3) := by decide +kernel
theorem dX8_pulledOf_6 : decode cX8_pulledOf 6 = .ok (.ifCond .ne 6, 3) := by decide +kernel
theorem dX8_pulledOf_9 : decode cX8_pulledOf 9 = .ok (.bipush (-3), 2) := by decide +kernel
theorem dX8_pulledOf_11 : decode cX8_pulledOf 11 = .ok (.ireturn, 1) := by decide +kernel
theorem dX8_pulledOf_12 : decode cX8_pulledOf 12 = .ok (.iload_n 2, 1) := by decide +kernel
theorem dX8_pulledOf_13 : decode cX8_pulledOf 13 = .ok (.iload_n 3, 1) := by decide +kernel
theorem dX8_pulledOf_14 : decode cX8_pulledOf 14 = .ok (.if_icmp .ge 7, 3) := by decide +kernel
theorem dX8_pulledOf_17 : decode cX8_pulledOf 17 = .ok (.iload_n 2, 1) := by decide +kernel
theorem dX8_pulledOf_18 : decode cX8_pulledOf 18 = .ok (.goto 4, 3) := by decide +kernel
theorem dX8_pulledOf_21 : decode cX8_pulledOf 21 = .ok (.iload_n 3, 1) := by decide +kernel
theorem dX8_pulledOf_22 : decode cX8_pulledOf 22 = .ok (.istore 5, 2) := by decide +kernel
theorem dX8_pulledOf_24 : decode cX8_pulledOf 24 = .ok (.iload_n 2, 1) := by decide +kernel
theorem dX8_pulledOf_25 : decode cX8_pulledOf 25 = .ok (.iload_n 3, 1) := by decide +kernel
theorem dX8_pulledOf_26 : decode cX8_pulledOf 26 = .ok (.if_icmp .ge 7, 3) := by decide +kernel
theorem dX8_pulledOf_29 : decode cX8_pulledOf 29 = .ok (.iload_n 3, 1) := by decide +kernel
theorem dX8_pulledOf_30 : decode cX8_pulledOf 30 = .ok (.goto 4, 3) := by decide +kernel
theorem dX8_pulledOf_33 : decode cX8_pulledOf 33 = .ok (.iload_n 2, 1) := by decide +kernel
theorem dX8_pulledOf_34 : decode cX8_pulledOf 34 = .ok (.istore 6, 2) := by decide +kernel
theorem dX8_pulledOf_36 : decode cX8_pulledOf 36 = .ok (.aload_n 0, 1) := by decide +kernel
theorem dX8_pulledOf_37 : decode cX8_pulledOf 37 = .ok (.getfield 28, 3) := by decide +kernel
theorem dX8_pulledOf_40 : decode cX8_pulledOf 40 = .ok (.iconst 3, 1) := by decide +kernel
theorem dX8_pulledOf_41 : decode cX8_pulledOf 41 = .ok (.iload 6, 2) := by decide +kernel
theorem dX8_pulledOf_43 : decode cX8_pulledOf 43 = .ok (.imul, 1) := by decide +kernel
theorem dX8_pulledOf_44 : decode cX8_pulledOf 44 = .ok (.iconst 2, 1) := by decide +kernel
theorem dX8_pulledOf_45 : decode cX8_pulledOf 45 = .ok (.iadd, 1) := by decide +kernel
theorem dX8_pulledOf_46 : decode cX8_pulledOf 46 = .ok (.iaload, 1) := by decide +kernel
theorem dX8_pulledOf_47 : decode cX8_pulledOf 47 = .ok (.aload_n 0, 1) := by decide +kernel
theorem dX8_pulledOf_48 : decode cX8_pulledOf 48 = .ok (.getfield 28, 3) := by decide +kernel
theorem dX8_pulledOf_51 : decode cX8_pulledOf 51 = .ok (.iconst 3, 1) := by decide +kernel
theorem dX8_pulledOf_52 : decode cX8_pulledOf 52 = .ok (.iload 5, 2) := by decide +kernel
theorem dX8_pulledOf_54 : decode cX8_pulledOf 54 = .ok (.imul, 1) := by decide +kernel
theorem dX8_pulledOf_55 : decode cX8_pulledOf 55 = .ok (.iconst 2, 1) := by decide +kernel
theorem dX8_pulledOf_56 : decode cX8_pulledOf 56 = .ok (.iadd, 1) := by decide +kernel
theorem dX8_pulledOf_57 : decode cX8_pulledOf 57 = .ok (.iaload, 1) := by decide +kernel
theorem dX8_pulledOf_58 : decode cX8_pulledOf 58 = .ok (.if_icmp .ge 8, 3) := by decide +kernel
theorem dX8_pulledOf_61 : decode cX8_pulledOf 61 = .ok (.iload 6, 2) := by decide +kernel
theorem dX8_pulledOf_63 : decode cX8_pulledOf 63 = .ok (.goto 5, 3) := by decide +kernel
theorem dX8_pulledOf_66 : decode cX8_pulledOf 66 = .ok (.iload 5, 2) := by decide +kernel
theorem dX8_pulledOf_68 : decode cX8_pulledOf 68 = .ok (.istore 7, 2) := by decide +kernel
theorem dX8_pulledOf_70 : decode cX8_pulledOf 70 = .ok (.aload_n 0, 1) := by decide +kernel
theorem dX8_pulledOf_71 : decode cX8_pulledOf 71 = .ok (.iload_n 1, 1) := by decide +kernel
theorem dX8_pulledOf_72 : decode cX8_pulledOf 72 = .ok (.invokevirtual 200, 3) := by decide +kernel
theorem dX8_pulledOf_75 : decode cX8_pulledOf 75 = .ok (.pop, 1) := by decide +kernel
theorem dX8_pulledOf_76 : decode cX8_pulledOf 76 = .ok (.iconst 0, 1) := by decide +kernel
theorem dX8_pulledOf_77 : decode cX8_pulledOf 77 = .ok (.istore 8, 2) := by decide +kernel
theorem dX8_pulledOf_79 : decode cX8_pulledOf 79 = .ok (.iconst 0, 1) := by decide +kernel
theorem dX8_pulledOf_80 : decode cX8_pulledOf 80 = .ok (.istore 9, 2) := by decide +kernel
theorem dX8_pulledOf_82 : decode cX8_pulledOf 82 = .ok (.iconst 0, 1) := by decide +kernel
theorem dX8_pulledOf_83 : decode cX8_pulledOf 83 = .ok (.istore 10, 2) := by decide +kernel
theorem dX8_pulledOf_85 : decode cX8_pulledOf 85 = .ok (.iload 10, 2) := by decide +kernel
theorem dX8_pulledOf_87 : decode cX8_pulledOf 87 = .ok (.aload_n 0, 1) := by decide +kernel
theorem dX8_pulledOf_88 : decode cX8_pulledOf 88 = .ok (.getfield 150, 3) := by decide +kernel
theorem dX8_pulledOf_91 : decode cX8_pulledOf 91 = .ok (.if_icmp .ge 146, 3) := by decide +kernel
theorem dX8_pulledOf_94 : decode cX8_pulledOf 94 = .ok (.aload_n 0, 1) := by decide +kernel
theorem dX8_pulledOf_95 : decode cX8_pulledOf 95 = .ok (.getfield 43, 3) := by decide +kernel
theorem dX8_pulledOf_98 : decode cX8_pulledOf 98 = .ok (.iload 10, 2) := by decide +kernel
theorem dX8_pulledOf_100 : decode cX8_pulledOf 100 = .ok (.iaload, 1) := by decide +kernel
theorem dX8_pulledOf_101 : decode cX8_pulledOf 101 = .ok (.iload_n 2, 1) := by decide +kernel
theorem dX8_pulledOf_102 : decode cX8_pulledOf 102 = .ok (.if_icmp .eq 14, 3) := by decide +kernel
theorem dX8_pulledOf_105 : decode cX8_pulledOf 105 = .ok (.aload_n 0, 1) := by decide +kernel
theorem dX8_pulledOf_106 : decode cX8_pulledOf 106 = .ok (.getfield 43, 3) := by decide +kernel
theorem dX8_pulledOf_109 : decode cX8_pulledOf 109 = .ok (.iload 10, 2) := by decide +kernel
theorem dX8_pulledOf_111 : decode cX8_pulledOf 111 = .ok (.iaload, 1) := by decide +kernel
theorem dX8_pulledOf_112 : decode cX8_pulledOf 112 = .ok (.iload_n 3, 1) := by decide +kernel
theorem dX8_pulledOf_113 : decode cX8_pulledOf 113 = .ok (.if_icmp .ne 8, 3) := by decide +kernel
theorem dX8_pulledOf_116 : decode cX8_pulledOf 116 = .ok (.iload 7, 2) := by decide +kernel
theorem dX8_pulledOf_118 : decode cX8_pulledOf 118 = .ok (.goto 10, 3) := by decide +kernel
theorem dX8_pulledOf_121 : decode cX8_pulledOf 121 = .ok (.aload_n 0, 1) := by decide +kernel
theorem dX8_pulledOf_122 : decode cX8_pulledOf 122 = .ok (.getfield 43, 3) := by decide +kernel
theorem dX8_pulledOf_125 : decode cX8_pulledOf 125 = .ok (.iload 10, 2) := by decide +kernel
theorem dX8_pulledOf_127 : decode cX8_pulledOf 127 = .ok (.iaload, 1) := by decide +kernel
theorem dX8_pulledOf_128 : decode cX8_pulledOf 128 = .ok (.istore 11, 2) := by decide +kernel
theorem dX8_pulledOf_130 : decode cX8_pulledOf 130 = .ok (.iload 8, 2) := by decide +kernel
theorem dX8_pulledOf_132 : decode cX8_pulledOf 132 = .ok (.ifCond .le 21, 3) := by decide +kernel
theorem dX8_pulledOf_135 : decode cX8_pulledOf 135 = .ok (.aload_n 0, 1) := by decide +kernel
theorem dX8_pulledOf_136 : decode cX8_pulledOf 136 = .ok (.getfield 56, 3) := by decide +kernel
theorem dX8_pulledOf_139 : decode cX8_pulledOf 139 = .ok (.iload 8, 2) := by decide +kernel
theorem dX8_pulledOf_141 : decode cX8_pulledOf 141 = .ok (.iconst 1, 1) := by decide +kernel
theorem dX8_pulledOf_142 : decode cX8_pulledOf 142 = .ok (.isub, 1) := by decide +kernel
theorem dX8_pulledOf_143 : decode cX8_pulledOf 143 = .ok (.iaload, 1) := by decide +kernel
theorem dX8_pulledOf_144 : decode cX8_pulledOf 144 = .ok (.iload 11, 2) := by decide +kernel
theorem dX8_pulledOf_146 : decode cX8_pulledOf 146 = .ok (.if_icmp .ne 7, 3) := by decide +kernel
theorem dX8_pulledOf_149 : decode cX8_pulledOf 149 = .ok (.iconst 1, 1) := by decide +kernel
theorem dX8_pulledOf_150 : decode cX8_pulledOf 150 = .ok (.goto 4, 3) := by decide +kernel
theorem dX8_pulledOf_153 : decode cX8_pulledOf 153 = .ok (.iconst 0, 1) := by decide +kernel
theorem dX8_pulledOf_154 : decode cX8_pulledOf 154 = .ok (.istore 12, 2) := by decide +kernel
theorem dX8_pulledOf_156 : decode cX8_pulledOf 156 = .ok (.iload 9, 2) := by decide +kernel
theorem dX8_pulledOf_158 : decode cX8_pulledOf 158 = .ok (.iload 12, 2) := by decide +kernel
theorem dX8_pulledOf_160 : decode cX8_pulledOf 160 = .ok (.ifCond .eq 18, 3) := by decide +kernel
theorem dX8_pulledOf_163 : decode cX8_pulledOf 163 = .ok (.aload_n 0, 1) := by decide +kernel
theorem dX8_pulledOf_164 : decode cX8_pulledOf 164 = .ok (.getfield 28, 3) := by decide +kernel
theorem dX8_pulledOf_167 : decode cX8_pulledOf 167 = .ok (.iconst 3, 1) := by decide +kernel
theorem dX8_pulledOf_168 : decode cX8_pulledOf 168 = .ok (.iload 11, 2) := by decide +kernel
theorem dX8_pulledOf_170 : decode cX8_pulledOf 170 = .ok (.imul, 1) := by decide +kernel
theorem dX8_pulledOf_171 : decode cX8_pulledOf 171 = .ok (.iconst 2, 1) := by decide +kernel
theorem dX8_pulledOf_172 : decode cX8_pulledOf 172 = .ok (.iadd, 1) := by decide +kernel
theorem dX8_pulledOf_173 : decode cX8_pulledOf 173 = .ok (.iaload, 1) := by decide +kernel
theorem dX8_pulledOf_174 : decode cX8_pulledOf 174 = .ok (.ineg, 1) := by decide +kernel
theorem dX8_pulledOf_175 : decode cX8_pulledOf 175 = .ok (.goto 14, 3) := by decide +kernel
theorem dX8_pulledOf_178 : decode cX8_pulledOf 178 = .ok (.aload_n 0, 1) := by decide +kernel
theorem dX8_pulledOf_179 : decode cX8_pulledOf 179 = .ok (.getfield 28, 3) := by decide +kernel
theorem dX8_pulledOf_182 : decode cX8_pulledOf 182 = .ok (.iconst 3, 1) := by decide +kernel
theorem dX8_pulledOf_183 : decode cX8_pulledOf 183 = .ok (.iload 11, 2) := by decide +kernel
theorem dX8_pulledOf_185 : decode cX8_pulledOf 185 = .ok (.imul, 1) := by decide +kernel
theorem dX8_pulledOf_186 : decode cX8_pulledOf 186 = .ok (.iconst 2, 1) := by decide +kernel
theorem dX8_pulledOf_187 : decode cX8_pulledOf 187 = .ok (.iadd, 1) := by decide +kernel
theorem dX8_pulledOf_188 : decode cX8_pulledOf 188 = .ok (.iaload, 1) := by decide +kernel
theorem dX8_pulledOf_189 : decode cX8_pulledOf 189 = .ok (.iadd, 1) := by decide +kernel
theorem dX8_pulledOf_190 : decode cX8_pulledOf 190 = .ok (.istore 9, 2) := by decide +kernel
theorem dX8_pulledOf_192 : decode cX8_pulledOf 192 = .ok (.aload_n 0, 1) := by decide +kernel
theorem dX8_pulledOf_193 : decode cX8_pulledOf 193 = .ok (.getfield 56, 3) := by decide +kernel
theorem dX8_pulledOf_196 : decode cX8_pulledOf 196 = .ok (.iload 8, 2) := by decide +kernel
theorem dX8_pulledOf_198 : decode cX8_pulledOf 198 = .ok (.iload 12, 2) := by decide +kernel
theorem dX8_pulledOf_200 : decode cX8_pulledOf 200 = .ok (.ifCond .eq 13, 3) := by decide +kernel
theorem dX8_pulledOf_203 : decode cX8_pulledOf 203 = .ok (.aload_n 0, 1) := by decide +kernel
theorem dX8_pulledOf_204 : decode cX8_pulledOf 204 = .ok (.getfield 56, 3) := by decide +kernel
theorem dX8_pulledOf_207 : decode cX8_pulledOf 207 = .ok (.iload 8, 2) := by decide +kernel
theorem dX8_pulledOf_209 : decode cX8_pulledOf 209 = .ok (.iaload, 1) := by decide +kernel
theorem dX8_pulledOf_210 : decode cX8_pulledOf 210 = .ok (.goto 5, 3) := by decide +kernel
theorem dX8_pulledOf_213 : decode cX8_pulledOf 213 = .ok (.iload 11, 2) := by decide +kernel
theorem dX8_pulledOf_215 : decode cX8_pulledOf 215 = .ok (.iastore, 1) := by decide +kernel
theorem dX8_pulledOf_216 : decode cX8_pulledOf 216 = .ok (.iload 8, 2) := by decide +kernel
theorem dX8_pulledOf_218 : decode cX8_pulledOf 218 = .ok (.iload 12, 2) := by decide +kernel
theorem dX8_pulledOf_220 : decode cX8_pulledOf 220 = .ok (.ifCond .eq 7, 3) := by decide +kernel
theorem dX8_pulledOf_223 : decode cX8_pulledOf 223 = .ok (.iconst (-1), 1) := by decide +kernel
theorem dX8_pulledOf_224 : decode cX8_pulledOf 224 = .ok (.goto 4, 3) := by decide +kernel
theorem dX8_pulledOf_227 : decode cX8_pulledOf 227 = .ok (.iconst 1, 1) := by decide +kernel
theorem dX8_pulledOf_228 : decode cX8_pulledOf 228 = .ok (.iadd, 1) := by decide +kernel
theorem dX8_pulledOf_229 : decode cX8_pulledOf 229 = .ok (.istore 8, 2) := by decide +kernel
theorem dX8_pulledOf_231 : decode cX8_pulledOf 231 = .ok (.iinc 10 1, 3) := by decide +kernel
theorem dX8_pulledOf_234 : decode cX8_pulledOf 234 = .ok (.goto (-149), 3) := by decide +kernel
theorem dX8_pulledOf_237 : decode cX8_pulledOf 237 = .ok (.iload 4, 2) := by decide +kernel
theorem dX8_pulledOf_239 : decode cX8_pulledOf 239 = .ok (.ifCond .ne 8, 3) := by decide +kernel
theorem dX8_pulledOf_242 : decode cX8_pulledOf 242 = .ok (.iload 8, 2) := by decide +kernel
theorem dX8_pulledOf_244 : decode cX8_pulledOf 244 = .ok (.goto 5, 3) := by decide +kernel
theorem dX8_pulledOf_247 : decode cX8_pulledOf 247 = .ok (.iload 9, 2) := by decide +kernel
theorem dX8_pulledOf_249 : decode cX8_pulledOf 249 = .ok (.ireturn, 1) := by decide +kernel
theorem dX8_pulled_0 : decode cX8_pulled 0 = .ok (.aload_n 0, 1) := by decide +kernel
theorem dX8_pulled_1 : decode cX8_pulled 1 = .ok (.iload_n 2, 1) := by decide +kernel
theorem dX8_pulled_2 : decode cX8_pulled 2 = .ok (.invokevirtual 132, 3) := by decide +kernel
theorem dX8_pulled_5 : decode cX8_pulled 5 = .ok (.ifCond .eq 20, 3) := by decide +kernel
theorem dX8_pulled_8 : decode cX8_pulled 8 = .ok (.aload_n 0, 1) := by decide +kernel
theorem dX8_pulled_9 : decode cX8_pulled 9 = .ok (.iload_n 3, 1) := by decide +kernel
theorem dX8_pulled_10 : decode cX8_pulled 10 = .ok (.invokevirtual 132, 3) := by decide +kernel
theorem dX8_pulled_13 : decode cX8_pulled 13 = .ok (.ifCond .eq 12, 3) := by decide +kernel
theorem dX8_pulled_16 : decode cX8_pulled 16 = .ok (.iload_n 2, 1) := by decide +kernel
theorem dX8_pulled_17 : decode cX8_pulled 17 = .ok (.iload_n 3, 1) := by decide +kernel
theorem dX8_pulled_18 : decode cX8_pulled 18 = .ok (.if_icmp .eq 7, 3) := by decide +kernel
theorem dX8_pulled_21 : decode cX8_pulled 21 = .ok (.iconst 1, 1) := by decide +kernel
theorem dX8_pulled_22 : decode cX8_pulled 22 = .ok (.goto 4, 3) := by decide +kernel
theorem dX8_pulled_25 : decode cX8_pulled 25 = .ok (.iconst 0, 1) := by decide +kernel
theorem dX8_pulled_26 : decode cX8_pulled 26 = .ok (.istore 5, 2) := by decide +kernel
theorem dX8_pulled_28 : decode cX8_pulled 28 = .ok (.iload 5, 2) := by decide +kernel
theorem dX8_pulled_30 : decode cX8_pulled 30 = .ok (.ifCond .eq 30, 3) := by decide +kernel
theorem dX8_pulled_33 : decode cX8_pulled 33 = .ok (.iload_n 1, 1) := by decide +kernel
theorem dX8_pulled_34 : decode cX8_pulled 34 = .ok (.invokestatic 135, 3) := by decide +kernel
theorem dX8_pulled_37 : decode cX8_pulled 37 = .ok (.ifCond .eq 23, 3) := by decide +kernel
theorem dX8_pulled_40 : decode cX8_pulled 40 = .ok (.iload 4, 2) := by decide +kernel
theorem dX8_pulled_42 : decode cX8_pulled 42 = .ok (.invokestatic 135, 3) := by decide +kernel
theorem dX8_pulled_45 : decode cX8_pulled 45 = .ok (.ifCond .eq 15, 3) := by decide +kernel
theorem dX8_pulled_48 : decode cX8_pulled 48 = .ok (.aload_n 0, 1) := by decide +kernel
theorem dX8_pulled_49 : decode cX8_pulled 49 = .ok (.iload_n 1, 1) := by decide +kernel
theorem dX8_pulled_50 : decode cX8_pulled 50 = .ok (.iload_n 2, 1) := by decide +kernel
theorem dX8_pulled_51 : decode cX8_pulled 51 = .ok (.iload_n 3, 1) := by decide +kernel
theorem dX8_pulled_52 : decode cX8_pulled 52 = .ok (.iload 4, 2) := by decide +kernel
theorem dX8_pulled_54 : decode cX8_pulled 54 = .ok (.invokevirtual 240, 3) := by decide +kernel
theorem dX8_pulled_57 : decode cX8_pulled 57 = .ok (.goto 5, 3) := by decide +kernel
theorem dX8_pulled_60 : decode cX8_pulled 60 = .ok (.bipush (-2), 2) := by decide +kernel
theorem dX8_pulled_62 : decode cX8_pulled 62 = .ok (.ireturn, 1) := by decide +kernel
theorem dX8_beganOf_0 : decode cX8_beganOf 0 = .ok (.iconst 0, 1) := by decide +kernel
theorem dX8_beganOf_1 : decode cX8_beganOf 1 = .ok (.istore_n 3, 1) := by decide +kernel
theorem dX8_beganOf_2 : decode cX8_beganOf 2 = .ok (.iload_n 3, 1) := by decide +kernel
theorem dX8_beganOf_3 : decode cX8_beganOf 3 = .ok (.bipush 8, 2) := by decide +kernel
theorem dX8_beganOf_5 : decode cX8_beganOf 5 = .ok (.if_icmp .ge 26, 3) := by decide +kernel
theorem dX8_beganOf_8 : decode cX8_beganOf 8 = .ok (.aload_n 0, 1) := by decide +kernel
theorem dX8_beganOf_9 : decode cX8_beganOf 9 = .ok (.getfield 59, 3) := by decide +kernel
theorem dX8_beganOf_12 : decode cX8_beganOf 12 = .ok (.iload_n 3, 1) := by decide +kernel
theorem dX8_beganOf_13 : decode cX8_beganOf 13 = .ok (.iload_n 3, 1) := by decide +kernel
theorem dX8_beganOf_14 : decode cX8_beganOf 14 = .ok (.iload_n 2, 1) := by decide +kernel
theorem dX8_beganOf_15 : decode cX8_beganOf 15 = .ok (.if_icmp .ne 7, 3) := by decide +kernel
theorem dX8_beganOf_18 : decode cX8_beganOf 18 = .ok (.iconst 0, 1) := by decide +kernel
theorem dX8_beganOf_19 : decode cX8_beganOf 19 = .ok (.goto 5, 3) := by decide +kernel
theorem dX8_beganOf_22 : decode cX8_beganOf 22 = .ok (.ldc 244, 2) := by decide +kernel
theorem dX8_beganOf_24 : decode cX8_beganOf 24 = .ok (.iastore, 1) := by decide +kernel
theorem dX8_beganOf_25 : decode cX8_beganOf 25 = .ok (.iinc 3 1, 3) := by decide +kernel
theorem dX8_beganOf_28 : decode cX8_beganOf 28 = .ok (.goto (-26), 3) := by decide +kernel
theorem dX8_beganOf_31 : decode cX8_beganOf 31 = .ok (.iconst 0, 1) := by decide +kernel
theorem dX8_beganOf_32 : decode cX8_beganOf 32 = .ok (.istore_n 3, 1) := by decide +kernel
theorem dX8_beganOf_33 : decode cX8_beganOf 33 = .ok (.iload_n 3, 1) := by decide +kernel
theorem dX8_beganOf_34 : decode cX8_beganOf 34 = .ok (.bipush 8, 2) := by decide +kernel
theorem dX8_beganOf_36 : decode cX8_beganOf 36 = .ok (.if_icmp .ge 141, 3) := by decide +kernel
theorem dX8_beganOf_39 : decode cX8_beganOf 39 = .ok (.iconst 0, 1) := by decide +kernel
theorem dX8_beganOf_40 : decode cX8_beganOf 40 = .ok (.istore 4, 2) := by decide +kernel
theorem dX8_beganOf_42 : decode cX8_beganOf 42 = .ok (.iload 4, 2) := by decide +kernel
theorem dX8_beganOf_44 : decode cX8_beganOf 44 = .ok (.aload_n 0, 1) := by decide +kernel
theorem dX8_beganOf_45 : decode cX8_beganOf 45 = .ok (.getfield 111, 3) := by decide +kernel
theorem dX8_beganOf_48 : decode cX8_beganOf 48 = .ok (.if_icmp .ge 123, 3) := by decide +kernel
theorem dX8_beganOf_51 : decode cX8_beganOf 51 = .ok (.aload_n 0, 1) := by decide +kernel
theorem dX8_beganOf_52 : decode cX8_beganOf 52 = .ok (.getfield 28, 3) := by decide +kernel
theorem dX8_beganOf_55 : decode cX8_beganOf 55 = .ok (.iconst 3, 1) := by decide +kernel
theorem dX8_beganOf_56 : decode cX8_beganOf 56 = .ok (.iload 4, 2) := by decide +kernel
theorem dX8_beganOf_58 : decode cX8_beganOf 58 = .ok (.imul, 1) := by decide +kernel
theorem dX8_beganOf_59 : decode cX8_beganOf 59 = .ok (.iaload, 1) := by decide +kernel
theorem dX8_beganOf_60 : decode cX8_beganOf 60 = .ok (.istore 5, 2) := by decide +kernel
theorem dX8_beganOf_62 : decode cX8_beganOf 62 = .ok (.aload_n 0, 1) := by decide +kernel
theorem dX8_beganOf_63 : decode cX8_beganOf 63 = .ok (.getfield 28, 3) := by decide +kernel
theorem dX8_beganOf_66 : decode cX8_beganOf 66 = .ok (.iconst 3, 1) := by decide +kernel
theorem dX8_beganOf_67 : decode cX8_beganOf 67 = .ok (.iload 4, 2) := by decide +kernel
theorem dX8_beganOf_69 : decode cX8_beganOf 69 = .ok (.imul, 1) := by decide +kernel
theorem dX8_beganOf_70 : decode cX8_beganOf 70 = .ok (.iconst 1, 1) := by decide +kernel
theorem dX8_beganOf_71 : decode cX8_beganOf 71 = .ok (.iadd, 1) := by decide +kernel
theorem dX8_beganOf_72 : decode cX8_beganOf 72 = .ok (.iaload, 1) := by decide +kernel
theorem dX8_beganOf_73 : decode cX8_beganOf 73 = .ok (.istore 6, 2) := by decide +kernel
theorem dX8_beganOf_75 : decode cX8_beganOf 75 = .ok (.aload_n 0, 1) := by decide +kernel
theorem dX8_beganOf_76 : decode cX8_beganOf 76 = .ok (.getfield 59, 3) := by decide +kernel
theorem dX8_beganOf_79 : decode cX8_beganOf 79 = .ok (.iload 5, 2) := by decide +kernel
theorem dX8_beganOf_81 : decode cX8_beganOf 81 = .ok (.aload_n 0, 1) := by decide +kernel
theorem dX8_beganOf_82 : decode cX8_beganOf 82 = .ok (.getfield 59, 3) := by decide +kernel
theorem dX8_beganOf_85 : decode cX8_beganOf 85 = .ok (.iload 6, 2) := by decide +kernel
theorem dX8_beganOf_87 : decode cX8_beganOf 87 = .ok (.iaload, 1) := by decide +kernel
theorem dX8_beganOf_88 : decode cX8_beganOf 88 = .ok (.iconst 1, 1) := by decide +kernel
theorem dX8_beganOf_89 : decode cX8_beganOf 89 = .ok (.iadd, 1) := by decide +kernel
theorem dX8_beganOf_90 : decode cX8_beganOf 90 = .ok (.aload_n 0, 1) := by decide +kernel
theorem dX8_beganOf_91 : decode cX8_beganOf 91 = .ok (.getfield 59, 3) := by decide +kernel
theorem dX8_beganOf_94 : decode cX8_beganOf 94 = .ok (.iload 5, 2) := by decide +kernel
theorem dX8_beganOf_96 : decode cX8_beganOf 96 = .ok (.iaload, 1) := by decide +kernel
theorem dX8_beganOf_97 : decode cX8_beganOf 97 = .ok (.if_icmp .ge 15, 3) := by decide +kernel
theorem dX8_beganOf_100 : decode cX8_beganOf 100 = .ok (.aload_n 0, 1) := by decide +kernel
theorem dX8_beganOf_101 : decode cX8_beganOf 101 = .ok (.getfield 59, 3) := by decide +kernel
theorem dX8_beganOf_104 : decode cX8_beganOf 104 = .ok (.iload 6, 2) := by decide +kernel
theorem dX8_beganOf_106 : decode cX8_beganOf 106 = .ok (.iaload, 1) := by decide +kernel
theorem dX8_beganOf_107 : decode cX8_beganOf 107 = .ok (.iconst 1, 1) := by decide +kernel
theorem dX8_beganOf_108 : decode cX8_beganOf 108 = .ok (.iadd, 1) := by decide +kernel
theorem dX8_beganOf_109 : decode cX8_beganOf 109 = .ok (.goto 10, 3) := by decide +kernel
theorem dX8_beganOf_112 : decode cX8_beganOf 112 = .ok (.aload_n 0, 1) := by decide +kernel
theorem dX8_beganOf_113 : decode cX8_beganOf 113 = .ok (.getfield 59, 3) := by decide +kernel
theorem dX8_beganOf_116 : decode cX8_beganOf 116 = .ok (.iload 5, 2) := by decide +kernel
theorem dX8_beganOf_118 : decode cX8_beganOf 118 = .ok (.iaload, 1) := by decide +kernel
theorem dX8_beganOf_119 : decode cX8_beganOf 119 = .ok (.iastore, 1) := by decide +kernel
theorem dX8_beganOf_120 : decode cX8_beganOf 120 = .ok (.aload_n 0, 1) := by decide +kernel
theorem dX8_beganOf_121 : decode cX8_beganOf 121 = .ok (.getfield 59, 3) := by decide +kernel
theorem dX8_beganOf_124 : decode cX8_beganOf 124 = .ok (.iload 6, 2) := by decide +kernel
theorem dX8_beganOf_126 : decode cX8_beganOf 126 = .ok (.aload_n 0, 1) := by decide +kernel
theorem dX8_beganOf_127 : decode cX8_beganOf 127 = .ok (.getfield 59, 3) := by decide +kernel
theorem dX8_beganOf_130 : decode cX8_beganOf 130 = .ok (.iload 5, 2) := by decide +kernel
theorem dX8_beganOf_132 : decode cX8_beganOf 132 = .ok (.iaload, 1) := by decide +kernel
theorem dX8_beganOf_133 : decode cX8_beganOf 133 = .ok (.iconst 1, 1) := by decide +kernel
theorem dX8_beganOf_134 : decode cX8_beganOf 134 = .ok (.iadd, 1) := by decide +kernel
theorem dX8_beganOf_135 : decode cX8_beganOf 135 = .ok (.aload_n 0, 1) := by decide +kernel
theorem dX8_beganOf_136 : decode cX8_beganOf 136 = .ok (.getfield 59, 3) := by decide +kernel
theorem dX8_beganOf_139 : decode cX8_beganOf 139 = .ok (.iload 6, 2) := by decide +kernel
theorem dX8_beganOf_141 : decode cX8_beganOf 141 = .ok (.iaload, 1) := by decide +kernel
theorem dX8_beganOf_142 : decode cX8_beganOf 142 = .ok (.if_icmp .ge 15, 3) := by decide +kernel
theorem dX8_beganOf_145 : decode cX8_beganOf 145 = .ok (.aload_n 0, 1) := by decide +kernel
theorem dX8_beganOf_146 : decode cX8_beganOf 146 = .ok (.getfield 59, 3) := by decide +kernel
theorem dX8_beganOf_149 : decode cX8_beganOf 149 = .ok (.iload 5, 2) := by decide +kernel
theorem dX8_beganOf_151 : decode cX8_beganOf 151 = .ok (.iaload, 1) := by decide +kernel
theorem dX8_beganOf_152 : decode cX8_beganOf 152 = .ok (.iconst 1, 1) := by decide +kernel
theorem dX8_beganOf_153 : decode cX8_beganOf 153 = .ok (.iadd, 1) := by decide +kernel
theorem dX8_beganOf_154 : decode cX8_beganOf 154 = .ok (.goto 10, 3) := by decide +kernel
theorem dX8_beganOf_157 : decode cX8_beganOf 157 = .ok (.aload_n 0, 1) := by decide +kernel
theorem dX8_beganOf_158 : decode cX8_beganOf 158 = .ok (.getfield 59, 3) := by decide +kernel
theorem dX8_beganOf_161 : decode cX8_beganOf 161 = .ok (.iload 6, 2) := by decide +kernel
theorem dX8_beganOf_163 : decode cX8_beganOf 163 = .ok (.iaload, 1) := by decide +kernel
theorem dX8_beganOf_164 : decode cX8_beganOf 164 = .ok (.iastore, 1) := by decide +kernel
theorem dX8_beganOf_165 : decode cX8_beganOf 165 = .ok (.iinc 4 1, 3) := by decide +kernel
theorem dX8_beganOf_168 : decode cX8_beganOf 168 = .ok (.goto (-126), 3) := by decide +kernel
theorem dX8_beganOf_171 : decode cX8_beganOf 171 = .ok (.iinc 3 1, 3) := by decide +kernel
theorem dX8_beganOf_174 : decode cX8_beganOf 174 = .ok (.goto (-141), 3) := by decide +kernel
theorem dX8_beganOf_177 : decode cX8_beganOf 177 = .ok (.aload_n 0, 1) := by decide +kernel
theorem dX8_beganOf_178 : decode cX8_beganOf 178 = .ok (.iload_n 1, 1) := by decide +kernel
theorem dX8_beganOf_179 : decode cX8_beganOf 179 = .ok (.invokevirtual 200, 3) := by decide +kernel
theorem dX8_beganOf_182 : decode cX8_beganOf 182 = .ok (.pop, 1) := by decide +kernel
theorem dX8_beganOf_183 : decode cX8_beganOf 183 = .ok (.aload_n 0, 1) := by decide +kernel
theorem dX8_beganOf_184 : decode cX8_beganOf 184 = .ok (.getfield 40, 3) := by decide +kernel
theorem dX8_beganOf_187 : decode cX8_beganOf 187 = .ok (.iconst 0, 1) := by decide +kernel
theorem dX8_beganOf_188 : decode cX8_beganOf 188 = .ok (.iaload, 1) := by decide +kernel
theorem dX8_beganOf_189 : decode cX8_beganOf 189 = .ok (.istore_n 3, 1) := by decide +kernel
theorem dX8_beganOf_190 : decode cX8_beganOf 190 = .ok (.aload_n 0, 1) := by decide +kernel
theorem dX8_beganOf_191 : decode cX8_beganOf 191 = .ok (.getfield 59, 3) := by decide +kernel
theorem dX8_beganOf_194 : decode cX8_beganOf 194 = .ok (.iload_n 3, 1) := by decide +kernel
theorem dX8_beganOf_195 : decode cX8_beganOf 195 = .ok (.iaload, 1) := by decide +kernel
theorem dX8_beganOf_196 : decode cX8_beganOf 196 = .ok (.istore 4, 2) := by decide +kernel
theorem dX8_beganOf_198 : decode cX8_beganOf 198 = .ok (.iconst 0, 1) := by decide +kernel
theorem dX8_beganOf_199 : decode cX8_beganOf 199 = .ok (.istore 5, 2) := by decide +kernel
theorem dX8_beganOf_201 : decode cX8_beganOf 201 = .ok (.iload 5, 2) := by decide +kernel
theorem dX8_beganOf_203 : decode cX8_beganOf 203 = .ok (.aload_n 0, 1) := by decide +kernel
theorem dX8_beganOf_204 : decode cX8_beganOf 204 = .ok (.getfield 150, 3) := by decide +kernel
theorem dX8_beganOf_207 : decode cX8_beganOf 207 = .ok (.if_icmp .ge 46, 3) := by decide +kernel
theorem dX8_beganOf_210 : decode cX8_beganOf 210 = .ok (.aload_n 0, 1) := by decide +kernel
theorem dX8_beganOf_211 : decode cX8_beganOf 211 = .ok (.aload_n 0, 1) := by decide +kernel
theorem dX8_beganOf_212 : decode cX8_beganOf 212 = .ok (.getfield 43, 3) := by decide +kernel
theorem dX8_beganOf_215 : decode cX8_beganOf 215 = .ok (.iload 5, 2) := by decide +kernel
theorem dX8_beganOf_217 : decode cX8_beganOf 217 = .ok (.iaload, 1) := by decide +kernel
theorem dX8_beganOf_218 : decode cX8_beganOf 218 = .ok (.iload_n 3, 1) := by decide +kernel
theorem dX8_beganOf_219 : decode cX8_beganOf 219 = .ok (.invokevirtual 156, 3) := by decide +kernel
theorem dX8_beganOf_222 : decode cX8_beganOf 222 = .ok (.istore_n 3, 1) := by decide +kernel
theorem dX8_beganOf_223 : decode cX8_beganOf 223 = .ok (.aload_n 0, 1) := by decide +kernel
theorem dX8_beganOf_224 : decode cX8_beganOf 224 = .ok (.getfield 59, 3) := by decide +kernel
theorem dX8_beganOf_227 : decode cX8_beganOf 227 = .ok (.iload_n 3, 1) := by decide +kernel
theorem dX8_beganOf_228 : decode cX8_beganOf 228 = .ok (.iaload, 1) := by decide +kernel
theorem dX8_beganOf_229 : decode cX8_beganOf 229 = .ok (.iload 4, 2) := by decide +kernel
theorem dX8_beganOf_231 : decode cX8_beganOf 231 = .ok (.if_icmp .ge 12, 3) := by decide +kernel
theorem dX8_beganOf_234 : decode cX8_beganOf 234 = .ok (.aload_n 0, 1) := by decide +kernel
theorem dX8_beganOf_235 : decode cX8_beganOf 235 = .ok (.getfield 59, 3) := by decide +kernel
theorem dX8_beganOf_238 : decode cX8_beganOf 238 = .ok (.iload_n 3, 1) := by decide +kernel
theorem dX8_beganOf_239 : decode cX8_beganOf 239 = .ok (.iaload, 1) := by decide +kernel
theorem dX8_beganOf_240 : decode cX8_beganOf 240 = .ok (.goto 5, 3) := by decide +kernel
theorem dX8_beganOf_243 : decode cX8_beganOf 243 = .ok (.iload 4, 2) := by decide +kernel
theorem dX8_beganOf_245 : decode cX8_beganOf 245 = .ok (.istore 4, 2) := by decide +kernel
theorem dX8_beganOf_247 : decode cX8_beganOf 247 = .ok (.iinc 5 1, 3) := by decide +kernel
theorem dX8_beganOf_250 : decode cX8_beganOf 250 = .ok (.goto (-49), 3) := by decide +kernel
theorem dX8_beganOf_253 : decode cX8_beganOf 253 = .ok (.iload 4, 2) := by decide +kernel
theorem dX8_beganOf_255 : decode cX8_beganOf 255 = .ok (.ldc 244, 2) := by decide +kernel
theorem dX8_beganOf_257 : decode cX8_beganOf 257 = .ok (.if_icmp .lt 7, 3) := by decide +kernel
theorem dX8_beganOf_260 : decode cX8_beganOf 260 = .ok (.iconst (-1), 1) := by decide +kernel
theorem dX8_beganOf_261 : decode cX8_beganOf 261 = .ok (.goto 12, 3) := by decide +kernel
theorem dX8_beganOf_264 : decode cX8_beganOf 264 = .ok (.aload_n 0, 1) := by decide +kernel
theorem dX8_beganOf_265 : decode cX8_beganOf 265 = .ok (.getfield 150, 3) := by decide +kernel
theorem dX8_beganOf_268 : decode cX8_beganOf 268 = .ok (.iconst 2, 1) := by decide +kernel
theorem dX8_beganOf_269 : decode cX8_beganOf 269 = .ok (.iload 4, 2) := by decide +kernel
theorem dX8_beganOf_271 : decode cX8_beganOf 271 = .ok (.imul, 1) := by decide +kernel
theorem dX8_beganOf_272 : decode cX8_beganOf 272 = .ok (.iadd, 1) := by decide +kernel
theorem dX8_beganOf_273 : decode cX8_beganOf 273 = .ok (.ireturn, 1) := by decide +kernel
theorem dX8_began_0 : decode cX8_began 0 = .ok (.aload_n 0, 1) := by decide +kernel
theorem dX8_began_1 : decode cX8_began 1 = .ok (.invokevirtual 129, 3) := by decide +kernel
theorem dX8_began_4 : decode cX8_began 4 = .ok (.pop, 1) := by decide +kernel
theorem dX8_began_5 : decode cX8_began 5 = .ok (.iload_n 1, 1) := by decide +kernel
theorem dX8_began_6 : decode cX8_began 6 = .ok (.invokestatic 135, 3) := by decide +kernel
theorem dX8_began_9 : decode cX8_began 9 = .ok (.ifCond .eq 19, 3) := by decide +kernel
theorem dX8_began_12 : decode cX8_began 12 = .ok (.iload_n 2, 1) := by decide +kernel
theorem dX8_began_13 : decode cX8_began 13 = .ok (.invokestatic 138, 3) := by decide +kernel
theorem dX8_began_16 : decode cX8_began 16 = .ok (.ifCond .eq 12, 3) := by decide +kernel
theorem dX8_began_19 : decode cX8_began 19 = .ok (.aload_n 0, 1) := by decide +kernel
theorem dX8_began_20 : decode cX8_began 20 = .ok (.iload_n 1, 1) := by decide +kernel
theorem dX8_began_21 : decode cX8_began 21 = .ok (.iload_n 2, 1) := by decide +kernel
theorem dX8_began_22 : decode cX8_began 22 = .ok (.invokevirtual 245, 3) := by decide +kernel
theorem dX8_began_25 : decode cX8_began 25 = .ok (.goto 5, 3) := by decide +kernel
theorem dX8_began_28 : decode cX8_began 28 = .ok (.bipush (-2), 2) := by decide +kernel
theorem dX8_began_30 : decode cX8_began 30 = .ok (.ireturn, 1) := by decide +kernel
theorem dX8_enters_0 : decode cX8_enters 0 = .ok (.aload_n 0, 1) := by decide +kernel
theorem dX8_enters_1 : decode cX8_enters 1 = .ok (.getfield 62, 3) := by decide +kernel
theorem dX8_enters_4 : decode cX8_enters 4 = .ok (.iload_n 1, 1) := by decide +kernel
theorem dX8_enters_5 : decode cX8_enters 5 = .ok (.lload_n 2, 1) := by decide +kernel
theorem dX8_enters_6 : decode cX8_enters 6 = .ok (.lastore, 1) := by decide +kernel
theorem dX8_enters_7 : decode cX8_enters 7 = .ok (.aload_n 0, 1) := by decide +kernel
theorem dX8_enters_8 : decode cX8_enters 8 = .ok (.getfield 65, 3) := by decide +kernel
theorem dX8_enters_11 : decode cX8_enters 11 = .ok (.iload_n 1, 1) := by decide +kernel
theorem dX8_enters_12 : decode cX8_enters 12 = .ok (.iload 4, 2) := by decide +kernel
theorem dX8_enters_14 : decode cX8_enters 14 = .ok (.iastore, 1) := by decide +kernel
theorem dX8_enters_15 : decode cX8_enters 15 = .ok (.aload_n 0, 1) := by decide +kernel
theorem dX8_enters_16 : decode cX8_enters 16 = .ok (.getfield 68, 3) := by decide +kernel
theorem dX8_enters_19 : decode cX8_enters 19 = .ok (.iload_n 1, 1) := by decide +kernel
theorem dX8_enters_20 : decode cX8_enters 20 = .ok (.iload 5, 2) := by decide +kernel
theorem dX8_enters_22 : decode cX8_enters 22 = .ok (.iastore, 1) := by decide +kernel
theorem dX8_enters_23 : decode cX8_enters 23 = .ok (.aload_n 0, 1) := by decide +kernel
theorem dX8_enters_24 : decode cX8_enters 24 = .ok (.getfield 71, 3) := by decide +kernel
theorem dX8_enters_27 : decode cX8_enters 27 = .ok (.iload_n 1, 1) := by decide +kernel
theorem dX8_enters_28 : decode cX8_enters 28 = .ok (.bipush (-2), 2) := by decide +kernel
theorem dX8_enters_30 : decode cX8_enters 30 = .ok (.iastore, 1) := by decide +kernel
theorem dX8_enters_31 : decode cX8_enters 31 = .ok (.return_, 1) := by decide +kernel
theorem dX8_mayPick_0 : decode cX8_mayPick 0 = .ok (.iload_n 2, 1) := by decide +kernel
theorem dX8_mayPick_1 : decode cX8_mayPick 1 = .ok (.iconst (-1), 1) := by decide +kernel
theorem dX8_mayPick_2 : decode cX8_mayPick 2 = .ok (.if_icmp .eq 32, 3) := by decide +kernel
theorem dX8_mayPick_5 : decode cX8_mayPick 5 = .ok (.aload_n 0, 1) := by decide +kernel
theorem dX8_mayPick_6 : decode cX8_mayPick 6 = .ok (.iload_n 2, 1) := by decide +kernel
theorem dX8_mayPick_7 : decode cX8_mayPick 7 = .ok (.aload_n 0, 1) := by decide +kernel
theorem dX8_mayPick_8 : decode cX8_mayPick 8 = .ok (.getfield 40, 3) := by decide +kernel
theorem dX8_mayPick_11 : decode cX8_mayPick 11 = .ok (.iload_n 1, 1) := by decide +kernel
theorem dX8_mayPick_12 : decode cX8_mayPick 12 = .ok (.iaload, 1) := by decide +kernel
theorem dX8_mayPick_13 : decode cX8_mayPick 13 = .ok (.invokevirtual 173, 3) := by decide +kernel
theorem dX8_mayPick_16 : decode cX8_mayPick 16 = .ok (.ifCond .eq 22, 3) := by decide +kernel
theorem dX8_mayPick_19 : decode cX8_mayPick 19 = .ok (.aload_n 0, 1) := by decide +kernel
theorem dX8_mayPick_20 : decode cX8_mayPick 20 = .ok (.iload_n 1, 1) := by decide +kernel
theorem dX8_mayPick_21 : decode cX8_mayPick 21 = .ok (.iload_n 2, 1) := by decide +kernel
theorem dX8_mayPick_22 : decode cX8_mayPick 22 = .ok (.invokevirtual 177, 3) := by decide +kernel
theorem dX8_mayPick_25 : decode cX8_mayPick 25 = .ok (.aload_n 0, 1) := by decide +kernel
theorem dX8_mayPick_26 : decode cX8_mayPick 26 = .ok (.getfield 34, 3) := by decide +kernel
theorem dX8_mayPick_29 : decode cX8_mayPick 29 = .ok (.iconst 2, 1) := by decide +kernel
theorem dX8_mayPick_30 : decode cX8_mayPick 30 = .ok (.iaload, 1) := by decide +kernel
theorem dX8_mayPick_31 : decode cX8_mayPick 31 = .ok (.if_icmp .gt 7, 3) := by decide +kernel
theorem dX8_mayPick_34 : decode cX8_mayPick 34 = .ok (.iconst 1, 1) := by decide +kernel
theorem dX8_mayPick_35 : decode cX8_mayPick 35 = .ok (.goto 4, 3) := by decide +kernel
theorem dX8_mayPick_38 : decode cX8_mayPick 38 = .ok (.iconst 0, 1) := by decide +kernel
theorem dX8_mayPick_39 : decode cX8_mayPick 39 = .ok (.ireturn, 1) := by decide +kernel
theorem dX8_gameOf_0 : decode cX8_gameOf 0 = .ok (.aload_n 0, 1) := by decide +kernel
theorem dX8_gameOf_1 : decode cX8_gameOf 1 = .ok (.iload_n 1, 1) := by decide +kernel
theorem dX8_gameOf_2 : decode cX8_gameOf 2 = .ok (.invokevirtual 200, 3) := by decide +kernel
theorem dX8_gameOf_5 : decode cX8_gameOf 5 = .ok (.pop, 1) := by decide +kernel
theorem dX8_gameOf_6 : decode cX8_gameOf 6 = .ok (.iconst 0, 1) := by decide +kernel
theorem dX8_gameOf_7 : decode cX8_gameOf 7 = .ok (.istore 4, 2) := by decide +kernel
theorem dX8_gameOf_9 : decode cX8_gameOf 9 = .ok (.iconst (-1), 1) := by decide +kernel
theorem dX8_gameOf_10 : decode cX8_gameOf 10 = .ok (.istore 5, 2) := by decide +kernel
theorem dX8_gameOf_12 : decode cX8_gameOf 12 = .ok (.iconst 0, 1) := by decide +kernel
theorem dX8_gameOf_13 : decode cX8_gameOf 13 = .ok (.istore 6, 2) := by decide +kernel
theorem dX8_gameOf_15 : decode cX8_gameOf 15 = .ok (.aload_n 0, 1) := by decide +kernel
theorem dX8_gameOf_16 : decode cX8_gameOf 16 = .ok (.iconst 0, 1) := by decide +kernel
theorem dX8_gameOf_17 : decode cX8_gameOf 17 = .ok (.aload_n 0, 1) := by decide +kernel
theorem dX8_gameOf_18 : decode cX8_gameOf 18 = .ok (.invokevirtual 220, 3) := by decide +kernel
theorem dX8_gameOf_21 : decode cX8_gameOf 21 = .ok (.aload_n 0, 1) := by decide +kernel
theorem dX8_gameOf_22 : decode cX8_gameOf 22 = .ok (.getfield 162, 3) := by decide +kernel
theorem dX8_gameOf_25 : decode cX8_gameOf 25 = .ok (.iconst 0, 1) := by decide +kernel
theorem dX8_gameOf_26 : decode cX8_gameOf 26 = .ok (.invokevirtual 248, 3) := by decide +kernel
theorem dX8_gameOf_29 : decode cX8_gameOf 29 = .ok (.iload 4, 2) := by decide +kernel
theorem dX8_gameOf_31 : decode cX8_gameOf 31 = .ok (.ifCond .lt 396, 3) := by decide +kernel
theorem dX8_gameOf_34 : decode cX8_gameOf 34 = .ok (.iload 4, 2) := by decide +kernel
theorem dX8_gameOf_36 : decode cX8_gameOf 36 = .ok (.iconst 2, 1) := by decide +kernel
theorem dX8_gameOf_37 : decode cX8_gameOf 37 = .ok (.irem, 1) := by decide +kernel
theorem dX8_gameOf_38 : decode cX8_gameOf 38 = .ok (.istore 7, 2) := by decide +kernel
theorem dX8_gameOf_40 : decode cX8_gameOf 40 = .ok (.aload_n 0, 1) := by decide +kernel
theorem dX8_gameOf_41 : decode cX8_gameOf 41 = .ok (.aload_n 0, 1) := by decide +kernel
theorem dX8_gameOf_42 : decode cX8_gameOf 42 = .ok (.getfield 62, 3) := by decide +kernel
theorem dX8_gameOf_45 : decode cX8_gameOf 45 = .ok (.iload 4, 2) := by decide +kernel
theorem dX8_gameOf_47 : decode cX8_gameOf 47 = .ok (.laload, 1) := by decide +kernel
theorem dX8_gameOf_48 : decode cX8_gameOf 48 = .ok (.invokevirtual 228, 3) := by decide +kernel
theorem dX8_gameOf_51 : decode cX8_gameOf 51 = .ok (.aload_n 0, 1) := by decide +kernel
theorem dX8_gameOf_52 : decode cX8_gameOf 52 = .ok (.getfield 71, 3) := by decide +kernel
theorem dX8_gameOf_55 : decode cX8_gameOf 55 = .ok (.iload 4, 2) := by decide +kernel
theorem dX8_gameOf_57 : decode cX8_gameOf 57 = .ok (.dup2, 1) := by decide +kernel
theorem dX8_gameOf_58 : decode cX8_gameOf 58 = .ok (.iaload, 1) := by decide +kernel
theorem dX8_gameOf_59 : decode cX8_gameOf 59 = .ok (.iconst 1, 1) := by decide +kernel
theorem dX8_gameOf_60 : decode cX8_gameOf 60 = .ok (.iadd, 1) := by decide +kernel
theorem dX8_gameOf_61 : decode cX8_gameOf 61 = .ok (.iastore, 1) := by decide +kernel
theorem dX8_gameOf_62 : decode cX8_gameOf 62 = .ok (.aload_n 0, 1) := by decide +kernel
theorem dX8_gameOf_63 : decode cX8_gameOf 63 = .ok (.getfield 71, 3) := by decide +kernel
theorem dX8_gameOf_66 : decode cX8_gameOf 66 = .ok (.iload 4, 2) := by decide +kernel
theorem dX8_gameOf_68 : decode cX8_gameOf 68 = .ok (.iaload, 1) := by decide +kernel
theorem dX8_gameOf_69 : decode cX8_gameOf 69 = .ok (.ifCond .lt 47, 3) := by decide +kernel
theorem dX8_gameOf_72 : decode cX8_gameOf 72 = .ok (.aload_n 0, 1) := by decide +kernel
theorem dX8_gameOf_73 : decode cX8_gameOf 73 = .ok (.getfield 71, 3) := by decide +kernel
theorem dX8_gameOf_76 : decode cX8_gameOf 76 = .ok (.iload 4, 2) := by decide +kernel
theorem dX8_gameOf_78 : decode cX8_gameOf 78 = .ok (.iaload, 1) := by decide +kernel
theorem dX8_gameOf_79 : decode cX8_gameOf 79 = .ok (.aload_n 0, 1) := by decide +kernel
theorem dX8_gameOf_80 : decode cX8_gameOf 80 = .ok (.getfield 111, 3) := by decide +kernel
theorem dX8_gameOf_83 : decode cX8_gameOf 83 = .ok (.if_icmp .ge 33, 3) := by decide +kernel
theorem dX8_gameOf_86 : decode cX8_gameOf 86 = .ok (.aload_n 0, 1) := by decide +kernel
theorem dX8_gameOf_87 : decode cX8_gameOf 87 = .ok (.iload 7, 2) := by decide +kernel
theorem dX8_gameOf_89 : decode cX8_gameOf 89 = .ok (.aload_n 0, 1) := by decide +kernel
theorem dX8_gameOf_90 : decode cX8_gameOf 90 = .ok (.getfield 71, 3) := by decide +kernel
theorem dX8_gameOf_93 : decode cX8_gameOf 93 = .ok (.iload 4, 2) := by decide +kernel
theorem dX8_gameOf_95 : decode cX8_gameOf 95 = .ok (.iaload, 1) := by decide +kernel
theorem dX8_gameOf_96 : decode cX8_gameOf 96 = .ok (.invokevirtual 252, 3) := by decide +kernel
theorem dX8_gameOf_99 : decode cX8_gameOf 99 = .ok (.ifCond .ne 17, 3) := by decide +kernel
theorem dX8_gameOf_102 : decode cX8_gameOf 102 = .ok (.aload_n 0, 1) := by decide +kernel
theorem dX8_gameOf_103 : decode cX8_gameOf 103 = .ok (.getfield 71, 3) := by decide +kernel
theorem dX8_gameOf_106 : decode cX8_gameOf 106 = .ok (.iload 4, 2) := by decide +kernel
theorem dX8_gameOf_108 : decode cX8_gameOf 108 = .ok (.dup2, 1) := by decide +kernel
theorem dX8_gameOf_109 : decode cX8_gameOf 109 = .ok (.iaload, 1) := by decide +kernel
theorem dX8_gameOf_110 : decode cX8_gameOf 110 = .ok (.iconst 1, 1) := by decide +kernel
theorem dX8_gameOf_111 : decode cX8_gameOf 111 = .ok (.iadd, 1) := by decide +kernel
theorem dX8_gameOf_112 : decode cX8_gameOf 112 = .ok (.iastore, 1) := by decide +kernel
theorem dX8_gameOf_113 : decode cX8_gameOf 113 = .ok (.goto (-51), 3) := by decide +kernel
theorem dX8_gameOf_116 : decode cX8_gameOf 116 = .ok (.iload 4, 2) := by decide +kernel
theorem dX8_gameOf_118 : decode cX8_gameOf 118 = .ok (.iload_n 2, 1) := by decide +kernel
theorem dX8_gameOf_119 : decode cX8_gameOf 119 = .ok (.if_icmp .eq 27, 3) := by decide +kernel
theorem dX8_gameOf_122 : decode cX8_gameOf 122 = .ok (.aload_n 0, 1) := by decide +kernel
theorem dX8_gameOf_123 : decode cX8_gameOf 123 = .ok (.getfield 71, 3) := by decide +kernel
theorem dX8_gameOf_126 : decode cX8_gameOf 126 = .ok (.iload 4, 2) := by decide +kernel
theorem dX8_gameOf_128 : decode cX8_gameOf 128 = .ok (.iaload, 1) := by decide +kernel
theorem dX8_gameOf_129 : decode cX8_gameOf 129 = .ok (.ifCond .lt 21, 3) := by decide +kernel
theorem dX8_gameOf_132 : decode cX8_gameOf 132 = .ok (.aload_n 0, 1) := by decide +kernel
theorem dX8_gameOf_133 : decode cX8_gameOf 133 = .ok (.getfield 71, 3) := by decide +kernel
theorem dX8_gameOf_136 : decode cX8_gameOf 136 = .ok (.iload 4, 2) := by decide +kernel
theorem dX8_gameOf_138 : decode cX8_gameOf 138 = .ok (.iaload, 1) := by decide +kernel
theorem dX8_gameOf_139 : decode cX8_gameOf 139 = .ok (.aload_n 0, 1) := by decide +kernel
theorem dX8_gameOf_140 : decode cX8_gameOf 140 = .ok (.getfield 111, 3) := by decide +kernel
theorem dX8_gameOf_143 : decode cX8_gameOf 143 = .ok (.if_icmp .lt 7, 3) := by decide +kernel
theorem dX8_gameOf_146 : decode cX8_gameOf 146 = .ok (.iconst 1, 1) := by decide +kernel
theorem dX8_gameOf_147 : decode cX8_gameOf 147 = .ok (.goto 4, 3) := by decide +kernel
theorem dX8_gameOf_150 : decode cX8_gameOf 150 = .ok (.iconst 0, 1) := by decide +kernel
theorem dX8_gameOf_151 : decode cX8_gameOf 151 = .ok (.istore 8, 2) := by decide +kernel
theorem dX8_gameOf_153 : decode cX8_gameOf 153 = .ok (.iload 8, 2) := by decide +kernel
theorem dX8_gameOf_155 : decode cX8_gameOf 155 = .ok (.ifCond .eq 150, 3) := by decide +kernel
theorem dX8_gameOf_158 : decode cX8_gameOf 158 = .ok (.iload 4, 2) := by decide +kernel
theorem dX8_gameOf_160 : decode cX8_gameOf 160 = .ok (.iload_n 2, 1) := by decide +kernel
theorem dX8_gameOf_161 : decode cX8_gameOf 161 = .ok (.if_icmp .ne 13, 3) := by decide +kernel
theorem dX8_gameOf_164 : decode cX8_gameOf 164 = .ok (.aload_n 0, 1) := by decide +kernel
theorem dX8_gameOf_165 : decode cX8_gameOf 165 = .ok (.getfield 68, 3) := by decide +kernel
theorem dX8_gameOf_168 : decode cX8_gameOf 168 = .ok (.iload 4, 2) := by decide +kernel
theorem dX8_gameOf_170 : decode cX8_gameOf 170 = .ok (.iaload, 1) := by decide +kernel
theorem dX8_gameOf_171 : decode cX8_gameOf 171 = .ok (.goto 10, 3) := by decide +kernel
theorem dX8_gameOf_174 : decode cX8_gameOf 174 = .ok (.aload_n 0, 1) := by decide +kernel
theorem dX8_gameOf_175 : decode cX8_gameOf 175 = .ok (.getfield 74, 3) := by decide +kernel
theorem dX8_gameOf_178 : decode cX8_gameOf 178 = .ok (.iload 4, 2) := by decide +kernel
theorem dX8_gameOf_180 : decode cX8_gameOf 180 = .ok (.iaload, 1) := by decide +kernel
theorem dX8_gameOf_181 : decode cX8_gameOf 181 = .ok (.istore 6, 2) := by decide +kernel
theorem dX8_gameOf_183 : decode cX8_gameOf 183 = .ok (.iinc 4 (-1), 3) := by decide +kernel
theorem dX8_gameOf_186 : decode cX8_gameOf 186 = .ok (.iload 4, 2) := by decide +kernel
theorem dX8_gameOf_188 : decode cX8_gameOf 188 = .ok (.ifCond .lt 236, 3) := by decide +kernel
theorem dX8_gameOf_191 : decode cX8_gameOf 191 = .ok (.aload_n 0, 1) := by decide +kernel
theorem dX8_gameOf_192 : decode cX8_gameOf 192 = .ok (.getfield 71, 3) := by decide +kernel
theorem dX8_gameOf_195 : decode cX8_gameOf 195 = .ok (.iload 4, 2) := by decide +kernel
theorem dX8_gameOf_197 : decode cX8_gameOf 197 = .ok (.iaload, 1) := by decide +kernel
theorem dX8_gameOf_198 : decode cX8_gameOf 198 = .ok (.iconst (-1), 1) := by decide +kernel
theorem dX8_gameOf_199 : decode cX8_gameOf 199 = .ok (.if_icmp .ne 7, 3) := by decide +kernel
theorem dX8_gameOf_202 : decode cX8_gameOf 202 = .ok (.iconst 1, 1) := by decide +kernel
theorem dX8_gameOf_203 : decode cX8_gameOf 203 = .ok (.goto 4, 3) := by decide +kernel
theorem dX8_gameOf_206 : decode cX8_gameOf 206 = .ok (.iconst 0, 1) := by decide +kernel
theorem dX8_gameOf_207 : decode cX8_gameOf 207 = .ok (.istore 9, 2) := by decide +kernel
theorem dX8_gameOf_209 : decode cX8_gameOf 209 = .ok (.iload 9, 2) := by decide +kernel
theorem dX8_gameOf_211 : decode cX8_gameOf 211 = .ok (.ifCond .ne 37, 3) := by decide +kernel
theorem dX8_gameOf_214 : decode cX8_gameOf 214 = .ok (.iload 4, 2) := by decide +kernel
theorem dX8_gameOf_216 : decode cX8_gameOf 216 = .ok (.iconst 2, 1) := by decide +kernel
theorem dX8_gameOf_217 : decode cX8_gameOf 217 = .ok (.irem, 1) := by decide +kernel
theorem dX8_gameOf_218 : decode cX8_gameOf 218 = .ok (.ifCond .ne 18, 3) := by decide +kernel
theorem dX8_gameOf_221 : decode cX8_gameOf 221 = .ok (.iload 6, 2) := by decide +kernel
theorem dX8_gameOf_223 : decode cX8_gameOf 223 = .ok (.aload_n 0, 1) := by decide +kernel
theorem dX8_gameOf_224 : decode cX8_gameOf 224 = .ok (.getfield 74, 3) := by decide +kernel
theorem dX8_gameOf_227 : decode cX8_gameOf 227 = .ok (.iload 4, 2) := by decide +kernel
theorem dX8_gameOf_229 : decode cX8_gameOf 229 = .ok (.iaload, 1) := by decide +kernel
theorem dX8_gameOf_230 : decode cX8_gameOf 230 = .ok (.if_icmp .le 22, 3) := by decide +kernel
theorem dX8_gameOf_233 : decode cX8_gameOf 233 = .ok (.goto 15, 3) := by decide +kernel
theorem dX8_gameOf_236 : decode cX8_gameOf 236 = .ok (.iload 6, 2) := by decide +kernel
theorem dX8_gameOf_238 : decode cX8_gameOf 238 = .ok (.aload_n 0, 1) := by decide +kernel
theorem dX8_gameOf_239 : decode cX8_gameOf 239 = .ok (.getfield 74, 3) := by decide +kernel
theorem dX8_gameOf_242 : decode cX8_gameOf 242 = .ok (.iload 4, 2) := by decide +kernel
theorem dX8_gameOf_244 : decode cX8_gameOf 244 = .ok (.iaload, 1) := by decide +kernel
theorem dX8_gameOf_245 : decode cX8_gameOf 245 = .ok (.if_icmp .ge 7, 3) := by decide +kernel
theorem dX8_gameOf_248 : decode cX8_gameOf 248 = .ok (.iconst 1, 1) := by decide +kernel
theorem dX8_gameOf_249 : decode cX8_gameOf 249 = .ok (.goto 4, 3) := by decide +kernel
theorem dX8_gameOf_252 : decode cX8_gameOf 252 = .ok (.iconst 0, 1) := by decide +kernel
theorem dX8_gameOf_253 : decode cX8_gameOf 253 = .ok (.istore 10, 2) := by decide +kernel
theorem dX8_gameOf_255 : decode cX8_gameOf 255 = .ok (.iload 10, 2) := by decide +kernel
theorem dX8_gameOf_257 : decode cX8_gameOf 257 = .ok (.ifCond .eq 17, 3) := by decide +kernel
theorem dX8_gameOf_260 : decode cX8_gameOf 260 = .ok (.iload 4, 2) := by decide +kernel
theorem dX8_gameOf_262 : decode cX8_gameOf 262 = .ok (.ifCond .ne 12, 3) := by decide +kernel
theorem dX8_gameOf_265 : decode cX8_gameOf 265 = .ok (.aload_n 0, 1) := by decide +kernel
theorem dX8_gameOf_266 : decode cX8_gameOf 266 = .ok (.getfield 71, 3) := by decide +kernel
theorem dX8_gameOf_269 : decode cX8_gameOf 269 = .ok (.iconst 0, 1) := by decide +kernel
theorem dX8_gameOf_270 : decode cX8_gameOf 270 = .ok (.iaload, 1) := by decide +kernel
theorem dX8_gameOf_271 : decode cX8_gameOf 271 = .ok (.goto 5, 3) := by decide +kernel
theorem dX8_gameOf_274 : decode cX8_gameOf 274 = .ok (.iload 5, 2) := by decide +kernel
theorem dX8_gameOf_276 : decode cX8_gameOf 276 = .ok (.istore 5, 2) := by decide +kernel
theorem dX8_gameOf_278 : decode cX8_gameOf 278 = .ok (.aload_n 0, 1) := by decide +kernel
theorem dX8_gameOf_279 : decode cX8_gameOf 279 = .ok (.getfield 74, 3) := by decide +kernel
theorem dX8_gameOf_282 : decode cX8_gameOf 282 = .ok (.iload 4, 2) := by decide +kernel
theorem dX8_gameOf_284 : decode cX8_gameOf 284 = .ok (.iload 10, 2) := by decide +kernel
theorem dX8_gameOf_286 : decode cX8_gameOf 286 = .ok (.ifCond .eq 8, 3) := by decide +kernel
theorem dX8_gameOf_289 : decode cX8_gameOf 289 = .ok (.iload 6, 2) := by decide +kernel
theorem dX8_gameOf_291 : decode cX8_gameOf 291 = .ok (.goto 10, 3) := by decide +kernel
theorem dX8_gameOf_294 : decode cX8_gameOf 294 = .ok (.aload_n 0, 1) := by decide +kernel
theorem dX8_gameOf_295 : decode cX8_gameOf 295 = .ok (.getfield 74, 3) := by decide +kernel
theorem dX8_gameOf_298 : decode cX8_gameOf 298 = .ok (.iload 4, 2) := by decide +kernel
theorem dX8_gameOf_300 : decode cX8_gameOf 300 = .ok (.iaload, 1) := by decide +kernel
theorem dX8_gameOf_301 : decode cX8_gameOf 301 = .ok (.iastore, 1) := by decide +kernel
theorem dX8_gameOf_302 : decode cX8_gameOf 302 = .ok (.goto 122, 3) := by decide +kernel
theorem dX8_gameOf_305 : decode cX8_gameOf 305 = .ok (.aload_n 0, 1) := by decide +kernel
theorem dX8_gameOf_306 : decode cX8_gameOf 306 = .ok (.getfield 71, 3) := by decide +kernel
theorem dX8_gameOf_309 : decode cX8_gameOf 309 = .ok (.iload 4, 2) := by decide +kernel
theorem dX8_gameOf_311 : decode cX8_gameOf 311 = .ok (.iaload, 1) := by decide +kernel
theorem dX8_gameOf_312 : decode cX8_gameOf 312 = .ok (.istore 9, 2) := by decide +kernel
theorem dX8_gameOf_314 : decode cX8_gameOf 314 = .ok (.aload_n 0, 1) := by decide +kernel
theorem dX8_gameOf_315 : decode cX8_gameOf 315 = .ok (.getfield 68, 3) := by decide +kernel
theorem dX8_gameOf_318 : decode cX8_gameOf 318 = .ok (.iload 4, 2) := by decide +kernel
theorem dX8_gameOf_320 : decode cX8_gameOf 320 = .ok (.iaload, 1) := by decide +kernel
theorem dX8_gameOf_321 : decode cX8_gameOf 321 = .ok (.istore 10, 2) := by decide +kernel
theorem dX8_gameOf_323 : decode cX8_gameOf 323 = .ok (.aload_n 0, 1) := by decide +kernel
theorem dX8_gameOf_324 : decode cX8_gameOf 324 = .ok (.getfield 65, 3) := by decide +kernel
theorem dX8_gameOf_327 : decode cX8_gameOf 327 = .ok (.iload 4, 2) := by decide +kernel
theorem dX8_gameOf_329 : decode cX8_gameOf 329 = .ok (.iaload, 1) := by decide +kernel
theorem dX8_gameOf_330 : decode cX8_gameOf 330 = .ok (.istore 11, 2) := by decide +kernel
theorem dX8_gameOf_332 : decode cX8_gameOf 332 = .ok (.iload 9, 2) := by decide +kernel
theorem dX8_gameOf_334 : decode cX8_gameOf 334 = .ok (.iconst (-1), 1) := by decide +kernel
theorem dX8_gameOf_335 : decode cX8_gameOf 335 = .ok (.if_icmp .eq 70, 3) := by decide +kernel
theorem dX8_gameOf_338 : decode cX8_gameOf 338 = .ok (.aload_n 0, 1) := by decide +kernel
theorem dX8_gameOf_339 : decode cX8_gameOf 339 = .ok (.iload 7, 2) := by decide +kernel
theorem dX8_gameOf_341 : decode cX8_gameOf 341 = .ok (.iload 9, 2) := by decide +kernel
theorem dX8_gameOf_343 : decode cX8_gameOf 343 = .ok (.invokevirtual 180, 3) := by decide +kernel
theorem dX8_gameOf_346 : decode cX8_gameOf 346 = .ok (.aload_n 0, 1) := by decide +kernel
theorem dX8_gameOf_347 : decode cX8_gameOf 347 = .ok (.getfield 40, 3) := by decide +kernel
theorem dX8_gameOf_350 : decode cX8_gameOf 350 = .ok (.iload 7, 2) := by decide +kernel
theorem dX8_gameOf_352 : decode cX8_gameOf 352 = .ok (.iaload, 1) := by decide +kernel
theorem dX8_gameOf_353 : decode cX8_gameOf 353 = .ok (.istore 12, 2) := by decide +kernel
theorem dX8_gameOf_355 : decode cX8_gameOf 355 = .ok (.iload 11, 2) := by decide +kernel
theorem dX8_gameOf_357 : decode cX8_gameOf 357 = .ok (.iload 12, 2) := by decide +kernel
theorem dX8_gameOf_359 : decode cX8_gameOf 359 = .ok (.ishr, 1) := by decide +kernel
theorem dX8_gameOf_360 : decode cX8_gameOf 360 = .ok (.iconst 1, 1) := by decide +kernel
theorem dX8_gameOf_361 : decode cX8_gameOf 361 = .ok (.iand, 1) := by decide +kernel
theorem dX8_gameOf_362 : decode cX8_gameOf 362 = .ok (.ifCond .ne 13, 3) := by decide +kernel
theorem dX8_gameOf_365 : decode cX8_gameOf 365 = .ok (.aload_n 0, 1) := by decide +kernel
theorem dX8_gameOf_366 : decode cX8_gameOf 366 = .ok (.getfield 37, 3) := by decide +kernel
theorem dX8_gameOf_369 : decode cX8_gameOf 369 = .ok (.iload 12, 2) := by decide +kernel
theorem dX8_gameOf_371 : decode cX8_gameOf 371 = .ok (.iaload, 1) := by decide +kernel
theorem dX8_gameOf_372 : decode cX8_gameOf 372 = .ok (.goto 4, 3) := by decide +kernel
theorem dX8_gameOf_375 : decode cX8_gameOf 375 = .ok (.iconst 0, 1) := by decide +kernel
theorem dX8_gameOf_376 : decode cX8_gameOf 376 = .ok (.istore 13, 2) := by decide +kernel
theorem dX8_gameOf_378 : decode cX8_gameOf 378 = .ok (.iload 10, 2) := by decide +kernel
theorem dX8_gameOf_380 : decode cX8_gameOf 380 = .ok (.iload 7, 2) := by decide +kernel
theorem dX8_gameOf_382 : decode cX8_gameOf 382 = .ok (.ifCond .ne 8, 3) := by decide +kernel
theorem dX8_gameOf_385 : decode cX8_gameOf 385 = .ok (.iload 13, 2) := by decide +kernel
theorem dX8_gameOf_387 : decode cX8_gameOf 387 = .ok (.goto 6, 3) := by decide +kernel
theorem dX8_gameOf_390 : decode cX8_gameOf 390 = .ok (.iload 13, 2) := by decide +kernel
theorem dX8_gameOf_392 : decode cX8_gameOf 392 = .ok (.ineg, 1) := by decide +kernel
theorem dX8_gameOf_393 : decode cX8_gameOf 393 = .ok (.iadd, 1) := by decide +kernel
theorem dX8_gameOf_394 : decode cX8_gameOf 394 = .ok (.istore 10, 2) := by decide +kernel
theorem dX8_gameOf_396 : decode cX8_gameOf 396 = .ok (.iload 11, 2) := by decide +kernel
theorem dX8_gameOf_398 : decode cX8_gameOf 398 = .ok (.iconst 1, 1) := by decide +kernel
theorem dX8_gameOf_399 : decode cX8_gameOf 399 = .ok (.iload 12, 2) := by decide +kernel
theorem dX8_gameOf_401 : decode cX8_gameOf 401 = .ok (.ishl, 1) := by decide +kernel
theorem dX8_gameOf_402 : decode cX8_gameOf 402 = .ok (.ior, 1) := by decide +kernel
theorem dX8_gameOf_403 : decode cX8_gameOf 403 = .ok (.istore 11, 2) := by decide +kernel
theorem dX8_gameOf_405 : decode cX8_gameOf 405 = .ok (.aload_n 0, 1) := by decide +kernel
theorem dX8_gameOf_406 : decode cX8_gameOf 406 = .ok (.iload 4, 2) := by decide +kernel
theorem dX8_gameOf_408 : decode cX8_gameOf 408 = .ok (.iconst 1, 1) := by decide +kernel
theorem dX8_gameOf_409 : decode cX8_gameOf 409 = .ok (.iadd, 1) := by decide +kernel
theorem dX8_gameOf_410 : decode cX8_gameOf 410 = .ok (.aload_n 0, 1) := by decide +kernel
theorem dX8_gameOf_411 : decode cX8_gameOf 411 = .ok (.invokevirtual 220, 3) := by decide +kernel
theorem dX8_gameOf_414 : decode cX8_gameOf 414 = .ok (.iload 11, 2) := by decide +kernel
theorem dX8_gameOf_416 : decode cX8_gameOf 416 = .ok (.iload 10, 2) := by decide +kernel
theorem dX8_gameOf_418 : decode cX8_gameOf 418 = .ok (.invokevirtual 248, 3) := by decide +kernel
theorem dX8_gameOf_421 : decode cX8_gameOf 421 = .ok (.iinc 4 1, 3) := by decide +kernel
theorem dX8_gameOf_424 : decode cX8_gameOf 424 = .ok (.goto (-395), 3) := by decide +kernel
theorem dX8_gameOf_427 : decode cX8_gameOf 427 = .ok (.iload_n 3, 1) := by decide +kernel
theorem dX8_gameOf_428 : decode cX8_gameOf 428 = .ok (.ifCond .ne 8, 3) := by decide +kernel
theorem dX8_gameOf_431 : decode cX8_gameOf 431 = .ok (.iload 6, 2) := by decide +kernel
theorem dX8_gameOf_433 : decode cX8_gameOf 433 = .ok (.goto 5, 3) := by decide +kernel
theorem dX8_gameOf_436 : decode cX8_gameOf 436 = .ok (.iload 5, 2) := by decide +kernel
theorem dX8_gameOf_438 : decode cX8_gameOf 438 = .ok (.ireturn, 1) := by decide +kernel
theorem dX8_game_0 : decode cX8_game 0 = .ok (.aload_n 0, 1) := by decide +kernel
theorem dX8_game_1 : decode cX8_game 1 = .ok (.invokevirtual 129, 3) := by decide +kernel
theorem dX8_game_4 : decode cX8_game 4 = .ok (.pop, 1) := by decide +kernel
theorem dX8_game_5 : decode cX8_game 5 = .ok (.iload_n 1, 1) := by decide +kernel
theorem dX8_game_6 : decode cX8_game 6 = .ok (.invokestatic 135, 3) := by decide +kernel
theorem dX8_game_9 : decode cX8_game 9 = .ok (.ifCond .eq 32, 3) := by decide +kernel
theorem dX8_game_12 : decode cX8_game 12 = .ok (.iload_n 2, 1) := by decide +kernel
theorem dX8_game_13 : decode cX8_game 13 = .ok (.i2l, 1) := by decide +kernel
theorem dX8_game_14 : decode cX8_game 14 = .ok (.lconst 1, 1) := by decide +kernel
theorem dX8_game_15 : decode cX8_game 15 = .ok (.ldc2_w 255, 3) := by decide +kernel
theorem dX8_game_18 : decode cX8_game 18 = .ok (.invokestatic 77, 3) := by decide +kernel
theorem dX8_game_21 : decode cX8_game 21 = .ok (.ifCond .eq 20, 3) := by decide +kernel
theorem dX8_game_24 : decode cX8_game 24 = .ok (.iload_n 3, 1) := by decide +kernel
theorem dX8_game_25 : decode cX8_game 25 = .ok (.invokestatic 135, 3) := by decide +kernel
theorem dX8_game_28 : decode cX8_game 28 = .ok (.ifCond .eq 13, 3) := by decide +kernel
theorem dX8_game_31 : decode cX8_game 31 = .ok (.aload_n 0, 1) := by decide +kernel
theorem dX8_game_32 : decode cX8_game 32 = .ok (.iload_n 1, 1) := by decide +kernel
theorem dX8_game_33 : decode cX8_game 33 = .ok (.iload_n 2, 1) := by decide +kernel
theorem dX8_game_34 : decode cX8_game 34 = .ok (.iload_n 3, 1) := by decide +kernel
theorem dX8_game_35 : decode cX8_game 35 = .ok (.invokevirtual 257, 3) := by decide +kernel
theorem dX8_game_38 : decode cX8_game 38 = .ok (.goto 6, 3) := by decide +kernel
theorem dX8_game_41 : decode cX8_game 41 = .ok (.sipush (-10002), 3) := by decide +kernel
theorem dX8_game_44 : decode cX8_game 44 = .ok (.ireturn, 1) := by decide +kernel
theorem dX8_alikeNow_0 : decode cX8_alikeNow 0 = .ok (.aload_n 0, 1) := by decide +kernel
theorem dX8_alikeNow_1 : decode cX8_alikeNow 1 = .ok (.iconst 0, 1) := by decide +kernel
theorem dX8_alikeNow_2 : decode cX8_alikeNow 2 = .ok (.invokevirtual 200, 3) := by decide +kernel
theorem dX8_alikeNow_5 : decode cX8_alikeNow 5 = .ok (.pop, 1) := by decide +kernel
theorem dX8_alikeNow_6 : decode cX8_alikeNow 6 = .ok (.aload_n 0, 1) := by decide +kernel
theorem dX8_alikeNow_7 : decode cX8_alikeNow 7 = .ok (.invokevirtual 220, 3) := by decide +kernel
theorem dX8_alikeNow_10 : decode cX8_alikeNow 10 = .ok (.lstore_n 1, 1) := by decide +kernel
theorem dX8_alikeNow_11 : decode cX8_alikeNow 11 = .ok (.aload_n 0, 1) := by decide +kernel
theorem dX8_alikeNow_12 : decode cX8_alikeNow 12 = .ok (.getfield 40, 3) := by decide +kernel
theorem dX8_alikeNow_15 : decode cX8_alikeNow 15 = .ok (.iconst 0, 1) := by decide +kernel
theorem dX8_alikeNow_16 : decode cX8_alikeNow 16 = .ok (.iaload, 1) := by decide +kernel
theorem dX8_alikeNow_17 : decode cX8_alikeNow 17 = .ok (.istore_n 3, 1) := by decide +kernel
theorem dX8_alikeNow_18 : decode cX8_alikeNow 18 = .ok (.aload_n 0, 1) := by decide +kernel
theorem dX8_alikeNow_19 : decode cX8_alikeNow 19 = .ok (.getfield 40, 3) := by decide +kernel
theorem dX8_alikeNow_22 : decode cX8_alikeNow 22 = .ok (.iconst 1, 1) := by decide +kernel
theorem dX8_alikeNow_23 : decode cX8_alikeNow 23 = .ok (.iaload, 1) := by decide +kernel
theorem dX8_alikeNow_24 : decode cX8_alikeNow 24 = .ok (.istore 4, 2) := by decide +kernel
theorem dX8_alikeNow_26 : decode cX8_alikeNow 26 = .ok (.aload_n 0, 1) := by decide +kernel
theorem dX8_alikeNow_27 : decode cX8_alikeNow 27 = .ok (.iconst 1, 1) := by decide +kernel
theorem dX8_alikeNow_28 : decode cX8_alikeNow 28 = .ok (.invokevirtual 200, 3) := by decide +kernel
theorem dX8_alikeNow_31 : decode cX8_alikeNow 31 = .ok (.pop, 1) := by decide +kernel
theorem dX8_alikeNow_32 : decode cX8_alikeNow 32 = .ok (.lload_n 1, 1) := by decide +kernel
theorem dX8_alikeNow_33 : decode cX8_alikeNow 33 = .ok (.aload_n 0, 1) := by decide +kernel
theorem dX8_alikeNow_34 : decode cX8_alikeNow 34 = .ok (.invokevirtual 220, 3) := by decide +kernel
theorem dX8_alikeNow_37 : decode cX8_alikeNow 37 = .ok (.lcmp, 1) := by decide +kernel
theorem dX8_alikeNow_38 : decode cX8_alikeNow 38 = .ok (.ifCond .ne 7, 3) := by decide +kernel
theorem dX8_alikeNow_41 : decode cX8_alikeNow 41 = .ok (.iconst 1, 1) := by decide +kernel
theorem dX8_alikeNow_42 : decode cX8_alikeNow 42 = .ok (.goto 29, 3) := by decide +kernel
theorem dX8_alikeNow_45 : decode cX8_alikeNow 45 = .ok (.iload_n 3, 1) := by decide +kernel
theorem dX8_alikeNow_46 : decode cX8_alikeNow 46 = .ok (.aload_n 0, 1) := by decide +kernel
theorem dX8_alikeNow_47 : decode cX8_alikeNow 47 = .ok (.getfield 40, 3) := by decide +kernel
theorem dX8_alikeNow_50 : decode cX8_alikeNow 50 = .ok (.iconst 0, 1) := by decide +kernel
theorem dX8_alikeNow_51 : decode cX8_alikeNow 51 = .ok (.iaload, 1) := by decide +kernel
theorem dX8_alikeNow_52 : decode cX8_alikeNow 52 = .ok (.if_icmp .ne 18, 3) := by decide +kernel
theorem dX8_alikeNow_55 : decode cX8_alikeNow 55 = .ok (.iload 4, 2) := by decide +kernel
theorem dX8_alikeNow_57 : decode cX8_alikeNow 57 = .ok (.aload_n 0, 1) := by decide +kernel
theorem dX8_alikeNow_58 : decode cX8_alikeNow 58 = .ok (.getfield 40, 3) := by decide +kernel
theorem dX8_alikeNow_61 : decode cX8_alikeNow 61 = .ok (.iconst 1, 1) := by decide +kernel
theorem dX8_alikeNow_62 : decode cX8_alikeNow 62 = .ok (.iaload, 1) := by decide +kernel
theorem dX8_alikeNow_63 : decode cX8_alikeNow 63 = .ok (.if_icmp .ne 7, 3) := by decide +kernel
theorem dX8_alikeNow_66 : decode cX8_alikeNow 66 = .ok (.iconst 2, 1) := by decide +kernel
theorem dX8_alikeNow_67 : decode cX8_alikeNow 67 = .ok (.goto 4, 3) := by decide +kernel
theorem dX8_alikeNow_70 : decode cX8_alikeNow 70 = .ok (.iconst 0, 1) := by decide +kernel
theorem dX8_alikeNow_71 : decode cX8_alikeNow 71 = .ok (.ireturn, 1) := by decide +kernel
theorem dX8_alike_0 : decode cX8_alike 0 = .ok (.aload_n 0, 1) := by decide +kernel
theorem dX8_alike_1 : decode cX8_alike 1 = .ok (.invokevirtual 129, 3) := by decide +kernel
theorem dX8_alike_4 : decode cX8_alike 4 = .ok (.pop, 1) := by decide +kernel
theorem dX8_alike_5 : decode cX8_alike 5 = .ok (.aload_n 0, 1) := by decide +kernel
theorem dX8_alike_6 : decode cX8_alike 6 = .ok (.invokevirtual 260, 3) := by decide +kernel
theorem dX8_alike_9 : decode cX8_alike 9 = .ok (.ireturn, 1) := by decide +kernel
theorem dX8_write_0 : decode cX8_write 0 = .ok (.iload_n 1, 1) := by decide +kernel
theorem dX8_write_1 : decode cX8_write 1 = .ok (.invokestatic 135, 3) := by decide +kernel
theorem dX8_write_4 : decode cX8_write 4 = .ok (.ifCond .eq 10, 3) := by decide +kernel
theorem dX8_write_7 : decode cX8_write 7 = .ok (.iload_n 2, 1) := by decide +kernel
theorem dX8_write_8 : decode cX8_write 8 = .ok (.invokestatic 87, 3) := by decide +kernel
theorem dX8_write_11 : decode cX8_write 11 = .ok (.ifCond .ne 6, 3) := by decide +kernel
theorem dX8_write_14 : decode cX8_write 14 = .ok (.bipush (-2), 2) := by decide +kernel
theorem dX8_write_16 : decode cX8_write 16 = .ok (.ireturn, 1) := by decide +kernel
theorem dX8_write_17 : decode cX8_write 17 = .ok (.aload_n 0, 1) := by decide +kernel
theorem dX8_write_18 : decode cX8_write 18 = .ok (.getfield 7, 3) := by decide +kernel
theorem dX8_write_21 : decode cX8_write 21 = .ok (.iload_n 2, 1) := by decide +kernel
theorem dX8_write_22 : decode cX8_write 22 = .ok (.iaload, 1) := by decide +kernel
theorem dX8_write_23 : decode cX8_write 23 = .ok (.ifCond .ge 9, 3) := by decide +kernel
theorem dX8_write_26 : decode cX8_write 26 = .ok (.aload_n 0, 1) := by decide +kernel
theorem dX8_write_27 : decode cX8_write 27 = .ok (.iconst 1, 1) := by decide +kernel
theorem dX8_write_28 : decode cX8_write 28 = .ok (.invokevirtual 93, 3) := by decide +kernel
theorem dX8_write_31 : decode cX8_write 31 = .ok (.ireturn, 1) := by decide +kernel
theorem dX8_write_32 : decode cX8_write 32 = .ok (.aload_n 0, 1) := by decide +kernel
theorem dX8_write_33 : decode cX8_write 33 = .ok (.invokevirtual 129, 3) := by decide +kernel
theorem dX8_write_36 : decode cX8_write 36 = .ok (.pop, 1) := by decide +kernel
theorem dX8_write_37 : decode cX8_write 37 = .ok (.aload_n 0, 1) := by decide +kernel
theorem dX8_write_38 : decode cX8_write 38 = .ok (.iload_n 1, 1) := by decide +kernel
theorem dX8_write_39 : decode cX8_write 39 = .ok (.invokevirtual 200, 3) := by decide +kernel
theorem dX8_write_42 : decode cX8_write 42 = .ok (.pop, 1) := by decide +kernel
theorem dX8_write_43 : decode cX8_write 43 = .ok (.aload_n 0, 1) := by decide +kernel
theorem dX8_write_44 : decode cX8_write 44 = .ok (.getfield 13, 3) := by decide +kernel
theorem dX8_write_47 : decode cX8_write 47 = .ok (.iload_n 2, 1) := by decide +kernel
theorem dX8_write_48 : decode cX8_write 48 = .ok (.iaload, 1) := by decide +kernel
theorem dX8_write_49 : decode cX8_write 49 = .ok (.aload_n 0, 1) := by decide +kernel
theorem dX8_write_50 : decode cX8_write 50 = .ok (.getfield 150, 3) := by decide +kernel
theorem dX8_write_53 : decode cX8_write 53 = .ok (.if_icmp .ge 12, 3) := by decide +kernel
theorem dX8_write_56 : decode cX8_write 56 = .ok (.aload_n 0, 1) := by decide +kernel
theorem dX8_write_57 : decode cX8_write 57 = .ok (.getfield 13, 3) := by decide +kernel
theorem dX8_write_60 : decode cX8_write 60 = .ok (.iload_n 2, 1) := by decide +kernel
theorem dX8_write_61 : decode cX8_write 61 = .ok (.iaload, 1) := by decide +kernel
theorem dX8_write_62 : decode cX8_write 62 = .ok (.goto 7, 3) := by decide +kernel
theorem dX8_write_65 : decode cX8_write 65 = .ok (.aload_n 0, 1) := by decide +kernel
theorem dX8_write_66 : decode cX8_write 66 = .ok (.getfield 150, 3) := by decide +kernel
theorem dX8_write_69 : decode cX8_write 69 = .ok (.istore_n 3, 1) := by decide +kernel
theorem dX8_write_70 : decode cX8_write 70 = .ok (.iconst 0, 1) := by decide +kernel
theorem dX8_write_71 : decode cX8_write 71 = .ok (.istore 4, 2) := by decide +kernel
theorem dX8_write_73 : decode cX8_write 73 = .ok (.iload 4, 2) := by decide +kernel
theorem dX8_write_75 : decode cX8_write 75 = .ok (.iload_n 3, 1) := by decide +kernel
theorem dX8_write_76 : decode cX8_write 76 = .ok (.if_icmp .ge 37, 3) := by decide +kernel
theorem dX8_write_79 : decode cX8_write 79 = .ok (.aload_n 0, 1) := by decide +kernel
theorem dX8_write_80 : decode cX8_write 80 = .ok (.getfield 16, 3) := by decide +kernel
theorem dX8_write_83 : decode cX8_write 83 = .ok (.bipush 60, 2) := by decide +kernel
theorem dX8_write_85 : decode cX8_write 85 = .ok (.iload_n 2, 1) := by decide +kernel
theorem dX8_write_86 : decode cX8_write 86 = .ok (.imul, 1) := by decide +kernel
theorem dX8_write_87 : decode cX8_write 87 = .ok (.iload 4, 2) := by decide +kernel
theorem dX8_write_89 : decode cX8_write 89 = .ok (.iadd, 1) := by decide +kernel
theorem dX8_write_90 : decode cX8_write 90 = .ok (.aload_n 0, 1) := by decide +kernel
theorem dX8_write_91 : decode cX8_write 91 = .ok (.getfield 7, 3) := by decide +kernel
theorem dX8_write_94 : decode cX8_write 94 = .ok (.iload_n 2, 1) := by decide +kernel
theorem dX8_write_95 : decode cX8_write 95 = .ok (.iaload, 1) := by decide +kernel
theorem dX8_write_96 : decode cX8_write 96 = .ok (.aload_n 0, 1) := by decide +kernel
theorem dX8_write_97 : decode cX8_write 97 = .ok (.getfield 43, 3) := by decide +kernel
theorem dX8_write_100 : decode cX8_write 100 = .ok (.iload 4, 2) := by decide +kernel
theorem dX8_write_102 : decode cX8_write 102 = .ok (.iaload, 1) := by decide +kernel
theorem dX8_write_103 : decode cX8_write 103 = .ok (.invokestatic 101, 3) := by decide +kernel
theorem dX8_write_106 : decode cX8_write 106 = .ok (.iastore, 1) := by decide +kernel
theorem dX8_write_107 : decode cX8_write 107 = .ok (.iinc 4 1, 3) := by decide +kernel
theorem dX8_write_110 : decode cX8_write 110 = .ok (.goto (-37), 3) := by decide +kernel
theorem dX8_write_113 : decode cX8_write 113 = .ok (.iload_n 3, 1) := by decide +kernel
theorem dX8_write_114 : decode cX8_write 114 = .ok (.ireturn, 1) := by decide +kernel
theorem dX8_count_0 : decode cX8_count 0 = .ok (.iconst 0, 1) := by decide +kernel
theorem dX8_count_1 : decode cX8_count 1 = .ok (.istore_n 2, 1) := by decide +kernel
theorem dX8_count_2 : decode cX8_count 2 = .ok (.aload_n 0, 1) := by decide +kernel
theorem dX8_count_3 : decode cX8_count 3 = .ok (.invokevirtual 129, 3) := by decide +kernel
theorem dX8_count_6 : decode cX8_count 6 = .ok (.pop, 1) := by decide +kernel
theorem dX8_count_7 : decode cX8_count 7 = .ok (.iload_n 1, 1) := by decide +kernel
theorem dX8_count_8 : decode cX8_count 8 = .ok (.tableswitch 136 0 8 #[52, 57, 57, 57, 66, 97, 122, 122, 131], 52) := by decide +kernel
theorem dX8_count_60 : decode cX8_count 60 = .ok (.aload_n 0, 1) := by decide +kernel
theorem dX8_count_61 : decode cX8_count 61 = .ok (.getfield 111, 3) := by decide +kernel
theorem dX8_count_64 : decode cX8_count 64 = .ok (.ireturn, 1) := by decide +kernel
theorem dX8_count_65 : decode cX8_count 65 = .ok (.aload_n 0, 1) := by decide +kernel
theorem dX8_count_66 : decode cX8_count 66 = .ok (.getfield 25, 3) := by decide +kernel
theorem dX8_count_69 : decode cX8_count 69 = .ok (.iload_n 1, 1) := by decide +kernel
theorem dX8_count_70 : decode cX8_count 70 = .ok (.iconst 1, 1) := by decide +kernel
theorem dX8_count_71 : decode cX8_count 71 = .ok (.isub, 1) := by decide +kernel
theorem dX8_count_72 : decode cX8_count 72 = .ok (.iaload, 1) := by decide +kernel
theorem dX8_count_73 : decode cX8_count 73 = .ok (.ireturn, 1) := by decide +kernel
theorem dX8_count_74 : decode cX8_count 74 = .ok (.iconst 0, 1) := by decide +kernel
theorem dX8_count_75 : decode cX8_count 75 = .ok (.istore_n 3, 1) := by decide +kernel
theorem dX8_count_76 : decode cX8_count 76 = .ok (.iload_n 3, 1) := by decide +kernel
theorem dX8_count_77 : decode cX8_count 77 = .ok (.aload_n 0, 1) := by decide +kernel
theorem dX8_count_78 : decode cX8_count 78 = .ok (.getfield 111, 3) := by decide +kernel
theorem dX8_count_81 : decode cX8_count 81 = .ok (.if_icmp .ge 22, 3) := by decide +kernel
theorem dX8_count_84 : decode cX8_count 84 = .ok (.iload_n 2, 1) := by decide +kernel
theorem dX8_count_85 : decode cX8_count 85 = .ok (.aload_n 0, 1) := by decide +kernel
theorem dX8_count_86 : decode cX8_count 86 = .ok (.getfield 28, 3) := by decide +kernel
theorem dX8_count_89 : decode cX8_count 89 = .ok (.iconst 3, 1) := by decide +kernel
theorem dX8_count_90 : decode cX8_count 90 = .ok (.iload_n 3, 1) := by decide +kernel
theorem dX8_count_91 : decode cX8_count 91 = .ok (.imul, 1) := by decide +kernel
theorem dX8_count_92 : decode cX8_count 92 = .ok (.iconst 2, 1) := by decide +kernel
theorem dX8_count_93 : decode cX8_count 93 = .ok (.iadd, 1) := by decide +kernel
theorem dX8_count_94 : decode cX8_count 94 = .ok (.iaload, 1) := by decide +kernel
theorem dX8_count_95 : decode cX8_count 95 = .ok (.iadd, 1) := by decide +kernel
theorem dX8_count_96 : decode cX8_count 96 = .ok (.istore_n 2, 1) := by decide +kernel
theorem dX8_count_97 : decode cX8_count 97 = .ok (.iinc 3 1, 3) := by decide +kernel
theorem dX8_count_100 : decode cX8_count 100 = .ok (.goto (-24), 3) := by decide +kernel
theorem dX8_count_103 : decode cX8_count 103 = .ok (.iload_n 2, 1) := by decide +kernel
theorem dX8_count_104 : decode cX8_count 104 = .ok (.ireturn, 1) := by decide +kernel
theorem dX8_count_105 : decode cX8_count 105 = .ok (.iconst 0, 1) := by decide +kernel
theorem dX8_count_106 : decode cX8_count 106 = .ok (.istore_n 3, 1) := by decide +kernel
theorem dX8_count_107 : decode cX8_count 107 = .ok (.iload_n 3, 1) := by decide +kernel
theorem dX8_count_108 : decode cX8_count 108 = .ok (.bipush 8, 2) := by decide +kernel
theorem dX8_count_110 : decode cX8_count 110 = .ok (.if_icmp .ge 18, 3) := by decide +kernel
theorem dX8_count_113 : decode cX8_count 113 = .ok (.iload_n 2, 1) := by decide +kernel
theorem dX8_count_114 : decode cX8_count 114 = .ok (.aload_n 0, 1) := by decide +kernel
theorem dX8_count_115 : decode cX8_count 115 = .ok (.getfield 37, 3) := by decide +kernel
theorem dX8_count_118 : decode cX8_count 118 = .ok (.iload_n 3, 1) := by decide +kernel
theorem dX8_count_119 : decode cX8_count 119 = .ok (.iaload, 1) := by decide +kernel
theorem dX8_count_120 : decode cX8_count 120 = .ok (.iadd, 1) := by decide +kernel
theorem dX8_count_121 : decode cX8_count 121 = .ok (.istore_n 2, 1) := by decide +kernel
theorem dX8_count_122 : decode cX8_count 122 = .ok (.iinc 3 1, 3) := by decide +kernel
theorem dX8_count_125 : decode cX8_count 125 = .ok (.goto (-18), 3) := by decide +kernel
theorem dX8_count_128 : decode cX8_count 128 = .ok (.iload_n 2, 1) := by decide +kernel
theorem dX8_count_129 : decode cX8_count 129 = .ok (.ireturn, 1) := by decide +kernel
theorem dX8_count_130 : decode cX8_count 130 = .ok (.aload_n 0, 1) := by decide +kernel
theorem dX8_count_131 : decode cX8_count 131 = .ok (.iload_n 1, 1) := by decide +kernel
theorem dX8_count_132 : decode cX8_count 132 = .ok (.bipush 6, 2) := by decide +kernel
theorem dX8_count_134 : decode cX8_count 134 = .ok (.isub, 1) := by decide +kernel
theorem dX8_count_135 : decode cX8_count 135 = .ok (.invokevirtual 200, 3) := by decide +kernel
theorem dX8_count_138 : decode cX8_count 138 = .ok (.ireturn, 1) := by decide +kernel
theorem dX8_count_139 : decode cX8_count 139 = .ok (.aload_n 0, 1) := by decide +kernel
theorem dX8_count_140 : decode cX8_count 140 = .ok (.getfield 81, 3) := by decide +kernel
theorem dX8_count_143 : decode cX8_count 143 = .ok (.ireturn, 1) := by decide +kernel
theorem dX8_count_144 : decode cX8_count 144 = .ok (.bipush (-2), 2) := by decide +kernel
theorem dX8_count_146 : decode cX8_count 146 = .ok (.ireturn, 1) := by decide +kernel
theorem dX8_digest_0 : decode cX8_digest 0 = .ok (.ldc2_w 263, 3) := by decide +kernel
theorem dX8_digest_3 : decode cX8_digest 3 = .ok (.lstore_n 1, 1) := by decide +kernel
theorem dX8_digest_4 : decode cX8_digest 4 = .ok (.iconst 0, 1) := by decide +kernel
theorem dX8_digest_5 : decode cX8_digest 5 = .ok (.istore_n 3, 1) := by decide +kernel
theorem dX8_digest_6 : decode cX8_digest 6 = .ok (.iload_n 3, 1) := by decide +kernel
theorem dX8_digest_7 : decode cX8_digest 7 = .ok (.bipush 8, 2) := by decide +kernel
theorem dX8_digest_9 : decode cX8_digest 9 = .ok (.if_icmp .ge 22, 3) := by decide +kernel
theorem dX8_digest_12 : decode cX8_digest 12 = .ok (.ldc2_w 215, 3) := by decide +kernel
theorem dX8_digest_15 : decode cX8_digest 15 = .ok (.lload_n 1, 1) := by decide +kernel
theorem dX8_digest_16 : decode cX8_digest 16 = .ok (.lmul, 1) := by decide +kernel
theorem dX8_digest_17 : decode cX8_digest 17 = .ok (.aload_n 0, 1) := by decide +kernel
theorem dX8_digest_18 : decode cX8_digest 18 = .ok (.iload_n 3, 1) := by decide +kernel
theorem dX8_digest_19 : decode cX8_digest 19 = .ok (.invokevirtual 265, 3) := by decide +kernel
theorem dX8_digest_22 : decode cX8_digest 22 = .ok (.i2l, 1) := by decide +kernel
theorem dX8_digest_23 : decode cX8_digest 23 = .ok (.ladd, 1) := by decide +kernel
theorem dX8_digest_24 : decode cX8_digest 24 = .ok (.lstore_n 1, 1) := by decide +kernel
theorem dX8_digest_25 : decode cX8_digest 25 = .ok (.iinc 3 1, 3) := by decide +kernel
theorem dX8_digest_28 : decode cX8_digest 28 = .ok (.goto (-22), 3) := by decide +kernel
theorem dX8_digest_31 : decode cX8_digest 31 = .ok (.ldc2_w 215, 3) := by decide +kernel
theorem dX8_digest_34 : decode cX8_digest 34 = .ok (.lload_n 1, 1) := by decide +kernel
theorem dX8_digest_35 : decode cX8_digest 35 = .ok (.lmul, 1) := by decide +kernel
theorem dX8_digest_36 : decode cX8_digest 36 = .ok (.aload_n 0, 1) := by decide +kernel
theorem dX8_digest_37 : decode cX8_digest 37 = .ok (.invokevirtual 129, 3) := by decide +kernel
theorem dX8_digest_40 : decode cX8_digest 40 = .ok (.i2l, 1) := by decide +kernel
theorem dX8_digest_41 : decode cX8_digest 41 = .ok (.ladd, 1) := by decide +kernel
theorem dX8_digest_42 : decode cX8_digest 42 = .ok (.lstore_n 1, 1) := by decide +kernel
theorem dX8_digest_43 : decode cX8_digest 43 = .ok (.iconst 0, 1) := by decide +kernel
theorem dX8_digest_44 : decode cX8_digest 44 = .ok (.istore_n 3, 1) := by decide +kernel
theorem dX8_digest_45 : decode cX8_digest 45 = .ok (.iload_n 3, 1) := by decide +kernel
theorem dX8_digest_46 : decode cX8_digest 46 = .ok (.aload_n 0, 1) := by decide +kernel
theorem dX8_digest_47 : decode cX8_digest 47 = .ok (.getfield 111, 3) := by decide +kernel
theorem dX8_digest_50 : decode cX8_digest 50 = .ok (.if_icmp .ge 43, 3) := by decide +kernel
theorem dX8_digest_53 : decode cX8_digest 53 = .ok (.iconst 0, 1) := by decide +kernel
theorem dX8_digest_54 : decode cX8_digest 54 = .ok (.istore 4, 2) := by decide +kernel
theorem dX8_digest_56 : decode cX8_digest 56 = .ok (.iload 4, 2) := by decide +kernel
theorem dX8_digest_58 : decode cX8_digest 58 = .ok (.iconst 3, 1) := by decide +kernel
theorem dX8_digest_59 : decode cX8_digest 59 = .ok (.if_icmp .ge 28, 3) := by decide +kernel
theorem dX8_digest_62 : decode cX8_digest 62 = .ok (.ldc2_w 215, 3) := by decide +kernel
theorem dX8_digest_65 : decode cX8_digest 65 = .ok (.lload_n 1, 1) := by decide +kernel
theorem dX8_digest_66 : decode cX8_digest 66 = .ok (.lmul, 1) := by decide +kernel
theorem dX8_digest_67 : decode cX8_digest 67 = .ok (.aload_n 0, 1) := by decide +kernel
theorem dX8_digest_68 : decode cX8_digest 68 = .ok (.getfield 28, 3) := by decide +kernel
theorem dX8_digest_71 : decode cX8_digest 71 = .ok (.iconst 3, 1) := by decide +kernel
theorem dX8_digest_72 : decode cX8_digest 72 = .ok (.iload_n 3, 1) := by decide +kernel
theorem dX8_digest_73 : decode cX8_digest 73 = .ok (.imul, 1) := by decide +kernel
theorem dX8_digest_74 : decode cX8_digest 74 = .ok (.iload 4, 2) := by decide +kernel
theorem dX8_digest_76 : decode cX8_digest 76 = .ok (.iadd, 1) := by decide +kernel
theorem dX8_digest_77 : decode cX8_digest 77 = .ok (.iaload, 1) := by decide +kernel
theorem dX8_digest_78 : decode cX8_digest 78 = .ok (.i2l, 1) := by decide +kernel
theorem dX8_digest_79 : decode cX8_digest 79 = .ok (.ladd, 1) := by decide +kernel
theorem dX8_digest_80 : decode cX8_digest 80 = .ok (.lstore_n 1, 1) := by decide +kernel
theorem dX8_digest_81 : decode cX8_digest 81 = .ok (.iinc 4 1, 3) := by decide +kernel
theorem dX8_digest_84 : decode cX8_digest 84 = .ok (.goto (-28), 3) := by decide +kernel
theorem dX8_digest_87 : decode cX8_digest 87 = .ok (.iinc 3 1, 3) := by decide +kernel
theorem dX8_digest_90 : decode cX8_digest 90 = .ok (.goto (-45), 3) := by decide +kernel
theorem dX8_digest_93 : decode cX8_digest 93 = .ok (.iconst 0, 1) := by decide +kernel
theorem dX8_digest_94 : decode cX8_digest 94 = .ok (.istore_n 3, 1) := by decide +kernel
theorem dX8_digest_95 : decode cX8_digest 95 = .ok (.iload_n 3, 1) := by decide +kernel
theorem dX8_digest_96 : decode cX8_digest 96 = .ok (.iconst 2, 1) := by decide +kernel
theorem dX8_digest_97 : decode cX8_digest 97 = .ok (.if_icmp .ge 197, 3) := by decide +kernel
theorem dX8_digest_100 : decode cX8_digest 100 = .ok (.ldc2_w 215, 3) := by decide +kernel
theorem dX8_digest_103 : decode cX8_digest 103 = .ok (.lload_n 1, 1) := by decide +kernel
theorem dX8_digest_104 : decode cX8_digest 104 = .ok (.lmul, 1) := by decide +kernel
theorem dX8_digest_105 : decode cX8_digest 105 = .ok (.aload_n 0, 1) := by decide +kernel
theorem dX8_digest_106 : decode cX8_digest 106 = .ok (.iload_n 3, 1) := by decide +kernel
theorem dX8_digest_107 : decode cX8_digest 107 = .ok (.invokevirtual 203, 3) := by decide +kernel
theorem dX8_digest_110 : decode cX8_digest 110 = .ok (.i2l, 1) := by decide +kernel
theorem dX8_digest_111 : decode cX8_digest 111 = .ok (.ladd, 1) := by decide +kernel
theorem dX8_digest_112 : decode cX8_digest 112 = .ok (.lstore_n 1, 1) := by decide +kernel
theorem dX8_digest_113 : decode cX8_digest 113 = .ok (.aload_n 0, 1) := by decide +kernel
theorem dX8_digest_114 : decode cX8_digest 114 = .ok (.iload_n 3, 1) := by decide +kernel
theorem dX8_digest_115 : decode cX8_digest 115 = .ok (.invokevirtual 200, 3) := by decide +kernel
theorem dX8_digest_118 : decode cX8_digest 118 = .ok (.pop, 1) := by decide +kernel
theorem dX8_digest_119 : decode cX8_digest 119 = .ok (.iconst 0, 1) := by decide +kernel
theorem dX8_digest_120 : decode cX8_digest 120 = .ok (.istore 4, 2) := by decide +kernel
theorem dX8_digest_122 : decode cX8_digest 122 = .ok (.iload 4, 2) := by decide +kernel
theorem dX8_digest_124 : decode cX8_digest 124 = .ok (.bipush 8, 2) := by decide +kernel
theorem dX8_digest_126 : decode cX8_digest 126 = .ok (.if_icmp .ge 23, 3) := by decide +kernel
theorem dX8_digest_129 : decode cX8_digest 129 = .ok (.ldc2_w 215, 3) := by decide +kernel
theorem dX8_digest_132 : decode cX8_digest 132 = .ok (.lload_n 1, 1) := by decide +kernel
theorem dX8_digest_133 : decode cX8_digest 133 = .ok (.lmul, 1) := by decide +kernel
theorem dX8_digest_134 : decode cX8_digest 134 = .ok (.aload_n 0, 1) := by decide +kernel
theorem dX8_digest_135 : decode cX8_digest 135 = .ok (.iload 4, 2) := by decide +kernel
theorem dX8_digest_137 : decode cX8_digest 137 = .ok (.invokevirtual 209, 3) := by decide +kernel
theorem dX8_digest_140 : decode cX8_digest 140 = .ok (.i2l, 1) := by decide +kernel
theorem dX8_digest_141 : decode cX8_digest 141 = .ok (.ladd, 1) := by decide +kernel
theorem dX8_digest_142 : decode cX8_digest 142 = .ok (.lstore_n 1, 1) := by decide +kernel
theorem dX8_digest_143 : decode cX8_digest 143 = .ok (.iinc 4 1, 3) := by decide +kernel
theorem dX8_digest_146 : decode cX8_digest 146 = .ok (.goto (-24), 3) := by decide +kernel
theorem dX8_digest_149 : decode cX8_digest 149 = .ok (.ldc2_w 215, 3) := by decide +kernel
theorem dX8_digest_152 : decode cX8_digest 152 = .ok (.lload_n 1, 1) := by decide +kernel
theorem dX8_digest_153 : decode cX8_digest 153 = .ok (.lmul, 1) := by decide +kernel
theorem dX8_digest_154 : decode cX8_digest 154 = .ok (.aload_n 0, 1) := by decide +kernel
theorem dX8_digest_155 : decode cX8_digest 155 = .ok (.getfield 150, 3) := by decide +kernel
theorem dX8_digest_158 : decode cX8_digest 158 = .ok (.ifCond .le 12, 3) := by decide +kernel
theorem dX8_digest_161 : decode cX8_digest 161 = .ok (.aload_n 0, 1) := by decide +kernel
theorem dX8_digest_162 : decode cX8_digest 162 = .ok (.getfield 43, 3) := by decide +kernel
theorem dX8_digest_165 : decode cX8_digest 165 = .ok (.iconst 0, 1) := by decide +kernel
theorem dX8_digest_166 : decode cX8_digest 166 = .ok (.iaload, 1) := by decide +kernel
theorem dX8_digest_167 : decode cX8_digest 167 = .ok (.goto 4, 3) := by decide +kernel
theorem dX8_digest_170 : decode cX8_digest 170 = .ok (.iconst (-1), 1) := by decide +kernel
theorem dX8_digest_171 : decode cX8_digest 171 = .ok (.i2l, 1) := by decide +kernel
theorem dX8_digest_172 : decode cX8_digest 172 = .ok (.ladd, 1) := by decide +kernel
theorem dX8_digest_173 : decode cX8_digest 173 = .ok (.lstore_n 1, 1) := by decide +kernel
theorem dX8_digest_174 : decode cX8_digest 174 = .ok (.ldc2_w 215, 3) := by decide +kernel
theorem dX8_digest_177 : decode cX8_digest 177 = .ok (.lload_n 1, 1) := by decide +kernel
theorem dX8_digest_178 : decode cX8_digest 178 = .ok (.lmul, 1) := by decide +kernel
theorem dX8_digest_179 : decode cX8_digest 179 = .ok (.aload_n 0, 1) := by decide +kernel
theorem dX8_digest_180 : decode cX8_digest 180 = .ok (.iload_n 3, 1) := by decide +kernel
theorem dX8_digest_181 : decode cX8_digest 181 = .ok (.invokevirtual 212, 3) := by decide +kernel
theorem dX8_digest_184 : decode cX8_digest 184 = .ok (.i2l, 1) := by decide +kernel
theorem dX8_digest_185 : decode cX8_digest 185 = .ok (.ladd, 1) := by decide +kernel
theorem dX8_digest_186 : decode cX8_digest 186 = .ok (.lstore_n 1, 1) := by decide +kernel
theorem dX8_digest_187 : decode cX8_digest 187 = .ok (.ldc2_w 215, 3) := by decide +kernel
theorem dX8_digest_190 : decode cX8_digest 190 = .ok (.lload_n 1, 1) := by decide +kernel
theorem dX8_digest_191 : decode cX8_digest 191 = .ok (.lmul, 1) := by decide +kernel
theorem dX8_digest_192 : decode cX8_digest 192 = .ok (.aload_n 0, 1) := by decide +kernel
theorem dX8_digest_193 : decode cX8_digest 193 = .ok (.iload_n 3, 1) := by decide +kernel
theorem dX8_digest_194 : decode cX8_digest 194 = .ok (.iconst 0, 1) := by decide +kernel
theorem dX8_digest_195 : decode cX8_digest 195 = .ok (.iconst 1, 1) := by decide +kernel
theorem dX8_digest_196 : decode cX8_digest 196 = .ok (.invokevirtual 231, 3) := by decide +kernel
theorem dX8_digest_199 : decode cX8_digest 199 = .ok (.i2l, 1) := by decide +kernel
theorem dX8_digest_200 : decode cX8_digest 200 = .ok (.ladd, 1) := by decide +kernel
theorem dX8_digest_201 : decode cX8_digest 201 = .ok (.lstore_n 1, 1) := by decide +kernel
theorem dX8_digest_202 : decode cX8_digest 202 = .ok (.ldc2_w 215, 3) := by decide +kernel
theorem dX8_digest_205 : decode cX8_digest 205 = .ok (.lload_n 1, 1) := by decide +kernel
theorem dX8_digest_206 : decode cX8_digest 206 = .ok (.lmul, 1) := by decide +kernel
theorem dX8_digest_207 : decode cX8_digest 207 = .ok (.aload_n 0, 1) := by decide +kernel
theorem dX8_digest_208 : decode cX8_digest 208 = .ok (.iload_n 3, 1) := by decide +kernel
theorem dX8_digest_209 : decode cX8_digest 209 = .ok (.iconst 2, 1) := by decide +kernel
theorem dX8_digest_210 : decode cX8_digest 210 = .ok (.iconst 2, 1) := by decide +kernel
theorem dX8_digest_211 : decode cX8_digest 211 = .ok (.invokevirtual 231, 3) := by decide +kernel
theorem dX8_digest_214 : decode cX8_digest 214 = .ok (.i2l, 1) := by decide +kernel
theorem dX8_digest_215 : decode cX8_digest 215 = .ok (.ladd, 1) := by decide +kernel
theorem dX8_digest_216 : decode cX8_digest 216 = .ok (.lstore_n 1, 1) := by decide +kernel
theorem dX8_digest_217 : decode cX8_digest 217 = .ok (.ldc2_w 215, 3) := by decide +kernel
theorem dX8_digest_220 : decode cX8_digest 220 = .ok (.lload_n 1, 1) := by decide +kernel
theorem dX8_digest_221 : decode cX8_digest 221 = .ok (.lmul, 1) := by decide +kernel
theorem dX8_digest_222 : decode cX8_digest 222 = .ok (.aload_n 0, 1) := by decide +kernel
theorem dX8_digest_223 : decode cX8_digest 223 = .ok (.iload_n 3, 1) := by decide +kernel
theorem dX8_digest_224 : decode cX8_digest 224 = .ok (.invokevirtual 234, 3) := by decide +kernel
theorem dX8_digest_227 : decode cX8_digest 227 = .ok (.i2l, 1) := by decide +kernel
theorem dX8_digest_228 : decode cX8_digest 228 = .ok (.ladd, 1) := by decide +kernel
theorem dX8_digest_229 : decode cX8_digest 229 = .ok (.lstore_n 1, 1) := by decide +kernel
theorem dX8_digest_230 : decode cX8_digest 230 = .ok (.ldc2_w 215, 3) := by decide +kernel
theorem dX8_digest_233 : decode cX8_digest 233 = .ok (.lload_n 1, 1) := by decide +kernel
theorem dX8_digest_234 : decode cX8_digest 234 = .ok (.lmul, 1) := by decide +kernel
theorem dX8_digest_235 : decode cX8_digest 235 = .ok (.aload_n 0, 1) := by decide +kernel
theorem dX8_digest_236 : decode cX8_digest 236 = .ok (.iload_n 3, 1) := by decide +kernel
theorem dX8_digest_237 : decode cX8_digest 237 = .ok (.iconst 0, 1) := by decide +kernel
theorem dX8_digest_238 : decode cX8_digest 238 = .ok (.invokevirtual 245, 3) := by decide +kernel
theorem dX8_digest_241 : decode cX8_digest 241 = .ok (.i2l, 1) := by decide +kernel
theorem dX8_digest_242 : decode cX8_digest 242 = .ok (.ladd, 1) := by decide +kernel
theorem dX8_digest_243 : decode cX8_digest 243 = .ok (.lstore_n 1, 1) := by decide +kernel
theorem dX8_digest_244 : decode cX8_digest 244 = .ok (.ldc2_w 215, 3) := by decide +kernel
theorem dX8_digest_247 : decode cX8_digest 247 = .ok (.lload_n 1, 1) := by decide +kernel
theorem dX8_digest_248 : decode cX8_digest 248 = .ok (.lmul, 1) := by decide +kernel
theorem dX8_digest_249 : decode cX8_digest 249 = .ok (.aload_n 0, 1) := by decide +kernel
theorem dX8_digest_250 : decode cX8_digest 250 = .ok (.iload_n 3, 1) := by decide +kernel
theorem dX8_digest_251 : decode cX8_digest 251 = .ok (.iconst 1, 1) := by decide +kernel
theorem dX8_digest_252 : decode cX8_digest 252 = .ok (.invokevirtual 245, 3) := by decide +kernel
theorem dX8_digest_255 : decode cX8_digest 255 = .ok (.i2l, 1) := by decide +kernel
theorem dX8_digest_256 : decode cX8_digest 256 = .ok (.ladd, 1) := by decide +kernel
theorem dX8_digest_257 : decode cX8_digest 257 = .ok (.lstore_n 1, 1) := by decide +kernel
theorem dX8_digest_258 : decode cX8_digest 258 = .ok (.ldc2_w 215, 3) := by decide +kernel
theorem dX8_digest_261 : decode cX8_digest 261 = .ok (.lload_n 1, 1) := by decide +kernel
theorem dX8_digest_262 : decode cX8_digest 262 = .ok (.lmul, 1) := by decide +kernel
theorem dX8_digest_263 : decode cX8_digest 263 = .ok (.aload_n 0, 1) := by decide +kernel
theorem dX8_digest_264 : decode cX8_digest 264 = .ok (.iload_n 3, 1) := by decide +kernel
theorem dX8_digest_265 : decode cX8_digest 265 = .ok (.iconst 3, 1) := by decide +kernel
theorem dX8_digest_266 : decode cX8_digest 266 = .ok (.iconst 0, 1) := by decide +kernel
theorem dX8_digest_267 : decode cX8_digest 267 = .ok (.invokevirtual 257, 3) := by decide +kernel
theorem dX8_digest_270 : decode cX8_digest 270 = .ok (.i2l, 1) := by decide +kernel
theorem dX8_digest_271 : decode cX8_digest 271 = .ok (.ladd, 1) := by decide +kernel
theorem dX8_digest_272 : decode cX8_digest 272 = .ok (.lstore_n 1, 1) := by decide +kernel
theorem dX8_digest_273 : decode cX8_digest 273 = .ok (.ldc2_w 215, 3) := by decide +kernel
theorem dX8_digest_276 : decode cX8_digest 276 = .ok (.lload_n 1, 1) := by decide +kernel
theorem dX8_digest_277 : decode cX8_digest 277 = .ok (.lmul, 1) := by decide +kernel
theorem dX8_digest_278 : decode cX8_digest 278 = .ok (.aload_n 0, 1) := by decide +kernel
theorem dX8_digest_279 : decode cX8_digest 279 = .ok (.iload_n 3, 1) := by decide +kernel
theorem dX8_digest_280 : decode cX8_digest 280 = .ok (.iconst 3, 1) := by decide +kernel
theorem dX8_digest_281 : decode cX8_digest 281 = .ok (.iconst 1, 1) := by decide +kernel
theorem dX8_digest_282 : decode cX8_digest 282 = .ok (.invokevirtual 257, 3) := by decide +kernel
theorem dX8_digest_285 : decode cX8_digest 285 = .ok (.i2l, 1) := by decide +kernel
theorem dX8_digest_286 : decode cX8_digest 286 = .ok (.ladd, 1) := by decide +kernel
theorem dX8_digest_287 : decode cX8_digest 287 = .ok (.lstore_n 1, 1) := by decide +kernel
theorem dX8_digest_288 : decode cX8_digest 288 = .ok (.iinc 3 1, 3) := by decide +kernel
theorem dX8_digest_291 : decode cX8_digest 291 = .ok (.goto (-196), 3) := by decide +kernel
theorem dX8_digest_294 : decode cX8_digest 294 = .ok (.ldc2_w 215, 3) := by decide +kernel
theorem dX8_digest_297 : decode cX8_digest 297 = .ok (.lload_n 1, 1) := by decide +kernel
theorem dX8_digest_298 : decode cX8_digest 298 = .ok (.lmul, 1) := by decide +kernel
theorem dX8_digest_299 : decode cX8_digest 299 = .ok (.aload_n 0, 1) := by decide +kernel
theorem dX8_digest_300 : decode cX8_digest 300 = .ok (.iconst 0, 1) := by decide +kernel
theorem dX8_digest_301 : decode cX8_digest 301 = .ok (.iconst 0, 1) := by decide +kernel
theorem dX8_digest_302 : decode cX8_digest 302 = .ok (.iconst 1, 1) := by decide +kernel
theorem dX8_digest_303 : decode cX8_digest 303 = .ok (.iconst 0, 1) := by decide +kernel
theorem dX8_digest_304 : decode cX8_digest 304 = .ok (.invokevirtual 268, 3) := by decide +kernel
theorem dX8_digest_307 : decode cX8_digest 307 = .ok (.i2l, 1) := by decide +kernel
theorem dX8_digest_308 : decode cX8_digest 308 = .ok (.ladd, 1) := by decide +kernel
theorem dX8_digest_309 : decode cX8_digest 309 = .ok (.lstore_n 1, 1) := by decide +kernel
theorem dX8_digest_310 : decode cX8_digest 310 = .ok (.ldc2_w 215, 3) := by decide +kernel
theorem dX8_digest_313 : decode cX8_digest 313 = .ok (.lload_n 1, 1) := by decide +kernel
theorem dX8_digest_314 : decode cX8_digest 314 = .ok (.lmul, 1) := by decide +kernel
theorem dX8_digest_315 : decode cX8_digest 315 = .ok (.aload_n 0, 1) := by decide +kernel
theorem dX8_digest_316 : decode cX8_digest 316 = .ok (.iconst 0, 1) := by decide +kernel
theorem dX8_digest_317 : decode cX8_digest 317 = .ok (.iconst 0, 1) := by decide +kernel
theorem dX8_digest_318 : decode cX8_digest 318 = .ok (.iconst 1, 1) := by decide +kernel
theorem dX8_digest_319 : decode cX8_digest 319 = .ok (.iconst 1, 1) := by decide +kernel
theorem dX8_digest_320 : decode cX8_digest 320 = .ok (.invokevirtual 268, 3) := by decide +kernel
theorem dX8_digest_323 : decode cX8_digest 323 = .ok (.i2l, 1) := by decide +kernel
theorem dX8_digest_324 : decode cX8_digest 324 = .ok (.ladd, 1) := by decide +kernel
theorem dX8_digest_325 : decode cX8_digest 325 = .ok (.lstore_n 1, 1) := by decide +kernel
theorem dX8_digest_326 : decode cX8_digest 326 = .ok (.ldc2_w 215, 3) := by decide +kernel
theorem dX8_digest_329 : decode cX8_digest 329 = .ok (.lload_n 1, 1) := by decide +kernel
theorem dX8_digest_330 : decode cX8_digest 330 = .ok (.lmul, 1) := by decide +kernel
theorem dX8_digest_331 : decode cX8_digest 331 = .ok (.aload_n 0, 1) := by decide +kernel
theorem dX8_digest_332 : decode cX8_digest 332 = .ok (.invokevirtual 260, 3) := by decide +kernel
theorem dX8_digest_335 : decode cX8_digest 335 = .ok (.i2l, 1) := by decide +kernel
theorem dX8_digest_336 : decode cX8_digest 336 = .ok (.ladd, 1) := by decide +kernel
theorem dX8_digest_337 : decode cX8_digest 337 = .ok (.lreturn, 1) := by decide +kernel
theorem dJ9_max_7cf53_0 : decode cJ9_max_7cf53 0 = .ok (.iload_n 0, 1) := by decide +kernel
theorem dJ9_max_7cf53_1 : decode cJ9_max_7cf53 1 = .ok (.iload_n 1, 1) := by decide +kernel
theorem dJ9_max_7cf53_2 : decode cJ9_max_7cf53 2 = .ok (.if_icmp .lt 7, 3) := by decide +kernel
theorem dJ9_max_7cf53_5 : decode cJ9_max_7cf53 5 = .ok (.iload_n 0, 1) := by decide +kernel
theorem dJ9_max_7cf53_6 : decode cJ9_max_7cf53 6 = .ok (.goto 4, 3) := by decide +kernel
theorem dJ9_max_7cf53_9 : decode cJ9_max_7cf53 9 = .ok (.iload_n 1, 1) := by decide +kernel
theorem dJ9_max_7cf53_10 : decode cJ9_max_7cf53 10 = .ok (.ireturn, 1) := by decide +kernel
theorem dJ9_min_7cf53_0 : decode cJ9_min_7cf53 0 = .ok (.iload_n 0, 1) := by decide +kernel
theorem dJ9_min_7cf53_1 : decode cJ9_min_7cf53 1 = .ok (.iload_n 1, 1) := by decide +kernel
theorem dJ9_min_7cf53_2 : decode cJ9_min_7cf53 2 = .ok (.if_icmp .gt 7, 3) := by decide +kernel
theorem dJ9_min_7cf53_5 : decode cJ9_min_7cf53 5 = .ok (.iload_n 0, 1) := by decide +kernel
theorem dJ9_min_7cf53_6 : decode cJ9_min_7cf53 6 = .ok (.goto 4, 3) := by decide +kernel
theorem dJ9_min_7cf53_9 : decode cJ9_min_7cf53 9 = .ok (.iload_n 1, 1) := by decide +kernel
theorem dJ9_min_7cf53_10 : decode cJ9_min_7cf53 10 = .ok (.ireturn, 1) := by decide +kernel
theorem dJ7_fill_53178_0 : decode cJ7_fill_53178 0 = .ok (.iconst 0, 1) := by decide +kernel
theorem dJ7_fill_53178_1 : decode cJ7_fill_53178 1 = .ok (.istore_n 2, 1) := by decide +kernel
theorem dJ7_fill_53178_2 : decode cJ7_fill_53178 2 = .ok (.aload_n 0, 1) := by decide +kernel
theorem dJ7_fill_53178_3 : decode cJ7_fill_53178 3 = .ok (.arraylength, 1) := by decide +kernel
theorem dJ7_fill_53178_4 : decode cJ7_fill_53178 4 = .ok (.istore_n 3, 1) := by decide +kernel
theorem dJ7_fill_53178_5 : decode cJ7_fill_53178 5 = .ok (.iload_n 2, 1) := by decide +kernel
theorem dJ7_fill_53178_6 : decode cJ7_fill_53178 6 = .ok (.iload_n 3, 1) := by decide +kernel
theorem dJ7_fill_53178_7 : decode cJ7_fill_53178 7 = .ok (.if_icmp .ge 13, 3) := by decide +kernel
theorem dJ7_fill_53178_10 : decode cJ7_fill_53178 10 = .ok (.aload_n 0, 1) := by decide +kernel
theorem dJ7_fill_53178_11 : decode cJ7_fill_53178 11 = .ok (.iload_n 2, 1) := by decide +kernel
theorem dJ7_fill_53178_12 : decode cJ7_fill_53178 12 = .ok (.iload_n 1, 1) := by decide +kernel
theorem dJ7_fill_53178_13 : decode cJ7_fill_53178 13 = .ok (.iastore, 1) := by decide +kernel
theorem dJ7_fill_53178_14 : decode cJ7_fill_53178 14 = .ok (.iinc 2 1, 3) := by decide +kernel
theorem dJ7_fill_53178_17 : decode cJ7_fill_53178 17 = .ok (.goto (-12), 3) := by decide +kernel
theorem dJ7_fill_53178_20 : decode cJ7_fill_53178 20 = .ok (.return_, 1) := by decide +kernel
theorem dL_law_0 : decode cL_law 0 = .ok (.new 7, 3) := by decide +kernel
theorem dL_law_3 : decode cL_law 3 = .ok (.dup, 1) := by decide +kernel
theorem dL_law_4 : decode cL_law 4 = .ok (.invokespecial 9, 3) := by decide +kernel
theorem dL_law_7 : decode cL_law 7 = .ok (.astore_n 1, 1) := by decide +kernel
theorem dL_law_8 : decode cL_law 8 = .ok (.new 10, 3) := by decide +kernel
theorem dL_law_11 : decode cL_law 11 = .ok (.dup, 1) := by decide +kernel
theorem dL_law_12 : decode cL_law 12 = .ok (.invokespecial 12, 3) := by decide +kernel
theorem dL_law_15 : decode cL_law 15 = .ok (.astore_n 2, 1) := by decide +kernel
theorem dL_law_16 : decode cL_law 16 = .ok (.iconst 0, 1) := by decide +kernel
theorem dL_law_17 : decode cL_law 17 = .ok (.istore_n 3, 1) := by decide +kernel
theorem dL_law_18 : decode cL_law 18 = .ok (.iload_n 3, 1) := by decide +kernel
theorem dL_law_19 : decode cL_law 19 = .ok (.aload_n 0, 1) := by decide +kernel
theorem dL_law_20 : decode cL_law 20 = .ok (.arraylength, 1) := by decide +kernel
theorem dL_law_21 : decode cL_law 21 = .ok (.bipush 6, 2) := by decide +kernel
theorem dL_law_23 : decode cL_law 23 = .ok (.isub, 1) := by decide +kernel
theorem dL_law_24 : decode cL_law 24 = .ok (.if_icmp .gt 1030, 3) := by decide +kernel
theorem dL_law_27 : decode cL_law 27 = .ok (.aload_n 0, 1) := by decide +kernel
theorem dL_law_28 : decode cL_law 28 = .ok (.iload_n 3, 1) := by decide +kernel
theorem dL_law_29 : decode cL_law 29 = .ok (.iaload, 1) := by decide +kernel
theorem dL_law_30 : decode cL_law 30 = .ok (.bipush 31, 2) := by decide +kernel
theorem dL_law_32 : decode cL_law 32 = .ok (.iand, 1) := by decide +kernel
theorem dL_law_33 : decode cL_law 33 = .ok (.tableswitch 1015 0 26 #[123, 156, 179, 192, 225, 258, 291, 324, 357, 380, 403, 446, 489, 512, 555, 578, 631, 664, 707, 720, 763, 786, 839, 882, 945, 978, 1001], 123) := by decide +kernel
theorem dL_law_156 : decode cL_law 156 = .ok (.aload_n 1, 1) := by decide +kernel
theorem dL_law_157 : decode cL_law 157 = .ok (.aload_n 0, 1) := by decide +kernel
theorem dL_law_158 : decode cL_law 158 = .ok (.iload_n 3, 1) := by decide +kernel
theorem dL_law_159 : decode cL_law 159 = .ok (.iconst 1, 1) := by decide +kernel
theorem dL_law_160 : decode cL_law 160 = .ok (.iadd, 1) := by decide +kernel
theorem dL_law_161 : decode cL_law 161 = .ok (.iaload, 1) := by decide +kernel
theorem dL_law_162 : decode cL_law 162 = .ok (.aload_n 0, 1) := by decide +kernel
theorem dL_law_163 : decode cL_law 163 = .ok (.iload_n 3, 1) := by decide +kernel
theorem dL_law_164 : decode cL_law 164 = .ok (.iconst 2, 1) := by decide +kernel
theorem dL_law_165 : decode cL_law 165 = .ok (.iadd, 1) := by decide +kernel
theorem dL_law_166 : decode cL_law 166 = .ok (.iaload, 1) := by decide +kernel
theorem dL_law_167 : decode cL_law 167 = .ok (.invokevirtual 13, 3) := by decide +kernel
theorem dL_law_170 : decode cL_law 170 = .ok (.aload_n 2, 1) := by decide +kernel
theorem dL_law_171 : decode cL_law 171 = .ok (.aload_n 0, 1) := by decide +kernel
theorem dL_law_172 : decode cL_law 172 = .ok (.iload_n 3, 1) := by decide +kernel
theorem dL_law_173 : decode cL_law 173 = .ok (.iconst 1, 1) := by decide +kernel
theorem dL_law_174 : decode cL_law 174 = .ok (.iadd, 1) := by decide +kernel
theorem dL_law_175 : decode cL_law 175 = .ok (.iaload, 1) := by decide +kernel
theorem dL_law_176 : decode cL_law 176 = .ok (.aload_n 0, 1) := by decide +kernel
theorem dL_law_177 : decode cL_law 177 = .ok (.iload_n 3, 1) := by decide +kernel
theorem dL_law_178 : decode cL_law 178 = .ok (.iconst 2, 1) := by decide +kernel
theorem dL_law_179 : decode cL_law 179 = .ok (.iadd, 1) := by decide +kernel
theorem dL_law_180 : decode cL_law 180 = .ok (.iaload, 1) := by decide +kernel
theorem dL_law_181 : decode cL_law 181 = .ok (.invokevirtual 17, 3) := by decide +kernel
theorem dL_law_184 : decode cL_law 184 = .ok (.if_icmp .eq 864, 3) := by decide +kernel
theorem dL_law_187 : decode cL_law 187 = .ok (.iconst 0, 1) := by decide +kernel
theorem dL_law_188 : decode cL_law 188 = .ok (.ireturn, 1) := by decide +kernel
theorem dL_law_189 : decode cL_law 189 = .ok (.aload_n 1, 1) := by decide +kernel
theorem dL_law_190 : decode cL_law 190 = .ok (.aload_n 0, 1) := by decide +kernel
theorem dL_law_191 : decode cL_law 191 = .ok (.iload_n 3, 1) := by decide +kernel
theorem dL_law_192 : decode cL_law 192 = .ok (.iconst 1, 1) := by decide +kernel
theorem dL_law_193 : decode cL_law 193 = .ok (.iadd, 1) := by decide +kernel
theorem dL_law_194 : decode cL_law 194 = .ok (.iaload, 1) := by decide +kernel
theorem dL_law_195 : decode cL_law 195 = .ok (.invokevirtual 18, 3) := by decide +kernel
theorem dL_law_198 : decode cL_law 198 = .ok (.aload_n 2, 1) := by decide +kernel
theorem dL_law_199 : decode cL_law 199 = .ok (.aload_n 0, 1) := by decide +kernel
theorem dL_law_200 : decode cL_law 200 = .ok (.iload_n 3, 1) := by decide +kernel
theorem dL_law_201 : decode cL_law 201 = .ok (.iconst 1, 1) := by decide +kernel
theorem dL_law_202 : decode cL_law 202 = .ok (.iadd, 1) := by decide +kernel
theorem dL_law_203 : decode cL_law 203 = .ok (.iaload, 1) := by decide +kernel
theorem dL_law_204 : decode cL_law 204 = .ok (.invokevirtual 22, 3) := by decide +kernel
theorem dL_law_207 : decode cL_law 207 = .ok (.if_icmp .eq 841, 3) := by decide +kernel
theorem dL_law_210 : decode cL_law 210 = .ok (.iconst 0, 1) := by decide +kernel
theorem dL_law_211 : decode cL_law 211 = .ok (.ireturn, 1) := by decide +kernel
theorem dL_law_212 : decode cL_law 212 = .ok (.aload_n 1, 1) := by decide +kernel
theorem dL_law_213 : decode cL_law 213 = .ok (.invokevirtual 23, 3) := by decide +kernel
theorem dL_law_216 : decode cL_law 216 = .ok (.aload_n 2, 1) := by decide +kernel
theorem dL_law_217 : decode cL_law 217 = .ok (.invokevirtual 27, 3) := by decide +kernel
theorem dL_law_220 : decode cL_law 220 = .ok (.if_icmp .eq 828, 3) := by decide +kernel
theorem dL_law_223 : decode cL_law 223 = .ok (.iconst 0, 1) := by decide +kernel
theorem dL_law_224 : decode cL_law 224 = .ok (.ireturn, 1) := by decide +kernel
theorem dL_law_225 : decode cL_law 225 = .ok (.aload_n 1, 1) := by decide +kernel
theorem dL_law_226 : decode cL_law 226 = .ok (.aload_n 0, 1) := by decide +kernel
theorem dL_law_227 : decode cL_law 227 = .ok (.iload_n 3, 1) := by decide +kernel
theorem dL_law_228 : decode cL_law 228 = .ok (.iconst 1, 1) := by decide +kernel
theorem dL_law_229 : decode cL_law 229 = .ok (.iadd, 1) := by decide +kernel
theorem dL_law_230 : decode cL_law 230 = .ok (.iaload, 1) := by decide +kernel
theorem dL_law_231 : decode cL_law 231 = .ok (.aload_n 0, 1) := by decide +kernel
theorem dL_law_232 : decode cL_law 232 = .ok (.iload_n 3, 1) := by decide +kernel
theorem dL_law_233 : decode cL_law 233 = .ok (.iconst 2, 1) := by decide +kernel
theorem dL_law_234 : decode cL_law 234 = .ok (.iadd, 1) := by decide +kernel
theorem dL_law_235 : decode cL_law 235 = .ok (.iaload, 1) := by decide +kernel
theorem dL_law_236 : decode cL_law 236 = .ok (.invokevirtual 28, 3) := by decide +kernel
theorem dL_law_239 : decode cL_law 239 = .ok (.aload_n 2, 1) := by decide +kernel
theorem dL_law_240 : decode cL_law 240 = .ok (.aload_n 0, 1) := by decide +kernel
theorem dL_law_241 : decode cL_law 241 = .ok (.iload_n 3, 1) := by decide +kernel
theorem dL_law_242 : decode cL_law 242 = .ok (.iconst 1, 1) := by decide +kernel
theorem dL_law_243 : decode cL_law 243 = .ok (.iadd, 1) := by decide +kernel
theorem dL_law_244 : decode cL_law 244 = .ok (.iaload, 1) := by decide +kernel
theorem dL_law_245 : decode cL_law 245 = .ok (.aload_n 0, 1) := by decide +kernel
theorem dL_law_246 : decode cL_law 246 = .ok (.iload_n 3, 1) := by decide +kernel
theorem dL_law_247 : decode cL_law 247 = .ok (.iconst 2, 1) := by decide +kernel
theorem dL_law_248 : decode cL_law 248 = .ok (.iadd, 1) := by decide +kernel
theorem dL_law_249 : decode cL_law 249 = .ok (.iaload, 1) := by decide +kernel
theorem dL_law_250 : decode cL_law 250 = .ok (.invokevirtual 31, 3) := by decide +kernel
theorem dL_law_253 : decode cL_law 253 = .ok (.if_icmp .eq 795, 3) := by decide +kernel
theorem dL_law_256 : decode cL_law 256 = .ok (.iconst 0, 1) := by decide +kernel
theorem dL_law_257 : decode cL_law 257 = .ok (.ireturn, 1) := by decide +kernel
theorem dL_law_258 : decode cL_law 258 = .ok (.aload_n 1, 1) := by decide +kernel
theorem dL_law_259 : decode cL_law 259 = .ok (.aload_n 0, 1) := by decide +kernel
theorem dL_law_260 : decode cL_law 260 = .ok (.iload_n 3, 1) := by decide +kernel
theorem dL_law_261 : decode cL_law 261 = .ok (.iconst 1, 1) := by decide +kernel
theorem dL_law_262 : decode cL_law 262 = .ok (.iadd, 1) := by decide +kernel
theorem dL_law_263 : decode cL_law 263 = .ok (.iaload, 1) := by decide +kernel
theorem dL_law_264 : decode cL_law 264 = .ok (.aload_n 0, 1) := by decide +kernel
theorem dL_law_265 : decode cL_law 265 = .ok (.iload_n 3, 1) := by decide +kernel
theorem dL_law_266 : decode cL_law 266 = .ok (.iconst 2, 1) := by decide +kernel
theorem dL_law_267 : decode cL_law 267 = .ok (.iadd, 1) := by decide +kernel
theorem dL_law_268 : decode cL_law 268 = .ok (.iaload, 1) := by decide +kernel
theorem dL_law_269 : decode cL_law 269 = .ok (.invokevirtual 32, 3) := by decide +kernel
theorem dL_law_272 : decode cL_law 272 = .ok (.aload_n 2, 1) := by decide +kernel
theorem dL_law_273 : decode cL_law 273 = .ok (.aload_n 0, 1) := by decide +kernel
theorem dL_law_274 : decode cL_law 274 = .ok (.iload_n 3, 1) := by decide +kernel
theorem dL_law_275 : decode cL_law 275 = .ok (.iconst 1, 1) := by decide +kernel
theorem dL_law_276 : decode cL_law 276 = .ok (.iadd, 1) := by decide +kernel
theorem dL_law_277 : decode cL_law 277 = .ok (.iaload, 1) := by decide +kernel
theorem dL_law_278 : decode cL_law 278 = .ok (.aload_n 0, 1) := by decide +kernel
theorem dL_law_279 : decode cL_law 279 = .ok (.iload_n 3, 1) := by decide +kernel
theorem dL_law_280 : decode cL_law 280 = .ok (.iconst 2, 1) := by decide +kernel
theorem dL_law_281 : decode cL_law 281 = .ok (.iadd, 1) := by decide +kernel
theorem dL_law_282 : decode cL_law 282 = .ok (.iaload, 1) := by decide +kernel
theorem dL_law_283 : decode cL_law 283 = .ok (.invokevirtual 35, 3) := by decide +kernel
theorem dL_law_286 : decode cL_law 286 = .ok (.if_icmp .eq 762, 3) := by decide +kernel
theorem dL_law_289 : decode cL_law 289 = .ok (.iconst 0, 1) := by decide +kernel
theorem dL_law_290 : decode cL_law 290 = .ok (.ireturn, 1) := by decide +kernel
theorem dL_law_291 : decode cL_law 291 = .ok (.aload_n 1, 1) := by decide +kernel
theorem dL_law_292 : decode cL_law 292 = .ok (.aload_n 0, 1) := by decide +kernel
theorem dL_law_293 : decode cL_law 293 = .ok (.iload_n 3, 1) := by decide +kernel
theorem dL_law_294 : decode cL_law 294 = .ok (.iconst 1, 1) := by decide +kernel
theorem dL_law_295 : decode cL_law 295 = .ok (.iadd, 1) := by decide +kernel
theorem dL_law_296 : decode cL_law 296 = .ok (.iaload, 1) := by decide +kernel
theorem dL_law_297 : decode cL_law 297 = .ok (.aload_n 0, 1) := by decide +kernel
theorem dL_law_298 : decode cL_law 298 = .ok (.iload_n 3, 1) := by decide +kernel
theorem dL_law_299 : decode cL_law 299 = .ok (.iconst 2, 1) := by decide +kernel
theorem dL_law_300 : decode cL_law 300 = .ok (.iadd, 1) := by decide +kernel
theorem dL_law_301 : decode cL_law 301 = .ok (.iaload, 1) := by decide +kernel
theorem dL_law_302 : decode cL_law 302 = .ok (.invokevirtual 36, 3) := by decide +kernel
theorem dL_law_305 : decode cL_law 305 = .ok (.aload_n 2, 1) := by decide +kernel
theorem dL_law_306 : decode cL_law 306 = .ok (.aload_n 0, 1) := by decide +kernel
theorem dL_law_307 : decode cL_law 307 = .ok (.iload_n 3, 1) := by decide +kernel
theorem dL_law_308 : decode cL_law 308 = .ok (.iconst 1, 1) := by decide +kernel
theorem dL_law_309 : decode cL_law 309 = .ok (.iadd, 1) := by decide +kernel
theorem dL_law_310 : decode cL_law 310 = .ok (.iaload, 1) := by decide +kernel
theorem dL_law_311 : decode cL_law 311 = .ok (.aload_n 0, 1) := by decide +kernel
theorem dL_law_312 : decode cL_law 312 = .ok (.iload_n 3, 1) := by decide +kernel
theorem dL_law_313 : decode cL_law 313 = .ok (.iconst 2, 1) := by decide +kernel
theorem dL_law_314 : decode cL_law 314 = .ok (.iadd, 1) := by decide +kernel
theorem dL_law_315 : decode cL_law 315 = .ok (.iaload, 1) := by decide +kernel
theorem dL_law_316 : decode cL_law 316 = .ok (.invokevirtual 39, 3) := by decide +kernel
theorem dL_law_319 : decode cL_law 319 = .ok (.if_icmp .eq 729, 3) := by decide +kernel
theorem dL_law_322 : decode cL_law 322 = .ok (.iconst 0, 1) := by decide +kernel
theorem dL_law_323 : decode cL_law 323 = .ok (.ireturn, 1) := by decide +kernel
theorem dL_law_324 : decode cL_law 324 = .ok (.aload_n 1, 1) := by decide +kernel
theorem dL_law_325 : decode cL_law 325 = .ok (.aload_n 0, 1) := by decide +kernel
theorem dL_law_326 : decode cL_law 326 = .ok (.iload_n 3, 1) := by decide +kernel
theorem dL_law_327 : decode cL_law 327 = .ok (.iconst 1, 1) := by decide +kernel
theorem dL_law_328 : decode cL_law 328 = .ok (.iadd, 1) := by decide +kernel
theorem dL_law_329 : decode cL_law 329 = .ok (.iaload, 1) := by decide +kernel
theorem dL_law_330 : decode cL_law 330 = .ok (.aload_n 0, 1) := by decide +kernel
theorem dL_law_331 : decode cL_law 331 = .ok (.iload_n 3, 1) := by decide +kernel
theorem dL_law_332 : decode cL_law 332 = .ok (.iconst 2, 1) := by decide +kernel
theorem dL_law_333 : decode cL_law 333 = .ok (.iadd, 1) := by decide +kernel
theorem dL_law_334 : decode cL_law 334 = .ok (.iaload, 1) := by decide +kernel
theorem dL_law_335 : decode cL_law 335 = .ok (.invokevirtual 40, 3) := by decide +kernel
theorem dL_law_338 : decode cL_law 338 = .ok (.aload_n 2, 1) := by decide +kernel
theorem dL_law_339 : decode cL_law 339 = .ok (.aload_n 0, 1) := by decide +kernel
theorem dL_law_340 : decode cL_law 340 = .ok (.iload_n 3, 1) := by decide +kernel
theorem dL_law_341 : decode cL_law 341 = .ok (.iconst 1, 1) := by decide +kernel
theorem dL_law_342 : decode cL_law 342 = .ok (.iadd, 1) := by decide +kernel
theorem dL_law_343 : decode cL_law 343 = .ok (.iaload, 1) := by decide +kernel
theorem dL_law_344 : decode cL_law 344 = .ok (.aload_n 0, 1) := by decide +kernel
theorem dL_law_345 : decode cL_law 345 = .ok (.iload_n 3, 1) := by decide +kernel
theorem dL_law_346 : decode cL_law 346 = .ok (.iconst 2, 1) := by decide +kernel
theorem dL_law_347 : decode cL_law 347 = .ok (.iadd, 1) := by decide +kernel
theorem dL_law_348 : decode cL_law 348 = .ok (.iaload, 1) := by decide +kernel
theorem dL_law_349 : decode cL_law 349 = .ok (.invokevirtual 43, 3) := by decide +kernel
theorem dL_law_352 : decode cL_law 352 = .ok (.if_icmp .eq 696, 3) := by decide +kernel
theorem dL_law_355 : decode cL_law 355 = .ok (.iconst 0, 1) := by decide +kernel
theorem dL_law_356 : decode cL_law 356 = .ok (.ireturn, 1) := by decide +kernel
theorem dL_law_357 : decode cL_law 357 = .ok (.aload_n 1, 1) := by decide +kernel
theorem dL_law_358 : decode cL_law 358 = .ok (.aload_n 0, 1) := by decide +kernel
theorem dL_law_359 : decode cL_law 359 = .ok (.iload_n 3, 1) := by decide +kernel
theorem dL_law_360 : decode cL_law 360 = .ok (.iconst 1, 1) := by decide +kernel
theorem dL_law_361 : decode cL_law 361 = .ok (.iadd, 1) := by decide +kernel
theorem dL_law_362 : decode cL_law 362 = .ok (.iaload, 1) := by decide +kernel
theorem dL_law_363 : decode cL_law 363 = .ok (.aload_n 0, 1) := by decide +kernel
theorem dL_law_364 : decode cL_law 364 = .ok (.iload_n 3, 1) := by decide +kernel
theorem dL_law_365 : decode cL_law 365 = .ok (.iconst 2, 1) := by decide +kernel
theorem dL_law_366 : decode cL_law 366 = .ok (.iadd, 1) := by decide +kernel
theorem dL_law_367 : decode cL_law 367 = .ok (.iaload, 1) := by decide +kernel
theorem dL_law_368 : decode cL_law 368 = .ok (.invokevirtual 44, 3) := by decide +kernel
theorem dL_law_371 : decode cL_law 371 = .ok (.aload_n 2, 1) := by decide +kernel
theorem dL_law_372 : decode cL_law 372 = .ok (.aload_n 0, 1) := by decide +kernel
theorem dL_law_373 : decode cL_law 373 = .ok (.iload_n 3, 1) := by decide +kernel
theorem dL_law_374 : decode cL_law 374 = .ok (.iconst 1, 1) := by decide +kernel
theorem dL_law_375 : decode cL_law 375 = .ok (.iadd, 1) := by decide +kernel
theorem dL_law_376 : decode cL_law 376 = .ok (.iaload, 1) := by decide +kernel
theorem dL_law_377 : decode cL_law 377 = .ok (.aload_n 0, 1) := by decide +kernel
theorem dL_law_378 : decode cL_law 378 = .ok (.iload_n 3, 1) := by decide +kernel
theorem dL_law_379 : decode cL_law 379 = .ok (.iconst 2, 1) := by decide +kernel
theorem dL_law_380 : decode cL_law 380 = .ok (.iadd, 1) := by decide +kernel
theorem dL_law_381 : decode cL_law 381 = .ok (.iaload, 1) := by decide +kernel
theorem dL_law_382 : decode cL_law 382 = .ok (.invokevirtual 47, 3) := by decide +kernel
theorem dL_law_385 : decode cL_law 385 = .ok (.if_icmp .eq 663, 3) := by decide +kernel
theorem dL_law_388 : decode cL_law 388 = .ok (.iconst 0, 1) := by decide +kernel
theorem dL_law_389 : decode cL_law 389 = .ok (.ireturn, 1) := by decide +kernel
theorem dL_law_390 : decode cL_law 390 = .ok (.aload_n 1, 1) := by decide +kernel
theorem dL_law_391 : decode cL_law 391 = .ok (.aload_n 0, 1) := by decide +kernel
theorem dL_law_392 : decode cL_law 392 = .ok (.iload_n 3, 1) := by decide +kernel
theorem dL_law_393 : decode cL_law 393 = .ok (.iconst 1, 1) := by decide +kernel
theorem dL_law_394 : decode cL_law 394 = .ok (.iadd, 1) := by decide +kernel
theorem dL_law_395 : decode cL_law 395 = .ok (.iaload, 1) := by decide +kernel
theorem dL_law_396 : decode cL_law 396 = .ok (.invokevirtual 48, 3) := by decide +kernel
theorem dL_law_399 : decode cL_law 399 = .ok (.aload_n 2, 1) := by decide +kernel
theorem dL_law_400 : decode cL_law 400 = .ok (.aload_n 0, 1) := by decide +kernel
theorem dL_law_401 : decode cL_law 401 = .ok (.iload_n 3, 1) := by decide +kernel
theorem dL_law_402 : decode cL_law 402 = .ok (.iconst 1, 1) := by decide +kernel
theorem dL_law_403 : decode cL_law 403 = .ok (.iadd, 1) := by decide +kernel
theorem dL_law_404 : decode cL_law 404 = .ok (.iaload, 1) := by decide +kernel
theorem dL_law_405 : decode cL_law 405 = .ok (.invokevirtual 51, 3) := by decide +kernel
theorem dL_law_408 : decode cL_law 408 = .ok (.if_icmp .eq 640, 3) := by decide +kernel
theorem dL_law_411 : decode cL_law 411 = .ok (.iconst 0, 1) := by decide +kernel
theorem dL_law_412 : decode cL_law 412 = .ok (.ireturn, 1) := by decide +kernel
theorem dL_law_413 : decode cL_law 413 = .ok (.aload_n 1, 1) := by decide +kernel
theorem dL_law_414 : decode cL_law 414 = .ok (.aload_n 0, 1) := by decide +kernel
theorem dL_law_415 : decode cL_law 415 = .ok (.iload_n 3, 1) := by decide +kernel
theorem dL_law_416 : decode cL_law 416 = .ok (.iconst 1, 1) := by decide +kernel
theorem dL_law_417 : decode cL_law 417 = .ok (.iadd, 1) := by decide +kernel
theorem dL_law_418 : decode cL_law 418 = .ok (.iaload, 1) := by decide +kernel
theorem dL_law_419 : decode cL_law 419 = .ok (.invokevirtual 52, 3) := by decide +kernel
theorem dL_law_422 : decode cL_law 422 = .ok (.aload_n 2, 1) := by decide +kernel
theorem dL_law_423 : decode cL_law 423 = .ok (.aload_n 0, 1) := by decide +kernel
theorem dL_law_424 : decode cL_law 424 = .ok (.iload_n 3, 1) := by decide +kernel
theorem dL_law_425 : decode cL_law 425 = .ok (.iconst 1, 1) := by decide +kernel
theorem dL_law_426 : decode cL_law 426 = .ok (.iadd, 1) := by decide +kernel
theorem dL_law_427 : decode cL_law 427 = .ok (.iaload, 1) := by decide +kernel
theorem dL_law_428 : decode cL_law 428 = .ok (.invokevirtual 55, 3) := by decide +kernel
theorem dL_law_431 : decode cL_law 431 = .ok (.if_icmp .eq 617, 3) := by decide +kernel
theorem dL_law_434 : decode cL_law 434 = .ok (.iconst 0, 1) := by decide +kernel
theorem dL_law_435 : decode cL_law 435 = .ok (.ireturn, 1) := by decide +kernel
theorem dL_law_436 : decode cL_law 436 = .ok (.aload_n 1, 1) := by decide +kernel
theorem dL_law_437 : decode cL_law 437 = .ok (.aload_n 0, 1) := by decide +kernel
theorem dL_law_438 : decode cL_law 438 = .ok (.iload_n 3, 1) := by decide +kernel
theorem dL_law_439 : decode cL_law 439 = .ok (.iconst 1, 1) := by decide +kernel
theorem dL_law_440 : decode cL_law 440 = .ok (.iadd, 1) := by decide +kernel
theorem dL_law_441 : decode cL_law 441 = .ok (.iaload, 1) := by decide +kernel
theorem dL_law_442 : decode cL_law 442 = .ok (.aload_n 0, 1) := by decide +kernel
theorem dL_law_443 : decode cL_law 443 = .ok (.iload_n 3, 1) := by decide +kernel
theorem dL_law_444 : decode cL_law 444 = .ok (.iconst 2, 1) := by decide +kernel
theorem dL_law_445 : decode cL_law 445 = .ok (.iadd, 1) := by decide +kernel
theorem dL_law_446 : decode cL_law 446 = .ok (.iaload, 1) := by decide +kernel
theorem dL_law_447 : decode cL_law 447 = .ok (.aload_n 0, 1) := by decide +kernel
theorem dL_law_448 : decode cL_law 448 = .ok (.iload_n 3, 1) := by decide +kernel
theorem dL_law_449 : decode cL_law 449 = .ok (.iconst 3, 1) := by decide +kernel
theorem dL_law_450 : decode cL_law 450 = .ok (.iadd, 1) := by decide +kernel
theorem dL_law_451 : decode cL_law 451 = .ok (.iaload, 1) := by decide +kernel
theorem dL_law_452 : decode cL_law 452 = .ok (.invokevirtual 56, 3) := by decide +kernel
theorem dL_law_455 : decode cL_law 455 = .ok (.aload_n 2, 1) := by decide +kernel
theorem dL_law_456 : decode cL_law 456 = .ok (.aload_n 0, 1) := by decide +kernel
theorem dL_law_457 : decode cL_law 457 = .ok (.iload_n 3, 1) := by decide +kernel
theorem dL_law_458 : decode cL_law 458 = .ok (.iconst 1, 1) := by decide +kernel
theorem dL_law_459 : decode cL_law 459 = .ok (.iadd, 1) := by decide +kernel
theorem dL_law_460 : decode cL_law 460 = .ok (.iaload, 1) := by decide +kernel
theorem dL_law_461 : decode cL_law 461 = .ok (.aload_n 0, 1) := by decide +kernel
theorem dL_law_462 : decode cL_law 462 = .ok (.iload_n 3, 1) := by decide +kernel
theorem dL_law_463 : decode cL_law 463 = .ok (.iconst 2, 1) := by decide +kernel
theorem dL_law_464 : decode cL_law 464 = .ok (.iadd, 1) := by decide +kernel
theorem dL_law_465 : decode cL_law 465 = .ok (.iaload, 1) := by decide +kernel
theorem dL_law_466 : decode cL_law 466 = .ok (.aload_n 0, 1) := by decide +kernel
theorem dL_law_467 : decode cL_law 467 = .ok (.iload_n 3, 1) := by decide +kernel
theorem dL_law_468 : decode cL_law 468 = .ok (.iconst 3, 1) := by decide +kernel
theorem dL_law_469 : decode cL_law 469 = .ok (.iadd, 1) := by decide +kernel
theorem dL_law_470 : decode cL_law 470 = .ok (.iaload, 1) := by decide +kernel
theorem dL_law_471 : decode cL_law 471 = .ok (.invokevirtual 60, 3) := by decide +kernel
theorem dL_law_474 : decode cL_law 474 = .ok (.if_icmp .eq 574, 3) := by decide +kernel
theorem dL_law_477 : decode cL_law 477 = .ok (.iconst 0, 1) := by decide +kernel
theorem dL_law_478 : decode cL_law 478 = .ok (.ireturn, 1) := by decide +kernel
theorem dL_law_479 : decode cL_law 479 = .ok (.aload_n 1, 1) := by decide +kernel
theorem dL_law_480 : decode cL_law 480 = .ok (.aload_n 0, 1) := by decide +kernel
theorem dL_law_481 : decode cL_law 481 = .ok (.iload_n 3, 1) := by decide +kernel
theorem dL_law_482 : decode cL_law 482 = .ok (.iconst 1, 1) := by decide +kernel
theorem dL_law_483 : decode cL_law 483 = .ok (.iadd, 1) := by decide +kernel
theorem dL_law_484 : decode cL_law 484 = .ok (.iaload, 1) := by decide +kernel
theorem dL_law_485 : decode cL_law 485 = .ok (.aload_n 0, 1) := by decide +kernel
theorem dL_law_486 : decode cL_law 486 = .ok (.iload_n 3, 1) := by decide +kernel
theorem dL_law_487 : decode cL_law 487 = .ok (.iconst 2, 1) := by decide +kernel
theorem dL_law_488 : decode cL_law 488 = .ok (.iadd, 1) := by decide +kernel
theorem dL_law_489 : decode cL_law 489 = .ok (.iaload, 1) := by decide +kernel
theorem dL_law_490 : decode cL_law 490 = .ok (.aload_n 0, 1) := by decide +kernel
theorem dL_law_491 : decode cL_law 491 = .ok (.iload_n 3, 1) := by decide +kernel
theorem dL_law_492 : decode cL_law 492 = .ok (.iconst 3, 1) := by decide +kernel
theorem dL_law_493 : decode cL_law 493 = .ok (.iadd, 1) := by decide +kernel
theorem dL_law_494 : decode cL_law 494 = .ok (.iaload, 1) := by decide +kernel
theorem dL_law_495 : decode cL_law 495 = .ok (.invokevirtual 61, 3) := by decide +kernel
theorem dL_law_498 : decode cL_law 498 = .ok (.aload_n 2, 1) := by decide +kernel
theorem dL_law_499 : decode cL_law 499 = .ok (.aload_n 0, 1) := by decide +kernel
theorem dL_law_500 : decode cL_law 500 = .ok (.iload_n 3, 1) := by decide +kernel
theorem dL_law_501 : decode cL_law 501 = .ok (.iconst 1, 1) := by decide +kernel
theorem dL_law_502 : decode cL_law 502 = .ok (.iadd, 1) := by decide +kernel
theorem dL_law_503 : decode cL_law 503 = .ok (.iaload, 1) := by decide +kernel
theorem dL_law_504 : decode cL_law 504 = .ok (.aload_n 0, 1) := by decide +kernel
theorem dL_law_505 : decode cL_law 505 = .ok (.iload_n 3, 1) := by decide +kernel
theorem dL_law_506 : decode cL_law 506 = .ok (.iconst 2, 1) := by decide +kernel
theorem dL_law_507 : decode cL_law 507 = .ok (.iadd, 1) := by decide +kernel
theorem dL_law_508 : decode cL_law 508 = .ok (.iaload, 1) := by decide +kernel
theorem dL_law_509 : decode cL_law 509 = .ok (.aload_n 0, 1) := by decide +kernel
theorem dL_law_510 : decode cL_law 510 = .ok (.iload_n 3, 1) := by decide +kernel
theorem dL_law_511 : decode cL_law 511 = .ok (.iconst 3, 1) := by decide +kernel
theorem dL_law_512 : decode cL_law 512 = .ok (.iadd, 1) := by decide +kernel
theorem dL_law_513 : decode cL_law 513 = .ok (.iaload, 1) := by decide +kernel
theorem dL_law_514 : decode cL_law 514 = .ok (.invokevirtual 64, 3) := by decide +kernel
theorem dL_law_517 : decode cL_law 517 = .ok (.if_icmp .eq 531, 3) := by decide +kernel
theorem dL_law_520 : decode cL_law 520 = .ok (.iconst 0, 1) := by decide +kernel
theorem dL_law_521 : decode cL_law 521 = .ok (.ireturn, 1) := by decide +kernel
theorem dL_law_522 : decode cL_law 522 = .ok (.aload_n 1, 1) := by decide +kernel
theorem dL_law_523 : decode cL_law 523 = .ok (.aload_n 0, 1) := by decide +kernel
theorem dL_law_524 : decode cL_law 524 = .ok (.iload_n 3, 1) := by decide +kernel
theorem dL_law_525 : decode cL_law 525 = .ok (.iconst 1, 1) := by decide +kernel
theorem dL_law_526 : decode cL_law 526 = .ok (.iadd, 1) := by decide +kernel
theorem dL_law_527 : decode cL_law 527 = .ok (.iaload, 1) := by decide +kernel
theorem dL_law_528 : decode cL_law 528 = .ok (.invokevirtual 65, 3) := by decide +kernel
theorem dL_law_531 : decode cL_law 531 = .ok (.aload_n 2, 1) := by decide +kernel
theorem dL_law_532 : decode cL_law 532 = .ok (.aload_n 0, 1) := by decide +kernel
theorem dL_law_533 : decode cL_law 533 = .ok (.iload_n 3, 1) := by decide +kernel
theorem dL_law_534 : decode cL_law 534 = .ok (.iconst 1, 1) := by decide +kernel
theorem dL_law_535 : decode cL_law 535 = .ok (.iadd, 1) := by decide +kernel
theorem dL_law_536 : decode cL_law 536 = .ok (.iaload, 1) := by decide +kernel
theorem dL_law_537 : decode cL_law 537 = .ok (.invokevirtual 68, 3) := by decide +kernel
theorem dL_law_540 : decode cL_law 540 = .ok (.if_icmp .eq 508, 3) := by decide +kernel
theorem dL_law_543 : decode cL_law 543 = .ok (.iconst 0, 1) := by decide +kernel
theorem dL_law_544 : decode cL_law 544 = .ok (.ireturn, 1) := by decide +kernel
theorem dL_law_545 : decode cL_law 545 = .ok (.aload_n 1, 1) := by decide +kernel
theorem dL_law_546 : decode cL_law 546 = .ok (.aload_n 0, 1) := by decide +kernel
theorem dL_law_547 : decode cL_law 547 = .ok (.iload_n 3, 1) := by decide +kernel
theorem dL_law_548 : decode cL_law 548 = .ok (.iconst 1, 1) := by decide +kernel
theorem dL_law_549 : decode cL_law 549 = .ok (.iadd, 1) := by decide +kernel
theorem dL_law_550 : decode cL_law 550 = .ok (.iaload, 1) := by decide +kernel
theorem dL_law_551 : decode cL_law 551 = .ok (.aload_n 0, 1) := by decide +kernel
theorem dL_law_552 : decode cL_law 552 = .ok (.iload_n 3, 1) := by decide +kernel
theorem dL_law_553 : decode cL_law 553 = .ok (.iconst 2, 1) := by decide +kernel
theorem dL_law_554 : decode cL_law 554 = .ok (.iadd, 1) := by decide +kernel
theorem dL_law_555 : decode cL_law 555 = .ok (.iaload, 1) := by decide +kernel
theorem dL_law_556 : decode cL_law 556 = .ok (.aload_n 0, 1) := by decide +kernel
theorem dL_law_557 : decode cL_law 557 = .ok (.iload_n 3, 1) := by decide +kernel
theorem dL_law_558 : decode cL_law 558 = .ok (.iconst 3, 1) := by decide +kernel
theorem dL_law_559 : decode cL_law 559 = .ok (.iadd, 1) := by decide +kernel
theorem dL_law_560 : decode cL_law 560 = .ok (.iaload, 1) := by decide +kernel
theorem dL_law_561 : decode cL_law 561 = .ok (.invokevirtual 69, 3) := by decide +kernel
theorem dL_law_564 : decode cL_law 564 = .ok (.aload_n 2, 1) := by decide +kernel
theorem dL_law_565 : decode cL_law 565 = .ok (.aload_n 0, 1) := by decide +kernel
theorem dL_law_566 : decode cL_law 566 = .ok (.iload_n 3, 1) := by decide +kernel
theorem dL_law_567 : decode cL_law 567 = .ok (.iconst 1, 1) := by decide +kernel
theorem dL_law_568 : decode cL_law 568 = .ok (.iadd, 1) := by decide +kernel
theorem dL_law_569 : decode cL_law 569 = .ok (.iaload, 1) := by decide +kernel
theorem dL_law_570 : decode cL_law 570 = .ok (.aload_n 0, 1) := by decide +kernel
theorem dL_law_571 : decode cL_law 571 = .ok (.iload_n 3, 1) := by decide +kernel
theorem dL_law_572 : decode cL_law 572 = .ok (.iconst 2, 1) := by decide +kernel
theorem dL_law_573 : decode cL_law 573 = .ok (.iadd, 1) := by decide +kernel
theorem dL_law_574 : decode cL_law 574 = .ok (.iaload, 1) := by decide +kernel
theorem dL_law_575 : decode cL_law 575 = .ok (.aload_n 0, 1) := by decide +kernel
theorem dL_law_576 : decode cL_law 576 = .ok (.iload_n 3, 1) := by decide +kernel
theorem dL_law_577 : decode cL_law 577 = .ok (.iconst 3, 1) := by decide +kernel
theorem dL_law_578 : decode cL_law 578 = .ok (.iadd, 1) := by decide +kernel
theorem dL_law_579 : decode cL_law 579 = .ok (.iaload, 1) := by decide +kernel
theorem dL_law_580 : decode cL_law 580 = .ok (.invokevirtual 72, 3) := by decide +kernel
theorem dL_law_583 : decode cL_law 583 = .ok (.if_icmp .eq 465, 3) := by decide +kernel
theorem dL_law_586 : decode cL_law 586 = .ok (.iconst 0, 1) := by decide +kernel
theorem dL_law_587 : decode cL_law 587 = .ok (.ireturn, 1) := by decide +kernel
theorem dL_law_588 : decode cL_law 588 = .ok (.aload_n 1, 1) := by decide +kernel
theorem dL_law_589 : decode cL_law 589 = .ok (.aload_n 0, 1) := by decide +kernel
theorem dL_law_590 : decode cL_law 590 = .ok (.iload_n 3, 1) := by decide +kernel
theorem dL_law_591 : decode cL_law 591 = .ok (.iconst 1, 1) := by decide +kernel
theorem dL_law_592 : decode cL_law 592 = .ok (.iadd, 1) := by decide +kernel
theorem dL_law_593 : decode cL_law 593 = .ok (.iaload, 1) := by decide +kernel
theorem dL_law_594 : decode cL_law 594 = .ok (.invokevirtual 73, 3) := by decide +kernel
theorem dL_law_597 : decode cL_law 597 = .ok (.aload_n 2, 1) := by decide +kernel
theorem dL_law_598 : decode cL_law 598 = .ok (.aload_n 0, 1) := by decide +kernel
theorem dL_law_599 : decode cL_law 599 = .ok (.iload_n 3, 1) := by decide +kernel
theorem dL_law_600 : decode cL_law 600 = .ok (.iconst 1, 1) := by decide +kernel
theorem dL_law_601 : decode cL_law 601 = .ok (.iadd, 1) := by decide +kernel
theorem dL_law_602 : decode cL_law 602 = .ok (.iaload, 1) := by decide +kernel
theorem dL_law_603 : decode cL_law 603 = .ok (.invokevirtual 76, 3) := by decide +kernel
theorem dL_law_606 : decode cL_law 606 = .ok (.if_icmp .eq 442, 3) := by decide +kernel
theorem dL_law_609 : decode cL_law 609 = .ok (.iconst 0, 1) := by decide +kernel
theorem dL_law_610 : decode cL_law 610 = .ok (.ireturn, 1) := by decide +kernel
theorem dL_law_611 : decode cL_law 611 = .ok (.aload_n 1, 1) := by decide +kernel
theorem dL_law_612 : decode cL_law 612 = .ok (.aload_n 0, 1) := by decide +kernel
theorem dL_law_613 : decode cL_law 613 = .ok (.iload_n 3, 1) := by decide +kernel
theorem dL_law_614 : decode cL_law 614 = .ok (.iconst 1, 1) := by decide +kernel
theorem dL_law_615 : decode cL_law 615 = .ok (.iadd, 1) := by decide +kernel
theorem dL_law_616 : decode cL_law 616 = .ok (.iaload, 1) := by decide +kernel
theorem dL_law_617 : decode cL_law 617 = .ok (.aload_n 0, 1) := by decide +kernel
theorem dL_law_618 : decode cL_law 618 = .ok (.iload_n 3, 1) := by decide +kernel
theorem dL_law_619 : decode cL_law 619 = .ok (.iconst 2, 1) := by decide +kernel
theorem dL_law_620 : decode cL_law 620 = .ok (.iadd, 1) := by decide +kernel
theorem dL_law_621 : decode cL_law 621 = .ok (.iaload, 1) := by decide +kernel
theorem dL_law_622 : decode cL_law 622 = .ok (.aload_n 0, 1) := by decide +kernel
theorem dL_law_623 : decode cL_law 623 = .ok (.iload_n 3, 1) := by decide +kernel
theorem dL_law_624 : decode cL_law 624 = .ok (.iconst 3, 1) := by decide +kernel
theorem dL_law_625 : decode cL_law 625 = .ok (.iadd, 1) := by decide +kernel
theorem dL_law_626 : decode cL_law 626 = .ok (.iaload, 1) := by decide +kernel
theorem dL_law_627 : decode cL_law 627 = .ok (.aload_n 0, 1) := by decide +kernel
theorem dL_law_628 : decode cL_law 628 = .ok (.iload_n 3, 1) := by decide +kernel
theorem dL_law_629 : decode cL_law 629 = .ok (.iconst 4, 1) := by decide +kernel
theorem dL_law_630 : decode cL_law 630 = .ok (.iadd, 1) := by decide +kernel
theorem dL_law_631 : decode cL_law 631 = .ok (.iaload, 1) := by decide +kernel
theorem dL_law_632 : decode cL_law 632 = .ok (.invokevirtual 77, 3) := by decide +kernel
theorem dL_law_635 : decode cL_law 635 = .ok (.aload_n 2, 1) := by decide +kernel
theorem dL_law_636 : decode cL_law 636 = .ok (.aload_n 0, 1) := by decide +kernel
theorem dL_law_637 : decode cL_law 637 = .ok (.iload_n 3, 1) := by decide +kernel
theorem dL_law_638 : decode cL_law 638 = .ok (.iconst 1, 1) := by decide +kernel
theorem dL_law_639 : decode cL_law 639 = .ok (.iadd, 1) := by decide +kernel
theorem dL_law_640 : decode cL_law 640 = .ok (.iaload, 1) := by decide +kernel
theorem dL_law_641 : decode cL_law 641 = .ok (.aload_n 0, 1) := by decide +kernel
theorem dL_law_642 : decode cL_law 642 = .ok (.iload_n 3, 1) := by decide +kernel
theorem dL_law_643 : decode cL_law 643 = .ok (.iconst 2, 1) := by decide +kernel
theorem dL_law_644 : decode cL_law 644 = .ok (.iadd, 1) := by decide +kernel
theorem dL_law_645 : decode cL_law 645 = .ok (.iaload, 1) := by decide +kernel
theorem dL_law_646 : decode cL_law 646 = .ok (.aload_n 0, 1) := by decide +kernel
theorem dL_law_647 : decode cL_law 647 = .ok (.iload_n 3, 1) := by decide +kernel
theorem dL_law_648 : decode cL_law 648 = .ok (.iconst 3, 1) := by decide +kernel
theorem dL_law_649 : decode cL_law 649 = .ok (.iadd, 1) := by decide +kernel
theorem dL_law_650 : decode cL_law 650 = .ok (.iaload, 1) := by decide +kernel
theorem dL_law_651 : decode cL_law 651 = .ok (.aload_n 0, 1) := by decide +kernel
theorem dL_law_652 : decode cL_law 652 = .ok (.iload_n 3, 1) := by decide +kernel
theorem dL_law_653 : decode cL_law 653 = .ok (.iconst 4, 1) := by decide +kernel
theorem dL_law_654 : decode cL_law 654 = .ok (.iadd, 1) := by decide +kernel
theorem dL_law_655 : decode cL_law 655 = .ok (.iaload, 1) := by decide +kernel
theorem dL_law_656 : decode cL_law 656 = .ok (.invokevirtual 81, 3) := by decide +kernel
theorem dL_law_659 : decode cL_law 659 = .ok (.if_icmp .eq 389, 3) := by decide +kernel
theorem dL_law_662 : decode cL_law 662 = .ok (.iconst 0, 1) := by decide +kernel
theorem dL_law_663 : decode cL_law 663 = .ok (.ireturn, 1) := by decide +kernel
theorem dL_law_664 : decode cL_law 664 = .ok (.aload_n 1, 1) := by decide +kernel
theorem dL_law_665 : decode cL_law 665 = .ok (.aload_n 0, 1) := by decide +kernel
theorem dL_law_666 : decode cL_law 666 = .ok (.iload_n 3, 1) := by decide +kernel
theorem dL_law_667 : decode cL_law 667 = .ok (.iconst 1, 1) := by decide +kernel
theorem dL_law_668 : decode cL_law 668 = .ok (.iadd, 1) := by decide +kernel
theorem dL_law_669 : decode cL_law 669 = .ok (.iaload, 1) := by decide +kernel
theorem dL_law_670 : decode cL_law 670 = .ok (.aload_n 0, 1) := by decide +kernel
theorem dL_law_671 : decode cL_law 671 = .ok (.iload_n 3, 1) := by decide +kernel
theorem dL_law_672 : decode cL_law 672 = .ok (.iconst 2, 1) := by decide +kernel
theorem dL_law_673 : decode cL_law 673 = .ok (.iadd, 1) := by decide +kernel
theorem dL_law_674 : decode cL_law 674 = .ok (.iaload, 1) := by decide +kernel
theorem dL_law_675 : decode cL_law 675 = .ok (.invokevirtual 82, 3) := by decide +kernel
theorem dL_law_678 : decode cL_law 678 = .ok (.aload_n 2, 1) := by decide +kernel
theorem dL_law_679 : decode cL_law 679 = .ok (.aload_n 0, 1) := by decide +kernel
theorem dL_law_680 : decode cL_law 680 = .ok (.iload_n 3, 1) := by decide +kernel
theorem dL_law_681 : decode cL_law 681 = .ok (.iconst 1, 1) := by decide +kernel
theorem dL_law_682 : decode cL_law 682 = .ok (.iadd, 1) := by decide +kernel
theorem dL_law_683 : decode cL_law 683 = .ok (.iaload, 1) := by decide +kernel
theorem dL_law_684 : decode cL_law 684 = .ok (.aload_n 0, 1) := by decide +kernel
theorem dL_law_685 : decode cL_law 685 = .ok (.iload_n 3, 1) := by decide +kernel
theorem dL_law_686 : decode cL_law 686 = .ok (.iconst 2, 1) := by decide +kernel
theorem dL_law_687 : decode cL_law 687 = .ok (.iadd, 1) := by decide +kernel
theorem dL_law_688 : decode cL_law 688 = .ok (.iaload, 1) := by decide +kernel
theorem dL_law_689 : decode cL_law 689 = .ok (.invokevirtual 85, 3) := by decide +kernel
theorem dL_law_692 : decode cL_law 692 = .ok (.if_icmp .eq 356, 3) := by decide +kernel
theorem dL_law_695 : decode cL_law 695 = .ok (.iconst 0, 1) := by decide +kernel
theorem dL_law_696 : decode cL_law 696 = .ok (.ireturn, 1) := by decide +kernel
theorem dL_law_697 : decode cL_law 697 = .ok (.aload_n 1, 1) := by decide +kernel
theorem dL_law_698 : decode cL_law 698 = .ok (.aload_n 0, 1) := by decide +kernel
theorem dL_law_699 : decode cL_law 699 = .ok (.iload_n 3, 1) := by decide +kernel
theorem dL_law_700 : decode cL_law 700 = .ok (.iconst 1, 1) := by decide +kernel
theorem dL_law_701 : decode cL_law 701 = .ok (.iadd, 1) := by decide +kernel
theorem dL_law_702 : decode cL_law 702 = .ok (.iaload, 1) := by decide +kernel
theorem dL_law_703 : decode cL_law 703 = .ok (.aload_n 0, 1) := by decide +kernel
theorem dL_law_704 : decode cL_law 704 = .ok (.iload_n 3, 1) := by decide +kernel
theorem dL_law_705 : decode cL_law 705 = .ok (.iconst 2, 1) := by decide +kernel
theorem dL_law_706 : decode cL_law 706 = .ok (.iadd, 1) := by decide +kernel
theorem dL_law_707 : decode cL_law 707 = .ok (.iaload, 1) := by decide +kernel
theorem dL_law_708 : decode cL_law 708 = .ok (.aload_n 0, 1) := by decide +kernel
theorem dL_law_709 : decode cL_law 709 = .ok (.iload_n 3, 1) := by decide +kernel
theorem dL_law_710 : decode cL_law 710 = .ok (.iconst 3, 1) := by decide +kernel
theorem dL_law_711 : decode cL_law 711 = .ok (.iadd, 1) := by decide +kernel
theorem dL_law_712 : decode cL_law 712 = .ok (.iaload, 1) := by decide +kernel
theorem dL_law_713 : decode cL_law 713 = .ok (.invokevirtual 86, 3) := by decide +kernel
theorem dL_law_716 : decode cL_law 716 = .ok (.aload_n 2, 1) := by decide +kernel
theorem dL_law_717 : decode cL_law 717 = .ok (.aload_n 0, 1) := by decide +kernel
theorem dL_law_718 : decode cL_law 718 = .ok (.iload_n 3, 1) := by decide +kernel
theorem dL_law_719 : decode cL_law 719 = .ok (.iconst 1, 1) := by decide +kernel
theorem dL_law_720 : decode cL_law 720 = .ok (.iadd, 1) := by decide +kernel
theorem dL_law_721 : decode cL_law 721 = .ok (.iaload, 1) := by decide +kernel
theorem dL_law_722 : decode cL_law 722 = .ok (.aload_n 0, 1) := by decide +kernel
theorem dL_law_723 : decode cL_law 723 = .ok (.iload_n 3, 1) := by decide +kernel
theorem dL_law_724 : decode cL_law 724 = .ok (.iconst 2, 1) := by decide +kernel
theorem dL_law_725 : decode cL_law 725 = .ok (.iadd, 1) := by decide +kernel
theorem dL_law_726 : decode cL_law 726 = .ok (.iaload, 1) := by decide +kernel
theorem dL_law_727 : decode cL_law 727 = .ok (.aload_n 0, 1) := by decide +kernel
theorem dL_law_728 : decode cL_law 728 = .ok (.iload_n 3, 1) := by decide +kernel
theorem dL_law_729 : decode cL_law 729 = .ok (.iconst 3, 1) := by decide +kernel
theorem dL_law_730 : decode cL_law 730 = .ok (.iadd, 1) := by decide +kernel
theorem dL_law_731 : decode cL_law 731 = .ok (.iaload, 1) := by decide +kernel
theorem dL_law_732 : decode cL_law 732 = .ok (.invokevirtual 89, 3) := by decide +kernel
theorem dL_law_735 : decode cL_law 735 = .ok (.if_icmp .eq 313, 3) := by decide +kernel
theorem dL_law_738 : decode cL_law 738 = .ok (.iconst 0, 1) := by decide +kernel
theorem dL_law_739 : decode cL_law 739 = .ok (.ireturn, 1) := by decide +kernel
theorem dL_law_740 : decode cL_law 740 = .ok (.aload_n 1, 1) := by decide +kernel
theorem dL_law_741 : decode cL_law 741 = .ok (.invokevirtual 90, 3) := by decide +kernel
theorem dL_law_744 : decode cL_law 744 = .ok (.aload_n 2, 1) := by decide +kernel
theorem dL_law_745 : decode cL_law 745 = .ok (.invokevirtual 93, 3) := by decide +kernel
theorem dL_law_748 : decode cL_law 748 = .ok (.if_icmp .eq 300, 3) := by decide +kernel
theorem dL_law_751 : decode cL_law 751 = .ok (.iconst 0, 1) := by decide +kernel
theorem dL_law_752 : decode cL_law 752 = .ok (.ireturn, 1) := by decide +kernel
theorem dL_law_753 : decode cL_law 753 = .ok (.aload_n 1, 1) := by decide +kernel
theorem dL_law_754 : decode cL_law 754 = .ok (.aload_n 0, 1) := by decide +kernel
theorem dL_law_755 : decode cL_law 755 = .ok (.iload_n 3, 1) := by decide +kernel
theorem dL_law_756 : decode cL_law 756 = .ok (.iconst 1, 1) := by decide +kernel
theorem dL_law_757 : decode cL_law 757 = .ok (.iadd, 1) := by decide +kernel
theorem dL_law_758 : decode cL_law 758 = .ok (.iaload, 1) := by decide +kernel
theorem dL_law_759 : decode cL_law 759 = .ok (.aload_n 0, 1) := by decide +kernel
theorem dL_law_760 : decode cL_law 760 = .ok (.iload_n 3, 1) := by decide +kernel
theorem dL_law_761 : decode cL_law 761 = .ok (.iconst 2, 1) := by decide +kernel
theorem dL_law_762 : decode cL_law 762 = .ok (.iadd, 1) := by decide +kernel
theorem dL_law_763 : decode cL_law 763 = .ok (.iaload, 1) := by decide +kernel
theorem dL_law_764 : decode cL_law 764 = .ok (.aload_n 0, 1) := by decide +kernel
theorem dL_law_765 : decode cL_law 765 = .ok (.iload_n 3, 1) := by decide +kernel
theorem dL_law_766 : decode cL_law 766 = .ok (.iconst 3, 1) := by decide +kernel
theorem dL_law_767 : decode cL_law 767 = .ok (.iadd, 1) := by decide +kernel
theorem dL_law_768 : decode cL_law 768 = .ok (.iaload, 1) := by decide +kernel
theorem dL_law_769 : decode cL_law 769 = .ok (.invokevirtual 94, 3) := by decide +kernel
theorem dL_law_772 : decode cL_law 772 = .ok (.aload_n 2, 1) := by decide +kernel
theorem dL_law_773 : decode cL_law 773 = .ok (.aload_n 0, 1) := by decide +kernel
theorem dL_law_774 : decode cL_law 774 = .ok (.iload_n 3, 1) := by decide +kernel
theorem dL_law_775 : decode cL_law 775 = .ok (.iconst 1, 1) := by decide +kernel
theorem dL_law_776 : decode cL_law 776 = .ok (.iadd, 1) := by decide +kernel
theorem dL_law_777 : decode cL_law 777 = .ok (.iaload, 1) := by decide +kernel
theorem dL_law_778 : decode cL_law 778 = .ok (.aload_n 0, 1) := by decide +kernel
theorem dL_law_779 : decode cL_law 779 = .ok (.iload_n 3, 1) := by decide +kernel
theorem dL_law_780 : decode cL_law 780 = .ok (.iconst 2, 1) := by decide +kernel
theorem dL_law_781 : decode cL_law 781 = .ok (.iadd, 1) := by decide +kernel
theorem dL_law_782 : decode cL_law 782 = .ok (.iaload, 1) := by decide +kernel
theorem dL_law_783 : decode cL_law 783 = .ok (.aload_n 0, 1) := by decide +kernel
theorem dL_law_784 : decode cL_law 784 = .ok (.iload_n 3, 1) := by decide +kernel
theorem dL_law_785 : decode cL_law 785 = .ok (.iconst 3, 1) := by decide +kernel
theorem dL_law_786 : decode cL_law 786 = .ok (.iadd, 1) := by decide +kernel
theorem dL_law_787 : decode cL_law 787 = .ok (.iaload, 1) := by decide +kernel
theorem dL_law_788 : decode cL_law 788 = .ok (.invokevirtual 97, 3) := by decide +kernel
theorem dL_law_791 : decode cL_law 791 = .ok (.if_icmp .eq 257, 3) := by decide +kernel
theorem dL_law_794 : decode cL_law 794 = .ok (.iconst 0, 1) := by decide +kernel
theorem dL_law_795 : decode cL_law 795 = .ok (.ireturn, 1) := by decide +kernel
theorem dL_law_796 : decode cL_law 796 = .ok (.aload_n 1, 1) := by decide +kernel
theorem dL_law_797 : decode cL_law 797 = .ok (.aload_n 0, 1) := by decide +kernel
theorem dL_law_798 : decode cL_law 798 = .ok (.iload_n 3, 1) := by decide +kernel
theorem dL_law_799 : decode cL_law 799 = .ok (.iconst 1, 1) := by decide +kernel
theorem dL_law_800 : decode cL_law 800 = .ok (.iadd, 1) := by decide +kernel
theorem dL_law_801 : decode cL_law 801 = .ok (.iaload, 1) := by decide +kernel
theorem dL_law_802 : decode cL_law 802 = .ok (.invokevirtual 98, 3) := by decide +kernel
theorem dL_law_805 : decode cL_law 805 = .ok (.aload_n 2, 1) := by decide +kernel
theorem dL_law_806 : decode cL_law 806 = .ok (.aload_n 0, 1) := by decide +kernel
theorem dL_law_807 : decode cL_law 807 = .ok (.iload_n 3, 1) := by decide +kernel
theorem dL_law_808 : decode cL_law 808 = .ok (.iconst 1, 1) := by decide +kernel
theorem dL_law_809 : decode cL_law 809 = .ok (.iadd, 1) := by decide +kernel
theorem dL_law_810 : decode cL_law 810 = .ok (.iaload, 1) := by decide +kernel
theorem dL_law_811 : decode cL_law 811 = .ok (.invokevirtual 101, 3) := by decide +kernel
theorem dL_law_814 : decode cL_law 814 = .ok (.if_icmp .eq 234, 3) := by decide +kernel
theorem dL_law_817 : decode cL_law 817 = .ok (.iconst 0, 1) := by decide +kernel
theorem dL_law_818 : decode cL_law 818 = .ok (.ireturn, 1) := by decide +kernel
theorem dL_law_819 : decode cL_law 819 = .ok (.aload_n 1, 1) := by decide +kernel
theorem dL_law_820 : decode cL_law 820 = .ok (.aload_n 0, 1) := by decide +kernel
theorem dL_law_821 : decode cL_law 821 = .ok (.iload_n 3, 1) := by decide +kernel
theorem dL_law_822 : decode cL_law 822 = .ok (.iconst 1, 1) := by decide +kernel
theorem dL_law_823 : decode cL_law 823 = .ok (.iadd, 1) := by decide +kernel
theorem dL_law_824 : decode cL_law 824 = .ok (.iaload, 1) := by decide +kernel
theorem dL_law_825 : decode cL_law 825 = .ok (.aload_n 0, 1) := by decide +kernel
theorem dL_law_826 : decode cL_law 826 = .ok (.iload_n 3, 1) := by decide +kernel
theorem dL_law_827 : decode cL_law 827 = .ok (.iconst 2, 1) := by decide +kernel
theorem dL_law_828 : decode cL_law 828 = .ok (.iadd, 1) := by decide +kernel
theorem dL_law_829 : decode cL_law 829 = .ok (.iaload, 1) := by decide +kernel
theorem dL_law_830 : decode cL_law 830 = .ok (.aload_n 0, 1) := by decide +kernel
theorem dL_law_831 : decode cL_law 831 = .ok (.iload_n 3, 1) := by decide +kernel
theorem dL_law_832 : decode cL_law 832 = .ok (.iconst 3, 1) := by decide +kernel
theorem dL_law_833 : decode cL_law 833 = .ok (.iadd, 1) := by decide +kernel
theorem dL_law_834 : decode cL_law 834 = .ok (.iaload, 1) := by decide +kernel
theorem dL_law_835 : decode cL_law 835 = .ok (.aload_n 0, 1) := by decide +kernel
theorem dL_law_836 : decode cL_law 836 = .ok (.iload_n 3, 1) := by decide +kernel
theorem dL_law_837 : decode cL_law 837 = .ok (.iconst 4, 1) := by decide +kernel
theorem dL_law_838 : decode cL_law 838 = .ok (.iadd, 1) := by decide +kernel
theorem dL_law_839 : decode cL_law 839 = .ok (.iaload, 1) := by decide +kernel
theorem dL_law_840 : decode cL_law 840 = .ok (.invokevirtual 102, 3) := by decide +kernel
theorem dL_law_843 : decode cL_law 843 = .ok (.aload_n 2, 1) := by decide +kernel
theorem dL_law_844 : decode cL_law 844 = .ok (.aload_n 0, 1) := by decide +kernel
theorem dL_law_845 : decode cL_law 845 = .ok (.iload_n 3, 1) := by decide +kernel
theorem dL_law_846 : decode cL_law 846 = .ok (.iconst 1, 1) := by decide +kernel
theorem dL_law_847 : decode cL_law 847 = .ok (.iadd, 1) := by decide +kernel
theorem dL_law_848 : decode cL_law 848 = .ok (.iaload, 1) := by decide +kernel
theorem dL_law_849 : decode cL_law 849 = .ok (.aload_n 0, 1) := by decide +kernel
theorem dL_law_850 : decode cL_law 850 = .ok (.iload_n 3, 1) := by decide +kernel
theorem dL_law_851 : decode cL_law 851 = .ok (.iconst 2, 1) := by decide +kernel
theorem dL_law_852 : decode cL_law 852 = .ok (.iadd, 1) := by decide +kernel
theorem dL_law_853 : decode cL_law 853 = .ok (.iaload, 1) := by decide +kernel
theorem dL_law_854 : decode cL_law 854 = .ok (.aload_n 0, 1) := by decide +kernel
theorem dL_law_855 : decode cL_law 855 = .ok (.iload_n 3, 1) := by decide +kernel
theorem dL_law_856 : decode cL_law 856 = .ok (.iconst 3, 1) := by decide +kernel
theorem dL_law_857 : decode cL_law 857 = .ok (.iadd, 1) := by decide +kernel
theorem dL_law_858 : decode cL_law 858 = .ok (.iaload, 1) := by decide +kernel
theorem dL_law_859 : decode cL_law 859 = .ok (.aload_n 0, 1) := by decide +kernel
theorem dL_law_860 : decode cL_law 860 = .ok (.iload_n 3, 1) := by decide +kernel
theorem dL_law_861 : decode cL_law 861 = .ok (.iconst 4, 1) := by decide +kernel
theorem dL_law_862 : decode cL_law 862 = .ok (.iadd, 1) := by decide +kernel
theorem dL_law_863 : decode cL_law 863 = .ok (.iaload, 1) := by decide +kernel
theorem dL_law_864 : decode cL_law 864 = .ok (.invokevirtual 105, 3) := by decide +kernel
theorem dL_law_867 : decode cL_law 867 = .ok (.if_icmp .eq 181, 3) := by decide +kernel
theorem dL_law_870 : decode cL_law 870 = .ok (.iconst 0, 1) := by decide +kernel
theorem dL_law_871 : decode cL_law 871 = .ok (.ireturn, 1) := by decide +kernel
theorem dL_law_872 : decode cL_law 872 = .ok (.aload_n 1, 1) := by decide +kernel
theorem dL_law_873 : decode cL_law 873 = .ok (.aload_n 0, 1) := by decide +kernel
theorem dL_law_874 : decode cL_law 874 = .ok (.iload_n 3, 1) := by decide +kernel
theorem dL_law_875 : decode cL_law 875 = .ok (.iconst 1, 1) := by decide +kernel
theorem dL_law_876 : decode cL_law 876 = .ok (.iadd, 1) := by decide +kernel
theorem dL_law_877 : decode cL_law 877 = .ok (.iaload, 1) := by decide +kernel
theorem dL_law_878 : decode cL_law 878 = .ok (.aload_n 0, 1) := by decide +kernel
theorem dL_law_879 : decode cL_law 879 = .ok (.iload_n 3, 1) := by decide +kernel
theorem dL_law_880 : decode cL_law 880 = .ok (.iconst 2, 1) := by decide +kernel
theorem dL_law_881 : decode cL_law 881 = .ok (.iadd, 1) := by decide +kernel
theorem dL_law_882 : decode cL_law 882 = .ok (.iaload, 1) := by decide +kernel
theorem dL_law_883 : decode cL_law 883 = .ok (.aload_n 0, 1) := by decide +kernel
theorem dL_law_884 : decode cL_law 884 = .ok (.iload_n 3, 1) := by decide +kernel
theorem dL_law_885 : decode cL_law 885 = .ok (.iconst 3, 1) := by decide +kernel
theorem dL_law_886 : decode cL_law 886 = .ok (.iadd, 1) := by decide +kernel
theorem dL_law_887 : decode cL_law 887 = .ok (.iaload, 1) := by decide +kernel
theorem dL_law_888 : decode cL_law 888 = .ok (.invokevirtual 106, 3) := by decide +kernel
theorem dL_law_891 : decode cL_law 891 = .ok (.aload_n 2, 1) := by decide +kernel
theorem dL_law_892 : decode cL_law 892 = .ok (.aload_n 0, 1) := by decide +kernel
theorem dL_law_893 : decode cL_law 893 = .ok (.iload_n 3, 1) := by decide +kernel
theorem dL_law_894 : decode cL_law 894 = .ok (.iconst 1, 1) := by decide +kernel
theorem dL_law_895 : decode cL_law 895 = .ok (.iadd, 1) := by decide +kernel
theorem dL_law_896 : decode cL_law 896 = .ok (.iaload, 1) := by decide +kernel
theorem dL_law_897 : decode cL_law 897 = .ok (.aload_n 0, 1) := by decide +kernel
theorem dL_law_898 : decode cL_law 898 = .ok (.iload_n 3, 1) := by decide +kernel
theorem dL_law_899 : decode cL_law 899 = .ok (.iconst 2, 1) := by decide +kernel
theorem dL_law_900 : decode cL_law 900 = .ok (.iadd, 1) := by decide +kernel
theorem dL_law_901 : decode cL_law 901 = .ok (.iaload, 1) := by decide +kernel
theorem dL_law_902 : decode cL_law 902 = .ok (.aload_n 0, 1) := by decide +kernel
theorem dL_law_903 : decode cL_law 903 = .ok (.iload_n 3, 1) := by decide +kernel
theorem dL_law_904 : decode cL_law 904 = .ok (.iconst 3, 1) := by decide +kernel
theorem dL_law_905 : decode cL_law 905 = .ok (.iadd, 1) := by decide +kernel
theorem dL_law_906 : decode cL_law 906 = .ok (.iaload, 1) := by decide +kernel
theorem dL_law_907 : decode cL_law 907 = .ok (.invokevirtual 109, 3) := by decide +kernel
theorem dL_law_910 : decode cL_law 910 = .ok (.if_icmp .eq 138, 3) := by decide +kernel
theorem dL_law_913 : decode cL_law 913 = .ok (.iconst 0, 1) := by decide +kernel
theorem dL_law_914 : decode cL_law 914 = .ok (.ireturn, 1) := by decide +kernel
theorem dL_law_915 : decode cL_law 915 = .ok (.aload_n 1, 1) := by decide +kernel
theorem dL_law_916 : decode cL_law 916 = .ok (.aload_n 0, 1) := by decide +kernel
theorem dL_law_917 : decode cL_law 917 = .ok (.iload_n 3, 1) := by decide +kernel
theorem dL_law_918 : decode cL_law 918 = .ok (.iconst 1, 1) := by decide +kernel
theorem dL_law_919 : decode cL_law 919 = .ok (.iadd, 1) := by decide +kernel
theorem dL_law_920 : decode cL_law 920 = .ok (.iaload, 1) := by decide +kernel
theorem dL_law_921 : decode cL_law 921 = .ok (.aload_n 0, 1) := by decide +kernel
theorem dL_law_922 : decode cL_law 922 = .ok (.iload_n 3, 1) := by decide +kernel
theorem dL_law_923 : decode cL_law 923 = .ok (.iconst 2, 1) := by decide +kernel
theorem dL_law_924 : decode cL_law 924 = .ok (.iadd, 1) := by decide +kernel
theorem dL_law_925 : decode cL_law 925 = .ok (.iaload, 1) := by decide +kernel
theorem dL_law_926 : decode cL_law 926 = .ok (.aload_n 0, 1) := by decide +kernel
theorem dL_law_927 : decode cL_law 927 = .ok (.iload_n 3, 1) := by decide +kernel
theorem dL_law_928 : decode cL_law 928 = .ok (.iconst 3, 1) := by decide +kernel
theorem dL_law_929 : decode cL_law 929 = .ok (.iadd, 1) := by decide +kernel
theorem dL_law_930 : decode cL_law 930 = .ok (.iaload, 1) := by decide +kernel
theorem dL_law_931 : decode cL_law 931 = .ok (.aload_n 0, 1) := by decide +kernel
theorem dL_law_932 : decode cL_law 932 = .ok (.iload_n 3, 1) := by decide +kernel
theorem dL_law_933 : decode cL_law 933 = .ok (.iconst 4, 1) := by decide +kernel
theorem dL_law_934 : decode cL_law 934 = .ok (.iadd, 1) := by decide +kernel
theorem dL_law_935 : decode cL_law 935 = .ok (.iaload, 1) := by decide +kernel
theorem dL_law_936 : decode cL_law 936 = .ok (.aload_n 0, 1) := by decide +kernel
theorem dL_law_937 : decode cL_law 937 = .ok (.iload_n 3, 1) := by decide +kernel
theorem dL_law_938 : decode cL_law 938 = .ok (.iconst 5, 1) := by decide +kernel
theorem dL_law_939 : decode cL_law 939 = .ok (.iadd, 1) := by decide +kernel
theorem dL_law_940 : decode cL_law 940 = .ok (.iaload, 1) := by decide +kernel
theorem dL_law_941 : decode cL_law 941 = .ok (.invokevirtual 110, 3) := by decide +kernel
theorem dL_law_944 : decode cL_law 944 = .ok (.aload_n 2, 1) := by decide +kernel
theorem dL_law_945 : decode cL_law 945 = .ok (.aload_n 0, 1) := by decide +kernel
theorem dL_law_946 : decode cL_law 946 = .ok (.iload_n 3, 1) := by decide +kernel
theorem dL_law_947 : decode cL_law 947 = .ok (.iconst 1, 1) := by decide +kernel
theorem dL_law_948 : decode cL_law 948 = .ok (.iadd, 1) := by decide +kernel
theorem dL_law_949 : decode cL_law 949 = .ok (.iaload, 1) := by decide +kernel
theorem dL_law_950 : decode cL_law 950 = .ok (.aload_n 0, 1) := by decide +kernel
theorem dL_law_951 : decode cL_law 951 = .ok (.iload_n 3, 1) := by decide +kernel
theorem dL_law_952 : decode cL_law 952 = .ok (.iconst 2, 1) := by decide +kernel
theorem dL_law_953 : decode cL_law 953 = .ok (.iadd, 1) := by decide +kernel
theorem dL_law_954 : decode cL_law 954 = .ok (.iaload, 1) := by decide +kernel
theorem dL_law_955 : decode cL_law 955 = .ok (.aload_n 0, 1) := by decide +kernel
theorem dL_law_956 : decode cL_law 956 = .ok (.iload_n 3, 1) := by decide +kernel
theorem dL_law_957 : decode cL_law 957 = .ok (.iconst 3, 1) := by decide +kernel
theorem dL_law_958 : decode cL_law 958 = .ok (.iadd, 1) := by decide +kernel
theorem dL_law_959 : decode cL_law 959 = .ok (.iaload, 1) := by decide +kernel
theorem dL_law_960 : decode cL_law 960 = .ok (.aload_n 0, 1) := by decide +kernel
theorem dL_law_961 : decode cL_law 961 = .ok (.iload_n 3, 1) := by decide +kernel
theorem dL_law_962 : decode cL_law 962 = .ok (.iconst 4, 1) := by decide +kernel
theorem dL_law_963 : decode cL_law 963 = .ok (.iadd, 1) := by decide +kernel
theorem dL_law_964 : decode cL_law 964 = .ok (.iaload, 1) := by decide +kernel
theorem dL_law_965 : decode cL_law 965 = .ok (.aload_n 0, 1) := by decide +kernel
theorem dL_law_966 : decode cL_law 966 = .ok (.iload_n 3, 1) := by decide +kernel
theorem dL_law_967 : decode cL_law 967 = .ok (.iconst 5, 1) := by decide +kernel
theorem dL_law_968 : decode cL_law 968 = .ok (.iadd, 1) := by decide +kernel
theorem dL_law_969 : decode cL_law 969 = .ok (.iaload, 1) := by decide +kernel
theorem dL_law_970 : decode cL_law 970 = .ok (.invokevirtual 114, 3) := by decide +kernel
theorem dL_law_973 : decode cL_law 973 = .ok (.if_icmp .eq 75, 3) := by decide +kernel
theorem dL_law_976 : decode cL_law 976 = .ok (.iconst 0, 1) := by decide +kernel
theorem dL_law_977 : decode cL_law 977 = .ok (.ireturn, 1) := by decide +kernel
theorem dL_law_978 : decode cL_law 978 = .ok (.aload_n 1, 1) := by decide +kernel
theorem dL_law_979 : decode cL_law 979 = .ok (.aload_n 0, 1) := by decide +kernel
theorem dL_law_980 : decode cL_law 980 = .ok (.iload_n 3, 1) := by decide +kernel
theorem dL_law_981 : decode cL_law 981 = .ok (.iconst 1, 1) := by decide +kernel
theorem dL_law_982 : decode cL_law 982 = .ok (.iadd, 1) := by decide +kernel
theorem dL_law_983 : decode cL_law 983 = .ok (.iaload, 1) := by decide +kernel
theorem dL_law_984 : decode cL_law 984 = .ok (.aload_n 0, 1) := by decide +kernel
theorem dL_law_985 : decode cL_law 985 = .ok (.iload_n 3, 1) := by decide +kernel
theorem dL_law_986 : decode cL_law 986 = .ok (.iconst 2, 1) := by decide +kernel
theorem dL_law_987 : decode cL_law 987 = .ok (.iadd, 1) := by decide +kernel
theorem dL_law_988 : decode cL_law 988 = .ok (.iaload, 1) := by decide +kernel
theorem dL_law_989 : decode cL_law 989 = .ok (.invokevirtual 115, 3) := by decide +kernel
theorem dL_law_992 : decode cL_law 992 = .ok (.aload_n 2, 1) := by decide +kernel
theorem dL_law_993 : decode cL_law 993 = .ok (.aload_n 0, 1) := by decide +kernel
theorem dL_law_994 : decode cL_law 994 = .ok (.iload_n 3, 1) := by decide +kernel
theorem dL_law_995 : decode cL_law 995 = .ok (.iconst 1, 1) := by decide +kernel
theorem dL_law_996 : decode cL_law 996 = .ok (.iadd, 1) := by decide +kernel
theorem dL_law_997 : decode cL_law 997 = .ok (.iaload, 1) := by decide +kernel
theorem dL_law_998 : decode cL_law 998 = .ok (.aload_n 0, 1) := by decide +kernel
theorem dL_law_999 : decode cL_law 999 = .ok (.iload_n 3, 1) := by decide +kernel
theorem dL_law_1000 : decode cL_law 1000 = .ok (.iconst 2, 1) := by decide +kernel
theorem dL_law_1001 : decode cL_law 1001 = .ok (.iadd, 1) := by decide +kernel
theorem dL_law_1002 : decode cL_law 1002 = .ok (.iaload, 1) := by decide +kernel
theorem dL_law_1003 : decode cL_law 1003 = .ok (.invokevirtual 118, 3) := by decide +kernel
theorem dL_law_1006 : decode cL_law 1006 = .ok (.if_icmp .eq 42, 3) := by decide +kernel
theorem dL_law_1009 : decode cL_law 1009 = .ok (.iconst 0, 1) := by decide +kernel
theorem dL_law_1010 : decode cL_law 1010 = .ok (.ireturn, 1) := by decide +kernel
theorem dL_law_1011 : decode cL_law 1011 = .ok (.aload_n 1, 1) := by decide +kernel
theorem dL_law_1012 : decode cL_law 1012 = .ok (.aload_n 0, 1) := by decide +kernel
theorem dL_law_1013 : decode cL_law 1013 = .ok (.iload_n 3, 1) := by decide +kernel
theorem dL_law_1014 : decode cL_law 1014 = .ok (.iconst 1, 1) := by decide +kernel
theorem dL_law_1015 : decode cL_law 1015 = .ok (.iadd, 1) := by decide +kernel
theorem dL_law_1016 : decode cL_law 1016 = .ok (.iaload, 1) := by decide +kernel
theorem dL_law_1017 : decode cL_law 1017 = .ok (.invokevirtual 119, 3) := by decide +kernel
theorem dL_law_1020 : decode cL_law 1020 = .ok (.aload_n 2, 1) := by decide +kernel
theorem dL_law_1021 : decode cL_law 1021 = .ok (.aload_n 0, 1) := by decide +kernel
theorem dL_law_1022 : decode cL_law 1022 = .ok (.iload_n 3, 1) := by decide +kernel
theorem dL_law_1023 : decode cL_law 1023 = .ok (.iconst 1, 1) := by decide +kernel
theorem dL_law_1024 : decode cL_law 1024 = .ok (.iadd, 1) := by decide +kernel
theorem dL_law_1025 : decode cL_law 1025 = .ok (.iaload, 1) := by decide +kernel
theorem dL_law_1026 : decode cL_law 1026 = .ok (.invokevirtual 122, 3) := by decide +kernel
theorem dL_law_1029 : decode cL_law 1029 = .ok (.if_icmp .eq 19, 3) := by decide +kernel
theorem dL_law_1032 : decode cL_law 1032 = .ok (.iconst 0, 1) := by decide +kernel
theorem dL_law_1033 : decode cL_law 1033 = .ok (.ireturn, 1) := by decide +kernel
theorem dL_law_1034 : decode cL_law 1034 = .ok (.aload_n 1, 1) := by decide +kernel
theorem dL_law_1035 : decode cL_law 1035 = .ok (.invokevirtual 123, 3) := by decide +kernel
theorem dL_law_1038 : decode cL_law 1038 = .ok (.aload_n 2, 1) := by decide +kernel
theorem dL_law_1039 : decode cL_law 1039 = .ok (.invokevirtual 127, 3) := by decide +kernel
theorem dL_law_1042 : decode cL_law 1042 = .ok (.lcmp, 1) := by decide +kernel
theorem dL_law_1043 : decode cL_law 1043 = .ok (.ifCond .eq 5, 3) := by decide +kernel
theorem dL_law_1046 : decode cL_law 1046 = .ok (.iconst 0, 1) := by decide +kernel
theorem dL_law_1047 : decode cL_law 1047 = .ok (.ireturn, 1) := by decide +kernel
theorem dL_law_1048 : decode cL_law 1048 = .ok (.iinc 3 6, 3) := by decide +kernel
theorem dL_law_1051 : decode cL_law 1051 = .ok (.goto (-1033), 3) := by decide +kernel
theorem dL_law_1054 : decode cL_law 1054 = .ok (.iconst 1, 1) := by decide +kernel
theorem dL_law_1055 : decode cL_law 1055 = .ok (.ireturn, 1) := by decide +kernel
end
section
theorem tb_p : ∀ w ∈ k2_sels lw_privs, w ∈ lw_tbl := fun _ h => List.mem_append_left _ h
theorem tb_t : ∀ w ∈ tables_1, w ∈ lw_tbl := fun _ h => List.mem_append_right _ h
theorem tb_1 : ∀ w ∈ tables_1_1, w ∈ lw_tbl := fun w h => tb_t w (List.mem_append_left _ h)
theorem tb_2 : ∀ w ∈ tables_1_2, w ∈ lw_tbl := fun w h => tb_t w (List.mem_append_right _ (List.mem_append_left _ h))
theorem tb_3 : ∀ w ∈ tables_1_3, w ∈ lw_tbl := fun w h => tb_t w (List.mem_append_right _ (List.mem_append_right _ (List.mem_append_left _ h)))
theorem tb_4 : ∀ w ∈ tables_1_4, w ∈ lw_tbl := fun w h => tb_t w (List.mem_append_right _ (List.mem_append_right _ (List.mem_append_right _ (List.mem_append_left _ h))))
theorem tb_5 : ∀ w ∈ tables_1_5, w ∈ lw_tbl := fun w h => tb_t w (List.mem_append_right _ (List.mem_append_right _ (List.mem_append_right _ (List.mem_append_right _ h))))
def tg_ALL : List Cond := lw_tbl.filter goodWord
theorem tg_in {w : Cond} (h : w ∈ lw_tbl) (hg : goodWord w = true) : w ∈ tg_ALL := List.mem_filter.mpr ⟨h, hg⟩
theorem tg_all_good {big : List Cond} (h : ∀ w ∈ tg_ALL, w ∈ big) : GoodIn big tg_ALL := fun w hw => ⟨h w hw, good_of_word (List.mem_filter.mp hw).2⟩
theorem in_L : Cond.initialized RL ∈ tg_ALL := tg_in (tb_1 _ (List.mem_of_getElem? (i := 0) rfl)) rfl
theorem in_X7 : Cond.initialized RX7 ∈ tg_ALL := tg_in (tb_1 _ (List.mem_of_getElem? (i := 1) rfl)) rfl
theorem in_X2 : Cond.initialized RX2 ∈ tg_ALL := tg_in (tb_1 _ (List.mem_of_getElem? (i := 2) rfl)) rfl
theorem in_X5 : Cond.initialized RX5 ∈ tg_ALL := tg_in (tb_1 _ (List.mem_of_getElem? (i := 3) rfl)) rfl
theorem in_X0 : Cond.initialized RX0 ∈ tg_ALL := tg_in (tb_1 _ (List.mem_of_getElem? (i := 4) rfl)) rfl
theorem in_X1 : Cond.initialized RX1 ∈ tg_ALL := tg_in (tb_1 _ (List.mem_of_getElem? (i := 5) rfl)) rfl
theorem in_X3 : Cond.initialized RX3 ∈ tg_ALL := tg_in (tb_1 _ (List.mem_of_getElem? (i := 6) rfl)) rfl
theorem in_X6 : Cond.initialized RX6 ∈ tg_ALL := tg_in (tb_1 _ (List.mem_of_getElem? (i := 7) rfl)) rfl
theorem in_X4 : Cond.initialized RX4 ∈ tg_ALL := tg_in (tb_1 _ (List.mem_of_getElem? (i := 8) rfl)) rfl
theorem in_X8 : Cond.initialized RX8 ∈ tg_ALL := tg_in (tb_1 _ (List.mem_of_getElem? (i := 9) rfl)) rfl
theorem in_J7 : Cond.initialized RJ7 ∈ tg_ALL := tg_in (tb_1 _ (List.mem_of_getElem? (i := 10) rfl)) rfl
theorem in_J9 : Cond.initialized RJ9 ∈ tg_ALL := tg_in (tb_1 _ (List.mem_of_getElem? (i := 11) rfl)) rfl
theorem in_J10 : Cond.initialized RJ10 ∈ tg_ALL := tg_in (tb_1 _ (List.mem_of_getElem? (i := 12) rfl)) rfl
theorem cl_L_7 : Cond.classLink RL 7 RX7 ∈ tg_ALL := tg_in (tb_1 _ (List.mem_of_getElem? (i := 13) rfl)) rfl
theorem it_X7 : Cond.instantiable RX7 8 ∈ tg_ALL := tg_in (tb_1 _ (List.mem_of_getElem? (i := 14) rfl)) rfl
theorem ml_L_9 : Cond.methodLink RL 9 yX7_init ∈ tg_ALL := tg_in (tb_1 _ (List.mem_of_getElem? (i := 15) rfl)) rfl
theorem im_X7_init : Cond.instanceMethod yX7_init ∈ tg_ALL := tg_in (tb_1 _ (List.mem_of_getElem? (i := 16) rfl)) rfl
theorem co_X7_init : Cond.code yX7_init cX7_init 2 none ∈ tg_ALL := tg_in (tb_1 _ (List.mem_of_getElem? (i := 17) rfl)) rfl
theorem ml_X7_3 : Cond.methodLink RX7 3 objectInit ∈ tg_ALL := tg_in (tb_1 _ (List.mem_of_getElem? (i := 18) rfl)) rfl
theorem im_objInit : Cond.instanceMethod objectInit ∈ tg_ALL := tg_in (tb_1 _ (List.mem_of_getElem? (i := 19) rfl)) rfl
theorem co_objInit : Cond.code objectInit ⟨#[0xb1]⟩ 1 none ∈ tg_ALL := tg_in (tb_1 _ (List.mem_of_getElem? (i := 20) rfl)) rfl
theorem cl_X7_9 : Cond.classLink RX7 9 RX2 ∈ tg_ALL := tg_in (tb_1 _ (List.mem_of_getElem? (i := 21) rfl)) rfl
theorem it_X2 : Cond.instantiable RX2 10 ∈ tg_ALL := tg_in (tb_1 _ (List.mem_of_getElem? (i := 22) rfl)) rfl
theorem nl_X7_11 : Cond.methodLinkNest RX7 11 yX2_init RX7 ∈ lw_tbl := tb_1 _ (List.mem_of_getElem? (i := 23) rfl)
theorem im_X2_init : Cond.instanceMethod yX2_init ∈ tg_ALL := tg_in (tb_1 _ (List.mem_of_getElem? (i := 24) rfl)) rfl
theorem co_X2_init : Cond.code yX2_init cX2_init 1 none ∈ tg_ALL := tg_in (tb_1 _ (List.mem_of_getElem? (i := 25) rfl)) rfl
theorem ml_X2_3 : Cond.methodLink RX2 3 objectInit ∈ tg_ALL := tg_in (tb_1 _ (List.mem_of_getElem? (i := 26) rfl)) rfl
theorem cl_X2_9 : Cond.classLink RX2 9 RX5 ∈ tg_ALL := tg_in (tb_1 _ (List.mem_of_getElem? (i := 27) rfl)) rfl
theorem it_X5 : Cond.instantiable RX5 2 ∈ tg_ALL := tg_in (tb_1 _ (List.mem_of_getElem? (i := 28) rfl)) rfl
theorem nl_X2_11 : Cond.methodLinkNest RX2 11 yX5_init RX7 ∈ lw_tbl := tb_1 _ (List.mem_of_getElem? (i := 29) rfl)
theorem im_X5_init : Cond.instanceMethod yX5_init ∈ tg_ALL := tg_in (tb_1 _ (List.mem_of_getElem? (i := 30) rfl)) rfl
theorem co_X5_init : Cond.code yX5_init cX5_init 1 none ∈ tg_ALL := tg_in (tb_1 _ (List.mem_of_getElem? (i := 31) rfl)) rfl
theorem ml_X5_3 : Cond.methodLink RX5 3 objectInit ∈ tg_ALL := tg_in (tb_1 _ (List.mem_of_getElem? (i := 32) rfl)) rfl
theorem fl_X5_9 : Cond.fieldLink RX5 9 "TwoGoats$Text" "bytes" "[I" ∈ tg_ALL := tg_in (tb_1 _ (List.mem_of_getElem? (i := 33) rfl)) rfl
theorem fl_X5_15 : Cond.fieldLink RX5 15 "TwoGoats$Text" "size" "I" ∈ tg_ALL := tg_in (tb_1 _ (List.mem_of_getElem? (i := 34) rfl)) rfl
theorem fl_X2_51 : Cond.fieldLink RX2 51 "TwoGoats$Text" "size" "I" ∈ tg_ALL := tg_in (tb_1 _ (List.mem_of_getElem? (i := 35) rfl)) rfl
theorem fl_X7_68 : Cond.fieldLink RX7 68 "TwoGoats$Text" "size" "I" ∈ tg_ALL := tg_in (tb_1 _ (List.mem_of_getElem? (i := 36) rfl)) rfl
theorem fl_X0_58 : Cond.fieldLink RX0 58 "TwoGoats$Text" "size" "I" ∈ tg_ALL := tg_in (tb_1 _ (List.mem_of_getElem? (i := 37) rfl)) rfl
theorem ac_1_43 : Cond.arrayClass FieldType.int ∈ tg_ALL := tg_in (tb_1 _ (List.mem_of_getElem? (i := 43) rfl)) rfl
theorem fl_X2_12 : Cond.fieldLink RX2 12 "TwoGoats$Meadow" "text" "LTwoGoats$Text;" ∈ tg_ALL := tg_in (tb_1 _ (List.mem_of_getElem? (i := 44) rfl)) rfl
theorem fl_X7_261 : Cond.fieldLink RX7 261 "TwoGoats$Meadow" "text" "LTwoGoats$Text;" ∈ tg_ALL := tg_in (tb_1 _ (List.mem_of_getElem? (i := 45) rfl)) rfl
theorem fl_X2_18 : Cond.fieldLink RX2 18 "TwoGoats$Meadow" "heavy" "[I" ∈ tg_ALL := tg_in (tb_1 _ (List.mem_of_getElem? (i := 46) rfl)) rfl
theorem fl_X7_103 : Cond.fieldLink RX7 103 "TwoGoats$Meadow" "heavy" "[I" ∈ tg_ALL := tg_in (tb_1 _ (List.mem_of_getElem? (i := 47) rfl)) rfl
theorem fl_X2_22 : Cond.fieldLink RX2 22 "TwoGoats$Meadow" "worth" "[I" ∈ tg_ALL := tg_in (tb_1 _ (List.mem_of_getElem? (i := 48) rfl)) rfl
theorem fl_X7_107 : Cond.fieldLink RX7 107 "TwoGoats$Meadow" "worth" "[I" ∈ tg_ALL := tg_in (tb_1 _ (List.mem_of_getElem? (i := 49) rfl)) rfl
theorem fl_X2_25 : Cond.fieldLink RX2 25 "TwoGoats$Meadow" "steps" "[I" ∈ tg_ALL := tg_in (tb_1 _ (List.mem_of_getElem? (i := 50) rfl)) rfl
theorem fl_X1_75 : Cond.fieldLink RX1 75 "TwoGoats$Meadow" "steps" "[I" ∈ tg_ALL := tg_in (tb_1 _ (List.mem_of_getElem? (i := 51) rfl)) rfl
theorem fl_X2_28 : Cond.fieldLink RX2 28 "TwoGoats$Meadow" "oneEnd" "[I" ∈ tg_ALL := tg_in (tb_1 _ (List.mem_of_getElem? (i := 52) rfl)) rfl
theorem fl_X2_31 : Cond.fieldLink RX2 31 "TwoGoats$Meadow" "otherEnd" "[I" ∈ tg_ALL := tg_in (tb_1 _ (List.mem_of_getElem? (i := 53) rfl)) rfl
theorem fl_X2_34 : Cond.fieldLink RX2 34 "TwoGoats$Meadow" "yards" "[I" ∈ tg_ALL := tg_in (tb_1 _ (List.mem_of_getElem? (i := 54) rfl)) rfl
theorem fl_X2_37 : Cond.fieldLink RX2 37 "TwoGoats$Meadow" "reach" "I" ∈ tg_ALL := tg_in (tb_1 _ (List.mem_of_getElem? (i := 55) rfl)) rfl
theorem fl_X0_83 : Cond.fieldLink RX0 83 "TwoGoats$Meadow" "reach" "I" ∈ tg_ALL := tg_in (tb_1 _ (List.mem_of_getElem? (i := 56) rfl)) rfl
theorem fl_X6_63 : Cond.fieldLink RX6 63 "TwoGoats$Meadow" "reach" "I" ∈ tg_ALL := tg_in (tb_1 _ (List.mem_of_getElem? (i := 57) rfl)) rfl
theorem fl_X3_80 : Cond.fieldLink RX3 80 "TwoGoats$Meadow" "reach" "I" ∈ tg_ALL := tg_in (tb_1 _ (List.mem_of_getElem? (i := 58) rfl)) rfl
theorem fl_X7_100 : Cond.fieldLink RX7 100 "TwoGoats$Meadow" "reach" "I" ∈ tg_ALL := tg_in (tb_1 _ (List.mem_of_getElem? (i := 59) rfl)) rfl
theorem fl_X2_41 : Cond.fieldLink RX2 41 "TwoGoats$Meadow" "paths" "I" ∈ tg_ALL := tg_in (tb_1 _ (List.mem_of_getElem? (i := 60) rfl)) rfl
theorem fl_X6_49 : Cond.fieldLink RX6 49 "TwoGoats$Meadow" "paths" "I" ∈ tg_ALL := tg_in (tb_1 _ (List.mem_of_getElem? (i := 61) rfl)) rfl
theorem fl_X3_64 : Cond.fieldLink RX3 64 "TwoGoats$Meadow" "paths" "I" ∈ tg_ALL := tg_in (tb_1 _ (List.mem_of_getElem? (i := 62) rfl)) rfl
theorem fl_X7_83 : Cond.fieldLink RX7 83 "TwoGoats$Meadow" "paths" "I" ∈ tg_ALL := tg_in (tb_1 _ (List.mem_of_getElem? (i := 63) rfl)) rfl
theorem fl_X2_44 : Cond.fieldLink RX2 44 "TwoGoats$Meadow" "faultPlace" "I" ∈ tg_ALL := tg_in (tb_1 _ (List.mem_of_getElem? (i := 64) rfl)) rfl
theorem fl_X7_80 : Cond.fieldLink RX7 80 "TwoGoats$Meadow" "faultPlace" "I" ∈ tg_ALL := tg_in (tb_1 _ (List.mem_of_getElem? (i := 65) rfl)) rfl
theorem cl_X7_16 : Cond.classLink RX7 16 RX0 ∈ tg_ALL := tg_in (tb_1 _ (List.mem_of_getElem? (i := 87) rfl)) rfl
theorem it_X0 : Cond.instantiable RX0 8 ∈ tg_ALL := tg_in (tb_1 _ (List.mem_of_getElem? (i := 88) rfl)) rfl
theorem ml_X7_18 : Cond.methodLink RX7 18 yX0_init ∈ tg_ALL := tg_in (tb_1 _ (List.mem_of_getElem? (i := 89) rfl)) rfl
theorem im_X0_init : Cond.instanceMethod yX0_init ∈ tg_ALL := tg_in (tb_1 _ (List.mem_of_getElem? (i := 90) rfl)) rfl
theorem co_X0_init : Cond.code yX0_init cX0_init 2 none ∈ tg_ALL := tg_in (tb_1 _ (List.mem_of_getElem? (i := 91) rfl)) rfl
theorem ml_X0_3 : Cond.methodLink RX0 3 objectInit ∈ tg_ALL := tg_in (tb_1 _ (List.mem_of_getElem? (i := 92) rfl)) rfl
theorem cl_X0_9 : Cond.classLink RX0 9 RX5 ∈ tg_ALL := tg_in (tb_1 _ (List.mem_of_getElem? (i := 93) rfl)) rfl
theorem nl_X0_11 : Cond.methodLinkNest RX0 11 yX5_init RX7 ∈ lw_tbl := tb_1 _ (List.mem_of_getElem? (i := 94) rfl)
theorem cl_X0_39 : Cond.classLink RX0 39 RX1 ∈ tg_ALL := tg_in (tb_1 _ (List.mem_of_getElem? (i := 95) rfl)) rfl
theorem it_X1 : Cond.instantiable RX1 6 ∈ tg_ALL := tg_in (tb_1 _ (List.mem_of_getElem? (i := 96) rfl)) rfl
theorem ml_X0_41 : Cond.methodLink RX0 41 yX1_init ∈ tg_ALL := tg_in (tb_1 _ (List.mem_of_getElem? (i := 97) rfl)) rfl
theorem im_X1_init : Cond.instanceMethod yX1_init ∈ tg_ALL := tg_in (tb_1 _ (List.mem_of_getElem? (i := 98) rfl)) rfl
theorem co_X1_init : Cond.code yX1_init cX1_init 2 none ∈ tg_ALL := tg_in (tb_1 _ (List.mem_of_getElem? (i := 99) rfl)) rfl
theorem ml_X1_3 : Cond.methodLink RX1 3 objectInit ∈ tg_ALL := tg_in (tb_1 _ (List.mem_of_getElem? (i := 100) rfl)) rfl
theorem fl_X1_28 : Cond.fieldLink RX1 28 "TwoGoats$Goats" "meadow" "LTwoGoats$Meadow;" ∈ tg_ALL := tg_in (tb_1 _ (List.mem_of_getElem? (i := 101) rfl)) rfl
theorem fl_X1_9 : Cond.fieldLink RX1 9 "TwoGoats$Goats" "place" "[I" ∈ tg_ALL := tg_in (tb_1 _ (List.mem_of_getElem? (i := 102) rfl)) rfl
theorem fl_X3_58 : Cond.fieldLink RX3 58 "TwoGoats$Goats" "place" "[I" ∈ tg_ALL := tg_in (tb_1 _ (List.mem_of_getElem? (i := 103) rfl)) rfl
theorem fl_X6_78 : Cond.fieldLink RX6 78 "TwoGoats$Goats" "place" "[I" ∈ tg_ALL := tg_in (tb_1 _ (List.mem_of_getElem? (i := 104) rfl)) rfl
theorem fl_X0_104 : Cond.fieldLink RX0 104 "TwoGoats$Goats" "place" "[I" ∈ tg_ALL := tg_in (tb_1 _ (List.mem_of_getElem? (i := 105) rfl)) rfl
theorem fl_X1_15 : Cond.fieldLink RX1 15 "TwoGoats$Goats" "ring" "[I" ∈ tg_ALL := tg_in (tb_1 _ (List.mem_of_getElem? (i := 106) rfl)) rfl
theorem fl_X1_18 : Cond.fieldLink RX1 18 "TwoGoats$Goats" "head" "I" ∈ tg_ALL := tg_in (tb_1 _ (List.mem_of_getElem? (i := 107) rfl)) rfl
theorem fl_X1_22 : Cond.fieldLink RX1 22 "TwoGoats$Goats" "size" "I" ∈ tg_ALL := tg_in (tb_1 _ (List.mem_of_getElem? (i := 108) rfl)) rfl
theorem fl_X0_97 : Cond.fieldLink RX0 97 "TwoGoats$Goats" "size" "I" ∈ tg_ALL := tg_in (tb_1 _ (List.mem_of_getElem? (i := 109) rfl)) rfl
theorem fl_X7_154 : Cond.fieldLink RX7 154 "TwoGoats$Goats" "size" "I" ∈ tg_ALL := tg_in (tb_1 _ (List.mem_of_getElem? (i := 110) rfl)) rfl
theorem fl_X1_25 : Cond.fieldLink RX1 25 "TwoGoats$Goats" "length" "I" ∈ tg_ALL := tg_in (tb_1 _ (List.mem_of_getElem? (i := 111) rfl)) rfl
theorem fl_X0_80 : Cond.fieldLink RX0 80 "TwoGoats$Goats" "length" "I" ∈ tg_ALL := tg_in (tb_1 _ (List.mem_of_getElem? (i := 112) rfl)) rfl
theorem fl_X6_60 : Cond.fieldLink RX6 60 "TwoGoats$Goats" "length" "I" ∈ tg_ALL := tg_in (tb_1 _ (List.mem_of_getElem? (i := 113) rfl)) rfl
theorem fl_X3_77 : Cond.fieldLink RX3 77 "TwoGoats$Goats" "length" "I" ∈ tg_ALL := tg_in (tb_1 _ (List.mem_of_getElem? (i := 114) rfl)) rfl
theorem fl_X7_162 : Cond.fieldLink RX7 162 "TwoGoats$Goats" "length" "I" ∈ tg_ALL := tg_in (tb_1 _ (List.mem_of_getElem? (i := 115) rfl)) rfl
theorem fl_X0_35 : Cond.fieldLink RX0 35 "TwoGoats$Day" "meadow" "LTwoGoats$Meadow;" ∈ tg_ALL := tg_in (tb_1 _ (List.mem_of_getElem? (i := 129) rfl)) rfl
theorem fl_X0_12 : Cond.fieldLink RX0 12 "TwoGoats$Day" "text" "LTwoGoats$Text;" ∈ tg_ALL := tg_in (tb_1 _ (List.mem_of_getElem? (i := 130) rfl)) rfl
theorem fl_X7_117 : Cond.fieldLink RX7 117 "TwoGoats$Day" "text" "LTwoGoats$Text;" ∈ tg_ALL := tg_in (tb_1 _ (List.mem_of_getElem? (i := 131) rfl)) rfl
theorem fl_X0_44 : Cond.fieldLink RX0 44 "TwoGoats$Day" "goats" "LTwoGoats$Goats;" ∈ tg_ALL := tg_in (tb_1 _ (List.mem_of_getElem? (i := 132) rfl)) rfl
theorem fl_X6_31 : Cond.fieldLink RX6 31 "TwoGoats$Day" "goats" "LTwoGoats$Goats;" ∈ tg_ALL := tg_in (tb_1 _ (List.mem_of_getElem? (i := 133) rfl)) rfl
theorem fl_X7_140 : Cond.fieldLink RX7 140 "TwoGoats$Day" "goats" "LTwoGoats$Goats;" ∈ tg_ALL := tg_in (tb_1 _ (List.mem_of_getElem? (i := 134) rfl)) rfl
theorem fl_X0_18 : Cond.fieldLink RX0 18 "TwoGoats$Day" "ate" "[I" ∈ tg_ALL := tg_in (tb_1 _ (List.mem_of_getElem? (i := 135) rfl)) rfl
theorem fl_X0_22 : Cond.fieldLink RX0 22 "TwoGoats$Day" "dragged" "[I" ∈ tg_ALL := tg_in (tb_1 _ (List.mem_of_getElem? (i := 136) rfl)) rfl
theorem fl_X0_25 : Cond.fieldLink RX0 25 "TwoGoats$Day" "startPlace" "I" ∈ tg_ALL := tg_in (tb_1 _ (List.mem_of_getElem? (i := 137) rfl)) rfl
theorem fl_X7_94 : Cond.fieldLink RX7 94 "TwoGoats$Day" "startPlace" "I" ∈ tg_ALL := tg_in (tb_1 _ (List.mem_of_getElem? (i := 138) rfl)) rfl
theorem fl_X0_29 : Cond.fieldLink RX0 29 "TwoGoats$Day" "bare" "I" ∈ tg_ALL := tg_in (tb_1 _ (List.mem_of_getElem? (i := 139) rfl)) rfl
theorem fl_X6_38 : Cond.fieldLink RX6 38 "TwoGoats$Day" "bare" "I" ∈ tg_ALL := tg_in (tb_1 _ (List.mem_of_getElem? (i := 140) rfl)) rfl
theorem fl_X0_32 : Cond.fieldLink RX0 32 "TwoGoats$Day" "done" "I" ∈ tg_ALL := tg_in (tb_1 _ (List.mem_of_getElem? (i := 141) rfl)) rfl
theorem fl_X7_131 : Cond.fieldLink RX7 131 "TwoGoats$Day" "done" "I" ∈ tg_ALL := tg_in (tb_1 _ (List.mem_of_getElem? (i := 142) rfl)) rfl
theorem cl_X7_28 : Cond.classLink RX7 28 RX3 ∈ tg_ALL := tg_in (tb_1 _ (List.mem_of_getElem? (i := 160) rfl)) rfl
theorem it_X3 : Cond.instantiable RX3 5 ∈ tg_ALL := tg_in (tb_1 _ (List.mem_of_getElem? (i := 161) rfl)) rfl
theorem ml_X7_30 : Cond.methodLink RX7 30 yX3_init ∈ tg_ALL := tg_in (tb_1 _ (List.mem_of_getElem? (i := 162) rfl)) rfl
theorem im_X3_init : Cond.instanceMethod yX3_init ∈ tg_ALL := tg_in (tb_1 _ (List.mem_of_getElem? (i := 163) rfl)) rfl
theorem co_X3_init : Cond.code yX3_init cX3_init 2 none ∈ tg_ALL := tg_in (tb_1 _ (List.mem_of_getElem? (i := 164) rfl)) rfl
theorem ml_X3_3 : Cond.methodLink RX3 3 objectInit ∈ tg_ALL := tg_in (tb_1 _ (List.mem_of_getElem? (i := 165) rfl)) rfl
theorem cl_X3_27 : Cond.classLink RX3 27 RX1 ∈ tg_ALL := tg_in (tb_1 _ (List.mem_of_getElem? (i := 166) rfl)) rfl
theorem ml_X3_29 : Cond.methodLink RX3 29 yX1_init ∈ tg_ALL := tg_in (tb_1 _ (List.mem_of_getElem? (i := 167) rfl)) rfl
theorem fl_X3_23 : Cond.fieldLink RX3 23 "TwoGoats$Search" "meadow" "LTwoGoats$Meadow;" ∈ tg_ALL := tg_in (tb_1 _ (List.mem_of_getElem? (i := 168) rfl)) rfl
theorem fl_X3_32 : Cond.fieldLink RX3 32 "TwoGoats$Search" "goats" "LTwoGoats$Goats;" ∈ tg_ALL := tg_in (tb_1 _ (List.mem_of_getElem? (i := 169) rfl)) rfl
theorem fl_X3_11 : Cond.fieldLink RX3 11 "TwoGoats$Search" "ways" "[J" ∈ tg_ALL := tg_in (tb_1 _ (List.mem_of_getElem? (i := 170) rfl)) rfl
theorem fl_X3_15 : Cond.fieldLink RX3 15 "TwoGoats$Search" "slots" "[I" ∈ tg_ALL := tg_in (tb_1 _ (List.mem_of_getElem? (i := 171) rfl)) rfl
theorem fl_X3_19 : Cond.fieldLink RX3 19 "TwoGoats$Search" "known" "I" ∈ tg_ALL := tg_in (tb_1 _ (List.mem_of_getElem? (i := 172) rfl)) rfl
theorem ac_1_184 : Cond.arrayClass FieldType.long ∈ tg_ALL := tg_in (tb_1 _ (List.mem_of_getElem? (i := 184) rfl)) rfl
theorem cl_X7_35 : Cond.classLink RX7 35 RX6 ∈ tg_ALL := tg_in (tb_1 _ (List.mem_of_getElem? (i := 185) rfl)) rfl
theorem it_X6 : Cond.instantiable RX6 4 ∈ tg_ALL := tg_in (tb_1 _ (List.mem_of_getElem? (i := 186) rfl)) rfl
theorem ml_X7_37 : Cond.methodLink RX7 37 yX6_init ∈ tg_ALL := tg_in (tb_1 _ (List.mem_of_getElem? (i := 187) rfl)) rfl
theorem im_X6_init : Cond.instanceMethod yX6_init ∈ tg_ALL := tg_in (tb_1 _ (List.mem_of_getElem? (i := 188) rfl)) rfl
theorem co_X6_init : Cond.code yX6_init cX6_init 2 none ∈ tg_ALL := tg_in (tb_1 _ (List.mem_of_getElem? (i := 189) rfl)) rfl
theorem ml_X6_3 : Cond.methodLink RX6 3 objectInit ∈ tg_ALL := tg_in (tb_1 _ (List.mem_of_getElem? (i := 190) rfl)) rfl
theorem cl_X6_22 : Cond.classLink RX6 22 RX1 ∈ tg_ALL := tg_in (tb_1 _ (List.mem_of_getElem? (i := 191) rfl)) rfl
theorem ml_X6_24 : Cond.methodLink RX6 24 yX1_init ∈ tg_ALL := tg_in (tb_1 _ (List.mem_of_getElem? (i := 192) rfl)) rfl
theorem fl_X6_18 : Cond.fieldLink RX6 18 "TwoGoats$Turns" "meadow" "LTwoGoats$Meadow;" ∈ tg_ALL := tg_in (tb_1 _ (List.mem_of_getElem? (i := 193) rfl)) rfl
theorem fl_X6_27 : Cond.fieldLink RX6 27 "TwoGoats$Turns" "goats" "LTwoGoats$Goats;" ∈ tg_ALL := tg_in (tb_1 _ (List.mem_of_getElem? (i := 194) rfl)) rfl
theorem fl_X6_9 : Cond.fieldLink RX6 9 "TwoGoats$Turns" "bare" "I" ∈ tg_ALL := tg_in (tb_1 _ (List.mem_of_getElem? (i := 195) rfl)) rfl
theorem fl_X6_15 : Cond.fieldLink RX6 15 "TwoGoats$Turns" "chosen" "I" ∈ tg_ALL := tg_in (tb_1 _ (List.mem_of_getElem? (i := 196) rfl)) rfl
theorem fl_X7_172 : Cond.fieldLink RX7 172 "TwoGoats$Turns" "chosen" "I" ∈ tg_ALL := tg_in (tb_1 _ (List.mem_of_getElem? (i := 197) rfl)) rfl
theorem cl_X7_42 : Cond.classLink RX7 42 RX1 ∈ tg_ALL := tg_in (tb_1 _ (List.mem_of_getElem? (i := 207) rfl)) rfl
theorem ml_X7_44 : Cond.methodLink RX7 44 yX1_init ∈ tg_ALL := tg_in (tb_1 _ (List.mem_of_getElem? (i := 208) rfl)) rfl
theorem cl_X7_49 : Cond.classLink RX7 49 RX4 ∈ tg_ALL := tg_in (tb_1 _ (List.mem_of_getElem? (i := 209) rfl)) rfl
theorem ao_1_210 : Cond.arrayOver (Jvm.ClassFile.FieldType.object "TwoGoats$Sheet") ∈ lw_tbl := tb_1 _ (List.mem_of_getElem? (i := 210) rfl)
theorem it_X4 : Cond.instantiable RX4 3 ∈ tg_ALL := tg_in (tb_1 _ (List.mem_of_getElem? (i := 211) rfl)) rfl
theorem nl_X7_59 : Cond.methodLinkNest RX7 59 yX4_init RX7 ∈ lw_tbl := tb_1 _ (List.mem_of_getElem? (i := 212) rfl)
theorem im_X4_init : Cond.instanceMethod yX4_init ∈ tg_ALL := tg_in (tb_1 _ (List.mem_of_getElem? (i := 213) rfl)) rfl
theorem co_X4_init : Cond.code yX4_init cX4_init 1 none ∈ tg_ALL := tg_in (tb_1 _ (List.mem_of_getElem? (i := 214) rfl)) rfl
theorem ml_X4_3 : Cond.methodLink RX4 3 objectInit ∈ tg_ALL := tg_in (tb_1 _ (List.mem_of_getElem? (i := 215) rfl)) rfl
theorem fl_X4_9 : Cond.fieldLink RX4 9 "TwoGoats$Sheet" "items" "[I" ∈ tg_ALL := tg_in (tb_1 _ (List.mem_of_getElem? (i := 216) rfl)) rfl
theorem fl_X7_122 : Cond.fieldLink RX7 122 "TwoGoats$Sheet" "items" "[I" ∈ tg_ALL := tg_in (tb_1 _ (List.mem_of_getElem? (i := 217) rfl)) rfl
theorem fl_X4_15 : Cond.fieldLink RX4 15 "TwoGoats$Sheet" "form" "I" ∈ tg_ALL := tg_in (tb_1 _ (List.mem_of_getElem? (i := 218) rfl)) rfl
theorem fl_X7_110 : Cond.fieldLink RX7 110 "TwoGoats$Sheet" "form" "I" ∈ tg_ALL := tg_in (tb_1 _ (List.mem_of_getElem? (i := 219) rfl)) rfl
theorem fl_X4_19 : Cond.fieldLink RX4 19 "TwoGoats$Sheet" "size" "I" ∈ tg_ALL := tg_in (tb_1 _ (List.mem_of_getElem? (i := 220) rfl)) rfl
theorem fl_X7_121 : Cond.fieldLink RX7 121 "TwoGoats$Sheet" "size" "I" ∈ tg_ALL := tg_in (tb_1 _ (List.mem_of_getElem? (i := 221) rfl)) rfl
theorem fl_X7_12 : Cond.fieldLink RX7 12 "TwoGoats" "meadow" "LTwoGoats$Meadow;" ∈ tg_ALL := tg_in (tb_1 _ (List.mem_of_getElem? (i := 229) rfl)) rfl
theorem fl_X7_21 : Cond.fieldLink RX7 21 "TwoGoats" "firstDay" "LTwoGoats$Day;" ∈ tg_ALL := tg_in (tb_1 _ (List.mem_of_getElem? (i := 230) rfl)) rfl
theorem fl_X7_25 : Cond.fieldLink RX7 25 "TwoGoats" "secondDay" "LTwoGoats$Day;" ∈ tg_ALL := tg_in (tb_1 _ (List.mem_of_getElem? (i := 231) rfl)) rfl
theorem fl_X7_31 : Cond.fieldLink RX7 31 "TwoGoats" "search" "LTwoGoats$Search;" ∈ tg_ALL := tg_in (tb_1 _ (List.mem_of_getElem? (i := 232) rfl)) rfl
theorem fl_X7_38 : Cond.fieldLink RX7 38 "TwoGoats" "turns" "LTwoGoats$Turns;" ∈ tg_ALL := tg_in (tb_1 _ (List.mem_of_getElem? (i := 233) rfl)) rfl
theorem fl_X7_45 : Cond.fieldLink RX7 45 "TwoGoats" "relaid" "LTwoGoats$Goats;" ∈ tg_ALL := tg_in (tb_1 _ (List.mem_of_getElem? (i := 234) rfl)) rfl
theorem fl_X7_51 : Cond.fieldLink RX7 51 "TwoGoats" "sheets" "[LTwoGoats$Sheet;" ∈ tg_ALL := tg_in (tb_1 _ (List.mem_of_getElem? (i := 235) rfl)) rfl
theorem fl_X7_55 : Cond.fieldLink RX7 55 "TwoGoats" "finding" "I" ∈ tg_ALL := tg_in (tb_1 _ (List.mem_of_getElem? (i := 236) rfl)) rfl
theorem ml_L_13 : Cond.methodLink RL 13 yX7_type ∈ tg_ALL := tg_in (tb_2 _ (List.mem_of_getElem? (i := 14) rfl)) rfl
theorem im_X7_type : Cond.instanceMethod yX7_type ∈ tg_ALL := tg_in (tb_2 _ (List.mem_of_getElem? (i := 15) rfl)) rfl
theorem se_X7_type : Cond.selects RX7 yX7_type yX7_type ∈ tg_ALL := tg_in (tb_2 _ (List.mem_of_getElem? (i := 16) rfl)) rfl
theorem co_X7_type : Cond.code yX7_type cX7_type 4 (some .int) ∈ tg_ALL := tg_in (tb_2 _ (List.mem_of_getElem? (i := 17) rfl)) rfl
theorem ml_X7_60 : Cond.methodLink RX7 60 yX7_isBelow ∈ tg_ALL := tg_in (tb_2 _ (List.mem_of_getElem? (i := 18) rfl)) rfl
theorem st_X7_isBelow : Cond.static yX7_isBelow ∈ tg_ALL := tg_in (tb_2 _ (List.mem_of_getElem? (i := 19) rfl)) rfl
theorem co_X7_isBelow : Cond.code yX7_isBelow cX7_isBelow 2 (some .boolean) ∈ tg_ALL := tg_in (tb_2 _ (List.mem_of_getElem? (i := 20) rfl)) rfl
theorem ml_X7_64 : Cond.methodLink RX7 64 yX7_textOf ∈ tg_ALL := tg_in (tb_2 _ (List.mem_of_getElem? (i := 21) rfl)) rfl
theorem im_X7_textOf : Cond.instanceMethod yX7_textOf ∈ tg_ALL := tg_in (tb_2 _ (List.mem_of_getElem? (i := 23) rfl)) rfl
theorem co_X7_textOf : Cond.code yX7_textOf cX7_textOf 2 (some (.object "TwoGoats$Text")) ∈ tg_ALL := tg_in (tb_2 _ (List.mem_of_getElem? (i := 24) rfl)) rfl
theorem ml_X7_90 : Cond.methodLink RX7 90 yX7_dayOf ∈ tg_ALL := tg_in (tb_2 _ (List.mem_of_getElem? (i := 25) rfl)) rfl
theorem im_X7_dayOf : Cond.instanceMethod yX7_dayOf ∈ tg_ALL := tg_in (tb_2 _ (List.mem_of_getElem? (i := 27) rfl)) rfl
theorem co_X7_dayOf : Cond.code yX7_dayOf cX7_dayOf 2 (some (.object "TwoGoats$Day")) ∈ tg_ALL := tg_in (tb_2 _ (List.mem_of_getElem? (i := 28) rfl)) rfl
theorem ml_X7_73 : Cond.methodLink RX7 73 yX5_add ∈ tg_ALL := tg_in (tb_2 _ (List.mem_of_getElem? (i := 29) rfl)) rfl
theorem im_X5_add : Cond.instanceMethod yX5_add ∈ tg_ALL := tg_in (tb_2 _ (List.mem_of_getElem? (i := 30) rfl)) rfl
theorem se_X5_add : Cond.selects RX5 yX5_add yX5_add ∈ tg_ALL := tg_in (tb_2 _ (List.mem_of_getElem? (i := 31) rfl)) rfl
theorem co_X5_add : Cond.code yX5_add cX5_add 2 none ∈ tg_ALL := tg_in (tb_2 _ (List.mem_of_getElem? (i := 32) rfl)) rfl
theorem nl_X5_19 : Cond.methodLinkNest RX5 19 yX7_isBelow RX7 ∈ lw_tbl := tb_2 _ (List.mem_of_getElem? (i := 33) rfl)
theorem ml_X7_77 : Cond.methodLink RX7 77 yX2_survey ∈ tg_ALL := tg_in (tb_2 _ (List.mem_of_getElem? (i := 34) rfl)) rfl
theorem im_X2_survey : Cond.instanceMethod yX2_survey ∈ tg_ALL := tg_in (tb_2 _ (List.mem_of_getElem? (i := 35) rfl)) rfl
theorem se_X2_survey : Cond.selects RX2 yX2_survey yX2_survey ∈ tg_ALL := tg_in (tb_2 _ (List.mem_of_getElem? (i := 36) rfl)) rfl
theorem co_X2_survey : Cond.code yX2_survey cX2_survey 2 none ∈ tg_ALL := tg_in (tb_2 _ (List.mem_of_getElem? (i := 37) rfl)) rfl
theorem ml_X2_47 : Cond.methodLink RX2 47 yX2_firstFault ∈ tg_ALL := tg_in (tb_2 _ (List.mem_of_getElem? (i := 38) rfl)) rfl
theorem im_X2_firstFault : Cond.instanceMethod yX2_firstFault ∈ tg_ALL := tg_in (tb_2 _ (List.mem_of_getElem? (i := 40) rfl)) rfl
theorem co_X2_firstFault : Cond.code yX2_firstFault cX2_firstFault 2 (some .int) ∈ tg_ALL := tg_in (tb_2 _ (List.mem_of_getElem? (i := 41) rfl)) rfl
theorem ml_X2_58 : Cond.methodLink RX2 58 yX2_fits ∈ tg_ALL := tg_in (tb_2 _ (List.mem_of_getElem? (i := 42) rfl)) rfl
theorem im_X2_fits : Cond.instanceMethod yX2_fits ∈ tg_ALL := tg_in (tb_2 _ (List.mem_of_getElem? (i := 44) rfl)) rfl
theorem co_X2_fits : Cond.code yX2_fits cX2_fits 3 (some .boolean) ∈ tg_ALL := tg_in (tb_2 _ (List.mem_of_getElem? (i := 45) rfl)) rfl
theorem ml_X2_62 : Cond.methodLink RX2 62 yX5_byteAt ∈ tg_ALL := tg_in (tb_2 _ (List.mem_of_getElem? (i := 46) rfl)) rfl
theorem im_X5_byteAt : Cond.instanceMethod yX5_byteAt ∈ tg_ALL := tg_in (tb_2 _ (List.mem_of_getElem? (i := 47) rfl)) rfl
theorem se_X5_byteAt : Cond.selects RX5 yX5_byteAt yX5_byteAt ∈ tg_ALL := tg_in (tb_2 _ (List.mem_of_getElem? (i := 48) rfl)) rfl
theorem co_X5_byteAt : Cond.code yX5_byteAt cX5_byteAt 2 (some .int) ∈ tg_ALL := tg_in (tb_2 _ (List.mem_of_getElem? (i := 49) rfl)) rfl
theorem ml_X2_66 : Cond.methodLink RX2 66 yX2_isPlace ∈ tg_ALL := tg_in (tb_2 _ (List.mem_of_getElem? (i := 50) rfl)) rfl
theorem st_X2_isPlace : Cond.static yX2_isPlace ∈ tg_ALL := tg_in (tb_2 _ (List.mem_of_getElem? (i := 51) rfl)) rfl
theorem co_X2_isPlace : Cond.code yX2_isPlace cX2_isPlace 1 (some .boolean) ∈ tg_ALL := tg_in (tb_2 _ (List.mem_of_getElem? (i := 52) rfl)) rfl
theorem ml_X2_54 : Cond.methodLink RX2 54 yX2_figure ∈ tg_ALL := tg_in (tb_2 _ (List.mem_of_getElem? (i := 53) rfl)) rfl
theorem im_X2_figure : Cond.instanceMethod yX2_figure ∈ tg_ALL := tg_in (tb_2 _ (List.mem_of_getElem? (i := 54) rfl)) rfl
theorem se_X2_figure : Cond.selects RX2 yX2_figure yX2_figure ∈ tg_ALL := tg_in (tb_2 _ (List.mem_of_getElem? (i := 55) rfl)) rfl
theorem co_X2_figure : Cond.code yX2_figure cX2_figure 3 (some .int) ∈ tg_ALL := tg_in (tb_2 _ (List.mem_of_getElem? (i := 56) rfl)) rfl
theorem ml_L_18 : Cond.methodLink RL 18 yX7_wipe ∈ tg_ALL := tg_in (tb_2 _ (List.mem_of_getElem? (i := 57) rfl)) rfl
theorem im_X7_wipe : Cond.instanceMethod yX7_wipe ∈ tg_ALL := tg_in (tb_2 _ (List.mem_of_getElem? (i := 58) rfl)) rfl
theorem se_X7_wipe : Cond.selects RX7 yX7_wipe yX7_wipe ∈ tg_ALL := tg_in (tb_2 _ (List.mem_of_getElem? (i := 59) rfl)) rfl
theorem co_X7_wipe : Cond.code yX7_wipe cX7_wipe 4 (some .int) ∈ tg_ALL := tg_in (tb_2 _ (List.mem_of_getElem? (i := 60) rfl)) rfl
theorem ml_L_23 : Cond.methodLink RL 23 yX7_fault ∈ tg_ALL := tg_in (tb_2 _ (List.mem_of_getElem? (i := 61) rfl)) rfl
theorem im_X7_fault : Cond.instanceMethod yX7_fault ∈ tg_ALL := tg_in (tb_2 _ (List.mem_of_getElem? (i := 62) rfl)) rfl
theorem se_X7_fault : Cond.selects RX7 yX7_fault yX7_fault ∈ tg_ALL := tg_in (tb_2 _ (List.mem_of_getElem? (i := 63) rfl)) rfl
theorem co_X7_fault : Cond.code yX7_fault cX7_fault 1 (some .int) ∈ tg_ALL := tg_in (tb_2 _ (List.mem_of_getElem? (i := 64) rfl)) rfl
theorem ml_L_28 : Cond.methodLink RL 28 yX7_path ∈ tg_ALL := tg_in (tb_2 _ (List.mem_of_getElem? (i := 65) rfl)) rfl
theorem im_X7_path : Cond.instanceMethod yX7_path ∈ tg_ALL := tg_in (tb_2 _ (List.mem_of_getElem? (i := 66) rfl)) rfl
theorem se_X7_path : Cond.selects RX7 yX7_path yX7_path ∈ tg_ALL := tg_in (tb_2 _ (List.mem_of_getElem? (i := 67) rfl)) rfl
theorem co_X7_path : Cond.code yX7_path cX7_path 3 (some .int) ∈ tg_ALL := tg_in (tb_2 _ (List.mem_of_getElem? (i := 68) rfl)) rfl
theorem ml_X7_86 : Cond.methodLink RX7 86 yX2_figure ∈ tg_ALL := tg_in (tb_2 _ (List.mem_of_getElem? (i := 69) rfl)) rfl
theorem ml_L_32 : Cond.methodLink RL 32 yX7_start ∈ tg_ALL := tg_in (tb_2 _ (List.mem_of_getElem? (i := 70) rfl)) rfl
theorem im_X7_start : Cond.instanceMethod yX7_start ∈ tg_ALL := tg_in (tb_2 _ (List.mem_of_getElem? (i := 71) rfl)) rfl
theorem se_X7_start : Cond.selects RX7 yX7_start yX7_start ∈ tg_ALL := tg_in (tb_2 _ (List.mem_of_getElem? (i := 72) rfl)) rfl
theorem co_X7_start : Cond.code yX7_start cX7_start 5 (some .int) ∈ tg_ALL := tg_in (tb_2 _ (List.mem_of_getElem? (i := 73) rfl)) rfl
theorem ml_L_36 : Cond.methodLink RL 36 yX7_set ∈ tg_ALL := tg_in (tb_2 _ (List.mem_of_getElem? (i := 74) rfl)) rfl
theorem im_X7_set : Cond.instanceMethod yX7_set ∈ tg_ALL := tg_in (tb_2 _ (List.mem_of_getElem? (i := 75) rfl)) rfl
theorem se_X7_set : Cond.selects RX7 yX7_set yX7_set ∈ tg_ALL := tg_in (tb_2 _ (List.mem_of_getElem? (i := 76) rfl)) rfl
theorem co_X7_set : Cond.code yX7_set cX7_set 4 (some .int) ∈ tg_ALL := tg_in (tb_2 _ (List.mem_of_getElem? (i := 77) rfl)) rfl
theorem ml_X7_97 : Cond.methodLink RX7 97 yX7_setHeavy ∈ tg_ALL := tg_in (tb_2 _ (List.mem_of_getElem? (i := 78) rfl)) rfl
theorem im_X7_setHeavy : Cond.instanceMethod yX7_setHeavy ∈ tg_ALL := tg_in (tb_2 _ (List.mem_of_getElem? (i := 80) rfl)) rfl
theorem co_X7_setHeavy : Cond.code yX7_setHeavy cX7_setHeavy 4 (some .int) ∈ tg_ALL := tg_in (tb_2 _ (List.mem_of_getElem? (i := 81) rfl)) rfl
theorem ml_L_40 : Cond.methodLink RL 40 yX7_thistle ∈ tg_ALL := tg_in (tb_2 _ (List.mem_of_getElem? (i := 82) rfl)) rfl
theorem im_X7_thistle : Cond.instanceMethod yX7_thistle ∈ tg_ALL := tg_in (tb_2 _ (List.mem_of_getElem? (i := 83) rfl)) rfl
theorem se_X7_thistle : Cond.selects RX7 yX7_thistle yX7_thistle ∈ tg_ALL := tg_in (tb_2 _ (List.mem_of_getElem? (i := 84) rfl)) rfl
theorem co_X7_thistle : Cond.code yX7_thistle cX7_thistle 4 (some .int) ∈ tg_ALL := tg_in (tb_2 _ (List.mem_of_getElem? (i := 85) rfl)) rfl
theorem ml_L_44 : Cond.methodLink RL 44 yX7_read ∈ tg_ALL := tg_in (tb_2 _ (List.mem_of_getElem? (i := 86) rfl)) rfl
theorem im_X7_read : Cond.instanceMethod yX7_read ∈ tg_ALL := tg_in (tb_2 _ (List.mem_of_getElem? (i := 87) rfl)) rfl
theorem se_X7_read : Cond.selects RX7 yX7_read yX7_read ∈ tg_ALL := tg_in (tb_2 _ (List.mem_of_getElem? (i := 88) rfl)) rfl
theorem co_X7_read : Cond.code yX7_read cX7_read 7 (some .int) ∈ tg_ALL := tg_in (tb_2 _ (List.mem_of_getElem? (i := 89) rfl)) rfl
theorem ml_X7_113 : Cond.methodLink RX7 113 yX7_found ∈ tg_ALL := tg_in (tb_2 _ (List.mem_of_getElem? (i := 90) rfl)) rfl
theorem im_X7_found : Cond.instanceMethod yX7_found ∈ tg_ALL := tg_in (tb_2 _ (List.mem_of_getElem? (i := 92) rfl)) rfl
theorem co_X7_found : Cond.code yX7_found cX7_found 2 (some .int) ∈ tg_ALL := tg_in (tb_2 _ (List.mem_of_getElem? (i := 93) rfl)) rfl
theorem ml_X7_125 : Cond.methodLink RX7 125 yX7_byteOfCode ∈ tg_ALL := tg_in (tb_2 _ (List.mem_of_getElem? (i := 94) rfl)) rfl
theorem st_X7_byteOfCode : Cond.static yX7_byteOfCode ∈ tg_ALL := tg_in (tb_2 _ (List.mem_of_getElem? (i := 95) rfl)) rfl
theorem co_X7_byteOfCode : Cond.code yX7_byteOfCode cX7_byteOfCode 1 (some .int) ∈ tg_ALL := tg_in (tb_2 _ (List.mem_of_getElem? (i := 96) rfl)) rfl
theorem ml_L_48 : Cond.methodLink RL 48 yX7_undo ∈ tg_ALL := tg_in (tb_2 _ (List.mem_of_getElem? (i := 97) rfl)) rfl
theorem im_X7_undo : Cond.instanceMethod yX7_undo ∈ tg_ALL := tg_in (tb_2 _ (List.mem_of_getElem? (i := 98) rfl)) rfl
theorem se_X7_undo : Cond.selects RX7 yX7_undo yX7_undo ∈ tg_ALL := tg_in (tb_2 _ (List.mem_of_getElem? (i := 99) rfl)) rfl
theorem co_X7_undo : Cond.code yX7_undo cX7_undo 3 (some .int) ∈ tg_ALL := tg_in (tb_2 _ (List.mem_of_getElem? (i := 100) rfl)) rfl
theorem ml_L_52 : Cond.methodLink RL 52 yX7_judged ∈ tg_ALL := tg_in (tb_2 _ (List.mem_of_getElem? (i := 101) rfl)) rfl
theorem im_X7_judged : Cond.instanceMethod yX7_judged ∈ tg_ALL := tg_in (tb_2 _ (List.mem_of_getElem? (i := 102) rfl)) rfl
theorem se_X7_judged : Cond.selects RX7 yX7_judged yX7_judged ∈ tg_ALL := tg_in (tb_2 _ (List.mem_of_getElem? (i := 103) rfl)) rfl
theorem co_X7_judged : Cond.code yX7_judged cX7_judged 3 (some .int) ∈ tg_ALL := tg_in (tb_2 _ (List.mem_of_getElem? (i := 104) rfl)) rfl
theorem ml_X7_128 : Cond.methodLink RX7 128 yX7_ended ∈ tg_ALL := tg_in (tb_2 _ (List.mem_of_getElem? (i := 105) rfl)) rfl
theorem im_X7_ended : Cond.instanceMethod yX7_ended ∈ tg_ALL := tg_in (tb_2 _ (List.mem_of_getElem? (i := 107) rfl)) rfl
theorem co_X7_ended : Cond.code yX7_ended cX7_ended 3 (some (.object "TwoGoats$Day")) ∈ tg_ALL := tg_in (tb_2 _ (List.mem_of_getElem? (i := 108) rfl)) rfl
theorem ml_X7_134 : Cond.methodLink RX7 134 yX0_walk ∈ tg_ALL := tg_in (tb_2 _ (List.mem_of_getElem? (i := 109) rfl)) rfl
theorem im_X0_walk : Cond.instanceMethod yX0_walk ∈ tg_ALL := tg_in (tb_2 _ (List.mem_of_getElem? (i := 110) rfl)) rfl
theorem se_X0_walk : Cond.selects RX0 yX0_walk yX0_walk ∈ tg_ALL := tg_in (tb_2 _ (List.mem_of_getElem? (i := 111) rfl)) rfl
theorem co_X0_walk : Cond.code yX0_walk cX0_walk 2 none ∈ tg_ALL := tg_in (tb_2 _ (List.mem_of_getElem? (i := 112) rfl)) rfl
theorem ml_X0_48 : Cond.methodLink RX0 48 yX1_standBoth ∈ tg_ALL := tg_in (tb_2 _ (List.mem_of_getElem? (i := 113) rfl)) rfl
theorem im_X1_standBoth : Cond.instanceMethod yX1_standBoth ∈ tg_ALL := tg_in (tb_2 _ (List.mem_of_getElem? (i := 114) rfl)) rfl
theorem se_X1_standBoth : Cond.selects RX1 yX1_standBoth yX1_standBoth ∈ tg_ALL := tg_in (tb_2 _ (List.mem_of_getElem? (i := 115) rfl)) rfl
theorem co_X1_standBoth : Cond.code yX1_standBoth cX1_standBoth 2 none ∈ tg_ALL := tg_in (tb_2 _ (List.mem_of_getElem? (i := 116) rfl)) rfl
theorem ml_X0_52 : Cond.methodLink RX0 52 yJ7_fill_53178 ∈ tg_ALL := tg_in (tb_2 _ (List.mem_of_getElem? (i := 117) rfl)) rfl
theorem st_J7_fill_53178 : Cond.static yJ7_fill_53178 ∈ tg_ALL := tg_in (tb_2 _ (List.mem_of_getElem? (i := 118) rfl)) rfl
theorem co_J7_fill_53178 : Cond.code yJ7_fill_53178 cJ7_fill_53178 4 none ∈ tg_ALL := tg_in (tb_2 _ (List.mem_of_getElem? (i := 119) rfl)) rfl
theorem ml_X0_61 : Cond.methodLink RX0 61 yX5_byteAt ∈ tg_ALL := tg_in (tb_2 _ (List.mem_of_getElem? (i := 120) rfl)) rfl
theorem nl_X0_65 : Cond.methodLinkNest RX0 65 yX7_codeOfByte RX7 ∈ lw_tbl := tb_2 _ (List.mem_of_getElem? (i := 121) rfl)
theorem st_X7_codeOfByte : Cond.static yX7_codeOfByte ∈ tg_ALL := tg_in (tb_2 _ (List.mem_of_getElem? (i := 122) rfl)) rfl
theorem co_X7_codeOfByte : Cond.code yX7_codeOfByte cX7_codeOfByte 1 (some .int) ∈ tg_ALL := tg_in (tb_2 _ (List.mem_of_getElem? (i := 123) rfl)) rfl
theorem ml_X0_68 : Cond.methodLink RX0 68 yX0_doStep ∈ tg_ALL := tg_in (tb_2 _ (List.mem_of_getElem? (i := 124) rfl)) rfl
theorem im_X0_doStep : Cond.instanceMethod yX0_doStep ∈ tg_ALL := tg_in (tb_2 _ (List.mem_of_getElem? (i := 126) rfl)) rfl
theorem co_X0_doStep : Cond.code yX0_doStep cX0_doStep 4 (some .boolean) ∈ tg_ALL := tg_in (tb_2 _ (List.mem_of_getElem? (i := 127) rfl)) rfl
theorem ml_X0_72 : Cond.methodLink RX0 72 yX1_canGo ∈ tg_ALL := tg_in (tb_2 _ (List.mem_of_getElem? (i := 128) rfl)) rfl
theorem im_X1_canGo : Cond.instanceMethod yX1_canGo ∈ tg_ALL := tg_in (tb_2 _ (List.mem_of_getElem? (i := 129) rfl)) rfl
theorem se_X1_canGo : Cond.selects RX1 yX1_canGo yX1_canGo ∈ tg_ALL := tg_in (tb_2 _ (List.mem_of_getElem? (i := 130) rfl)) rfl
theorem co_X1_canGo : Cond.code yX1_canGo cX1_canGo 3 (some .boolean) ∈ tg_ALL := tg_in (tb_2 _ (List.mem_of_getElem? (i := 131) rfl)) rfl
theorem nl_X1_50 : Cond.methodLinkNest RX1 50 yX7_isBelow RX7 ∈ lw_tbl := tb_2 _ (List.mem_of_getElem? (i := 132) rfl)
theorem ml_X1_54 : Cond.methodLink RX1 54 yX2_leadsFrom ∈ tg_ALL := tg_in (tb_2 _ (List.mem_of_getElem? (i := 133) rfl)) rfl
theorem im_X2_leadsFrom : Cond.instanceMethod yX2_leadsFrom ∈ tg_ALL := tg_in (tb_2 _ (List.mem_of_getElem? (i := 134) rfl)) rfl
theorem se_X2_leadsFrom : Cond.selects RX2 yX2_leadsFrom yX2_leadsFrom ∈ tg_ALL := tg_in (tb_2 _ (List.mem_of_getElem? (i := 135) rfl)) rfl
theorem co_X2_leadsFrom : Cond.code yX2_leadsFrom cX2_leadsFrom 3 (some .boolean) ∈ tg_ALL := tg_in (tb_2 _ (List.mem_of_getElem? (i := 136) rfl)) rfl
theorem ml_X0_76 : Cond.methodLink RX0 76 yX1_go ∈ tg_ALL := tg_in (tb_2 _ (List.mem_of_getElem? (i := 137) rfl)) rfl
theorem im_X1_go : Cond.instanceMethod yX1_go ∈ tg_ALL := tg_in (tb_2 _ (List.mem_of_getElem? (i := 138) rfl)) rfl
theorem se_X1_go : Cond.selects RX1 yX1_go yX1_go ∈ tg_ALL := tg_in (tb_2 _ (List.mem_of_getElem? (i := 139) rfl)) rfl
theorem co_X1_go : Cond.code yX1_go cX1_go 3 none ∈ tg_ALL := tg_in (tb_2 _ (List.mem_of_getElem? (i := 140) rfl)) rfl
theorem ml_X1_57 : Cond.methodLink RX1 57 yX1_nextTo ∈ tg_ALL := tg_in (tb_2 _ (List.mem_of_getElem? (i := 141) rfl)) rfl
theorem im_X1_nextTo : Cond.instanceMethod yX1_nextTo ∈ tg_ALL := tg_in (tb_2 _ (List.mem_of_getElem? (i := 142) rfl)) rfl
theorem se_X1_nextTo : Cond.selects RX1 yX1_nextTo yX1_nextTo ∈ tg_ALL := tg_in (tb_2 _ (List.mem_of_getElem? (i := 143) rfl)) rfl
theorem co_X1_nextTo : Cond.code yX1_nextTo cX1_nextTo 2 (some .int) ∈ tg_ALL := tg_in (tb_2 _ (List.mem_of_getElem? (i := 144) rfl)) rfl
theorem ml_X1_60 : Cond.methodLink RX1 60 yX1_takeUp ∈ tg_ALL := tg_in (tb_2 _ (List.mem_of_getElem? (i := 145) rfl)) rfl
theorem im_X1_takeUp : Cond.instanceMethod yX1_takeUp ∈ tg_ALL := tg_in (tb_2 _ (List.mem_of_getElem? (i := 147) rfl)) rfl
theorem co_X1_takeUp : Cond.code yX1_takeUp cX1_takeUp 2 none ∈ tg_ALL := tg_in (tb_2 _ (List.mem_of_getElem? (i := 148) rfl)) rfl
theorem ml_X1_63 : Cond.methodLink RX1 63 yX2_yardsOf ∈ tg_ALL := tg_in (tb_2 _ (List.mem_of_getElem? (i := 149) rfl)) rfl
theorem im_X2_yardsOf : Cond.instanceMethod yX2_yardsOf ∈ tg_ALL := tg_in (tb_2 _ (List.mem_of_getElem? (i := 150) rfl)) rfl
theorem se_X2_yardsOf : Cond.selects RX2 yX2_yardsOf yX2_yardsOf ∈ tg_ALL := tg_in (tb_2 _ (List.mem_of_getElem? (i := 151) rfl)) rfl
theorem co_X2_yardsOf : Cond.code yX2_yardsOf cX2_yardsOf 2 (some .int) ∈ tg_ALL := tg_in (tb_2 _ (List.mem_of_getElem? (i := 152) rfl)) rfl
theorem ml_X1_66 : Cond.methodLink RX1 66 yX1_layDown ∈ tg_ALL := tg_in (tb_2 _ (List.mem_of_getElem? (i := 153) rfl)) rfl
theorem im_X1_layDown : Cond.instanceMethod yX1_layDown ∈ tg_ALL := tg_in (tb_2 _ (List.mem_of_getElem? (i := 155) rfl)) rfl
theorem co_X1_layDown : Cond.code yX1_layDown cX1_layDown 3 none ∈ tg_ALL := tg_in (tb_2 _ (List.mem_of_getElem? (i := 156) rfl)) rfl
theorem ml_X1_69 : Cond.methodLink RX1 69 yX2_across ∈ tg_ALL := tg_in (tb_2 _ (List.mem_of_getElem? (i := 157) rfl)) rfl
theorem im_X2_across : Cond.instanceMethod yX2_across ∈ tg_ALL := tg_in (tb_2 _ (List.mem_of_getElem? (i := 158) rfl)) rfl
theorem se_X2_across : Cond.selects RX2 yX2_across yX2_across ∈ tg_ALL := tg_in (tb_2 _ (List.mem_of_getElem? (i := 159) rfl)) rfl
theorem co_X2_across : Cond.code yX2_across cX2_across 4 (some .int) ∈ tg_ALL := tg_in (tb_2 _ (List.mem_of_getElem? (i := 160) rfl)) rfl
theorem ml_X0_88 : Cond.methodLink RX0 88 yX2_isHeavier ∈ tg_ALL := tg_in (tb_2 _ (List.mem_of_getElem? (i := 161) rfl)) rfl
theorem im_X2_isHeavier : Cond.instanceMethod yX2_isHeavier ∈ tg_ALL := tg_in (tb_2 _ (List.mem_of_getElem? (i := 162) rfl)) rfl
theorem se_X2_isHeavier : Cond.selects RX2 yX2_isHeavier yX2_isHeavier ∈ tg_ALL := tg_in (tb_2 _ (List.mem_of_getElem? (i := 163) rfl)) rfl
theorem co_X2_isHeavier : Cond.code yX2_isHeavier cX2_isHeavier 2 (some .boolean) ∈ tg_ALL := tg_in (tb_2 _ (List.mem_of_getElem? (i := 164) rfl)) rfl
theorem ml_X0_91 : Cond.methodLink RX0 91 yX0_drag ∈ tg_ALL := tg_in (tb_2 _ (List.mem_of_getElem? (i := 165) rfl)) rfl
theorem im_X0_drag : Cond.instanceMethod yX0_drag ∈ tg_ALL := tg_in (tb_2 _ (List.mem_of_getElem? (i := 167) rfl)) rfl
theorem co_X0_drag : Cond.code yX0_drag cX0_drag 4 none ∈ tg_ALL := tg_in (tb_2 _ (List.mem_of_getElem? (i := 168) rfl)) rfl
theorem nl_X0_98 : Cond.methodLinkNest RX0 98 yX7_isBelow RX7 ∈ lw_tbl := tb_2 _ (List.mem_of_getElem? (i := 169) rfl)
theorem ml_X0_101 : Cond.methodLink RX0 101 yX1_nextTo ∈ tg_ALL := tg_in (tb_2 _ (List.mem_of_getElem? (i := 170) rfl)) rfl
theorem ml_X0_94 : Cond.methodLink RX0 94 yX0_eat ∈ tg_ALL := tg_in (tb_2 _ (List.mem_of_getElem? (i := 171) rfl)) rfl
theorem im_X0_eat : Cond.instanceMethod yX0_eat ∈ tg_ALL := tg_in (tb_2 _ (List.mem_of_getElem? (i := 173) rfl)) rfl
theorem co_X0_eat : Cond.code yX0_eat cX0_eat 3 none ∈ tg_ALL := tg_in (tb_2 _ (List.mem_of_getElem? (i := 174) rfl)) rfl
theorem ml_X0_107 : Cond.methodLink RX0 107 yX2_worthAt ∈ tg_ALL := tg_in (tb_2 _ (List.mem_of_getElem? (i := 175) rfl)) rfl
theorem im_X2_worthAt : Cond.instanceMethod yX2_worthAt ∈ tg_ALL := tg_in (tb_2 _ (List.mem_of_getElem? (i := 176) rfl)) rfl
theorem se_X2_worthAt : Cond.selects RX2 yX2_worthAt yX2_worthAt ∈ tg_ALL := tg_in (tb_2 _ (List.mem_of_getElem? (i := 177) rfl)) rfl
theorem co_X2_worthAt : Cond.code yX2_worthAt cX2_worthAt 3 (some .int) ∈ tg_ALL := tg_in (tb_2 _ (List.mem_of_getElem? (i := 178) rfl)) rfl
theorem nl_X2_87 : Cond.methodLinkNest RX2 87 yX7_isBelow RX7 ∈ lw_tbl := tb_2 _ (List.mem_of_getElem? (i := 179) rfl)
theorem ml_L_56 : Cond.methodLink RL 56 yX7_state ∈ tg_ALL := tg_in (tb_2 _ (List.mem_of_getElem? (i := 180) rfl)) rfl
theorem im_X7_state : Cond.instanceMethod yX7_state ∈ tg_ALL := tg_in (tb_2 _ (List.mem_of_getElem? (i := 181) rfl)) rfl
theorem se_X7_state : Cond.selects RX7 yX7_state yX7_state ∈ tg_ALL := tg_in (tb_2 _ (List.mem_of_getElem? (i := 182) rfl)) rfl
theorem co_X7_state : Cond.code yX7_state cX7_state 5 (some .int) ∈ tg_ALL := tg_in (tb_2 _ (List.mem_of_getElem? (i := 183) rfl)) rfl
theorem ml_X7_137 : Cond.methodLink RX7 137 yX0_told ∈ tg_ALL := tg_in (tb_2 _ (List.mem_of_getElem? (i := 184) rfl)) rfl
theorem im_X0_told : Cond.instanceMethod yX0_told ∈ tg_ALL := tg_in (tb_2 _ (List.mem_of_getElem? (i := 185) rfl)) rfl
theorem se_X0_told : Cond.selects RX0 yX0_told yX0_told ∈ tg_ALL := tg_in (tb_2 _ (List.mem_of_getElem? (i := 186) rfl)) rfl
theorem co_X0_told : Cond.code yX0_told cX0_told 2 (some .int) ∈ tg_ALL := tg_in (tb_2 _ (List.mem_of_getElem? (i := 187) rfl)) rfl
theorem ml_L_61 : Cond.methodLink RL 61 yX7_rope ∈ tg_ALL := tg_in (tb_2 _ (List.mem_of_getElem? (i := 188) rfl)) rfl
theorem im_X7_rope : Cond.instanceMethod yX7_rope ∈ tg_ALL := tg_in (tb_2 _ (List.mem_of_getElem? (i := 189) rfl)) rfl
theorem se_X7_rope : Cond.selects RX7 yX7_rope yX7_rope ∈ tg_ALL := tg_in (tb_2 _ (List.mem_of_getElem? (i := 190) rfl)) rfl
theorem co_X7_rope : Cond.code yX7_rope cX7_rope 5 (some .int) ∈ tg_ALL := tg_in (tb_2 _ (List.mem_of_getElem? (i := 191) rfl)) rfl
theorem ml_X7_143 : Cond.methodLink RX7 143 yX1_pathAt ∈ tg_ALL := tg_in (tb_2 _ (List.mem_of_getElem? (i := 192) rfl)) rfl
theorem im_X1_pathAt : Cond.instanceMethod yX1_pathAt ∈ tg_ALL := tg_in (tb_2 _ (List.mem_of_getElem? (i := 193) rfl)) rfl
theorem se_X1_pathAt : Cond.selects RX1 yX1_pathAt yX1_pathAt ∈ tg_ALL := tg_in (tb_2 _ (List.mem_of_getElem? (i := 194) rfl)) rfl
theorem co_X1_pathAt : Cond.code yX1_pathAt cX1_pathAt 2 (some .int) ∈ tg_ALL := tg_in (tb_2 _ (List.mem_of_getElem? (i := 195) rfl)) rfl
theorem ml_L_65 : Cond.methodLink RL 65 yX7_needs ∈ tg_ALL := tg_in (tb_2 _ (List.mem_of_getElem? (i := 196) rfl)) rfl
theorem im_X7_needs : Cond.instanceMethod yX7_needs ∈ tg_ALL := tg_in (tb_2 _ (List.mem_of_getElem? (i := 197) rfl)) rfl
theorem se_X7_needs : Cond.selects RX7 yX7_needs yX7_needs ∈ tg_ALL := tg_in (tb_2 _ (List.mem_of_getElem? (i := 198) rfl)) rfl
theorem co_X7_needs : Cond.code yX7_needs cX7_needs 2 (some .int) ∈ tg_ALL := tg_in (tb_2 _ (List.mem_of_getElem? (i := 199) rfl)) rfl
theorem ml_X7_146 : Cond.methodLink RX7 146 yX0_longestUnbound ∈ tg_ALL := tg_in (tb_2 _ (List.mem_of_getElem? (i := 200) rfl)) rfl
theorem im_X0_longestUnbound : Cond.instanceMethod yX0_longestUnbound ∈ tg_ALL := tg_in (tb_2 _ (List.mem_of_getElem? (i := 201) rfl)) rfl
theorem se_X0_longestUnbound : Cond.selects RX0 yX0_longestUnbound yX0_longestUnbound ∈ tg_ALL := tg_in (tb_2 _ (List.mem_of_getElem? (i := 202) rfl)) rfl
theorem co_X0_longestUnbound : Cond.code yX0_longestUnbound cX0_longestUnbound 4 (some .int) ∈ tg_ALL := tg_in (tb_2 _ (List.mem_of_getElem? (i := 203) rfl)) rfl
theorem ml_X0_111 : Cond.methodLink RX0 111 yJ9_max_7cf53 ∈ tg_ALL := tg_in (tb_2 _ (List.mem_of_getElem? (i := 204) rfl)) rfl
theorem st_J9_max_7cf53 : Cond.static yJ9_max_7cf53 ∈ tg_ALL := tg_in (tb_2 _ (List.mem_of_getElem? (i := 205) rfl)) rfl
theorem co_J9_max_7cf53 : Cond.code yJ9_max_7cf53 cJ9_max_7cf53 2 (some .int) ∈ tg_ALL := tg_in (tb_2 _ (List.mem_of_getElem? (i := 206) rfl)) rfl
theorem ml_L_69 : Cond.methodLink RL 69 yX7_soon ∈ tg_ALL := tg_in (tb_2 _ (List.mem_of_getElem? (i := 207) rfl)) rfl
theorem im_X7_soon : Cond.instanceMethod yX7_soon ∈ tg_ALL := tg_in (tb_2 _ (List.mem_of_getElem? (i := 208) rfl)) rfl
theorem se_X7_soon : Cond.selects RX7 yX7_soon yX7_soon ∈ tg_ALL := tg_in (tb_2 _ (List.mem_of_getElem? (i := 209) rfl)) rfl
theorem co_X7_soon : Cond.code yX7_soon cX7_soon 4 (some .int) ∈ tg_ALL := tg_in (tb_2 _ (List.mem_of_getElem? (i := 210) rfl)) rfl
theorem ml_X7_150 : Cond.methodLink RX7 150 yX3_fewest ∈ tg_ALL := tg_in (tb_2 _ (List.mem_of_getElem? (i := 211) rfl)) rfl
theorem im_X3_fewest : Cond.instanceMethod yX3_fewest ∈ tg_ALL := tg_in (tb_2 _ (List.mem_of_getElem? (i := 212) rfl)) rfl
theorem se_X3_fewest : Cond.selects RX3 yX3_fewest yX3_fewest ∈ tg_ALL := tg_in (tb_2 _ (List.mem_of_getElem? (i := 213) rfl)) rfl
theorem co_X3_fewest : Cond.code yX3_fewest cX3_fewest 8 (some .int) ∈ tg_ALL := tg_in (tb_2 _ (List.mem_of_getElem? (i := 214) rfl)) rfl
theorem ml_X3_36 : Cond.methodLink RX3 36 yX3_stand ∈ tg_ALL := tg_in (tb_2 _ (List.mem_of_getElem? (i := 215) rfl)) rfl
theorem st_X3_stand : Cond.static yX3_stand ∈ tg_ALL := tg_in (tb_2 _ (List.mem_of_getElem? (i := 216) rfl)) rfl
theorem co_X3_stand : Cond.code yX3_stand cX3_stand 3 (some .boolean) ∈ tg_ALL := tg_in (tb_2 _ (List.mem_of_getElem? (i := 217) rfl)) rfl
theorem ml_X3_40 : Cond.methodLink RX3 40 yJ7_fill_53178 ∈ tg_ALL := tg_in (tb_2 _ (List.mem_of_getElem? (i := 218) rfl)) rfl
theorem ml_X3_46 : Cond.methodLink RX3 46 yX1_asKey ∈ tg_ALL := tg_in (tb_2 _ (List.mem_of_getElem? (i := 219) rfl)) rfl
theorem im_X1_asKey : Cond.instanceMethod yX1_asKey ∈ tg_ALL := tg_in (tb_2 _ (List.mem_of_getElem? (i := 220) rfl)) rfl
theorem se_X1_asKey : Cond.selects RX1 yX1_asKey yX1_asKey ∈ tg_ALL := tg_in (tb_2 _ (List.mem_of_getElem? (i := 221) rfl)) rfl
theorem co_X1_asKey : Cond.code yX1_asKey cX1_asKey 4 (some .long) ∈ tg_ALL := tg_in (tb_2 _ (List.mem_of_getElem? (i := 222) rfl)) rfl
theorem ml_X1_36 : Cond.methodLink RX1 36 yX1_pathAt ∈ tg_ALL := tg_in (tb_2 _ (List.mem_of_getElem? (i := 223) rfl)) rfl
theorem ml_X3_50 : Cond.methodLink RX3 50 yX3_note ∈ tg_ALL := tg_in (tb_2 _ (List.mem_of_getElem? (i := 224) rfl)) rfl
theorem im_X3_note : Cond.instanceMethod yX3_note ∈ tg_ALL := tg_in (tb_2 _ (List.mem_of_getElem? (i := 226) rfl)) rfl
theorem co_X3_note : Cond.code yX3_note cX3_note 6 none ∈ tg_ALL := tg_in (tb_2 _ (List.mem_of_getElem? (i := 227) rfl)) rfl
theorem lc_X3_83 : Cond.constantLong RX3 83 (Int64.ofInt (-7046029254386353131)) ∈ tg_ALL := tg_in (tb_2 _ (List.mem_of_getElem? (i := 228) rfl)) rfl
theorem nl_X3_85 : Cond.methodLinkNest RX3 85 yX7_isBelow RX7 ∈ lw_tbl := tb_2 _ (List.mem_of_getElem? (i := 229) rfl)
theorem ml_X3_54 : Cond.methodLink RX3 54 yX3_leadsTo ∈ tg_ALL := tg_in (tb_2 _ (List.mem_of_getElem? (i := 230) rfl)) rfl
theorem im_X3_leadsTo : Cond.instanceMethod yX3_leadsTo ∈ tg_ALL := tg_in (tb_2 _ (List.mem_of_getElem? (i := 232) rfl)) rfl
theorem co_X3_leadsTo : Cond.code yX3_leadsTo cX3_leadsTo 8 (some .boolean) ∈ tg_ALL := tg_in (tb_2 _ (List.mem_of_getElem? (i := 233) rfl)) rfl
theorem ml_X3_61 : Cond.methodLink RX3 61 yX1_becomeKey ∈ tg_ALL := tg_in (tb_2 _ (List.mem_of_getElem? (i := 234) rfl)) rfl
theorem im_X1_becomeKey : Cond.instanceMethod yX1_becomeKey ∈ tg_ALL := tg_in (tb_2 _ (List.mem_of_getElem? (i := 235) rfl)) rfl
theorem se_X1_becomeKey : Cond.selects RX1 yX1_becomeKey yX1_becomeKey ∈ tg_ALL := tg_in (tb_2 _ (List.mem_of_getElem? (i := 236) rfl)) rfl
theorem co_X1_becomeKey : Cond.code yX1_becomeKey cX1_becomeKey 6 none ∈ tg_ALL := tg_in (tb_2 _ (List.mem_of_getElem? (i := 237) rfl)) rfl
theorem lc_X1_78 : Cond.constantLong RX1 78 (Int64.ofInt (7)) ∈ tg_ALL := tg_in (tb_2 _ (List.mem_of_getElem? (i := 238) rfl)) rfl
theorem ml_X1_32 : Cond.methodLink RX1 32 yX1_standBoth ∈ tg_ALL := tg_in (tb_2 _ (List.mem_of_getElem? (i := 239) rfl)) rfl
theorem ml_X1_40 : Cond.methodLink RX1 40 yX1_go ∈ tg_ALL := tg_in (tb_3 _ (List.mem_of_getElem? (i := 0) rfl)) rfl
theorem ml_X3_69 : Cond.methodLink RX3 69 yX1_canGo ∈ tg_ALL := tg_in (tb_3 _ (List.mem_of_getElem? (i := 1) rfl)) rfl
theorem ml_X3_73 : Cond.methodLink RX3 73 yX1_go ∈ tg_ALL := tg_in (tb_3 _ (List.mem_of_getElem? (i := 2) rfl)) rfl
theorem ml_L_73 : Cond.methodLink RL 73 yX7_loose ∈ tg_ALL := tg_in (tb_3 _ (List.mem_of_getElem? (i := 3) rfl)) rfl
theorem im_X7_loose : Cond.instanceMethod yX7_loose ∈ tg_ALL := tg_in (tb_3 _ (List.mem_of_getElem? (i := 4) rfl)) rfl
theorem se_X7_loose : Cond.selects RX7 yX7_loose yX7_loose ∈ tg_ALL := tg_in (tb_3 _ (List.mem_of_getElem? (i := 5) rfl)) rfl
theorem co_X7_loose : Cond.code yX7_loose cX7_loose 2 (some .int) ∈ tg_ALL := tg_in (tb_3 _ (List.mem_of_getElem? (i := 6) rfl)) rfl
theorem ml_L_77 : Cond.methodLink RL 77 yX7_pulled ∈ tg_ALL := tg_in (tb_3 _ (List.mem_of_getElem? (i := 7) rfl)) rfl
theorem im_X7_pulled : Cond.instanceMethod yX7_pulled ∈ tg_ALL := tg_in (tb_3 _ (List.mem_of_getElem? (i := 8) rfl)) rfl
theorem se_X7_pulled : Cond.selects RX7 yX7_pulled yX7_pulled ∈ tg_ALL := tg_in (tb_3 _ (List.mem_of_getElem? (i := 9) rfl)) rfl
theorem co_X7_pulled : Cond.code yX7_pulled cX7_pulled 5 (some .int) ∈ tg_ALL := tg_in (tb_3 _ (List.mem_of_getElem? (i := 10) rfl)) rfl
theorem ml_X7_155 : Cond.methodLink RX7 155 yX2_haveSameEnds ∈ tg_ALL := tg_in (tb_3 _ (List.mem_of_getElem? (i := 11) rfl)) rfl
theorem im_X2_haveSameEnds : Cond.instanceMethod yX2_haveSameEnds ∈ tg_ALL := tg_in (tb_3 _ (List.mem_of_getElem? (i := 12) rfl)) rfl
theorem se_X2_haveSameEnds : Cond.selects RX2 yX2_haveSameEnds yX2_haveSameEnds ∈ tg_ALL := tg_in (tb_3 _ (List.mem_of_getElem? (i := 13) rfl)) rfl
theorem co_X2_haveSameEnds : Cond.code yX2_haveSameEnds cX2_haveSameEnds 3 (some .boolean) ∈ tg_ALL := tg_in (tb_3 _ (List.mem_of_getElem? (i := 14) rfl)) rfl
theorem ml_X2_69 : Cond.methodLink RX2 69 yX2_leadsFrom ∈ tg_ALL := tg_in (tb_3 _ (List.mem_of_getElem? (i := 15) rfl)) rfl
theorem ml_X7_158 : Cond.methodLink RX7 158 yX1_relay ∈ tg_ALL := tg_in (tb_3 _ (List.mem_of_getElem? (i := 16) rfl)) rfl
theorem im_X1_relay : Cond.instanceMethod yX1_relay ∈ tg_ALL := tg_in (tb_3 _ (List.mem_of_getElem? (i := 17) rfl)) rfl
theorem se_X1_relay : Cond.selects RX1 yX1_relay yX1_relay ∈ tg_ALL := tg_in (tb_3 _ (List.mem_of_getElem? (i := 18) rfl)) rfl
theorem co_X1_relay : Cond.code yX1_relay cX1_relay 7 none ∈ tg_ALL := tg_in (tb_3 _ (List.mem_of_getElem? (i := 19) rfl)) rfl
theorem ml_X1_44 : Cond.methodLink RX1 44 yX2_shorter ∈ tg_ALL := tg_in (tb_3 _ (List.mem_of_getElem? (i := 20) rfl)) rfl
theorem im_X2_shorter : Cond.instanceMethod yX2_shorter ∈ tg_ALL := tg_in (tb_3 _ (List.mem_of_getElem? (i := 21) rfl)) rfl
theorem se_X2_shorter : Cond.selects RX2 yX2_shorter yX2_shorter ∈ tg_ALL := tg_in (tb_3 _ (List.mem_of_getElem? (i := 22) rfl)) rfl
theorem co_X2_shorter : Cond.code yX2_shorter cX2_shorter 5 (some .int) ∈ tg_ALL := tg_in (tb_3 _ (List.mem_of_getElem? (i := 23) rfl)) rfl
theorem ml_X2_73 : Cond.methodLink RX2 73 yJ9_min_7cf53 ∈ tg_ALL := tg_in (tb_3 _ (List.mem_of_getElem? (i := 24) rfl)) rfl
theorem st_J9_min_7cf53 : Cond.static yJ9_min_7cf53 ∈ tg_ALL := tg_in (tb_3 _ (List.mem_of_getElem? (i := 25) rfl)) rfl
theorem co_J9_min_7cf53 : Cond.code yJ9_min_7cf53 cJ9_min_7cf53 2 (some .int) ∈ tg_ALL := tg_in (tb_3 _ (List.mem_of_getElem? (i := 26) rfl)) rfl
theorem ml_X2_78 : Cond.methodLink RX2 78 yJ9_max_7cf53 ∈ tg_ALL := tg_in (tb_3 _ (List.mem_of_getElem? (i := 27) rfl)) rfl
theorem ml_X2_81 : Cond.methodLink RX2 81 yX2_yardsOf ∈ tg_ALL := tg_in (tb_3 _ (List.mem_of_getElem? (i := 28) rfl)) rfl
theorem ml_L_82 : Cond.methodLink RL 82 yX7_began ∈ tg_ALL := tg_in (tb_3 _ (List.mem_of_getElem? (i := 29) rfl)) rfl
theorem im_X7_began : Cond.instanceMethod yX7_began ∈ tg_ALL := tg_in (tb_3 _ (List.mem_of_getElem? (i := 30) rfl)) rfl
theorem se_X7_began : Cond.selects RX7 yX7_began yX7_began ∈ tg_ALL := tg_in (tb_3 _ (List.mem_of_getElem? (i := 31) rfl)) rfl
theorem co_X7_began : Cond.code yX7_began cX7_began 5 (some .int) ∈ tg_ALL := tg_in (tb_3 _ (List.mem_of_getElem? (i := 32) rfl)) rfl
theorem ml_X7_165 : Cond.methodLink RX7 165 yX1_stepsOff ∈ tg_ALL := tg_in (tb_3 _ (List.mem_of_getElem? (i := 33) rfl)) rfl
theorem im_X1_stepsOff : Cond.instanceMethod yX1_stepsOff ∈ tg_ALL := tg_in (tb_3 _ (List.mem_of_getElem? (i := 34) rfl)) rfl
theorem se_X1_stepsOff : Cond.selects RX1 yX1_stepsOff yX1_stepsOff ∈ tg_ALL := tg_in (tb_3 _ (List.mem_of_getElem? (i := 35) rfl)) rfl
theorem co_X1_stepsOff : Cond.code yX1_stepsOff cX1_stepsOff 6 (some .int) ∈ tg_ALL := tg_in (tb_3 _ (List.mem_of_getElem? (i := 36) rfl)) rfl
theorem ml_X1_72 : Cond.methodLink RX1 72 yX2_measureFrom ∈ tg_ALL := tg_in (tb_3 _ (List.mem_of_getElem? (i := 37) rfl)) rfl
theorem im_X2_measureFrom : Cond.instanceMethod yX2_measureFrom ∈ tg_ALL := tg_in (tb_3 _ (List.mem_of_getElem? (i := 38) rfl)) rfl
theorem se_X2_measureFrom : Cond.selects RX2 yX2_measureFrom yX2_measureFrom ∈ tg_ALL := tg_in (tb_3 _ (List.mem_of_getElem? (i := 39) rfl)) rfl
theorem co_X2_measureFrom : Cond.code yX2_measureFrom cX2_measureFrom 4 none ∈ tg_ALL := tg_in (tb_3 _ (List.mem_of_getElem? (i := 40) rfl)) rfl
theorem ml_X2_90 : Cond.methodLink RX2 90 yJ7_fill_53178 ∈ tg_ALL := tg_in (tb_3 _ (List.mem_of_getElem? (i := 41) rfl)) rfl
theorem ml_X2_96 : Cond.methodLink RX2 96 yX2_measureAcross ∈ tg_ALL := tg_in (tb_3 _ (List.mem_of_getElem? (i := 42) rfl)) rfl
theorem im_X2_measureAcross : Cond.instanceMethod yX2_measureAcross ∈ tg_ALL := tg_in (tb_3 _ (List.mem_of_getElem? (i := 44) rfl)) rfl
theorem co_X2_measureAcross : Cond.code yX2_measureAcross cX2_measureAcross 4 none ∈ tg_ALL := tg_in (tb_3 _ (List.mem_of_getElem? (i := 45) rfl)) rfl
theorem ml_L_86 : Cond.methodLink RL 86 yX7_game ∈ tg_ALL := tg_in (tb_3 _ (List.mem_of_getElem? (i := 46) rfl)) rfl
theorem im_X7_game : Cond.instanceMethod yX7_game ∈ tg_ALL := tg_in (tb_3 _ (List.mem_of_getElem? (i := 47) rfl)) rfl
theorem se_X7_game : Cond.selects RX7 yX7_game yX7_game ∈ tg_ALL := tg_in (tb_3 _ (List.mem_of_getElem? (i := 48) rfl)) rfl
theorem co_X7_game : Cond.code yX7_game cX7_game 5 (some .int) ∈ tg_ALL := tg_in (tb_3 _ (List.mem_of_getElem? (i := 49) rfl)) rfl
theorem ml_X7_168 : Cond.methodLink RX7 168 yX6_play ∈ tg_ALL := tg_in (tb_3 _ (List.mem_of_getElem? (i := 50) rfl)) rfl
theorem im_X6_play : Cond.instanceMethod yX6_play ∈ tg_ALL := tg_in (tb_3 _ (List.mem_of_getElem? (i := 51) rfl)) rfl
theorem se_X6_play : Cond.selects RX6 yX6_play yX6_play ∈ tg_ALL := tg_in (tb_3 _ (List.mem_of_getElem? (i := 52) rfl)) rfl
theorem co_X6_play : Cond.code yX6_play cX6_play 3 (some .int) ∈ tg_ALL := tg_in (tb_3 _ (List.mem_of_getElem? (i := 53) rfl)) rfl
theorem ml_X6_34 : Cond.methodLink RX6 34 yX1_become ∈ tg_ALL := tg_in (tb_3 _ (List.mem_of_getElem? (i := 54) rfl)) rfl
theorem im_X1_become : Cond.instanceMethod yX1_become ∈ tg_ALL := tg_in (tb_3 _ (List.mem_of_getElem? (i := 55) rfl)) rfl
theorem se_X1_become : Cond.selects RX1 yX1_become yX1_become ∈ tg_ALL := tg_in (tb_3 _ (List.mem_of_getElem? (i := 56) rfl)) rfl
theorem co_X1_become : Cond.code yX1_become cX1_become 3 none ∈ tg_ALL := tg_in (tb_3 _ (List.mem_of_getElem? (i := 57) rfl)) rfl
theorem ml_X6_39 : Cond.methodLink RX6 39 yX6_gain ∈ tg_ALL := tg_in (tb_3 _ (List.mem_of_getElem? (i := 58) rfl)) rfl
theorem im_X6_gain : Cond.instanceMethod yX6_gain ∈ tg_ALL := tg_in (tb_3 _ (List.mem_of_getElem? (i := 60) rfl)) rfl
theorem co_X6_gain : Cond.code yX6_gain cX6_gain 9 (some .int) ∈ tg_ALL := tg_in (tb_3 _ (List.mem_of_getElem? (i := 61) rfl)) rfl
theorem ml_X6_43 : Cond.methodLink RX6 43 yX2_worthBeside ∈ tg_ALL := tg_in (tb_3 _ (List.mem_of_getElem? (i := 62) rfl)) rfl
theorem im_X2_worthBeside : Cond.instanceMethod yX2_worthBeside ∈ tg_ALL := tg_in (tb_3 _ (List.mem_of_getElem? (i := 63) rfl)) rfl
theorem se_X2_worthBeside : Cond.selects RX2 yX2_worthBeside yX2_worthBeside ∈ tg_ALL := tg_in (tb_3 _ (List.mem_of_getElem? (i := 64) rfl)) rfl
theorem co_X2_worthBeside : Cond.code yX2_worthBeside cX2_worthBeside 4 (some .int) ∈ tg_ALL := tg_in (tb_3 _ (List.mem_of_getElem? (i := 65) rfl)) rfl
theorem ml_X2_84 : Cond.methodLink RX2 84 yX2_worthAt ∈ tg_ALL := tg_in (tb_3 _ (List.mem_of_getElem? (i := 66) rfl)) rfl
theorem ml_X6_52 : Cond.methodLink RX6 52 yX1_canGo ∈ tg_ALL := tg_in (tb_3 _ (List.mem_of_getElem? (i := 67) rfl)) rfl
theorem ml_X6_56 : Cond.methodLink RX6 56 yX1_go ∈ tg_ALL := tg_in (tb_3 _ (List.mem_of_getElem? (i := 68) rfl)) rfl
theorem ml_X6_66 : Cond.methodLink RX6 66 yJ9_max_7cf53 ∈ tg_ALL := tg_in (tb_3 _ (List.mem_of_getElem? (i := 69) rfl)) rfl
theorem ml_X6_72 : Cond.methodLink RX6 72 yX6_gainByStep ∈ tg_ALL := tg_in (tb_3 _ (List.mem_of_getElem? (i := 70) rfl)) rfl
theorem im_X6_gainByStep : Cond.instanceMethod yX6_gainByStep ∈ tg_ALL := tg_in (tb_3 _ (List.mem_of_getElem? (i := 72) rfl)) rfl
theorem co_X6_gainByStep : Cond.code yX6_gainByStep cX6_gainByStep 9 (some .int) ∈ tg_ALL := tg_in (tb_3 _ (List.mem_of_getElem? (i := 73) rfl)) rfl
theorem nl_X6_75 : Cond.methodLinkNest RX6 75 yX7_isBelow RX7 ∈ lw_tbl := tb_3 _ (List.mem_of_getElem? (i := 74) rfl)
theorem ml_X6_82 : Cond.methodLink RX6 82 yX2_worthAt ∈ tg_ALL := tg_in (tb_3 _ (List.mem_of_getElem? (i := 75) rfl)) rfl
theorem ml_L_90 : Cond.methodLink RL 90 yX7_alike ∈ tg_ALL := tg_in (tb_3 _ (List.mem_of_getElem? (i := 76) rfl)) rfl
theorem im_X7_alike : Cond.instanceMethod yX7_alike ∈ tg_ALL := tg_in (tb_3 _ (List.mem_of_getElem? (i := 77) rfl)) rfl
theorem se_X7_alike : Cond.selects RX7 yX7_alike yX7_alike ∈ tg_ALL := tg_in (tb_3 _ (List.mem_of_getElem? (i := 78) rfl)) rfl
theorem co_X7_alike : Cond.code yX7_alike cX7_alike 3 (some .int) ∈ tg_ALL := tg_in (tb_3 _ (List.mem_of_getElem? (i := 79) rfl)) rfl
theorem ml_X7_175 : Cond.methodLink RX7 175 yX1_standsAs ∈ tg_ALL := tg_in (tb_3 _ (List.mem_of_getElem? (i := 80) rfl)) rfl
theorem im_X1_standsAs : Cond.instanceMethod yX1_standsAs ∈ tg_ALL := tg_in (tb_3 _ (List.mem_of_getElem? (i := 81) rfl)) rfl
theorem se_X1_standsAs : Cond.selects RX1 yX1_standsAs yX1_standsAs ∈ tg_ALL := tg_in (tb_3 _ (List.mem_of_getElem? (i := 82) rfl)) rfl
theorem co_X1_standsAs : Cond.code yX1_standsAs cX1_standsAs 2 (some .boolean) ∈ tg_ALL := tg_in (tb_3 _ (List.mem_of_getElem? (i := 83) rfl)) rfl
theorem ml_X7_179 : Cond.methodLink RX7 179 yX1_liesAs ∈ tg_ALL := tg_in (tb_3 _ (List.mem_of_getElem? (i := 84) rfl)) rfl
theorem im_X1_liesAs : Cond.instanceMethod yX1_liesAs ∈ tg_ALL := tg_in (tb_3 _ (List.mem_of_getElem? (i := 85) rfl)) rfl
theorem se_X1_liesAs : Cond.selects RX1 yX1_liesAs yX1_liesAs ∈ tg_ALL := tg_in (tb_3 _ (List.mem_of_getElem? (i := 86) rfl)) rfl
theorem co_X1_liesAs : Cond.code yX1_liesAs cX1_liesAs 3 (some .boolean) ∈ tg_ALL := tg_in (tb_3 _ (List.mem_of_getElem? (i := 87) rfl)) rfl
theorem ml_L_94 : Cond.methodLink RL 94 yX7_sheet ∈ tg_ALL := tg_in (tb_3 _ (List.mem_of_getElem? (i := 88) rfl)) rfl
theorem im_X7_sheet : Cond.instanceMethod yX7_sheet ∈ tg_ALL := tg_in (tb_3 _ (List.mem_of_getElem? (i := 89) rfl)) rfl
theorem se_X7_sheet : Cond.selects RX7 yX7_sheet yX7_sheet ∈ tg_ALL := tg_in (tb_3 _ (List.mem_of_getElem? (i := 90) rfl)) rfl
theorem co_X7_sheet : Cond.code yX7_sheet cX7_sheet 4 (some .int) ∈ tg_ALL := tg_in (tb_3 _ (List.mem_of_getElem? (i := 91) rfl)) rfl
theorem ml_X7_182 : Cond.methodLink RX7 182 yX4_renew ∈ tg_ALL := tg_in (tb_3 _ (List.mem_of_getElem? (i := 92) rfl)) rfl
theorem im_X4_renew : Cond.instanceMethod yX4_renew ∈ tg_ALL := tg_in (tb_3 _ (List.mem_of_getElem? (i := 93) rfl)) rfl
theorem se_X4_renew : Cond.selects RX4 yX4_renew yX4_renew ∈ tg_ALL := tg_in (tb_3 _ (List.mem_of_getElem? (i := 94) rfl)) rfl
theorem co_X4_renew : Cond.code yX4_renew cX4_renew 3 none ∈ tg_ALL := tg_in (tb_3 _ (List.mem_of_getElem? (i := 95) rfl)) rfl
theorem ml_X4_22 : Cond.methodLink RX4 22 yJ7_fill_53178 ∈ tg_ALL := tg_in (tb_3 _ (List.mem_of_getElem? (i := 96) rfl)) rfl
theorem ml_L_98 : Cond.methodLink RL 98 yX7_lose ∈ tg_ALL := tg_in (tb_3 _ (List.mem_of_getElem? (i := 97) rfl)) rfl
theorem im_X7_lose : Cond.instanceMethod yX7_lose ∈ tg_ALL := tg_in (tb_3 _ (List.mem_of_getElem? (i := 98) rfl)) rfl
theorem se_X7_lose : Cond.selects RX7 yX7_lose yX7_lose ∈ tg_ALL := tg_in (tb_3 _ (List.mem_of_getElem? (i := 99) rfl)) rfl
theorem co_X7_lose : Cond.code yX7_lose cX7_lose 4 (some .int) ∈ tg_ALL := tg_in (tb_3 _ (List.mem_of_getElem? (i := 100) rfl)) rfl
theorem ml_L_102 : Cond.methodLink RL 102 yX7_lay ∈ tg_ALL := tg_in (tb_3 _ (List.mem_of_getElem? (i := 101) rfl)) rfl
theorem im_X7_lay : Cond.instanceMethod yX7_lay ∈ tg_ALL := tg_in (tb_3 _ (List.mem_of_getElem? (i := 102) rfl)) rfl
theorem se_X7_lay : Cond.selects RX7 yX7_lay yX7_lay ∈ tg_ALL := tg_in (tb_3 _ (List.mem_of_getElem? (i := 103) rfl)) rfl
theorem co_X7_lay : Cond.code yX7_lay cX7_lay 7 (some .int) ∈ tg_ALL := tg_in (tb_3 _ (List.mem_of_getElem? (i := 104) rfl)) rfl
theorem ml_X7_186 : Cond.methodLink RX7 186 yX4_findsAt ∈ tg_ALL := tg_in (tb_3 _ (List.mem_of_getElem? (i := 105) rfl)) rfl
theorem im_X4_findsAt : Cond.instanceMethod yX4_findsAt ∈ tg_ALL := tg_in (tb_3 _ (List.mem_of_getElem? (i := 106) rfl)) rfl
theorem se_X4_findsAt : Cond.selects RX4 yX4_findsAt yX4_findsAt ∈ tg_ALL := tg_in (tb_3 _ (List.mem_of_getElem? (i := 107) rfl)) rfl
theorem co_X4_findsAt : Cond.code yX4_findsAt cX4_findsAt 3 (some .int) ∈ tg_ALL := tg_in (tb_3 _ (List.mem_of_getElem? (i := 108) rfl)) rfl
theorem nl_X4_28 : Cond.methodLinkNest RX4 28 yX7_isBelow RX7 ∈ lw_tbl := tb_3 _ (List.mem_of_getElem? (i := 109) rfl)
theorem ml_X7_189 : Cond.methodLink RX7 189 yX4_put ∈ tg_ALL := tg_in (tb_3 _ (List.mem_of_getElem? (i := 110) rfl)) rfl
theorem im_X4_put : Cond.instanceMethod yX4_put ∈ tg_ALL := tg_in (tb_3 _ (List.mem_of_getElem? (i := 111) rfl)) rfl
theorem se_X4_put : Cond.selects RX4 yX4_put yX4_put ∈ tg_ALL := tg_in (tb_3 _ (List.mem_of_getElem? (i := 112) rfl)) rfl
theorem co_X4_put : Cond.code yX4_put cX4_put 3 none ∈ tg_ALL := tg_in (tb_3 _ (List.mem_of_getElem? (i := 113) rfl)) rfl
theorem ml_X4_32 : Cond.methodLink RX4 32 yX4_cut ∈ tg_ALL := tg_in (tb_3 _ (List.mem_of_getElem? (i := 114) rfl)) rfl
theorem im_X4_cut : Cond.instanceMethod yX4_cut ∈ tg_ALL := tg_in (tb_3 _ (List.mem_of_getElem? (i := 116) rfl)) rfl
theorem co_X4_cut : Cond.code yX4_cut cX4_cut 2 (some .int) ∈ tg_ALL := tg_in (tb_3 _ (List.mem_of_getElem? (i := 117) rfl)) rfl
theorem ml_L_106 : Cond.methodLink RL 106 yX7_get ∈ tg_ALL := tg_in (tb_3 _ (List.mem_of_getElem? (i := 118) rfl)) rfl
theorem im_X7_get : Cond.instanceMethod yX7_get ∈ tg_ALL := tg_in (tb_3 _ (List.mem_of_getElem? (i := 119) rfl)) rfl
theorem se_X7_get : Cond.selects RX7 yX7_get yX7_get ∈ tg_ALL := tg_in (tb_3 _ (List.mem_of_getElem? (i := 120) rfl)) rfl
theorem co_X7_get : Cond.code yX7_get cX7_get 6 (some .int) ∈ tg_ALL := tg_in (tb_3 _ (List.mem_of_getElem? (i := 121) rfl)) rfl
theorem ic_X7_192 : Cond.constant RX7 192 (Int32.ofInt (-2147483648)) ∈ tg_ALL := tg_in (tb_3 _ (List.mem_of_getElem? (i := 122) rfl)) rfl
theorem ml_X7_193 : Cond.methodLink RX7 193 yX4_item ∈ tg_ALL := tg_in (tb_3 _ (List.mem_of_getElem? (i := 123) rfl)) rfl
theorem im_X4_item : Cond.instanceMethod yX4_item ∈ tg_ALL := tg_in (tb_3 _ (List.mem_of_getElem? (i := 124) rfl)) rfl
theorem se_X4_item : Cond.selects RX4 yX4_item yX4_item ∈ tg_ALL := tg_in (tb_3 _ (List.mem_of_getElem? (i := 125) rfl)) rfl
theorem co_X4_item : Cond.code yX4_item cX4_item 2 (some .int) ∈ tg_ALL := tg_in (tb_3 _ (List.mem_of_getElem? (i := 126) rfl)) rfl
theorem ml_L_110 : Cond.methodLink RL 110 yX7_copy ∈ tg_ALL := tg_in (tb_3 _ (List.mem_of_getElem? (i := 127) rfl)) rfl
theorem im_X7_copy : Cond.instanceMethod yX7_copy ∈ tg_ALL := tg_in (tb_3 _ (List.mem_of_getElem? (i := 128) rfl)) rfl
theorem se_X7_copy : Cond.selects RX7 yX7_copy yX7_copy ∈ tg_ALL := tg_in (tb_3 _ (List.mem_of_getElem? (i := 129) rfl)) rfl
theorem co_X7_copy : Cond.code yX7_copy cX7_copy 8 (some .int) ∈ tg_ALL := tg_in (tb_3 _ (List.mem_of_getElem? (i := 130) rfl)) rfl
theorem ml_X7_196 : Cond.methodLink RX7 196 yX4_hasItems ∈ tg_ALL := tg_in (tb_3 _ (List.mem_of_getElem? (i := 131) rfl)) rfl
theorem im_X4_hasItems : Cond.instanceMethod yX4_hasItems ∈ tg_ALL := tg_in (tb_3 _ (List.mem_of_getElem? (i := 132) rfl)) rfl
theorem se_X4_hasItems : Cond.selects RX4 yX4_hasItems yX4_hasItems ∈ tg_ALL := tg_in (tb_3 _ (List.mem_of_getElem? (i := 133) rfl)) rfl
theorem co_X4_hasItems : Cond.code yX4_hasItems cX4_hasItems 3 (some .boolean) ∈ tg_ALL := tg_in (tb_3 _ (List.mem_of_getElem? (i := 134) rfl)) rfl
theorem ml_X7_199 : Cond.methodLink RX7 199 arraycopyName ∈ tg_ALL := tg_in (tb_3 _ (List.mem_of_getElem? (i := 135) rfl)) rfl
theorem na_copy : Cond.native arraycopyName ∈ tg_ALL := tg_in (tb_3 _ (List.mem_of_getElem? (i := 137) rfl)) rfl
theorem ml_L_115 : Cond.methodLink RL 115 yX7_write ∈ tg_ALL := tg_in (tb_3 _ (List.mem_of_getElem? (i := 138) rfl)) rfl
theorem im_X7_write : Cond.instanceMethod yX7_write ∈ tg_ALL := tg_in (tb_3 _ (List.mem_of_getElem? (i := 139) rfl)) rfl
theorem se_X7_write : Cond.selects RX7 yX7_write yX7_write ∈ tg_ALL := tg_in (tb_3 _ (List.mem_of_getElem? (i := 140) rfl)) rfl
theorem co_X7_write : Cond.code yX7_write cX7_write 7 (some .int) ∈ tg_ALL := tg_in (tb_3 _ (List.mem_of_getElem? (i := 141) rfl)) rfl
theorem ml_X7_205 : Cond.methodLink RX7 205 yJ9_min_7cf53 ∈ tg_ALL := tg_in (tb_3 _ (List.mem_of_getElem? (i := 142) rfl)) rfl
theorem ml_L_119 : Cond.methodLink RL 119 yX7_count ∈ tg_ALL := tg_in (tb_3 _ (List.mem_of_getElem? (i := 143) rfl)) rfl
theorem im_X7_count : Cond.instanceMethod yX7_count ∈ tg_ALL := tg_in (tb_3 _ (List.mem_of_getElem? (i := 144) rfl)) rfl
theorem se_X7_count : Cond.selects RX7 yX7_count yX7_count ∈ tg_ALL := tg_in (tb_3 _ (List.mem_of_getElem? (i := 145) rfl)) rfl
theorem co_X7_count : Cond.code yX7_count cX7_count 2 (some .int) ∈ tg_ALL := tg_in (tb_3 _ (List.mem_of_getElem? (i := 146) rfl)) rfl
theorem ml_X7_210 : Cond.methodLink RX7 210 yX2_allYards ∈ tg_ALL := tg_in (tb_3 _ (List.mem_of_getElem? (i := 147) rfl)) rfl
theorem im_X2_allYards : Cond.instanceMethod yX2_allYards ∈ tg_ALL := tg_in (tb_3 _ (List.mem_of_getElem? (i := 148) rfl)) rfl
theorem se_X2_allYards : Cond.selects RX2 yX2_allYards yX2_allYards ∈ tg_ALL := tg_in (tb_3 _ (List.mem_of_getElem? (i := 149) rfl)) rfl
theorem co_X2_allYards : Cond.code yX2_allYards cX2_allYards 3 (some .int) ∈ tg_ALL := tg_in (tb_3 _ (List.mem_of_getElem? (i := 150) rfl)) rfl
theorem ml_X7_213 : Cond.methodLink RX7 213 yX2_worthBeside ∈ tg_ALL := tg_in (tb_3 _ (List.mem_of_getElem? (i := 151) rfl)) rfl
theorem ml_L_123 : Cond.methodLink RL 123 yX7_digest ∈ tg_ALL := tg_in (tb_3 _ (List.mem_of_getElem? (i := 152) rfl)) rfl
theorem im_X7_digest : Cond.instanceMethod yX7_digest ∈ tg_ALL := tg_in (tb_3 _ (List.mem_of_getElem? (i := 153) rfl)) rfl
theorem se_X7_digest : Cond.selects RX7 yX7_digest yX7_digest ∈ tg_ALL := tg_in (tb_3 _ (List.mem_of_getElem? (i := 154) rfl)) rfl
theorem co_X7_digest : Cond.code yX7_digest cX7_digest 6 (some .long) ∈ tg_ALL := tg_in (tb_3 _ (List.mem_of_getElem? (i := 155) rfl)) rfl
theorem lc_X7_216 : Cond.constantLong RX7 216 (Int64.ofInt (17)) ∈ tg_ALL := tg_in (tb_3 _ (List.mem_of_getElem? (i := 156) rfl)) rfl
theorem lc_X7_218 : Cond.constantLong RX7 218 (Int64.ofInt (31)) ∈ tg_ALL := tg_in (tb_3 _ (List.mem_of_getElem? (i := 157) rfl)) rfl
theorem ml_X7_220 : Cond.methodLink RX7 220 yX7_count ∈ tg_ALL := tg_in (tb_3 _ (List.mem_of_getElem? (i := 158) rfl)) rfl
theorem ml_X7_223 : Cond.methodLink RX7 223 yX7_fault ∈ tg_ALL := tg_in (tb_3 _ (List.mem_of_getElem? (i := 159) rfl)) rfl
theorem ml_X7_226 : Cond.methodLink RX7 226 yX7_path ∈ tg_ALL := tg_in (tb_3 _ (List.mem_of_getElem? (i := 160) rfl)) rfl
theorem ml_X7_229 : Cond.methodLink RX7 229 yX7_judged ∈ tg_ALL := tg_in (tb_3 _ (List.mem_of_getElem? (i := 161) rfl)) rfl
theorem ml_X7_232 : Cond.methodLink RX7 232 yX7_state ∈ tg_ALL := tg_in (tb_3 _ (List.mem_of_getElem? (i := 162) rfl)) rfl
theorem ml_X7_236 : Cond.methodLink RX7 236 yX7_rope ∈ tg_ALL := tg_in (tb_3 _ (List.mem_of_getElem? (i := 163) rfl)) rfl
theorem ml_X7_239 : Cond.methodLink RX7 239 yX7_needs ∈ tg_ALL := tg_in (tb_3 _ (List.mem_of_getElem? (i := 164) rfl)) rfl
theorem ml_X7_242 : Cond.methodLink RX7 242 yX7_soon ∈ tg_ALL := tg_in (tb_3 _ (List.mem_of_getElem? (i := 165) rfl)) rfl
theorem ml_X7_245 : Cond.methodLink RX7 245 yX7_loose ∈ tg_ALL := tg_in (tb_3 _ (List.mem_of_getElem? (i := 166) rfl)) rfl
theorem ml_X7_248 : Cond.methodLink RX7 248 yX7_began ∈ tg_ALL := tg_in (tb_3 _ (List.mem_of_getElem? (i := 167) rfl)) rfl
theorem ml_X7_251 : Cond.methodLink RX7 251 yX7_game ∈ tg_ALL := tg_in (tb_3 _ (List.mem_of_getElem? (i := 168) rfl)) rfl
theorem ml_X7_254 : Cond.methodLink RX7 254 yX7_pulled ∈ tg_ALL := tg_in (tb_3 _ (List.mem_of_getElem? (i := 169) rfl)) rfl
theorem ml_X7_258 : Cond.methodLink RX7 258 yX7_alike ∈ tg_ALL := tg_in (tb_3 _ (List.mem_of_getElem? (i := 170) rfl)) rfl
theorem cl_L_10 : Cond.classLink RL 10 RX8 ∈ tg_ALL := tg_in (tb_3 _ (List.mem_of_getElem? (i := 171) rfl)) rfl
theorem it_X8 : Cond.instantiable RX8 29 ∈ tg_ALL := tg_in (tb_3 _ (List.mem_of_getElem? (i := 172) rfl)) rfl
theorem ml_L_12 : Cond.methodLink RL 12 yX8_init ∈ tg_ALL := tg_in (tb_3 _ (List.mem_of_getElem? (i := 173) rfl)) rfl
theorem im_X8_init : Cond.instanceMethod yX8_init ∈ tg_ALL := tg_in (tb_3 _ (List.mem_of_getElem? (i := 174) rfl)) rfl
theorem co_X8_init : Cond.code yX8_init cX8_init 2 none ∈ tg_ALL := tg_in (tb_3 _ (List.mem_of_getElem? (i := 175) rfl)) rfl
theorem ml_X8_1 : Cond.methodLink RX8 1 objectInit ∈ tg_ALL := tg_in (tb_3 _ (List.mem_of_getElem? (i := 176) rfl)) rfl
theorem fl_X8_7 : Cond.fieldLink RX8 7 "TwoGoatsModel" "forms" "[I" ∈ tg_ALL := tg_in (tb_3 _ (List.mem_of_getElem? (i := 177) rfl)) rfl
theorem fl_X8_13 : Cond.fieldLink RX8 13 "TwoGoatsModel" "sizes" "[I" ∈ tg_ALL := tg_in (tb_3 _ (List.mem_of_getElem? (i := 178) rfl)) rfl
theorem fl_X8_16 : Cond.fieldLink RX8 16 "TwoGoatsModel" "items" "[I" ∈ tg_ALL := tg_in (tb_3 _ (List.mem_of_getElem? (i := 179) rfl)) rfl
theorem fl_X8_19 : Cond.fieldLink RX8 19 "TwoGoatsModel" "moved" "[I" ∈ tg_ALL := tg_in (tb_3 _ (List.mem_of_getElem? (i := 180) rfl)) rfl
theorem fl_X8_81 : Cond.fieldLink RX8 81 "TwoGoatsModel" "latest" "I" ∈ tg_ALL := tg_in (tb_3 _ (List.mem_of_getElem? (i := 181) rfl)) rfl
theorem fl_X8_22 : Cond.fieldLink RX8 22 "TwoGoatsModel" "bytes" "[I" ∈ tg_ALL := tg_in (tb_3 _ (List.mem_of_getElem? (i := 182) rfl)) rfl
theorem fl_X8_25 : Cond.fieldLink RX8 25 "TwoGoatsModel" "typed" "[I" ∈ tg_ALL := tg_in (tb_3 _ (List.mem_of_getElem? (i := 183) rfl)) rfl
theorem fl_X8_108 : Cond.fieldLink RX8 108 "TwoGoatsModel" "at" "I" ∈ tg_ALL := tg_in (tb_3 _ (List.mem_of_getElem? (i := 184) rfl)) rfl
theorem fl_X8_111 : Cond.fieldLink RX8 111 "TwoGoatsModel" "paths" "I" ∈ tg_ALL := tg_in (tb_3 _ (List.mem_of_getElem? (i := 185) rfl)) rfl
theorem fl_X8_28 : Cond.fieldLink RX8 28 "TwoGoatsModel" "path" "[I" ∈ tg_ALL := tg_in (tb_3 _ (List.mem_of_getElem? (i := 186) rfl)) rfl
theorem fl_X8_31 : Cond.fieldLink RX8 31 "TwoGoatsModel" "starts" "[I" ∈ tg_ALL := tg_in (tb_3 _ (List.mem_of_getElem? (i := 187) rfl)) rfl
theorem fl_X8_34 : Cond.fieldLink RX8 34 "TwoGoatsModel" "settings" "[I" ∈ tg_ALL := tg_in (tb_3 _ (List.mem_of_getElem? (i := 188) rfl)) rfl
theorem fl_X8_37 : Cond.fieldLink RX8 37 "TwoGoatsModel" "worths" "[I" ∈ tg_ALL := tg_in (tb_3 _ (List.mem_of_getElem? (i := 189) rfl)) rfl
theorem fl_X8_40 : Cond.fieldLink RX8 40 "TwoGoatsModel" "places" "[I" ∈ tg_ALL := tg_in (tb_3 _ (List.mem_of_getElem? (i := 190) rfl)) rfl
theorem fl_X8_43 : Cond.fieldLink RX8 43 "TwoGoatsModel" "rope" "[I" ∈ tg_ALL := tg_in (tb_3 _ (List.mem_of_getElem? (i := 191) rfl)) rfl
theorem fl_X8_150 : Cond.fieldLink RX8 150 "TwoGoatsModel" "lies" "I" ∈ tg_ALL := tg_in (tb_3 _ (List.mem_of_getElem? (i := 192) rfl)) rfl
theorem fl_X8_159 : Cond.fieldLink RX8 159 "TwoGoatsModel" "length" "I" ∈ tg_ALL := tg_in (tb_3 _ (List.mem_of_getElem? (i := 193) rfl)) rfl
theorem fl_X8_46 : Cond.fieldLink RX8 46 "TwoGoatsModel" "eaten" "[I" ∈ tg_ALL := tg_in (tb_3 _ (List.mem_of_getElem? (i := 194) rfl)) rfl
theorem fl_X8_49 : Cond.fieldLink RX8 49 "TwoGoatsModel" "dragged" "[I" ∈ tg_ALL := tg_in (tb_3 _ (List.mem_of_getElem? (i := 195) rfl)) rfl
theorem fl_X8_162 : Cond.fieldLink RX8 162 "TwoGoatsModel" "empty" "I" ∈ tg_ALL := tg_in (tb_3 _ (List.mem_of_getElem? (i := 196) rfl)) rfl
theorem fl_X8_52 : Cond.fieldLink RX8 52 "TwoGoatsModel" "ways" "[J" ∈ tg_ALL := tg_in (tb_3 _ (List.mem_of_getElem? (i := 197) rfl)) rfl
theorem fl_X8_217 : Cond.fieldLink RX8 217 "TwoGoatsModel" "wayMany" "I" ∈ tg_ALL := tg_in (tb_3 _ (List.mem_of_getElem? (i := 198) rfl)) rfl
theorem fl_X8_56 : Cond.fieldLink RX8 56 "TwoGoatsModel" "left" "[I" ∈ tg_ALL := tg_in (tb_3 _ (List.mem_of_getElem? (i := 199) rfl)) rfl
theorem fl_X8_59 : Cond.fieldLink RX8 59 "TwoGoatsModel" "far" "[I" ∈ tg_ALL := tg_in (tb_3 _ (List.mem_of_getElem? (i := 200) rfl)) rfl
theorem fl_X8_62 : Cond.fieldLink RX8 62 "TwoGoatsModel" "wayAt" "[J" ∈ tg_ALL := tg_in (tb_3 _ (List.mem_of_getElem? (i := 201) rfl)) rfl
theorem fl_X8_65 : Cond.fieldLink RX8 65 "TwoGoatsModel" "emptyAt" "[I" ∈ tg_ALL := tg_in (tb_3 _ (List.mem_of_getElem? (i := 202) rfl)) rfl
theorem fl_X8_68 : Cond.fieldLink RX8 68 "TwoGoatsModel" "sumAt" "[I" ∈ tg_ALL := tg_in (tb_3 _ (List.mem_of_getElem? (i := 203) rfl)) rfl
theorem fl_X8_71 : Cond.fieldLink RX8 71 "TwoGoatsModel" "pick" "[I" ∈ tg_ALL := tg_in (tb_3 _ (List.mem_of_getElem? (i := 204) rfl)) rfl
theorem fl_X8_74 : Cond.fieldLink RX8 74 "TwoGoatsModel" "bestAt" "[I" ∈ tg_ALL := tg_in (tb_3 _ (List.mem_of_getElem? (i := 205) rfl)) rfl
theorem ml_L_97 : Cond.methodLink RL 97 yX8_sheet ∈ tg_ALL := tg_in (tb_4 _ (List.mem_of_getElem? (i := 25) rfl)) rfl
theorem im_X8_sheet : Cond.instanceMethod yX8_sheet ∈ tg_ALL := tg_in (tb_4 _ (List.mem_of_getElem? (i := 26) rfl)) rfl
theorem se_X8_sheet : Cond.selects RX8 yX8_sheet yX8_sheet ∈ tg_ALL := tg_in (tb_4 _ (List.mem_of_getElem? (i := 27) rfl)) rfl
theorem co_X8_sheet : Cond.code yX8_sheet cX8_sheet 5 (some .int) ∈ tg_ALL := tg_in (tb_4 _ (List.mem_of_getElem? (i := 28) rfl)) rfl
theorem ml_X8_87 : Cond.methodLink RX8 87 yX8_isSheet ∈ tg_ALL := tg_in (tb_4 _ (List.mem_of_getElem? (i := 29) rfl)) rfl
theorem st_X8_isSheet : Cond.static yX8_isSheet ∈ tg_ALL := tg_in (tb_4 _ (List.mem_of_getElem? (i := 30) rfl)) rfl
theorem co_X8_isSheet : Cond.code yX8_isSheet cX8_isSheet 1 (some .boolean) ∈ tg_ALL := tg_in (tb_4 _ (List.mem_of_getElem? (i := 31) rfl)) rfl
theorem lc_X8_85 : Cond.constantLong RX8 85 (Int64.ofInt (3)) ∈ tg_ALL := tg_in (tb_4 _ (List.mem_of_getElem? (i := 32) rfl)) rfl
theorem ml_X8_77 : Cond.methodLink RX8 77 yX8_in ∈ tg_ALL := tg_in (tb_4 _ (List.mem_of_getElem? (i := 33) rfl)) rfl
theorem st_X8_in : Cond.static yX8_in ∈ tg_ALL := tg_in (tb_4 _ (List.mem_of_getElem? (i := 34) rfl)) rfl
theorem co_X8_in : Cond.code yX8_in cX8_in 6 (some .boolean) ∈ tg_ALL := tg_in (tb_4 _ (List.mem_of_getElem? (i := 35) rfl)) rfl
theorem lc_X8_91 : Cond.constantLong RX8 91 (Int64.ofInt (2)) ∈ tg_ALL := tg_in (tb_4 _ (List.mem_of_getElem? (i := 36) rfl)) rfl
theorem ml_X8_93 : Cond.methodLink RX8 93 yX8_met ∈ tg_ALL := tg_in (tb_4 _ (List.mem_of_getElem? (i := 37) rfl)) rfl
theorem im_X8_met : Cond.instanceMethod yX8_met ∈ tg_ALL := tg_in (tb_4 _ (List.mem_of_getElem? (i := 39) rfl)) rfl
theorem co_X8_met : Cond.code yX8_met cX8_met 2 (some .int) ∈ tg_ALL := tg_in (tb_4 _ (List.mem_of_getElem? (i := 40) rfl)) rfl
theorem ml_L_101 : Cond.methodLink RL 101 yX8_lose ∈ tg_ALL := tg_in (tb_4 _ (List.mem_of_getElem? (i := 41) rfl)) rfl
theorem im_X8_lose : Cond.instanceMethod yX8_lose ∈ tg_ALL := tg_in (tb_4 _ (List.mem_of_getElem? (i := 42) rfl)) rfl
theorem se_X8_lose : Cond.selects RX8 yX8_lose yX8_lose ∈ tg_ALL := tg_in (tb_4 _ (List.mem_of_getElem? (i := 43) rfl)) rfl
theorem co_X8_lose : Cond.code yX8_lose cX8_lose 2 (some .int) ∈ tg_ALL := tg_in (tb_4 _ (List.mem_of_getElem? (i := 44) rfl)) rfl
theorem ml_L_105 : Cond.methodLink RL 105 yX8_lay ∈ tg_ALL := tg_in (tb_4 _ (List.mem_of_getElem? (i := 45) rfl)) rfl
theorem im_X8_lay : Cond.instanceMethod yX8_lay ∈ tg_ALL := tg_in (tb_4 _ (List.mem_of_getElem? (i := 46) rfl)) rfl
theorem se_X8_lay : Cond.selects RX8 yX8_lay yX8_lay ∈ tg_ALL := tg_in (tb_4 _ (List.mem_of_getElem? (i := 47) rfl)) rfl
theorem co_X8_lay : Cond.code yX8_lay cX8_lay 6 (some .int) ∈ tg_ALL := tg_in (tb_4 _ (List.mem_of_getElem? (i := 48) rfl)) rfl
theorem ml_X8_97 : Cond.methodLink RX8 97 yX8_lacks ∈ tg_ALL := tg_in (tb_4 _ (List.mem_of_getElem? (i := 49) rfl)) rfl
theorem im_X8_lacks : Cond.instanceMethod yX8_lacks ∈ tg_ALL := tg_in (tb_4 _ (List.mem_of_getElem? (i := 51) rfl)) rfl
theorem co_X8_lacks : Cond.code yX8_lacks cX8_lacks 4 (some .int) ∈ tg_ALL := tg_in (tb_4 _ (List.mem_of_getElem? (i := 52) rfl)) rfl
theorem ml_X8_101 : Cond.methodLink RX8 101 yX8_cut ∈ tg_ALL := tg_in (tb_4 _ (List.mem_of_getElem? (i := 53) rfl)) rfl
theorem st_X8_cut : Cond.static yX8_cut ∈ tg_ALL := tg_in (tb_4 _ (List.mem_of_getElem? (i := 54) rfl)) rfl
theorem co_X8_cut : Cond.code yX8_cut cX8_cut 2 (some .int) ∈ tg_ALL := tg_in (tb_4 _ (List.mem_of_getElem? (i := 55) rfl)) rfl
theorem ml_L_109 : Cond.methodLink RL 109 yX8_get ∈ tg_ALL := tg_in (tb_4 _ (List.mem_of_getElem? (i := 56) rfl)) rfl
theorem im_X8_get : Cond.instanceMethod yX8_get ∈ tg_ALL := tg_in (tb_4 _ (List.mem_of_getElem? (i := 57) rfl)) rfl
theorem se_X8_get : Cond.selects RX8 yX8_get yX8_get ∈ tg_ALL := tg_in (tb_4 _ (List.mem_of_getElem? (i := 58) rfl)) rfl
theorem co_X8_get : Cond.code yX8_get cX8_get 4 (some .int) ∈ tg_ALL := tg_in (tb_4 _ (List.mem_of_getElem? (i := 59) rfl)) rfl
theorem ic_X8_105 : Cond.constant RX8 105 (Int32.ofInt (-2147483648)) ∈ tg_ALL := tg_in (tb_4 _ (List.mem_of_getElem? (i := 60) rfl)) rfl
theorem ml_L_114 : Cond.methodLink RL 114 yX8_copy ∈ tg_ALL := tg_in (tb_4 _ (List.mem_of_getElem? (i := 61) rfl)) rfl
theorem im_X8_copy : Cond.instanceMethod yX8_copy ∈ tg_ALL := tg_in (tb_4 _ (List.mem_of_getElem? (i := 62) rfl)) rfl
theorem se_X8_copy : Cond.selects RX8 yX8_copy yX8_copy ∈ tg_ALL := tg_in (tb_4 _ (List.mem_of_getElem? (i := 63) rfl)) rfl
theorem co_X8_copy : Cond.code yX8_copy cX8_copy 7 (some .int) ∈ tg_ALL := tg_in (tb_4 _ (List.mem_of_getElem? (i := 64) rfl)) rfl
theorem ml_L_17 : Cond.methodLink RL 17 yX8_type ∈ tg_ALL := tg_in (tb_4 _ (List.mem_of_getElem? (i := 65) rfl)) rfl
theorem im_X8_type : Cond.instanceMethod yX8_type ∈ tg_ALL := tg_in (tb_4 _ (List.mem_of_getElem? (i := 66) rfl)) rfl
theorem se_X8_type : Cond.selects RX8 yX8_type yX8_type ∈ tg_ALL := tg_in (tb_4 _ (List.mem_of_getElem? (i := 67) rfl)) rfl
theorem co_X8_type : Cond.code yX8_type cX8_type 3 (some .int) ∈ tg_ALL := tg_in (tb_4 _ (List.mem_of_getElem? (i := 68) rfl)) rfl
theorem lc_X8_106 : Cond.constantLong RX8 106 (Int64.ofInt (255)) ∈ tg_ALL := tg_in (tb_4 _ (List.mem_of_getElem? (i := 69) rfl)) rfl
theorem ml_L_22 : Cond.methodLink RL 22 yX8_wipe ∈ tg_ALL := tg_in (tb_4 _ (List.mem_of_getElem? (i := 70) rfl)) rfl
theorem im_X8_wipe : Cond.instanceMethod yX8_wipe ∈ tg_ALL := tg_in (tb_4 _ (List.mem_of_getElem? (i := 71) rfl)) rfl
theorem se_X8_wipe : Cond.selects RX8 yX8_wipe yX8_wipe ∈ tg_ALL := tg_in (tb_4 _ (List.mem_of_getElem? (i := 72) rfl)) rfl
theorem co_X8_wipe : Cond.code yX8_wipe cX8_wipe 3 (some .int) ∈ tg_ALL := tg_in (tb_4 _ (List.mem_of_getElem? (i := 73) rfl)) rfl
theorem ml_L_27 : Cond.methodLink RL 27 yX8_fault ∈ tg_ALL := tg_in (tb_4 _ (List.mem_of_getElem? (i := 74) rfl)) rfl
theorem im_X8_fault : Cond.instanceMethod yX8_fault ∈ tg_ALL := tg_in (tb_4 _ (List.mem_of_getElem? (i := 75) rfl)) rfl
theorem se_X8_fault : Cond.selects RX8 yX8_fault yX8_fault ∈ tg_ALL := tg_in (tb_4 _ (List.mem_of_getElem? (i := 76) rfl)) rfl
theorem co_X8_fault : Cond.code yX8_fault cX8_fault 1 (some .int) ∈ tg_ALL := tg_in (tb_4 _ (List.mem_of_getElem? (i := 77) rfl)) rfl
theorem ml_X8_129 : Cond.methodLink RX8 129 yX8_reads ∈ tg_ALL := tg_in (tb_4 _ (List.mem_of_getElem? (i := 78) rfl)) rfl
theorem im_X8_reads : Cond.instanceMethod yX8_reads ∈ tg_ALL := tg_in (tb_4 _ (List.mem_of_getElem? (i := 80) rfl)) rfl
theorem co_X8_reads : Cond.code yX8_reads cX8_reads 2 (some .int) ∈ tg_ALL := tg_in (tb_4 _ (List.mem_of_getElem? (i := 81) rfl)) rfl
theorem ml_X8_122 : Cond.methodLink RX8 122 yX8_readsPart ∈ tg_ALL := tg_in (tb_4 _ (List.mem_of_getElem? (i := 82) rfl)) rfl
theorem im_X8_readsPart : Cond.instanceMethod yX8_readsPart ∈ tg_ALL := tg_in (tb_4 _ (List.mem_of_getElem? (i := 84) rfl)) rfl
theorem co_X8_readsPart : Cond.code yX8_readsPart cX8_readsPart 4 (some .boolean) ∈ tg_ALL := tg_in (tb_4 _ (List.mem_of_getElem? (i := 85) rfl)) rfl
theorem ml_X8_114 : Cond.methodLink RX8 114 yX8_here ∈ tg_ALL := tg_in (tb_4 _ (List.mem_of_getElem? (i := 86) rfl)) rfl
theorem im_X8_here : Cond.instanceMethod yX8_here ∈ tg_ALL := tg_in (tb_4 _ (List.mem_of_getElem? (i := 88) rfl)) rfl
theorem co_X8_here : Cond.code yX8_here cX8_here 1 (some .int) ∈ tg_ALL := tg_in (tb_4 _ (List.mem_of_getElem? (i := 89) rfl)) rfl
theorem lc_X8_118 : Cond.constantLong RX8 118 (Int64.ofInt (7)) ∈ tg_ALL := tg_in (tb_4 _ (List.mem_of_getElem? (i := 90) rfl)) rfl
theorem lc_X8_120 : Cond.constantLong RX8 120 (Int64.ofInt (9)) ∈ tg_ALL := tg_in (tb_4 _ (List.mem_of_getElem? (i := 91) rfl)) rfl
theorem ml_X8_126 : Cond.methodLink RX8 126 yX8_none ∈ tg_ALL := tg_in (tb_4 _ (List.mem_of_getElem? (i := 92) rfl)) rfl
theorem im_X8_none : Cond.instanceMethod yX8_none ∈ tg_ALL := tg_in (tb_4 _ (List.mem_of_getElem? (i := 94) rfl)) rfl
theorem co_X8_none : Cond.code yX8_none cX8_none 1 (some .int) ∈ tg_ALL := tg_in (tb_4 _ (List.mem_of_getElem? (i := 95) rfl)) rfl
theorem ml_L_31 : Cond.methodLink RL 31 yX8_path ∈ tg_ALL := tg_in (tb_4 _ (List.mem_of_getElem? (i := 96) rfl)) rfl
theorem im_X8_path : Cond.instanceMethod yX8_path ∈ tg_ALL := tg_in (tb_4 _ (List.mem_of_getElem? (i := 97) rfl)) rfl
theorem se_X8_path : Cond.selects RX8 yX8_path yX8_path ∈ tg_ALL := tg_in (tb_4 _ (List.mem_of_getElem? (i := 98) rfl)) rfl
theorem co_X8_path : Cond.code yX8_path cX8_path 3 (some .int) ∈ tg_ALL := tg_in (tb_4 _ (List.mem_of_getElem? (i := 99) rfl)) rfl
theorem ml_X8_132 : Cond.methodLink RX8 132 yX8_isPath ∈ tg_ALL := tg_in (tb_4 _ (List.mem_of_getElem? (i := 100) rfl)) rfl
theorem im_X8_isPath : Cond.instanceMethod yX8_isPath ∈ tg_ALL := tg_in (tb_4 _ (List.mem_of_getElem? (i := 102) rfl)) rfl
theorem co_X8_isPath : Cond.code yX8_isPath cX8_isPath 2 (some .boolean) ∈ tg_ALL := tg_in (tb_4 _ (List.mem_of_getElem? (i := 103) rfl)) rfl
theorem ml_L_35 : Cond.methodLink RL 35 yX8_start ∈ tg_ALL := tg_in (tb_4 _ (List.mem_of_getElem? (i := 104) rfl)) rfl
theorem im_X8_start : Cond.instanceMethod yX8_start ∈ tg_ALL := tg_in (tb_4 _ (List.mem_of_getElem? (i := 105) rfl)) rfl
theorem se_X8_start : Cond.selects RX8 yX8_start yX8_start ∈ tg_ALL := tg_in (tb_4 _ (List.mem_of_getElem? (i := 106) rfl)) rfl
theorem co_X8_start : Cond.code yX8_start cX8_start 4 (some .int) ∈ tg_ALL := tg_in (tb_4 _ (List.mem_of_getElem? (i := 107) rfl)) rfl
theorem ml_X8_135 : Cond.methodLink RX8 135 yX8_isTwo ∈ tg_ALL := tg_in (tb_4 _ (List.mem_of_getElem? (i := 108) rfl)) rfl
theorem st_X8_isTwo : Cond.static yX8_isTwo ∈ tg_ALL := tg_in (tb_4 _ (List.mem_of_getElem? (i := 109) rfl)) rfl
theorem co_X8_isTwo : Cond.code yX8_isTwo cX8_isTwo 1 (some .boolean) ∈ tg_ALL := tg_in (tb_4 _ (List.mem_of_getElem? (i := 110) rfl)) rfl
theorem ml_X8_138 : Cond.methodLink RX8 138 yX8_isPlace ∈ tg_ALL := tg_in (tb_4 _ (List.mem_of_getElem? (i := 111) rfl)) rfl
theorem st_X8_isPlace : Cond.static yX8_isPlace ∈ tg_ALL := tg_in (tb_4 _ (List.mem_of_getElem? (i := 112) rfl)) rfl
theorem co_X8_isPlace : Cond.code yX8_isPlace cX8_isPlace 1 (some .boolean) ∈ tg_ALL := tg_in (tb_4 _ (List.mem_of_getElem? (i := 113) rfl)) rfl
theorem ml_L_39 : Cond.methodLink RL 39 yX8_set ∈ tg_ALL := tg_in (tb_4 _ (List.mem_of_getElem? (i := 114) rfl)) rfl
theorem im_X8_set : Cond.instanceMethod yX8_set ∈ tg_ALL := tg_in (tb_4 _ (List.mem_of_getElem? (i := 115) rfl)) rfl
theorem se_X8_set : Cond.selects RX8 yX8_set yX8_set ∈ tg_ALL := tg_in (tb_4 _ (List.mem_of_getElem? (i := 116) rfl)) rfl
theorem co_X8_set : Cond.code yX8_set cX8_set 4 (some .int) ∈ tg_ALL := tg_in (tb_4 _ (List.mem_of_getElem? (i := 117) rfl)) rfl
theorem lc_X8_141 : Cond.constantLong RX8 141 (Int64.ofInt (18)) ∈ tg_ALL := tg_in (tb_4 _ (List.mem_of_getElem? (i := 118) rfl)) rfl
theorem ml_L_43 : Cond.methodLink RL 43 yX8_thistle ∈ tg_ALL := tg_in (tb_4 _ (List.mem_of_getElem? (i := 119) rfl)) rfl
theorem im_X8_thistle : Cond.instanceMethod yX8_thistle ∈ tg_ALL := tg_in (tb_4 _ (List.mem_of_getElem? (i := 120) rfl)) rfl
theorem se_X8_thistle : Cond.selects RX8 yX8_thistle yX8_thistle ∈ tg_ALL := tg_in (tb_4 _ (List.mem_of_getElem? (i := 121) rfl)) rfl
theorem co_X8_thistle : Cond.code yX8_thistle cX8_thistle 4 (some .int) ∈ tg_ALL := tg_in (tb_4 _ (List.mem_of_getElem? (i := 122) rfl)) rfl
theorem lc_X8_143 : Cond.constantLong RX8 143 (Int64.ofInt (99)) ∈ tg_ALL := tg_in (tb_4 _ (List.mem_of_getElem? (i := 123) rfl)) rfl
theorem ml_L_47 : Cond.methodLink RL 47 yX8_read ∈ tg_ALL := tg_in (tb_4 _ (List.mem_of_getElem? (i := 124) rfl)) rfl
theorem im_X8_read : Cond.instanceMethod yX8_read ∈ tg_ALL := tg_in (tb_4 _ (List.mem_of_getElem? (i := 125) rfl)) rfl
theorem se_X8_read : Cond.selects RX8 yX8_read yX8_read ∈ tg_ALL := tg_in (tb_4 _ (List.mem_of_getElem? (i := 126) rfl)) rfl
theorem co_X8_read : Cond.code yX8_read cX8_read 5 (some .int) ∈ tg_ALL := tg_in (tb_4 _ (List.mem_of_getElem? (i := 127) rfl)) rfl
theorem lc_X8_145 : Cond.constantLong RX8 145 (Int64.ofInt (15)) ∈ tg_ALL := tg_in (tb_4 _ (List.mem_of_getElem? (i := 128) rfl)) rfl
theorem ml_X8_147 : Cond.methodLink RX8 147 yX8_type ∈ tg_ALL := tg_in (tb_4 _ (List.mem_of_getElem? (i := 129) rfl)) rfl
theorem ml_L_51 : Cond.methodLink RL 51 yX8_undo ∈ tg_ALL := tg_in (tb_4 _ (List.mem_of_getElem? (i := 130) rfl)) rfl
theorem im_X8_undo : Cond.instanceMethod yX8_undo ∈ tg_ALL := tg_in (tb_4 _ (List.mem_of_getElem? (i := 131) rfl)) rfl
theorem se_X8_undo : Cond.selects RX8 yX8_undo yX8_undo ∈ tg_ALL := tg_in (tb_4 _ (List.mem_of_getElem? (i := 132) rfl)) rfl
theorem co_X8_undo : Cond.code yX8_undo cX8_undo 2 (some .int) ∈ tg_ALL := tg_in (tb_4 _ (List.mem_of_getElem? (i := 133) rfl)) rfl
theorem ml_L_55 : Cond.methodLink RL 55 yX8_judged ∈ tg_ALL := tg_in (tb_4 _ (List.mem_of_getElem? (i := 134) rfl)) rfl
theorem im_X8_judged : Cond.instanceMethod yX8_judged ∈ tg_ALL := tg_in (tb_4 _ (List.mem_of_getElem? (i := 135) rfl)) rfl
theorem se_X8_judged : Cond.selects RX8 yX8_judged yX8_judged ∈ tg_ALL := tg_in (tb_4 _ (List.mem_of_getElem? (i := 136) rfl)) rfl
theorem co_X8_judged : Cond.code yX8_judged cX8_judged 2 (some .int) ∈ tg_ALL := tg_in (tb_4 _ (List.mem_of_getElem? (i := 137) rfl)) rfl
theorem ml_X8_203 : Cond.methodLink RX8 203 yX8_judgedOf ∈ tg_ALL := tg_in (tb_4 _ (List.mem_of_getElem? (i := 138) rfl)) rfl
theorem im_X8_judgedOf : Cond.instanceMethod yX8_judgedOf ∈ tg_ALL := tg_in (tb_4 _ (List.mem_of_getElem? (i := 140) rfl)) rfl
theorem co_X8_judgedOf : Cond.code yX8_judgedOf cX8_judgedOf 3 (some .int) ∈ tg_ALL := tg_in (tb_4 _ (List.mem_of_getElem? (i := 141) rfl)) rfl
theorem ml_X8_200 : Cond.methodLink RX8 200 yX8_done ∈ tg_ALL := tg_in (tb_4 _ (List.mem_of_getElem? (i := 142) rfl)) rfl
theorem im_X8_done : Cond.instanceMethod yX8_done ∈ tg_ALL := tg_in (tb_4 _ (List.mem_of_getElem? (i := 144) rfl)) rfl
theorem co_X8_done : Cond.code yX8_done cX8_done 2 (some .int) ∈ tg_ALL := tg_in (tb_4 _ (List.mem_of_getElem? (i := 145) rfl)) rfl
theorem ml_X8_197 : Cond.methodLink RX8 197 yX8_runs ∈ tg_ALL := tg_in (tb_4 _ (List.mem_of_getElem? (i := 146) rfl)) rfl
theorem im_X8_runs : Cond.instanceMethod yX8_runs ∈ tg_ALL := tg_in (tb_4 _ (List.mem_of_getElem? (i := 148) rfl)) rfl
theorem co_X8_runs : Cond.code yX8_runs cX8_runs 4 (some .int) ∈ tg_ALL := tg_in (tb_4 _ (List.mem_of_getElem? (i := 149) rfl)) rfl
theorem ml_X8_184 : Cond.methodLink RX8 184 yX8_begins ∈ tg_ALL := tg_in (tb_4 _ (List.mem_of_getElem? (i := 150) rfl)) rfl
theorem im_X8_begins : Cond.instanceMethod yX8_begins ∈ tg_ALL := tg_in (tb_4 _ (List.mem_of_getElem? (i := 152) rfl)) rfl
theorem co_X8_begins : Cond.code yX8_begins cX8_begins 3 none ∈ tg_ALL := tg_in (tb_4 _ (List.mem_of_getElem? (i := 153) rfl)) rfl
theorem ml_X8_188 : Cond.methodLink RX8 188 yX8_stepOf ∈ tg_ALL := tg_in (tb_4 _ (List.mem_of_getElem? (i := 154) rfl)) rfl
theorem im_X8_stepOf : Cond.instanceMethod yX8_stepOf ∈ tg_ALL := tg_in (tb_4 _ (List.mem_of_getElem? (i := 156) rfl)) rfl
theorem co_X8_stepOf : Cond.code yX8_stepOf cX8_stepOf 5 (some .int) ∈ tg_ALL := tg_in (tb_4 _ (List.mem_of_getElem? (i := 157) rfl)) rfl
theorem lc_X8_165 : Cond.constantLong RX8 165 (Int64.ofInt (97)) ∈ tg_ALL := tg_in (tb_4 _ (List.mem_of_getElem? (i := 158) rfl)) rfl
theorem lc_X8_167 : Cond.constantLong RX8 167 (Int64.ofInt (104)) ∈ tg_ALL := tg_in (tb_4 _ (List.mem_of_getElem? (i := 159) rfl)) rfl
theorem lc_X8_169 : Cond.constantLong RX8 169 (Int64.ofInt (65)) ∈ tg_ALL := tg_in (tb_4 _ (List.mem_of_getElem? (i := 160) rfl)) rfl
theorem lc_X8_171 : Cond.constantLong RX8 171 (Int64.ofInt (72)) ∈ tg_ALL := tg_in (tb_4 _ (List.mem_of_getElem? (i := 161) rfl)) rfl
theorem ml_X8_173 : Cond.methodLink RX8 173 yX8_touches ∈ tg_ALL := tg_in (tb_4 _ (List.mem_of_getElem? (i := 162) rfl)) rfl
theorem im_X8_touches : Cond.instanceMethod yX8_touches ∈ tg_ALL := tg_in (tb_4 _ (List.mem_of_getElem? (i := 164) rfl)) rfl
theorem co_X8_touches : Cond.code yX8_touches cX8_touches 3 (some .boolean) ∈ tg_ALL := tg_in (tb_4 _ (List.mem_of_getElem? (i := 165) rfl)) rfl
theorem ml_X8_191 : Cond.methodLink RX8 191 yX8_isBorne ∈ tg_ALL := tg_in (tb_4 _ (List.mem_of_getElem? (i := 166) rfl)) rfl
theorem im_X8_isBorne : Cond.instanceMethod yX8_isBorne ∈ tg_ALL := tg_in (tb_4 _ (List.mem_of_getElem? (i := 168) rfl)) rfl
theorem co_X8_isBorne : Cond.code yX8_isBorne cX8_isBorne 2 (some .boolean) ∈ tg_ALL := tg_in (tb_4 _ (List.mem_of_getElem? (i := 169) rfl)) rfl
theorem ml_X8_177 : Cond.methodLink RX8 177 yX8_lengthBehind ∈ tg_ALL := tg_in (tb_4 _ (List.mem_of_getElem? (i := 170) rfl)) rfl
theorem im_X8_lengthBehind : Cond.instanceMethod yX8_lengthBehind ∈ tg_ALL := tg_in (tb_4 _ (List.mem_of_getElem? (i := 172) rfl)) rfl
theorem co_X8_lengthBehind : Cond.code yX8_lengthBehind cX8_lengthBehind 3 (some .int) ∈ tg_ALL := tg_in (tb_4 _ (List.mem_of_getElem? (i := 173) rfl)) rfl
theorem ml_X8_153 : Cond.methodLink RX8 153 yX8_next ∈ tg_ALL := tg_in (tb_4 _ (List.mem_of_getElem? (i := 174) rfl)) rfl
theorem im_X8_next : Cond.instanceMethod yX8_next ∈ tg_ALL := tg_in (tb_4 _ (List.mem_of_getElem? (i := 176) rfl)) rfl
theorem co_X8_next : Cond.code yX8_next cX8_next 2 (some .int) ∈ tg_ALL := tg_in (tb_4 _ (List.mem_of_getElem? (i := 177) rfl)) rfl
theorem ml_X8_194 : Cond.methodLink RX8 194 yX8_does ∈ tg_ALL := tg_in (tb_4 _ (List.mem_of_getElem? (i := 178) rfl)) rfl
theorem im_X8_does : Cond.instanceMethod yX8_does ∈ tg_ALL := tg_in (tb_4 _ (List.mem_of_getElem? (i := 180) rfl)) rfl
theorem co_X8_does : Cond.code yX8_does cX8_does 4 none ∈ tg_ALL := tg_in (tb_4 _ (List.mem_of_getElem? (i := 181) rfl)) rfl
theorem ml_X8_180 : Cond.methodLink RX8 180 yX8_goes ∈ tg_ALL := tg_in (tb_4 _ (List.mem_of_getElem? (i := 182) rfl)) rfl
theorem im_X8_goes : Cond.instanceMethod yX8_goes ∈ tg_ALL := tg_in (tb_4 _ (List.mem_of_getElem? (i := 184) rfl)) rfl
theorem co_X8_goes : Cond.code yX8_goes cX8_goes 5 none ∈ tg_ALL := tg_in (tb_4 _ (List.mem_of_getElem? (i := 185) rfl)) rfl
theorem ml_X8_156 : Cond.methodLink RX8 156 yX8_otherEnd ∈ tg_ALL := tg_in (tb_4 _ (List.mem_of_getElem? (i := 186) rfl)) rfl
theorem im_X8_otherEnd : Cond.instanceMethod yX8_otherEnd ∈ tg_ALL := tg_in (tb_4 _ (List.mem_of_getElem? (i := 188) rfl)) rfl
theorem co_X8_otherEnd : Cond.code yX8_otherEnd cX8_otherEnd 3 (some .int) ∈ tg_ALL := tg_in (tb_4 _ (List.mem_of_getElem? (i := 189) rfl)) rfl
theorem ml_L_60 : Cond.methodLink RL 60 yX8_state ∈ tg_ALL := tg_in (tb_4 _ (List.mem_of_getElem? (i := 190) rfl)) rfl
theorem im_X8_state : Cond.instanceMethod yX8_state ∈ tg_ALL := tg_in (tb_4 _ (List.mem_of_getElem? (i := 191) rfl)) rfl
theorem se_X8_state : Cond.selects RX8 yX8_state yX8_state ∈ tg_ALL := tg_in (tb_4 _ (List.mem_of_getElem? (i := 192) rfl)) rfl
theorem co_X8_state : Cond.code yX8_state cX8_state 4 (some .int) ∈ tg_ALL := tg_in (tb_4 _ (List.mem_of_getElem? (i := 193) rfl)) rfl
theorem ml_X8_206 : Cond.methodLink RX8 206 yX8_isSo ∈ tg_ALL := tg_in (tb_4 _ (List.mem_of_getElem? (i := 194) rfl)) rfl
theorem im_X8_isSo : Cond.instanceMethod yX8_isSo ∈ tg_ALL := tg_in (tb_4 _ (List.mem_of_getElem? (i := 196) rfl)) rfl
theorem co_X8_isSo : Cond.code yX8_isSo cX8_isSo 3 (some .boolean) ∈ tg_ALL := tg_in (tb_4 _ (List.mem_of_getElem? (i := 197) rfl)) rfl
theorem ml_X8_209 : Cond.methodLink RX8 209 yX8_stateNow ∈ tg_ALL := tg_in (tb_4 _ (List.mem_of_getElem? (i := 198) rfl)) rfl
theorem im_X8_stateNow : Cond.instanceMethod yX8_stateNow ∈ tg_ALL := tg_in (tb_4 _ (List.mem_of_getElem? (i := 200) rfl)) rfl
theorem co_X8_stateNow : Cond.code yX8_stateNow cX8_stateNow 2 (some .int) ∈ tg_ALL := tg_in (tb_4 _ (List.mem_of_getElem? (i := 201) rfl)) rfl
theorem ml_L_64 : Cond.methodLink RL 64 yX8_rope ∈ tg_ALL := tg_in (tb_4 _ (List.mem_of_getElem? (i := 202) rfl)) rfl
theorem im_X8_rope : Cond.instanceMethod yX8_rope ∈ tg_ALL := tg_in (tb_4 _ (List.mem_of_getElem? (i := 203) rfl)) rfl
theorem se_X8_rope : Cond.selects RX8 yX8_rope yX8_rope ∈ tg_ALL := tg_in (tb_4 _ (List.mem_of_getElem? (i := 204) rfl)) rfl
theorem co_X8_rope : Cond.code yX8_rope cX8_rope 4 (some .int) ∈ tg_ALL := tg_in (tb_4 _ (List.mem_of_getElem? (i := 205) rfl)) rfl
theorem ml_L_68 : Cond.methodLink RL 68 yX8_needs ∈ tg_ALL := tg_in (tb_4 _ (List.mem_of_getElem? (i := 206) rfl)) rfl
theorem im_X8_needs : Cond.instanceMethod yX8_needs ∈ tg_ALL := tg_in (tb_4 _ (List.mem_of_getElem? (i := 207) rfl)) rfl
theorem se_X8_needs : Cond.selects RX8 yX8_needs yX8_needs ∈ tg_ALL := tg_in (tb_4 _ (List.mem_of_getElem? (i := 208) rfl)) rfl
theorem co_X8_needs : Cond.code yX8_needs cX8_needs 2 (some .int) ∈ tg_ALL := tg_in (tb_4 _ (List.mem_of_getElem? (i := 209) rfl)) rfl
theorem ml_X8_212 : Cond.methodLink RX8 212 yX8_needsOf ∈ tg_ALL := tg_in (tb_4 _ (List.mem_of_getElem? (i := 210) rfl)) rfl
theorem im_X8_needsOf : Cond.instanceMethod yX8_needsOf ∈ tg_ALL := tg_in (tb_4 _ (List.mem_of_getElem? (i := 212) rfl)) rfl
theorem co_X8_needsOf : Cond.code yX8_needsOf cX8_needsOf 5 (some .int) ∈ tg_ALL := tg_in (tb_4 _ (List.mem_of_getElem? (i := 213) rfl)) rfl
theorem ml_L_72 : Cond.methodLink RL 72 yX8_soon ∈ tg_ALL := tg_in (tb_4 _ (List.mem_of_getElem? (i := 214) rfl)) rfl
theorem im_X8_soon : Cond.instanceMethod yX8_soon ∈ tg_ALL := tg_in (tb_4 _ (List.mem_of_getElem? (i := 215) rfl)) rfl
theorem se_X8_soon : Cond.selects RX8 yX8_soon yX8_soon ∈ tg_ALL := tg_in (tb_4 _ (List.mem_of_getElem? (i := 216) rfl)) rfl
theorem co_X8_soon : Cond.code yX8_soon cX8_soon 4 (some .int) ∈ tg_ALL := tg_in (tb_4 _ (List.mem_of_getElem? (i := 217) rfl)) rfl
theorem ml_X8_231 : Cond.methodLink RX8 231 yX8_soonOf ∈ tg_ALL := tg_in (tb_4 _ (List.mem_of_getElem? (i := 218) rfl)) rfl
theorem im_X8_soonOf : Cond.instanceMethod yX8_soonOf ∈ tg_ALL := tg_in (tb_4 _ (List.mem_of_getElem? (i := 220) rfl)) rfl
theorem co_X8_soonOf : Cond.code yX8_soonOf cX8_soonOf 14 (some .int) ∈ tg_ALL := tg_in (tb_4 _ (List.mem_of_getElem? (i := 221) rfl)) rfl
theorem ml_X8_220 : Cond.methodLink RX8 220 yX8_wayNow ∈ tg_ALL := tg_in (tb_4 _ (List.mem_of_getElem? (i := 222) rfl)) rfl
theorem im_X8_wayNow : Cond.instanceMethod yX8_wayNow ∈ tg_ALL := tg_in (tb_4 _ (List.mem_of_getElem? (i := 224) rfl)) rfl
theorem co_X8_wayNow : Cond.code yX8_wayNow cX8_wayNow 4 (some .long) ∈ tg_ALL := tg_in (tb_4 _ (List.mem_of_getElem? (i := 225) rfl)) rfl
theorem ml_X8_224 : Cond.methodLink RX8 224 yX8_keepsWay ∈ tg_ALL := tg_in (tb_4 _ (List.mem_of_getElem? (i := 226) rfl)) rfl
theorem im_X8_keepsWay : Cond.instanceMethod yX8_keepsWay ∈ tg_ALL := tg_in (tb_4 _ (List.mem_of_getElem? (i := 228) rfl)) rfl
theorem co_X8_keepsWay : Cond.code yX8_keepsWay cX8_keepsWay 4 none ∈ tg_ALL := tg_in (tb_4 _ (List.mem_of_getElem? (i := 229) rfl)) rfl
theorem ml_X8_228 : Cond.methodLink RX8 228 yX8_comesTo ∈ tg_ALL := tg_in (tb_4 _ (List.mem_of_getElem? (i := 230) rfl)) rfl
theorem im_X8_comesTo : Cond.instanceMethod yX8_comesTo ∈ tg_ALL := tg_in (tb_4 _ (List.mem_of_getElem? (i := 232) rfl)) rfl
theorem co_X8_comesTo : Cond.code yX8_comesTo cX8_comesTo 5 none ∈ tg_ALL := tg_in (tb_4 _ (List.mem_of_getElem? (i := 233) rfl)) rfl
theorem lc_X8_215 : Cond.constantLong RX8 215 (Int64.ofInt (31)) ∈ tg_ALL := tg_in (tb_4 _ (List.mem_of_getElem? (i := 234) rfl)) rfl
theorem ml_L_76 : Cond.methodLink RL 76 yX8_loose ∈ tg_ALL := tg_in (tb_4 _ (List.mem_of_getElem? (i := 235) rfl)) rfl
theorem im_X8_loose : Cond.instanceMethod yX8_loose ∈ tg_ALL := tg_in (tb_4 _ (List.mem_of_getElem? (i := 236) rfl)) rfl
theorem se_X8_loose : Cond.selects RX8 yX8_loose yX8_loose ∈ tg_ALL := tg_in (tb_4 _ (List.mem_of_getElem? (i := 237) rfl)) rfl
theorem co_X8_loose : Cond.code yX8_loose cX8_loose 2 (some .int) ∈ tg_ALL := tg_in (tb_4 _ (List.mem_of_getElem? (i := 238) rfl)) rfl
theorem ml_X8_234 : Cond.methodLink RX8 234 yX8_looseOf ∈ tg_ALL := tg_in (tb_4 _ (List.mem_of_getElem? (i := 239) rfl)) rfl
theorem im_X8_looseOf : Cond.instanceMethod yX8_looseOf ∈ tg_ALL := tg_in (tb_5 _ (List.mem_of_getElem? (i := 1) rfl)) rfl
theorem co_X8_looseOf : Cond.code yX8_looseOf cX8_looseOf 2 (some .int) ∈ tg_ALL := tg_in (tb_5 _ (List.mem_of_getElem? (i := 2) rfl)) rfl
theorem ml_L_81 : Cond.methodLink RL 81 yX8_pulled ∈ tg_ALL := tg_in (tb_5 _ (List.mem_of_getElem? (i := 3) rfl)) rfl
theorem im_X8_pulled : Cond.instanceMethod yX8_pulled ∈ tg_ALL := tg_in (tb_5 _ (List.mem_of_getElem? (i := 4) rfl)) rfl
theorem se_X8_pulled : Cond.selects RX8 yX8_pulled yX8_pulled ∈ tg_ALL := tg_in (tb_5 _ (List.mem_of_getElem? (i := 5) rfl)) rfl
theorem co_X8_pulled : Cond.code yX8_pulled cX8_pulled 6 (some .int) ∈ tg_ALL := tg_in (tb_5 _ (List.mem_of_getElem? (i := 6) rfl)) rfl
theorem ml_X8_240 : Cond.methodLink RX8 240 yX8_pulledOf ∈ tg_ALL := tg_in (tb_5 _ (List.mem_of_getElem? (i := 7) rfl)) rfl
theorem im_X8_pulledOf : Cond.instanceMethod yX8_pulledOf ∈ tg_ALL := tg_in (tb_5 _ (List.mem_of_getElem? (i := 9) rfl)) rfl
theorem co_X8_pulledOf : Cond.code yX8_pulledOf cX8_pulledOf 13 (some .int) ∈ tg_ALL := tg_in (tb_5 _ (List.mem_of_getElem? (i := 10) rfl)) rfl
theorem ml_X8_237 : Cond.methodLink RX8 237 yX8_haveLikeEnds ∈ tg_ALL := tg_in (tb_5 _ (List.mem_of_getElem? (i := 11) rfl)) rfl
theorem im_X8_haveLikeEnds : Cond.instanceMethod yX8_haveLikeEnds ∈ tg_ALL := tg_in (tb_5 _ (List.mem_of_getElem? (i := 13) rfl)) rfl
theorem co_X8_haveLikeEnds : Cond.code yX8_haveLikeEnds cX8_haveLikeEnds 3 (some .boolean) ∈ tg_ALL := tg_in (tb_5 _ (List.mem_of_getElem? (i := 14) rfl)) rfl
theorem ml_L_85 : Cond.methodLink RL 85 yX8_began ∈ tg_ALL := tg_in (tb_5 _ (List.mem_of_getElem? (i := 15) rfl)) rfl
theorem im_X8_began : Cond.instanceMethod yX8_began ∈ tg_ALL := tg_in (tb_5 _ (List.mem_of_getElem? (i := 16) rfl)) rfl
theorem se_X8_began : Cond.selects RX8 yX8_began yX8_began ∈ tg_ALL := tg_in (tb_5 _ (List.mem_of_getElem? (i := 17) rfl)) rfl
theorem co_X8_began : Cond.code yX8_began cX8_began 3 (some .int) ∈ tg_ALL := tg_in (tb_5 _ (List.mem_of_getElem? (i := 18) rfl)) rfl
theorem ml_X8_245 : Cond.methodLink RX8 245 yX8_beganOf ∈ tg_ALL := tg_in (tb_5 _ (List.mem_of_getElem? (i := 19) rfl)) rfl
theorem im_X8_beganOf : Cond.instanceMethod yX8_beganOf ∈ tg_ALL := tg_in (tb_5 _ (List.mem_of_getElem? (i := 21) rfl)) rfl
theorem co_X8_beganOf : Cond.code yX8_beganOf cX8_beganOf 7 (some .int) ∈ tg_ALL := tg_in (tb_5 _ (List.mem_of_getElem? (i := 22) rfl)) rfl
theorem ic_X8_244 : Cond.constant RX8 244 (Int32.ofInt (100000)) ∈ tg_ALL := tg_in (tb_5 _ (List.mem_of_getElem? (i := 23) rfl)) rfl
theorem ml_L_89 : Cond.methodLink RL 89 yX8_game ∈ tg_ALL := tg_in (tb_5 _ (List.mem_of_getElem? (i := 24) rfl)) rfl
theorem im_X8_game : Cond.instanceMethod yX8_game ∈ tg_ALL := tg_in (tb_5 _ (List.mem_of_getElem? (i := 25) rfl)) rfl
theorem se_X8_game : Cond.selects RX8 yX8_game yX8_game ∈ tg_ALL := tg_in (tb_5 _ (List.mem_of_getElem? (i := 26) rfl)) rfl
theorem co_X8_game : Cond.code yX8_game cX8_game 4 (some .int) ∈ tg_ALL := tg_in (tb_5 _ (List.mem_of_getElem? (i := 27) rfl)) rfl
theorem lc_X8_255 : Cond.constantLong RX8 255 (Int64.ofInt (5)) ∈ tg_ALL := tg_in (tb_5 _ (List.mem_of_getElem? (i := 28) rfl)) rfl
theorem ml_X8_257 : Cond.methodLink RX8 257 yX8_gameOf ∈ tg_ALL := tg_in (tb_5 _ (List.mem_of_getElem? (i := 29) rfl)) rfl
theorem im_X8_gameOf : Cond.instanceMethod yX8_gameOf ∈ tg_ALL := tg_in (tb_5 _ (List.mem_of_getElem? (i := 31) rfl)) rfl
theorem co_X8_gameOf : Cond.code yX8_gameOf cX8_gameOf 14 (some .int) ∈ tg_ALL := tg_in (tb_5 _ (List.mem_of_getElem? (i := 32) rfl)) rfl
theorem ml_X8_248 : Cond.methodLink RX8 248 yX8_enters ∈ tg_ALL := tg_in (tb_5 _ (List.mem_of_getElem? (i := 33) rfl)) rfl
theorem im_X8_enters : Cond.instanceMethod yX8_enters ∈ tg_ALL := tg_in (tb_5 _ (List.mem_of_getElem? (i := 35) rfl)) rfl
theorem co_X8_enters : Cond.code yX8_enters cX8_enters 6 none ∈ tg_ALL := tg_in (tb_5 _ (List.mem_of_getElem? (i := 36) rfl)) rfl
theorem ml_X8_252 : Cond.methodLink RX8 252 yX8_mayPick ∈ tg_ALL := tg_in (tb_5 _ (List.mem_of_getElem? (i := 37) rfl)) rfl
theorem im_X8_mayPick : Cond.instanceMethod yX8_mayPick ∈ tg_ALL := tg_in (tb_5 _ (List.mem_of_getElem? (i := 39) rfl)) rfl
theorem co_X8_mayPick : Cond.code yX8_mayPick cX8_mayPick 3 (some .boolean) ∈ tg_ALL := tg_in (tb_5 _ (List.mem_of_getElem? (i := 40) rfl)) rfl
theorem ml_L_93 : Cond.methodLink RL 93 yX8_alike ∈ tg_ALL := tg_in (tb_5 _ (List.mem_of_getElem? (i := 41) rfl)) rfl
theorem im_X8_alike : Cond.instanceMethod yX8_alike ∈ tg_ALL := tg_in (tb_5 _ (List.mem_of_getElem? (i := 42) rfl)) rfl
theorem se_X8_alike : Cond.selects RX8 yX8_alike yX8_alike ∈ tg_ALL := tg_in (tb_5 _ (List.mem_of_getElem? (i := 43) rfl)) rfl
theorem co_X8_alike : Cond.code yX8_alike cX8_alike 1 (some .int) ∈ tg_ALL := tg_in (tb_5 _ (List.mem_of_getElem? (i := 44) rfl)) rfl
theorem ml_X8_260 : Cond.methodLink RX8 260 yX8_alikeNow ∈ tg_ALL := tg_in (tb_5 _ (List.mem_of_getElem? (i := 45) rfl)) rfl
theorem im_X8_alikeNow : Cond.instanceMethod yX8_alikeNow ∈ tg_ALL := tg_in (tb_5 _ (List.mem_of_getElem? (i := 47) rfl)) rfl
theorem co_X8_alikeNow : Cond.code yX8_alikeNow cX8_alikeNow 5 (some .int) ∈ tg_ALL := tg_in (tb_5 _ (List.mem_of_getElem? (i := 48) rfl)) rfl
theorem ml_L_118 : Cond.methodLink RL 118 yX8_write ∈ tg_ALL := tg_in (tb_5 _ (List.mem_of_getElem? (i := 49) rfl)) rfl
theorem im_X8_write : Cond.instanceMethod yX8_write ∈ tg_ALL := tg_in (tb_5 _ (List.mem_of_getElem? (i := 50) rfl)) rfl
theorem se_X8_write : Cond.selects RX8 yX8_write yX8_write ∈ tg_ALL := tg_in (tb_5 _ (List.mem_of_getElem? (i := 51) rfl)) rfl
theorem co_X8_write : Cond.code yX8_write cX8_write 5 (some .int) ∈ tg_ALL := tg_in (tb_5 _ (List.mem_of_getElem? (i := 52) rfl)) rfl
theorem ml_L_122 : Cond.methodLink RL 122 yX8_count ∈ tg_ALL := tg_in (tb_5 _ (List.mem_of_getElem? (i := 53) rfl)) rfl
theorem im_X8_count : Cond.instanceMethod yX8_count ∈ tg_ALL := tg_in (tb_5 _ (List.mem_of_getElem? (i := 54) rfl)) rfl
theorem se_X8_count : Cond.selects RX8 yX8_count yX8_count ∈ tg_ALL := tg_in (tb_5 _ (List.mem_of_getElem? (i := 55) rfl)) rfl
theorem co_X8_count : Cond.code yX8_count cX8_count 4 (some .int) ∈ tg_ALL := tg_in (tb_5 _ (List.mem_of_getElem? (i := 56) rfl)) rfl
theorem ml_L_127 : Cond.methodLink RL 127 yX8_digest ∈ tg_ALL := tg_in (tb_5 _ (List.mem_of_getElem? (i := 57) rfl)) rfl
theorem im_X8_digest : Cond.instanceMethod yX8_digest ∈ tg_ALL := tg_in (tb_5 _ (List.mem_of_getElem? (i := 58) rfl)) rfl
theorem se_X8_digest : Cond.selects RX8 yX8_digest yX8_digest ∈ tg_ALL := tg_in (tb_5 _ (List.mem_of_getElem? (i := 59) rfl)) rfl
theorem co_X8_digest : Cond.code yX8_digest cX8_digest 5 (some .long) ∈ tg_ALL := tg_in (tb_5 _ (List.mem_of_getElem? (i := 60) rfl)) rfl
theorem lc_X8_263 : Cond.constantLong RX8 263 (Int64.ofInt (17)) ∈ tg_ALL := tg_in (tb_5 _ (List.mem_of_getElem? (i := 61) rfl)) rfl
theorem ml_X8_265 : Cond.methodLink RX8 265 yX8_count ∈ tg_ALL := tg_in (tb_5 _ (List.mem_of_getElem? (i := 62) rfl)) rfl
theorem ml_X8_268 : Cond.methodLink RX8 268 yX8_pulled ∈ tg_ALL := tg_in (tb_5 _ (List.mem_of_getElem? (i := 63) rfl)) rfl
theorem st_copy : Cond.static arraycopyName ∈ tg_ALL := tg_in (tb_3 _ (List.mem_of_getElem? (i := 136) rfl)) rfl
theorem se_X7_textOf : Cond.selects RX7 yX7_textOf yX7_textOf ∈ tg_ALL := tg_in (tb_p _ (List.mem_of_getElem? (i := 0) rfl)) rfl
theorem se_X7_dayOf : Cond.selects RX7 yX7_dayOf yX7_dayOf ∈ tg_ALL := tg_in (tb_p _ (List.mem_of_getElem? (i := 1) rfl)) rfl
theorem se_X2_firstFault : Cond.selects RX2 yX2_firstFault yX2_firstFault ∈ tg_ALL := tg_in (tb_p _ (List.mem_of_getElem? (i := 2) rfl)) rfl
theorem se_X2_fits : Cond.selects RX2 yX2_fits yX2_fits ∈ tg_ALL := tg_in (tb_p _ (List.mem_of_getElem? (i := 3) rfl)) rfl
theorem se_X7_setHeavy : Cond.selects RX7 yX7_setHeavy yX7_setHeavy ∈ tg_ALL := tg_in (tb_p _ (List.mem_of_getElem? (i := 4) rfl)) rfl
theorem se_X7_found : Cond.selects RX7 yX7_found yX7_found ∈ tg_ALL := tg_in (tb_p _ (List.mem_of_getElem? (i := 5) rfl)) rfl
theorem se_X7_ended : Cond.selects RX7 yX7_ended yX7_ended ∈ tg_ALL := tg_in (tb_p _ (List.mem_of_getElem? (i := 6) rfl)) rfl
theorem se_X0_doStep : Cond.selects RX0 yX0_doStep yX0_doStep ∈ tg_ALL := tg_in (tb_p _ (List.mem_of_getElem? (i := 7) rfl)) rfl
theorem se_X1_takeUp : Cond.selects RX1 yX1_takeUp yX1_takeUp ∈ tg_ALL := tg_in (tb_p _ (List.mem_of_getElem? (i := 8) rfl)) rfl
theorem se_X1_layDown : Cond.selects RX1 yX1_layDown yX1_layDown ∈ tg_ALL := tg_in (tb_p _ (List.mem_of_getElem? (i := 9) rfl)) rfl
theorem se_X0_drag : Cond.selects RX0 yX0_drag yX0_drag ∈ tg_ALL := tg_in (tb_p _ (List.mem_of_getElem? (i := 10) rfl)) rfl
theorem se_X0_eat : Cond.selects RX0 yX0_eat yX0_eat ∈ tg_ALL := tg_in (tb_p _ (List.mem_of_getElem? (i := 11) rfl)) rfl
theorem se_X3_note : Cond.selects RX3 yX3_note yX3_note ∈ tg_ALL := tg_in (tb_p _ (List.mem_of_getElem? (i := 12) rfl)) rfl
theorem se_X3_leadsTo : Cond.selects RX3 yX3_leadsTo yX3_leadsTo ∈ tg_ALL := tg_in (tb_p _ (List.mem_of_getElem? (i := 13) rfl)) rfl
theorem se_X2_measureAcross : Cond.selects RX2 yX2_measureAcross yX2_measureAcross ∈ tg_ALL := tg_in (tb_p _ (List.mem_of_getElem? (i := 14) rfl)) rfl
theorem se_X6_gain : Cond.selects RX6 yX6_gain yX6_gain ∈ tg_ALL := tg_in (tb_p _ (List.mem_of_getElem? (i := 15) rfl)) rfl
theorem se_X6_gainByStep : Cond.selects RX6 yX6_gainByStep yX6_gainByStep ∈ tg_ALL := tg_in (tb_p _ (List.mem_of_getElem? (i := 16) rfl)) rfl
theorem se_X4_cut : Cond.selects RX4 yX4_cut yX4_cut ∈ tg_ALL := tg_in (tb_p _ (List.mem_of_getElem? (i := 17) rfl)) rfl
theorem se_X8_met : Cond.selects RX8 yX8_met yX8_met ∈ tg_ALL := tg_in (tb_p _ (List.mem_of_getElem? (i := 18) rfl)) rfl
theorem se_X8_lacks : Cond.selects RX8 yX8_lacks yX8_lacks ∈ tg_ALL := tg_in (tb_p _ (List.mem_of_getElem? (i := 19) rfl)) rfl
theorem se_X8_reads : Cond.selects RX8 yX8_reads yX8_reads ∈ tg_ALL := tg_in (tb_p _ (List.mem_of_getElem? (i := 20) rfl)) rfl
theorem se_X8_readsPart : Cond.selects RX8 yX8_readsPart yX8_readsPart ∈ tg_ALL := tg_in (tb_p _ (List.mem_of_getElem? (i := 21) rfl)) rfl
theorem se_X8_here : Cond.selects RX8 yX8_here yX8_here ∈ tg_ALL := tg_in (tb_p _ (List.mem_of_getElem? (i := 22) rfl)) rfl
theorem se_X8_none : Cond.selects RX8 yX8_none yX8_none ∈ tg_ALL := tg_in (tb_p _ (List.mem_of_getElem? (i := 23) rfl)) rfl
theorem se_X8_isPath : Cond.selects RX8 yX8_isPath yX8_isPath ∈ tg_ALL := tg_in (tb_p _ (List.mem_of_getElem? (i := 24) rfl)) rfl
theorem se_X8_judgedOf : Cond.selects RX8 yX8_judgedOf yX8_judgedOf ∈ tg_ALL := tg_in (tb_p _ (List.mem_of_getElem? (i := 25) rfl)) rfl
theorem se_X8_done : Cond.selects RX8 yX8_done yX8_done ∈ tg_ALL := tg_in (tb_p _ (List.mem_of_getElem? (i := 26) rfl)) rfl
theorem se_X8_runs : Cond.selects RX8 yX8_runs yX8_runs ∈ tg_ALL := tg_in (tb_p _ (List.mem_of_getElem? (i := 27) rfl)) rfl
theorem se_X8_begins : Cond.selects RX8 yX8_begins yX8_begins ∈ tg_ALL := tg_in (tb_p _ (List.mem_of_getElem? (i := 28) rfl)) rfl
theorem se_X8_stepOf : Cond.selects RX8 yX8_stepOf yX8_stepOf ∈ tg_ALL := tg_in (tb_p _ (List.mem_of_getElem? (i := 29) rfl)) rfl
theorem se_X8_touches : Cond.selects RX8 yX8_touches yX8_touches ∈ tg_ALL := tg_in (tb_p _ (List.mem_of_getElem? (i := 30) rfl)) rfl
theorem se_X8_isBorne : Cond.selects RX8 yX8_isBorne yX8_isBorne ∈ tg_ALL := tg_in (tb_p _ (List.mem_of_getElem? (i := 31) rfl)) rfl
theorem se_X8_lengthBehind : Cond.selects RX8 yX8_lengthBehind yX8_lengthBehind ∈ tg_ALL := tg_in (tb_p _ (List.mem_of_getElem? (i := 32) rfl)) rfl
theorem se_X8_next : Cond.selects RX8 yX8_next yX8_next ∈ tg_ALL := tg_in (tb_p _ (List.mem_of_getElem? (i := 33) rfl)) rfl
theorem se_X8_does : Cond.selects RX8 yX8_does yX8_does ∈ tg_ALL := tg_in (tb_p _ (List.mem_of_getElem? (i := 34) rfl)) rfl
theorem se_X8_goes : Cond.selects RX8 yX8_goes yX8_goes ∈ tg_ALL := tg_in (tb_p _ (List.mem_of_getElem? (i := 35) rfl)) rfl
theorem se_X8_otherEnd : Cond.selects RX8 yX8_otherEnd yX8_otherEnd ∈ tg_ALL := tg_in (tb_p _ (List.mem_of_getElem? (i := 36) rfl)) rfl
theorem se_X8_isSo : Cond.selects RX8 yX8_isSo yX8_isSo ∈ tg_ALL := tg_in (tb_p _ (List.mem_of_getElem? (i := 37) rfl)) rfl
theorem se_X8_stateNow : Cond.selects RX8 yX8_stateNow yX8_stateNow ∈ tg_ALL := tg_in (tb_p _ (List.mem_of_getElem? (i := 38) rfl)) rfl
theorem se_X8_needsOf : Cond.selects RX8 yX8_needsOf yX8_needsOf ∈ tg_ALL := tg_in (tb_p _ (List.mem_of_getElem? (i := 39) rfl)) rfl
theorem se_X8_soonOf : Cond.selects RX8 yX8_soonOf yX8_soonOf ∈ tg_ALL := tg_in (tb_p _ (List.mem_of_getElem? (i := 40) rfl)) rfl
theorem se_X8_wayNow : Cond.selects RX8 yX8_wayNow yX8_wayNow ∈ tg_ALL := tg_in (tb_p _ (List.mem_of_getElem? (i := 41) rfl)) rfl
theorem se_X8_keepsWay : Cond.selects RX8 yX8_keepsWay yX8_keepsWay ∈ tg_ALL := tg_in (tb_p _ (List.mem_of_getElem? (i := 42) rfl)) rfl
theorem se_X8_comesTo : Cond.selects RX8 yX8_comesTo yX8_comesTo ∈ tg_ALL := tg_in (tb_p _ (List.mem_of_getElem? (i := 43) rfl)) rfl
theorem se_X8_looseOf : Cond.selects RX8 yX8_looseOf yX8_looseOf ∈ tg_ALL := tg_in (tb_p _ (List.mem_of_getElem? (i := 44) rfl)) rfl
theorem se_X8_pulledOf : Cond.selects RX8 yX8_pulledOf yX8_pulledOf ∈ tg_ALL := tg_in (tb_p _ (List.mem_of_getElem? (i := 45) rfl)) rfl
theorem se_X8_haveLikeEnds : Cond.selects RX8 yX8_haveLikeEnds yX8_haveLikeEnds ∈ tg_ALL := tg_in (tb_p _ (List.mem_of_getElem? (i := 46) rfl)) rfl
theorem se_X8_beganOf : Cond.selects RX8 yX8_beganOf yX8_beganOf ∈ tg_ALL := tg_in (tb_p _ (List.mem_of_getElem? (i := 47) rfl)) rfl
theorem se_X8_gameOf : Cond.selects RX8 yX8_gameOf yX8_gameOf ∈ tg_ALL := tg_in (tb_p _ (List.mem_of_getElem? (i := 48) rfl)) rfl
theorem se_X8_enters : Cond.selects RX8 yX8_enters yX8_enters ∈ tg_ALL := tg_in (tb_p _ (List.mem_of_getElem? (i := 49) rfl)) rfl
theorem se_X8_mayPick : Cond.selects RX8 yX8_mayPick yX8_mayPick ∈ tg_ALL := tg_in (tb_p _ (List.mem_of_getElem? (i := 50) rfl)) rfl
theorem se_X8_alikeNow : Cond.selects RX8 yX8_alikeNow yX8_alikeNow ∈ tg_ALL := tg_in (tb_p _ (List.mem_of_getElem? (i := 51) rfl)) rfl
theorem inAX0 : ∀ w ∈ wsX00, w ∈ tg_ALL := by
  intro w h
  obtain ⟨k, hk, rfl⟩ := List.mem_map.mp h
  have hk2 : k < 8 := List.mem_range.mp hk
  clear h hk
  rcases (show k = 0 ∨ k = 1 ∨ k = 2 ∨ k = 3 ∨ k = 4 ∨ k = 5 ∨ k = 6 ∨ k = 7 by omega) with rfl | rfl | rfl | rfl | rfl | rfl | rfl | rfl
  · exact tg_in (tb_1 _ (List.mem_of_getElem? (i := 143) rfl)) rfl
  · exact tg_in (tb_1 _ (List.mem_of_getElem? (i := 145) rfl)) rfl
  · exact tg_in (tb_1 _ (List.mem_of_getElem? (i := 147) rfl)) rfl
  · exact tg_in (tb_1 _ (List.mem_of_getElem? (i := 149) rfl)) rfl
  · exact tg_in (tb_1 _ (List.mem_of_getElem? (i := 151) rfl)) rfl
  · exact tg_in (tb_1 _ (List.mem_of_getElem? (i := 153) rfl)) rfl
  · exact tg_in (tb_1 _ (List.mem_of_getElem? (i := 155) rfl)) rfl
  · exact tg_in (tb_1 _ (List.mem_of_getElem? (i := 157) rfl)) rfl
theorem inAX1 : ∀ w ∈ wsX10, w ∈ tg_ALL := by
  intro w h
  obtain ⟨k, hk, rfl⟩ := List.mem_map.mp h
  have hk2 : k < 6 := List.mem_range.mp hk
  clear h hk
  rcases (show k = 0 ∨ k = 1 ∨ k = 2 ∨ k = 3 ∨ k = 4 ∨ k = 5 by omega) with rfl | rfl | rfl | rfl | rfl | rfl
  · exact tg_in (tb_1 _ (List.mem_of_getElem? (i := 116) rfl)) rfl
  · exact tg_in (tb_1 _ (List.mem_of_getElem? (i := 118) rfl)) rfl
  · exact tg_in (tb_1 _ (List.mem_of_getElem? (i := 120) rfl)) rfl
  · exact tg_in (tb_1 _ (List.mem_of_getElem? (i := 122) rfl)) rfl
  · exact tg_in (tb_1 _ (List.mem_of_getElem? (i := 124) rfl)) rfl
  · exact tg_in (tb_1 _ (List.mem_of_getElem? (i := 126) rfl)) rfl
theorem inAX2 : ∀ w ∈ wsX20, w ∈ tg_ALL := by
  intro w h
  obtain ⟨k, hk, rfl⟩ := List.mem_map.mp h
  have hk2 : k < 10 := List.mem_range.mp hk
  clear h hk
  rcases (show k = 0 ∨ k = 1 ∨ k = 2 ∨ k = 3 ∨ k = 4 ∨ k = 5 ∨ k = 6 ∨ k = 7 ∨ k = 8 ∨ k = 9 by omega) with rfl | rfl | rfl | rfl | rfl | rfl | rfl | rfl | rfl | rfl
  · exact tg_in (tb_1 _ (List.mem_of_getElem? (i := 66) rfl)) rfl
  · exact tg_in (tb_1 _ (List.mem_of_getElem? (i := 68) rfl)) rfl
  · exact tg_in (tb_1 _ (List.mem_of_getElem? (i := 70) rfl)) rfl
  · exact tg_in (tb_1 _ (List.mem_of_getElem? (i := 72) rfl)) rfl
  · exact tg_in (tb_1 _ (List.mem_of_getElem? (i := 74) rfl)) rfl
  · exact tg_in (tb_1 _ (List.mem_of_getElem? (i := 76) rfl)) rfl
  · exact tg_in (tb_1 _ (List.mem_of_getElem? (i := 78) rfl)) rfl
  · exact tg_in (tb_1 _ (List.mem_of_getElem? (i := 80) rfl)) rfl
  · exact tg_in (tb_1 _ (List.mem_of_getElem? (i := 82) rfl)) rfl
  · exact tg_in (tb_1 _ (List.mem_of_getElem? (i := 84) rfl)) rfl
theorem inAX3 : ∀ w ∈ wsX30, w ∈ tg_ALL := by
  intro w h
  obtain ⟨k, hk, rfl⟩ := List.mem_map.mp h
  have hk2 : k < 5 := List.mem_range.mp hk
  clear h hk
  rcases (show k = 0 ∨ k = 1 ∨ k = 2 ∨ k = 3 ∨ k = 4 by omega) with rfl | rfl | rfl | rfl | rfl
  · exact tg_in (tb_1 _ (List.mem_of_getElem? (i := 173) rfl)) rfl
  · exact tg_in (tb_1 _ (List.mem_of_getElem? (i := 175) rfl)) rfl
  · exact tg_in (tb_1 _ (List.mem_of_getElem? (i := 177) rfl)) rfl
  · exact tg_in (tb_1 _ (List.mem_of_getElem? (i := 179) rfl)) rfl
  · exact tg_in (tb_1 _ (List.mem_of_getElem? (i := 181) rfl)) rfl
theorem inAX4 : ∀ w ∈ wsX40, w ∈ tg_ALL := by
  intro w h
  obtain ⟨k, hk, rfl⟩ := List.mem_map.mp h
  have hk2 : k < 3 := List.mem_range.mp hk
  clear h hk
  rcases (show k = 0 ∨ k = 1 ∨ k = 2 by omega) with rfl | rfl | rfl
  · exact tg_in (tb_1 _ (List.mem_of_getElem? (i := 222) rfl)) rfl
  · exact tg_in (tb_1 _ (List.mem_of_getElem? (i := 224) rfl)) rfl
  · exact tg_in (tb_1 _ (List.mem_of_getElem? (i := 226) rfl)) rfl
theorem inAX5 : ∀ w ∈ wsX50, w ∈ tg_ALL := by
  intro w h
  obtain ⟨k, hk, rfl⟩ := List.mem_map.mp h
  have hk2 : k < 2 := List.mem_range.mp hk
  clear h hk
  rcases (show k = 0 ∨ k = 1 by omega) with rfl | rfl
  · exact tg_in (tb_1 _ (List.mem_of_getElem? (i := 38) rfl)) rfl
  · exact tg_in (tb_1 _ (List.mem_of_getElem? (i := 40) rfl)) rfl
theorem inAX6 : ∀ w ∈ wsX60, w ∈ tg_ALL := by
  intro w h
  obtain ⟨k, hk, rfl⟩ := List.mem_map.mp h
  have hk2 : k < 4 := List.mem_range.mp hk
  clear h hk
  rcases (show k = 0 ∨ k = 1 ∨ k = 2 ∨ k = 3 by omega) with rfl | rfl | rfl | rfl
  · exact tg_in (tb_1 _ (List.mem_of_getElem? (i := 198) rfl)) rfl
  · exact tg_in (tb_1 _ (List.mem_of_getElem? (i := 200) rfl)) rfl
  · exact tg_in (tb_1 _ (List.mem_of_getElem? (i := 202) rfl)) rfl
  · exact tg_in (tb_1 _ (List.mem_of_getElem? (i := 204) rfl)) rfl
theorem inAX7 : ∀ w ∈ wsX70, w ∈ tg_ALL := by
  intro w h
  obtain ⟨k, hk, rfl⟩ := List.mem_map.mp h
  have hk2 : k < 8 := List.mem_range.mp hk
  clear h hk
  rcases (show k = 0 ∨ k = 1 ∨ k = 2 ∨ k = 3 ∨ k = 4 ∨ k = 5 ∨ k = 6 ∨ k = 7 by omega) with rfl | rfl | rfl | rfl | rfl | rfl | rfl | rfl
  · exact tg_in (tb_1 _ (List.mem_of_getElem? (i := 237) rfl)) rfl
  · exact tg_in (tb_1 _ (List.mem_of_getElem? (i := 239) rfl)) rfl
  · exact tg_in (tb_2 _ (List.mem_of_getElem? (i := 1) rfl)) rfl
  · exact tg_in (tb_2 _ (List.mem_of_getElem? (i := 3) rfl)) rfl
  · exact tg_in (tb_2 _ (List.mem_of_getElem? (i := 5) rfl)) rfl
  · exact tg_in (tb_2 _ (List.mem_of_getElem? (i := 7) rfl)) rfl
  · exact tg_in (tb_2 _ (List.mem_of_getElem? (i := 9) rfl)) rfl
  · exact tg_in (tb_2 _ (List.mem_of_getElem? (i := 11) rfl)) rfl
theorem inAX8 : ∀ w ∈ wsX80, w ∈ tg_ALL := by
  intro w h
  obtain ⟨k, hk, rfl⟩ := List.mem_map.mp h
  have hk2 : k < 29 := List.mem_range.mp hk
  clear h hk
  rcases (show k = 0 ∨ k = 1 ∨ k = 2 ∨ k = 3 ∨ k = 4 ∨ k = 5 ∨ k = 6 ∨ k = 7 ∨ k = 8 ∨ k = 9 ∨ k = 10 ∨ k = 11 ∨ k = 12 ∨ k = 13 ∨ k = 14 ∨ k = 15 ∨ k = 16 ∨ k = 17 ∨ k = 18 ∨ k = 19 ∨ k = 20 ∨ k = 21 ∨ k = 22 ∨ k = 23 ∨ k = 24 ∨ k = 25 ∨ k = 26 ∨ k = 27 ∨ k = 28 by omega) with rfl | rfl | rfl | rfl | rfl | rfl | rfl | rfl | rfl | rfl | rfl | rfl | rfl | rfl | rfl | rfl | rfl | rfl | rfl | rfl | rfl | rfl | rfl | rfl | rfl | rfl | rfl | rfl | rfl
  · exact tg_in (tb_3 _ (List.mem_of_getElem? (i := 206) rfl)) rfl
  · exact tg_in (tb_3 _ (List.mem_of_getElem? (i := 208) rfl)) rfl
  · exact tg_in (tb_3 _ (List.mem_of_getElem? (i := 210) rfl)) rfl
  · exact tg_in (tb_3 _ (List.mem_of_getElem? (i := 212) rfl)) rfl
  · exact tg_in (tb_3 _ (List.mem_of_getElem? (i := 214) rfl)) rfl
  · exact tg_in (tb_3 _ (List.mem_of_getElem? (i := 216) rfl)) rfl
  · exact tg_in (tb_3 _ (List.mem_of_getElem? (i := 218) rfl)) rfl
  · exact tg_in (tb_3 _ (List.mem_of_getElem? (i := 220) rfl)) rfl
  · exact tg_in (tb_3 _ (List.mem_of_getElem? (i := 222) rfl)) rfl
  · exact tg_in (tb_3 _ (List.mem_of_getElem? (i := 224) rfl)) rfl
  · exact tg_in (tb_3 _ (List.mem_of_getElem? (i := 226) rfl)) rfl
  · exact tg_in (tb_3 _ (List.mem_of_getElem? (i := 228) rfl)) rfl
  · exact tg_in (tb_3 _ (List.mem_of_getElem? (i := 230) rfl)) rfl
  · exact tg_in (tb_3 _ (List.mem_of_getElem? (i := 232) rfl)) rfl
  · exact tg_in (tb_3 _ (List.mem_of_getElem? (i := 234) rfl)) rfl
  · exact tg_in (tb_3 _ (List.mem_of_getElem? (i := 236) rfl)) rfl
  · exact tg_in (tb_3 _ (List.mem_of_getElem? (i := 238) rfl)) rfl
  · exact tg_in (tb_4 _ (List.mem_of_getElem? (i := 0) rfl)) rfl
  · exact tg_in (tb_4 _ (List.mem_of_getElem? (i := 2) rfl)) rfl
  · exact tg_in (tb_4 _ (List.mem_of_getElem? (i := 4) rfl)) rfl
  · exact tg_in (tb_4 _ (List.mem_of_getElem? (i := 6) rfl)) rfl
  · exact tg_in (tb_4 _ (List.mem_of_getElem? (i := 8) rfl)) rfl
  · exact tg_in (tb_4 _ (List.mem_of_getElem? (i := 10) rfl)) rfl
  · exact tg_in (tb_4 _ (List.mem_of_getElem? (i := 12) rfl)) rfl
  · exact tg_in (tb_4 _ (List.mem_of_getElem? (i := 14) rfl)) rfl
  · exact tg_in (tb_4 _ (List.mem_of_getElem? (i := 16) rfl)) rfl
  · exact tg_in (tb_4 _ (List.mem_of_getElem? (i := 18) rfl)) rfl
  · exact tg_in (tb_4 _ (List.mem_of_getElem? (i := 20) rfl)) rfl
  · exact tg_in (tb_4 _ (List.mem_of_getElem? (i := 22) rfl)) rfl
end
section
/-! ===== the layer: memory as numbers, values as numbers, and one judgement 'tg_AW' that carries a pure program ===== -/
abbrev tg_Mem : Type := Nat → Nat → Int
abbrev tg_R : Type := Option (Int × tg_Mem)
abbrev tg_V : Type := Int ⊕ (Int ⊕ (Nat ⊕ Unit))
abbrev ti_ (a : Int) : tg_V := Sum.inl a
abbrev tl_ (a : Int) : tg_V := Sum.inr (Sum.inl a)
abbrev tr_ (k : Nat) : tg_V := Sum.inr (Sum.inr (Sum.inl k))
abbrev tj_ : tg_V := Sum.inr (Sum.inr (Sum.inr ()))
def tg_I (a : Int) : Int32 := Int32.ofInt a
def tg_J (a : Int) : Int64 := Int64.ofInt a
def tg_inR (a : Int) : Prop := -2147483648 ≤ a ∧ a ≤ 2147483647
def tg_inL (a : Int) : Prop := -9223372036854775808 ≤ a ∧ a ≤ 9223372036854775807
def tg_wi (a : Int) : Int := (Int32.ofInt a).toInt
def tg_wl (a : Int) : Int := (Int64.ofInt a).toInt
theorem tg_wi_in (a : Int) : tg_inR (tg_wi a) := ⟨Int32.le_toInt _, by have := Int32.toInt_lt (Int32.ofInt a); unfold tg_wi; omega⟩
theorem tg_wl_in (a : Int) : tg_inL (tg_wl a) := ⟨Int64.le_toInt _, by have := Int64.toInt_lt (Int64.ofInt a); unfold tg_wl; omega⟩
theorem tg_I_wi (a : Int) : tg_I (tg_wi a) = tg_I a := Int32.ofInt_toInt _
theorem tg_J_wl (a : Int) : tg_J (tg_wl a) = tg_J a := Int64.ofInt_toInt _
theorem tg_wi_eq {a : Int} (h : tg_inR a) : tg_wi a = a := Int32.toInt_ofInt_of_le (by have := h.1; omega) (by have := h.2; omega)
theorem tg_wl_eq {a : Int} (h : tg_inL a) : tg_wl a = a := Int64.toInt_ofInt_of_le (by have := h.1; omega) (by have := h.2; omega)
theorem tg_It {a : Int} (h : tg_inR a) : (tg_I a).toInt = a := tg_wi_eq h
theorem tg_Jt {a : Int} (h : tg_inL a) : (tg_J a).toInt = a := tg_wl_eq h
theorem tg_It0 (a : Int) : (tg_I a).toInt = tg_wi a := rfl
theorem tg_Jt0 (a : Int) : (tg_J a).toInt = tg_wl a := rfl
theorem tg_I_toInt (x : Int32) : tg_I x.toInt = x := Int32.ofInt_toInt x
theorem tg_J_toInt (x : Int64) : tg_J x.toInt = x := Int64.ofInt_toInt x
theorem tg_i32_in (x : Int32) : tg_inR x.toInt := ⟨Int32.le_toInt _, by have := Int32.toInt_lt x; omega⟩
theorem tg_i64_in (x : Int64) : tg_inL x.toInt := ⟨Int64.le_toInt _, by have := Int64.toInt_lt x; omega⟩
theorem tg_I_lt {a b : Int} (ha : tg_inR a) (hb : tg_inR b) : tg_I a < tg_I b ↔ a < b := by rw [Int32.lt_iff_toInt_lt, tg_It ha, tg_It hb]
theorem tg_I_le {a b : Int} (ha : tg_inR a) (hb : tg_inR b) : tg_I a ≤ tg_I b ↔ a ≤ b := by rw [Int32.le_iff_toInt_le, tg_It ha, tg_It hb]
theorem tg_I_eq {a b : Int} (ha : tg_inR a) (hb : tg_inR b) : tg_I a = tg_I b ↔ a = b := by rw [← Int32.toInt_inj, tg_It ha, tg_It hb]
theorem tg_J_lt {a b : Int} (ha : tg_inL a) (hb : tg_inL b) : tg_J a < tg_J b ↔ a < b := by rw [Int64.lt_iff_toInt_lt, tg_Jt ha, tg_Jt hb]
theorem tg_J_le {a b : Int} (ha : tg_inL a) (hb : tg_inL b) : tg_J a ≤ tg_J b ↔ a ≤ b := by rw [Int64.le_iff_toInt_le, tg_Jt ha, tg_Jt hb]
theorem tg_J_eq {a b : Int} (ha : tg_inL a) (hb : tg_inL b) : tg_J a = tg_J b ↔ a = b := by rw [← Int64.toInt_inj, tg_Jt ha, tg_Jt hb]
theorem tg_R0 : tg_inR 0 := ⟨by decide, by decide⟩
-- pure operations of the machine on numbers
def tg_idiv (a b : Int) : Int := (tg_I a / tg_I b).toInt
def tg_irem (a b : Int) : Int := (tg_I a - tg_I a / tg_I b * tg_I b).toInt
def tg_iand (a b : Int) : Int := (tg_I a &&& tg_I b).toInt
def tg_ior (a b : Int) : Int := (tg_I a ||| tg_I b).toInt
def tg_ishl (a b : Int) : Int := (tg_I a <<< (tg_I b &&& 31)).toInt
def tg_ishr (a b : Int) : Int := (tg_I a >>> (tg_I b &&& 31)).toInt
def tg_i2b (a : Int) : Int := ((tg_I a).toInt8.toInt32).toInt
def tg_i2s (a : Int) : Int := ((tg_I a).toInt16.toInt32).toInt
def tg_land (a b : Int) : Int := (tg_J a &&& tg_J b).toInt
def tg_lor (a b : Int) : Int := (tg_J a ||| tg_J b).toInt
def tg_lshl (a b : Int) : Int := (tg_J a <<< ((tg_I b).toInt64 &&& 63)).toInt
def tg_lshr (a b : Int) : Int := (tg_J a >>> ((tg_I b).toInt64 &&& 63)).toInt
def tg_lushr (a b : Int) : Int := (((tg_J a).toUInt64 >>> ((tg_I b).toInt64.toUInt64 &&& Int64.toUInt64 63)).toInt64).toInt
def tg_l2i (a : Int) : Int := tg_wi a
-- pure program combinators
def tg_bd (x : tg_R) (g : Int → tg_Mem → tg_R) : tg_R := match x with
  | some (a, μ) => g a μ
  | none => none
def tg_ck (c : Prop) [Decidable c] (x : tg_R) : tg_R := if c then x else none
def tg_lt {β : Type} (e : β) (k : β → tg_R) : tg_R := k e
def tg_jn {γ : Type} (J : γ) (k : γ → tg_R) : tg_R := k J
def tg_lp {β : Type} (F : (β → tg_R) → β → tg_R) : Nat → β → tg_R
  | 0, _ => none
  | n + 1, b => F (tg_lp F n) b
theorem tg_bd_some {a : Int} {μ : tg_Mem} {g : Int → tg_Mem → tg_R} : tg_bd (some (a, μ)) g = g a μ := rfl
theorem tg_bd_of {x : tg_R} {g : Int → tg_Mem → tg_R} {q : Int × tg_Mem} (h : tg_bd x g = some q) : ∃ a μ, x = some (a, μ) ∧ g a μ = some q := by
  match x, h with
  | some (a, μ), h => exact ⟨a, μ, rfl, h⟩
  | none, h => cases h
theorem tg_ck_of {c : Prop} [Decidable c] {x : tg_R} {q : Int × tg_Mem} (h : tg_ck c x = some q) : c ∧ x = some q := by
  unfold tg_ck at h
  by_cases hc : c
  · rw [if_pos hc] at h; exact ⟨hc, h⟩
  · rw [if_neg hc] at h; cases h
theorem tg_ck_pos {c : Prop} [Decidable c] {x : tg_R} (h : c) : tg_ck c x = x := if_pos h
theorem tg_lp_succ {β : Type} (F : (β → tg_R) → β → tg_R) (n : Nat) (b : β) : tg_lp F (n + 1) b = F (tg_lp F n) b := rfl
-- memory
def tg_up (μ : tg_Mem) (k j : Nat) (v : Int) : tg_Mem := fun k' j' => if k' = k ∧ j' = j then v else μ k' j'
theorem tg_up_same (μ : tg_Mem) (k j : Nat) (v : Int) : tg_up μ k j v k j = v := if_pos ⟨rfl, rfl⟩
theorem tg_up_k {μ : tg_Mem} {k j k' : Nat} {v : Int} (h : k' ≠ k) : tg_up μ k j v k' = μ k' := funext fun j' => if_neg fun q => h q.1
theorem tg_up_j {μ : tg_Mem} {k j k' j' : Nat} {v : Int} (h : j' ≠ j) : tg_up μ k j v k' j' = μ k' j' := if_neg fun q => h q.2
theorem tg_up_row (μ : tg_Mem) (k j : Nat) (v : Int) : tg_up μ k j v k = fun j' => if j' = j then v else μ k j' := funext fun j' => by
  unfold tg_up
  by_cases h : j' = j <;> simp [h]
-- shapes: an array (kind 0 ints, 1 longs, 2 references; length; what references), or an object (class, its fields: a number, or a fixed reference)
abbrev tg_Sh : Type := (Nat × Nat × List Nat) ⊕ (Nat × List (Option Nat))
abbrev tg_G : Type := ClassId × ClassId × ClassId
def tg_cv (ad : Nat → Nat) : tg_V → Value
  | .inl a => .int (tg_I a)
  | .inr (.inl a) => .long (tg_J a)
  | .inr (.inr (.inl k)) => .ref (ad k)
  | .inr (.inr (.inr _)) => .null
def tg_vok : tg_V → Prop
  | .inl a => tg_inR a
  | .inr (.inl a) => tg_inL a
  | _ => True
def tg_fv (ad : Nat → Nat) (row : Nat → Int) (j : Nat) (f : Option Nat) : Value := match f with
  | none => .int (tg_I (row j))
  | some r => .ref (ad r)
def tg_ce (G : tg_G) (ad : Nat → Nat) (row : Nat → Int) : tg_Sh → va_E
  | .inl (0, n, _) => .inl (G.1, n, .inl (fun j => tg_I (row j)))
  | .inl (1, n, _) => .inl (G.2.1, n, .inr (.inl (fun j => tg_J (row j))))
  | .inl (_ + 2, n, rs) => .inl (G.2.2, n, .inr (.inr (.inr (.inr (fun j => (rs[j]?).map ad)))))
  | .inr (ci, fs) => .inr (ci, fs.mapIdx (tg_fv ad row))
def tg_W (G : tg_G) (ad : Nat → Nat) (L : List tg_Sh) (μ : tg_Mem) : va_W := L.mapIdx (fun k s => (ad k, tg_ce G ad (μ k) s))
theorem tg_W_at {G : tg_G} {ad : Nat → Nat} {L : List tg_Sh} {μ : tg_Mem} {k : Nat} {s : tg_Sh} (h : L[k]? = some s) : (tg_W G ad L μ)[k]? = some (ad k, tg_ce G ad (μ k) s) := by
  unfold tg_W
  rw [List.getElem?_mapIdx, h]; rfl
theorem tg_W_set {G : tg_G} {ad : Nat → Nat} {L : List tg_Sh} {μ : tg_Mem} {k j : Nat} {v : Int} {s : tg_Sh} (h : L[k]? = some s) :
    (tg_W G ad L μ).set k (ad k, tg_ce G ad (tg_up μ k j v k) s) = tg_W G ad L (tg_up μ k j v) := by
  apply List.ext_getElem?
  intro i
  unfold tg_W
  rw [List.getElem?_set, List.length_mapIdx, List.getElem?_mapIdx, List.getElem?_mapIdx]
  by_cases hi : k = i
  · subst hi
    have hk : k < L.length := (List.getElem?_eq_some_iff.mp h).1
    rw [if_pos rfl, if_pos hk, h]; rfl
  · rw [if_neg hi, tg_up_k (fun q => hi q.symm)]
def tg_isl (L : List tg_Sh) (k : Nat) : Bool := match L[k]? with
  | some (.inl (1, _, _)) => true
  | _ => false
def tg_mok (L : List tg_Sh) (μ : tg_Mem) : Prop := ∀ k j, tg_inL (μ k j) ∧ (tg_isl L k = false → tg_inR (μ k j))
theorem tg_inL_of {a : Int} (h : tg_inR a) : tg_inL a := ⟨by have := h.1; omega, by have := h.2; omega⟩
theorem tg_mok_up {L : List tg_Sh} {μ : tg_Mem} (h : tg_mok L μ) {k j : Nat} {v : Int} (hv : tg_inR v) : tg_mok L (tg_up μ k j v) := by
  intro k' j'
  unfold tg_up
  by_cases hc : k' = k ∧ j' = j
  · rw [if_pos hc]; exact ⟨tg_inL_of hv, fun _ => hv⟩
  · rw [if_neg hc]; exact h k' j'
theorem tg_mok_upL {L : List tg_Sh} {μ : tg_Mem} (h : tg_mok L μ) {k j : Nat} {v : Int} (hl : tg_isl L k = true) (hv : tg_inL v) : tg_mok L (tg_up μ k j v) := by
  intro k' j'
  unfold tg_up
  by_cases hc : k' = k ∧ j' = j
  · rw [if_pos hc]; exact ⟨hv, fun q => by rw [hc.1, hl] at q; cases q⟩
  · rw [if_neg hc]; exact h k' j'
def tg_tys (G : tg_G) : List (ClassId × FieldType) := [(G.1, .int), (G.2.1, .long), (G.2.2, .object "TwoGoats$Sheet")]
-- locals: known ones at their places (tj_: nothing said)
def tg_lc (ad : Nat → Nat) (ls : Array Slot) (lv : List tg_V) : Prop := ls.size = lv.length ∧ lv_wf ls ∧ ∀ (i : Nat) (v : tg_V), lv[i]? = some v → v ≠ tj_ → ls[i]? = some (.val (tg_cv ad v))
abbrev tg_E : Type := Program × Launch × Env × Room × State × MethodId × Array Value × List Frame × Method × Code × va_G × tg_G × (Nat → Nat) × (Nat → Prop)
def tg_rv (ad : Nat → Nat) (kd : Option FieldType) (r : Int) : Option Value := match kd with
  | none => none
  | some .long => some (.long (tg_J r))
  | some (.object _) => some (.ref (ad r.toNat))
  | some _ => some (.int (tg_I r))
def tg_rok (kd : Option FieldType) (r : Int) : Prop := match kd with
  | none => True
  | some .long => tg_inL r
  | some (.object _) => True
  | some .boolean => r = 0 ∨ r = 1
  | some _ => tg_inR r
def tg_nests : List (String × Nat × MethodName × String) := [(RX0, 65, yX7_codeOfByte, RX7), (RX0, 98, yX7_isBelow, RX7), (RX1, 50, yX7_isBelow, RX7), (RX2, 87, yX7_isBelow, RX7), (RX3, 85, yX7_isBelow, RX7), (RX4, 28, yX7_isBelow, RX7), (RX5, 19, yX7_isBelow, RX7), (RX6, 75, yX7_isBelow, RX7)]
def tg_nest (U : State) : Prop := ∀ q ∈ tg_nests, va_Nw (.methodLinkNest q.1 q.2.1 q.2.2.1 q.2.2.2) U
def tg_B (D : va_G) (G : tg_G) (ad : Nat → Nat) (L : List tg_Sh) (μ : tg_Mem) (t : State) : Prop := va_P D vwCl (tg_W G ad L μ) t.heap ∧ va_K D vwCl (tg_tys G) t ∧ tg_nest t
def tg_Q (ret : Option Value) (P0 : Prop) (B : State → Prop) (A : Nat → Prop) : Array Value → State → Outcome → State → Prop := fun _ st oc t => oc = .returned ret ∧ P0 ∧ B t ∧ va_F A st t
def tg_AW (E : tg_E) (L : List tg_Sh) (kd : Option FieldType) (X : tg_R) (pc : Nat) (lv st : List tg_V) (μ : tg_Mem) : Prop :=
  match E with
  | (p, l, e, R, s, m, args, below, meth, c, D, G, ad, A) =>
    tg_mok L μ → (∀ v ∈ lv, tg_vok v) → (∀ v ∈ st, tg_vok v) → ∀ (r : Int) (μ' : tg_Mem), X = some (r, μ') →
      ∀ (H : Heap) (locs : List Loc) (ls : Array Slot), va_P D vwCl (tg_W G ad L μ) H → va_S A s.heap H locs → tg_lc ad ls lv →
        W p l e R s m args below meth c H locs 0 0 (MQ below (tg_Q (tg_rv ad kd r) (tg_rok kd r ∧ tg_mok L μ') (tg_B D G ad L μ') A) args s 0 0 A) (F0 m pc ls (st.map (tg_cv ad)))
def tg_rm (d : Nat) : Room := { frames := d, cells := 0, slots := 0, locals := 40 * d }
def tg_Am (E : tg_E) (L : List tg_Sh) (kd : Option FieldType) (own : String) (cc : ByteArray) (nL d : Nat) : Prop := match E with
  | (p, l, e, R, s, m, args, below, meth, c, D, G, ad, A) =>
    p.tables.exec = Jvm.exec ∧ c.code = cc ∧ c.maxLocals = nL ∧ s.vm.findClass own = some m.cls ∧ (∀ w ∈ tg_ALL, w.before args s = true) ∧ va_K D vwCl (tg_tys G) s ∧ (∀ μ, va_D A (tg_W G ad L μ)) ∧ (∀ q : Nat, s.heap.size ≤ q → A q) ∧ meth.locks = false ∧ meth.sig.returnType = kd ∧ R = tg_rm d ∧ tg_nest s
def tg_C (y : MethodName) (cc : ByteArray) (n : Nat) (kd : Option FieldType) (d : Nat) (L : List tg_Sh) (tas : List tg_V) (X : tg_R) (μ : tg_Mem) : Prop :=
  tg_mok L μ → (∀ v ∈ tas, tg_vok v) → ∀ (r : Int) (μ' : tg_Mem), X = some (r, μ') → ∀ (l : Launch) (D : va_G) (G : tg_G) (ad : Nat → Nat) (sz : Nat),
    Met l y (.code y cc n kd :: tg_ALL) (tg_rm d) (va_Pc (tas.map (tg_cv ad)) (fun U => U.heap.size = sz ∧ tg_B D G ad L μ U ∧ va_D (fun _ => True) (tg_W G ad L μ)))
      (tg_Q (tg_rv ad kd r) (tg_rok kd r ∧ tg_mok L μ') (tg_B D G ad L μ') (va_A (tg_W G ad L μ) sz)) 0 0 (va_A (tg_W G ad L μ) sz)
end
section
section TGR
variable {E : tg_E} {L : List tg_Sh} {kd : Option FieldType} {X : tg_R} {own : String} {cc : ByteArray} {nL d pc : Nat} {lv st : List tg_V} {μ : tg_Mem}
theorem tg_go {pc2 : Nat} {lv2 st2 : List tg_V} (K : tg_AW E L kd X pc2 lv2 st2 μ) (hok : (∀ v ∈ lv, tg_vok v) → (∀ v ∈ st, tg_vok v) → (∀ v ∈ lv2, tg_vok v) ∧ (∀ v ∈ st2, tg_vok v))
    (hW : ∀ (p : Program) (l : Launch) (e : Env) (R : Room) (s : State) (m : MethodId) (args : Array Value) (below : List Frame) (meth : Method) (c : Code) (D : va_G) (G : tg_G) (ad : Nat → Nat) (A : Nat → Prop), E = (p, l, e, R, s, m, args, below, meth, c, D, G, ad, A) →
      ∀ (H : Heap) (locs : List Loc) (ls : Array Slot) (Q : State → Prop), tg_lc ad ls lv → (∀ v ∈ lv, tg_vok v) → (∀ v ∈ st, tg_vok v) → (∀ ls2, tg_lc ad ls2 lv2 → W p l e R s m args below meth c H locs 0 0 Q (F0 m pc2 ls2 (st2.map (tg_cv ad)))) → W p l e R s m args below meth c H locs 0 0 Q (F0 m pc ls (st.map (tg_cv ad)))) : tg_AW E L kd X pc lv st μ := by
  obtain ⟨p, l, e, R, s, m, args, below, meth, c, D, G, ad, A⟩ := E
  intro hm hl hs r μ' hX
  obtain ⟨h1, h2⟩ := hok hl hs
  exact fun H locs ls hP hS hlc => hW _ _ _ _ _ _ _ _ _ _ _ _ _ _ rfl H locs ls _ hlc hl hs (fun ls2 hl2 => K hm h1 h2 r μ' hX H locs ls2 hP hS hl2)
theorem ta_iadd {a b : Int} (hE : tg_Am E L kd own cc nL d) (hd : decode cc pc = .ok (.iadd, 1)) (K : tg_AW E L kd X (pc + 1) lv (ti_ (tg_wi (a + b)) :: st) μ) : tg_AW E L kd X pc lv (ti_ b :: ti_ a :: st) μ := by
  refine tg_go K (fun hl hs => ⟨hl, List.forall_mem_cons.mpr ⟨?_, (List.forall_mem_cons.mp (List.forall_mem_cons.mp hs).2).2⟩⟩) (fun p l e R s m args below meth c D G ad A hEe H locs ls Q hlc hlk hsk kk => ?_)
  · exact tg_i32_in _
  subst hEe
  obtain ⟨hx, hb, hml, hown, hts, hK, hD, hA, hlk0, hret, hR, hN⟩ := hE
  have e9 : tg_I (tg_wi (a + b)) = tg_I a + tg_I b := by
    first | (rw [tg_I_wi]; first | exact Int32.ofInt_add a b | exact Int32.ofInt_sub a b | exact Int32.ofInt_mul a b | exact Int64.ofInt_add a b | exact Int64.ofInt_sub a b | exact Int64.ofInt_mul a b) | exact tg_I_toInt _ | exact tg_J_toInt _
  exact lv_iadd hx hb hd (by rw [← e9]; exact kk ls hlc)
theorem ta_isub {a b : Int} (hE : tg_Am E L kd own cc nL d) (hd : decode cc pc = .ok (.isub, 1)) (K : tg_AW E L kd X (pc + 1) lv (ti_ (tg_wi (a - b)) :: st) μ) : tg_AW E L kd X pc lv (ti_ b :: ti_ a :: st) μ := by
  refine tg_go K (fun hl hs => ⟨hl, List.forall_mem_cons.mpr ⟨?_, (List.forall_mem_cons.mp (List.forall_mem_cons.mp hs).2).2⟩⟩) (fun p l e R s m args below meth c D G ad A hEe H locs ls Q hlc hlk hsk kk => ?_)
  · exact tg_i32_in _
  subst hEe
  obtain ⟨hx, hb, hml, hown, hts, hK, hD, hA, hlk0, hret, hR, hN⟩ := hE
  have e9 : tg_I (tg_wi (a - b)) = tg_I a - tg_I b := by
    first | (rw [tg_I_wi]; first | exact Int32.ofInt_add a b | exact Int32.ofInt_sub a b | exact Int32.ofInt_mul a b | exact Int64.ofInt_add a b | exact Int64.ofInt_sub a b | exact Int64.ofInt_mul a b) | exact tg_I_toInt _ | exact tg_J_toInt _
  exact lv_isub hx hb hd (by rw [← e9]; exact kk ls hlc)
theorem ta_imul {a b : Int} (hE : tg_Am E L kd own cc nL d) (hd : decode cc pc = .ok (.imul, 1)) (K : tg_AW E L kd X (pc + 1) lv (ti_ (tg_wi (a * b)) :: st) μ) : tg_AW E L kd X pc lv (ti_ b :: ti_ a :: st) μ := by
  refine tg_go K (fun hl hs => ⟨hl, List.forall_mem_cons.mpr ⟨?_, (List.forall_mem_cons.mp (List.forall_mem_cons.mp hs).2).2⟩⟩) (fun p l e R s m args below meth c D G ad A hEe H locs ls Q hlc hlk hsk kk => ?_)
  · exact tg_i32_in _
  subst hEe
  obtain ⟨hx, hb, hml, hown, hts, hK, hD, hA, hlk0, hret, hR, hN⟩ := hE
  have e9 : tg_I (tg_wi (a * b)) = tg_I a * tg_I b := by
    first | (rw [tg_I_wi]; first | exact Int32.ofInt_add a b | exact Int32.ofInt_sub a b | exact Int32.ofInt_mul a b | exact Int64.ofInt_add a b | exact Int64.ofInt_sub a b | exact Int64.ofInt_mul a b) | exact tg_I_toInt _ | exact tg_J_toInt _
  exact lv_imul hx hb hd (by rw [← e9]; exact kk ls hlc)
theorem ta_idiv {a b : Int} (hE : tg_Am E L kd own cc nL d) (hd : decode cc pc = .ok (.idiv, 1)) (hb0 : tg_I b ≠ 0) (K : tg_AW E L kd X (pc + 1) lv (ti_ (tg_idiv a b) :: st) μ) : tg_AW E L kd X pc lv (ti_ b :: ti_ a :: st) μ := by
  refine tg_go K (fun hl hs => ⟨hl, List.forall_mem_cons.mpr ⟨?_, (List.forall_mem_cons.mp (List.forall_mem_cons.mp hs).2).2⟩⟩) (fun p l e R s m args below meth c D G ad A hEe H locs ls Q hlc hlk hsk kk => ?_)
  · exact tg_i32_in _
  subst hEe
  obtain ⟨hx, hb, hml, hown, hts, hK, hD, hA, hlk0, hret, hR, hN⟩ := hE
  have e9 : tg_I (tg_idiv a b) = tg_I a / tg_I b := by
    first | (rw [tg_I_wi]; first | exact Int32.ofInt_add a b | exact Int32.ofInt_sub a b | exact Int32.ofInt_mul a b | exact Int64.ofInt_add a b | exact Int64.ofInt_sub a b | exact Int64.ofInt_mul a b) | exact tg_I_toInt _ | exact tg_J_toInt _
  exact lv_idiv hx hb hd hb0 (by rw [← e9]; exact kk ls hlc)
theorem ta_irem {a b : Int} (hE : tg_Am E L kd own cc nL d) (hd : decode cc pc = .ok (.irem, 1)) (hb0 : tg_I b ≠ 0) (K : tg_AW E L kd X (pc + 1) lv (ti_ (tg_irem a b) :: st) μ) : tg_AW E L kd X pc lv (ti_ b :: ti_ a :: st) μ := by
  refine tg_go K (fun hl hs => ⟨hl, List.forall_mem_cons.mpr ⟨?_, (List.forall_mem_cons.mp (List.forall_mem_cons.mp hs).2).2⟩⟩) (fun p l e R s m args below meth c D G ad A hEe H locs ls Q hlc hlk hsk kk => ?_)
  · exact tg_i32_in _
  subst hEe
  obtain ⟨hx, hb, hml, hown, hts, hK, hD, hA, hlk0, hret, hR, hN⟩ := hE
  have e9 : tg_I (tg_irem a b) = tg_I a - tg_I a / tg_I b * tg_I b := by
    first | (rw [tg_I_wi]; first | exact Int32.ofInt_add a b | exact Int32.ofInt_sub a b | exact Int32.ofInt_mul a b | exact Int64.ofInt_add a b | exact Int64.ofInt_sub a b | exact Int64.ofInt_mul a b) | exact tg_I_toInt _ | exact tg_J_toInt _
  exact lv_irem hx hb hd hb0 (by rw [← e9]; exact kk ls hlc)
theorem ta_iand {a b : Int} (hE : tg_Am E L kd own cc nL d) (hd : decode cc pc = .ok (.iand, 1)) (K : tg_AW E L kd X (pc + 1) lv (ti_ (tg_iand a b) :: st) μ) : tg_AW E L kd X pc lv (ti_ b :: ti_ a :: st) μ := by
  refine tg_go K (fun hl hs => ⟨hl, List.forall_mem_cons.mpr ⟨?_, (List.forall_mem_cons.mp (List.forall_mem_cons.mp hs).2).2⟩⟩) (fun p l e R s m args below meth c D G ad A hEe H locs ls Q hlc hlk hsk kk => ?_)
  · exact tg_i32_in _
  subst hEe
  obtain ⟨hx, hb, hml, hown, hts, hK, hD, hA, hlk0, hret, hR, hN⟩ := hE
  have e9 : tg_I (tg_iand a b) = tg_I a &&& tg_I b := by
    first | (rw [tg_I_wi]; first | exact Int32.ofInt_add a b | exact Int32.ofInt_sub a b | exact Int32.ofInt_mul a b | exact Int64.ofInt_add a b | exact Int64.ofInt_sub a b | exact Int64.ofInt_mul a b) | exact tg_I_toInt _ | exact tg_J_toInt _
  exact lv_iand hx hb hd (by rw [← e9]; exact kk ls hlc)
theorem ta_ior {a b : Int} (hE : tg_Am E L kd own cc nL d) (hd : decode cc pc = .ok (.ior, 1)) (K : tg_AW E L kd X (pc + 1) lv (ti_ (tg_ior a b) :: st) μ) : tg_AW E L kd X pc lv (ti_ b :: ti_ a :: st) μ := by
  refine tg_go K (fun hl hs => ⟨hl, List.forall_mem_cons.mpr ⟨?_, (List.forall_mem_cons.mp (List.forall_mem_cons.mp hs).2).2⟩⟩) (fun p l e R s m args below meth c D G ad A hEe H locs ls Q hlc hlk hsk kk => ?_)
  · exact tg_i32_in _
  subst hEe
  obtain ⟨hx, hb, hml, hown, hts, hK, hD, hA, hlk0, hret, hR, hN⟩ := hE
  have e9 : tg_I (tg_ior a b) = tg_I a ||| tg_I b := by
    first | (rw [tg_I_wi]; first | exact Int32.ofInt_add a b | exact Int32.ofInt_sub a b | exact Int32.ofInt_mul a b | exact Int64.ofInt_add a b | exact Int64.ofInt_sub a b | exact Int64.ofInt_mul a b) | exact tg_I_toInt _ | exact tg_J_toInt _
  exact lv_ior hx hb hd (by rw [← e9]; exact kk ls hlc)
theorem ta_ishl {a b : Int} (hE : tg_Am E L kd own cc nL d) (hd : decode cc pc = .ok (.ishl, 1)) (K : tg_AW E L kd X (pc + 1) lv (ti_ (tg_ishl a b) :: st) μ) : tg_AW E L kd X pc lv (ti_ b :: ti_ a :: st) μ := by
  refine tg_go K (fun hl hs => ⟨hl, List.forall_mem_cons.mpr ⟨?_, (List.forall_mem_cons.mp (List.forall_mem_cons.mp hs).2).2⟩⟩) (fun p l e R s m args below meth c D G ad A hEe H locs ls Q hlc hlk hsk kk => ?_)
  · exact tg_i32_in _
  subst hEe
  obtain ⟨hx, hb, hml, hown, hts, hK, hD, hA, hlk0, hret, hR, hN⟩ := hE
  have e9 : tg_I (tg_ishl a b) = tg_I a <<< (tg_I b &&& 31) := by
    first | (rw [tg_I_wi]; first | exact Int32.ofInt_add a b | exact Int32.ofInt_sub a b | exact Int32.ofInt_mul a b | exact Int64.ofInt_add a b | exact Int64.ofInt_sub a b | exact Int64.ofInt_mul a b) | exact tg_I_toInt _ | exact tg_J_toInt _
  exact lv_ishl hx hb hd (by rw [← e9]; exact kk ls hlc)
theorem ta_ishr {a b : Int} (hE : tg_Am E L kd own cc nL d) (hd : decode cc pc = .ok (.ishr, 1)) (K : tg_AW E L kd X (pc + 1) lv (ti_ (tg_ishr a b) :: st) μ) : tg_AW E L kd X pc lv (ti_ b :: ti_ a :: st) μ := by
  refine tg_go K (fun hl hs => ⟨hl, List.forall_mem_cons.mpr ⟨?_, (List.forall_mem_cons.mp (List.forall_mem_cons.mp hs).2).2⟩⟩) (fun p l e R s m args below meth c D G ad A hEe H locs ls Q hlc hlk hsk kk => ?_)
  · exact tg_i32_in _
  subst hEe
  obtain ⟨hx, hb, hml, hown, hts, hK, hD, hA, hlk0, hret, hR, hN⟩ := hE
  have e9 : tg_I (tg_ishr a b) = tg_I a >>> (tg_I b &&& 31) := by
    first | (rw [tg_I_wi]; first | exact Int32.ofInt_add a b | exact Int32.ofInt_sub a b | exact Int32.ofInt_mul a b | exact Int64.ofInt_add a b | exact Int64.ofInt_sub a b | exact Int64.ofInt_mul a b) | exact tg_I_toInt _ | exact tg_J_toInt _
  exact lv_ishr hx hb hd (by rw [← e9]; exact kk ls hlc)
theorem ta_ladd {a b : Int} (hE : tg_Am E L kd own cc nL d) (hd : decode cc pc = .ok (.ladd, 1)) (K : tg_AW E L kd X (pc + 1) lv (tl_ (tg_wl (a + b)) :: st) μ) : tg_AW E L kd X pc lv (tl_ b :: tl_ a :: st) μ := by
  refine tg_go K (fun hl hs => ⟨hl, List.forall_mem_cons.mpr ⟨?_, (List.forall_mem_cons.mp (List.forall_mem_cons.mp hs).2).2⟩⟩) (fun p l e R s m args below meth c D G ad A hEe H locs ls Q hlc hlk hsk kk => ?_)
  · exact tg_i64_in _
  subst hEe
  obtain ⟨hx, hb, hml, hown, hts, hK, hD, hA, hlk0, hret, hR, hN⟩ := hE
  have e9 : tg_J (tg_wl (a + b)) = tg_J a + tg_J b := by
    first | (rw [tg_J_wl]; first | exact Int32.ofInt_add a b | exact Int32.ofInt_sub a b | exact Int32.ofInt_mul a b | exact Int64.ofInt_add a b | exact Int64.ofInt_sub a b | exact Int64.ofInt_mul a b) | exact tg_I_toInt _ | exact tg_J_toInt _
  exact lv_ladd hx hb hd (by rw [← e9]; exact kk ls hlc)
theorem ta_lsub {a b : Int} (hE : tg_Am E L kd own cc nL d) (hd : decode cc pc = .ok (.lsub, 1)) (K : tg_AW E L kd X (pc + 1) lv (tl_ (tg_wl (a - b)) :: st) μ) : tg_AW E L kd X pc lv (tl_ b :: tl_ a :: st) μ := by
  refine tg_go K (fun hl hs => ⟨hl, List.forall_mem_cons.mpr ⟨?_, (List.forall_mem_cons.mp (List.forall_mem_cons.mp hs).2).2⟩⟩) (fun p l e R s m args below meth c D G ad A hEe H locs ls Q hlc hlk hsk kk => ?_)
  · exact tg_i64_in _
  subst hEe
  obtain ⟨hx, hb, hml, hown, hts, hK, hD, hA, hlk0, hret, hR, hN⟩ := hE
  have e9 : tg_J (tg_wl (a - b)) = tg_J a - tg_J b := by
    first | (rw [tg_J_wl]; first | exact Int32.ofInt_add a b | exact Int32.ofInt_sub a b | exact Int32.ofInt_mul a b | exact Int64.ofInt_add a b | exact Int64.ofInt_sub a b | exact Int64.ofInt_mul a b) | exact tg_I_toInt _ | exact tg_J_toInt _
  exact lv_lsub hx hb hd (by rw [← e9]; exact kk ls hlc)
theorem ta_lmul {a b : Int} (hE : tg_Am E L kd own cc nL d) (hd : decode cc pc = .ok (.lmul, 1)) (K : tg_AW E L kd X (pc + 1) lv (tl_ (tg_wl (a * b)) :: st) μ) : tg_AW E L kd X pc lv (tl_ b :: tl_ a :: st) μ := by
  refine tg_go K (fun hl hs => ⟨hl, List.forall_mem_cons.mpr ⟨?_, (List.forall_mem_cons.mp (List.forall_mem_cons.mp hs).2).2⟩⟩) (fun p l e R s m args below meth c D G ad A hEe H locs ls Q hlc hlk hsk kk => ?_)
  · exact tg_i64_in _
  subst hEe
  obtain ⟨hx, hb, hml, hown, hts, hK, hD, hA, hlk0, hret, hR, hN⟩ := hE
  have e9 : tg_J (tg_wl (a * b)) = tg_J a * tg_J b := by
    first | (rw [tg_J_wl]; first | exact Int32.ofInt_add a b | exact Int32.ofInt_sub a b | exact Int32.ofInt_mul a b | exact Int64.ofInt_add a b | exact Int64.ofInt_sub a b | exact Int64.ofInt_mul a b) | exact tg_I_toInt _ | exact tg_J_toInt _
  exact lv_lmul hx hb hd (by rw [← e9]; exact kk ls hlc)
theorem ta_land {a b : Int} (hE : tg_Am E L kd own cc nL d) (hd : decode cc pc = .ok (.land, 1)) (K : tg_AW E L kd X (pc + 1) lv (tl_ (tg_land a b) :: st) μ) : tg_AW E L kd X pc lv (tl_ b :: tl_ a :: st) μ := by
  refine tg_go K (fun hl hs => ⟨hl, List.forall_mem_cons.mpr ⟨?_, (List.forall_mem_cons.mp (List.forall_mem_cons.mp hs).2).2⟩⟩) (fun p l e R s m args below meth c D G ad A hEe H locs ls Q hlc hlk hsk kk => ?_)
  · exact tg_i64_in _
  subst hEe
  obtain ⟨hx, hb, hml, hown, hts, hK, hD, hA, hlk0, hret, hR, hN⟩ := hE
  have e9 : tg_J (tg_land a b) = tg_J a &&& tg_J b := by
    first | (rw [tg_J_wl]; first | exact Int32.ofInt_add a b | exact Int32.ofInt_sub a b | exact Int32.ofInt_mul a b | exact Int64.ofInt_add a b | exact Int64.ofInt_sub a b | exact Int64.ofInt_mul a b) | exact tg_I_toInt _ | exact tg_J_toInt _
  exact lv_land hx hb hd (by rw [← e9]; exact kk ls hlc)
theorem ta_lor {a b : Int} (hE : tg_Am E L kd own cc nL d) (hd : decode cc pc = .ok (.lor, 1)) (K : tg_AW E L kd X (pc + 1) lv (tl_ (tg_lor a b) :: st) μ) : tg_AW E L kd X pc lv (tl_ b :: tl_ a :: st) μ := by
  refine tg_go K (fun hl hs => ⟨hl, List.forall_mem_cons.mpr ⟨?_, (List.forall_mem_cons.mp (List.forall_mem_cons.mp hs).2).2⟩⟩) (fun p l e R s m args below meth c D G ad A hEe H locs ls Q hlc hlk hsk kk => ?_)
  · exact tg_i64_in _
  subst hEe
  obtain ⟨hx, hb, hml, hown, hts, hK, hD, hA, hlk0, hret, hR, hN⟩ := hE
  have e9 : tg_J (tg_lor a b) = tg_J a ||| tg_J b := by
    first | (rw [tg_J_wl]; first | exact Int32.ofInt_add a b | exact Int32.ofInt_sub a b | exact Int32.ofInt_mul a b | exact Int64.ofInt_add a b | exact Int64.ofInt_sub a b | exact Int64.ofInt_mul a b) | exact tg_I_toInt _ | exact tg_J_toInt _
  exact lv_lor hx hb hd (by rw [← e9]; exact kk ls hlc)
theorem ta_lshl' {a b : Int} (hE : tg_Am E L kd own cc nL d) (hd : decode cc pc = .ok (.lshl, 1)) (K : tg_AW E L kd X (pc + 1) lv (tl_ (tg_lshl a b) :: st) μ) : tg_AW E L kd X pc lv (ti_ b :: tl_ a :: st) μ := by
  refine tg_go K (fun hl hs => ⟨hl, List.forall_mem_cons.mpr ⟨tg_i64_in _, (List.forall_mem_cons.mp (List.forall_mem_cons.mp hs).2).2⟩⟩) (fun p l e R s m args below meth c D G ad A hEe H locs ls Q hlc hlk hsk kk => ?_)
  subst hEe
  obtain ⟨hx, hb, hml, hown, hts, hK, hD, hA, hlk0, hret, hR, hN⟩ := hE
  exact lv_lshl hx hb hd (tg_J_toInt _).symm (kk ls hlc)
theorem ta_lshr' {a b : Int} (hE : tg_Am E L kd own cc nL d) (hd : decode cc pc = .ok (.lshr, 1)) (K : tg_AW E L kd X (pc + 1) lv (tl_ (tg_lshr a b) :: st) μ) : tg_AW E L kd X pc lv (ti_ b :: tl_ a :: st) μ := by
  refine tg_go K (fun hl hs => ⟨hl, List.forall_mem_cons.mpr ⟨tg_i64_in _, (List.forall_mem_cons.mp (List.forall_mem_cons.mp hs).2).2⟩⟩) (fun p l e R s m args below meth c D G ad A hEe H locs ls Q hlc hlk hsk kk => ?_)
  subst hEe
  obtain ⟨hx, hb, hml, hown, hts, hK, hD, hA, hlk0, hret, hR, hN⟩ := hE
  exact lv_lshr hx hb hd (tg_J_toInt _).symm (kk ls hlc)
theorem ta_lushr' {a b : Int} (hE : tg_Am E L kd own cc nL d) (hd : decode cc pc = .ok (.lushr, 1)) (K : tg_AW E L kd X (pc + 1) lv (tl_ (tg_lushr a b) :: st) μ) : tg_AW E L kd X pc lv (ti_ b :: tl_ a :: st) μ := by
  refine tg_go K (fun hl hs => ⟨hl, List.forall_mem_cons.mpr ⟨tg_i64_in _, (List.forall_mem_cons.mp (List.forall_mem_cons.mp hs).2).2⟩⟩) (fun p l e R s m args below meth c D G ad A hEe H locs ls Q hlc hlk hsk kk => ?_)
  subst hEe
  obtain ⟨hx, hb, hml, hown, hts, hK, hD, hA, hlk0, hret, hR, hN⟩ := hE
  exact lv_lushr hx hb hd (tg_J_toInt _).symm (kk ls hlc)
theorem ta_ineg {a : Int} (hE : tg_Am E L kd own cc nL d) (hd : decode cc pc = .ok (.ineg, 1)) (K : tg_AW E L kd X (pc + 1) lv (ti_ (tg_wi (-a)) :: st) μ) : tg_AW E L kd X pc lv (ti_ a :: st) μ := by
  refine tg_go K (fun hl hs => ⟨hl, List.forall_mem_cons.mpr ⟨tg_i32_in _, (List.forall_mem_cons.mp hs).2⟩⟩) (fun p l e R s m args below meth c D G ad A hEe H locs ls Q hlc hlk hsk kk => ?_)
  subst hEe
  obtain ⟨hx, hb, hml, hown, hts, hK, hD, hA, hlk0, hret, hR, hN⟩ := hE
  have e9 : tg_I (tg_wi (-a)) = -tg_I a := by rw [tg_I_wi]; exact Int32.ofInt_neg a
  exact lv_ineg hx hb hd (by rw [← e9]; exact kk ls hlc)
theorem ta_i2l {a : Int} (hE : tg_Am E L kd own cc nL d) (hd : decode cc pc = .ok (.i2l, 1)) (K : tg_AW E L kd X (pc + 1) lv (tl_ (a) :: st) μ) : tg_AW E L kd X pc lv (ti_ a :: st) μ := by
  refine tg_go K (fun hl hs => ⟨hl, List.forall_mem_cons.mpr ⟨tg_inL_of (List.forall_mem_cons.mp hs).1, (List.forall_mem_cons.mp hs).2⟩⟩) (fun p l e R s m args below meth c D G ad A hEe H locs ls Q hlc hlk hsk kk => ?_)
  subst hEe
  obtain ⟨hx, hb, hml, hown, hts, hK, hD, hA, hlk0, hret, hR, hN⟩ := hE
  have e9 : (tg_I a).toInt64 = tg_J a := by
    have h9 : tg_inR a := (List.forall_mem_cons.mp hsk).1
    exact Int32.toInt64_ofInt (by have := h9.1; rw [Int32.toInt_minValue]; omega) (by have := h9.2; rw [Int32.toInt_maxValue]; omega)
  exact lv_i2l hx hb hd e9 (kk ls hlc)
theorem ta_l2i {a : Int} (hE : tg_Am E L kd own cc nL d) (hd : decode cc pc = .ok (.l2i, 1)) (K : tg_AW E L kd X (pc + 1) lv (ti_ (tg_l2i a) :: st) μ) : tg_AW E L kd X pc lv (tl_ a :: st) μ := by
  refine tg_go K (fun hl hs => ⟨hl, List.forall_mem_cons.mpr ⟨tg_i32_in _, (List.forall_mem_cons.mp hs).2⟩⟩) (fun p l e R s m args below meth c D G ad A hEe H locs ls Q hlc hlk hsk kk => ?_)
  subst hEe
  obtain ⟨hx, hb, hml, hown, hts, hK, hD, hA, hlk0, hret, hR, hN⟩ := hE
  have e9 : (tg_J a).toInt32 = tg_I (tg_l2i a) := by
    rw [show tg_l2i a = tg_wi a from rfl, tg_I_wi]; exact Int64.toInt32_ofInt
  exact lv_l2i hx hb hd e9 (kk ls hlc)
theorem ta_i2b {a : Int} (hE : tg_Am E L kd own cc nL d) (hd : decode cc pc = .ok (.i2b, 1)) (K : tg_AW E L kd X (pc + 1) lv (ti_ (tg_i2b a) :: st) μ) : tg_AW E L kd X pc lv (ti_ a :: st) μ := by
  refine tg_go K (fun hl hs => ⟨hl, List.forall_mem_cons.mpr ⟨tg_i32_in _, (List.forall_mem_cons.mp hs).2⟩⟩) (fun p l e R s m args below meth c D G ad A hEe H locs ls Q hlc hlk hsk kk => ?_)
  subst hEe
  obtain ⟨hx, hb, hml, hown, hts, hK, hD, hA, hlk0, hret, hR, hN⟩ := hE
  exact lv_i2b hx hb hd (tg_I_toInt _).symm (kk ls hlc)
theorem ta_i2s {a : Int} (hE : tg_Am E L kd own cc nL d) (hd : decode cc pc = .ok (.i2s, 1)) (K : tg_AW E L kd X (pc + 1) lv (ti_ (tg_i2s a) :: st) μ) : tg_AW E L kd X pc lv (ti_ a :: st) μ := by
  refine tg_go K (fun hl hs => ⟨hl, List.forall_mem_cons.mpr ⟨tg_i32_in _, (List.forall_mem_cons.mp hs).2⟩⟩) (fun p l e R s m args below meth c D G ad A hEe H locs ls Q hlc hlk hsk kk => ?_)
  subst hEe
  obtain ⟨hx, hb, hml, hown, hts, hK, hD, hA, hlk0, hret, hR, hN⟩ := hE
  exact lv_i2s hx hb hd (tg_I_toInt _).symm (kk ls hlc)
theorem ta_iconst {n : Int} {v : Int} (hE : tg_Am E L kd own cc nL d) (hd : decode cc pc = .ok (.iconst n, 1)) (hv : n = v) (ho : tg_inR v) (K : tg_AW E L kd X (pc + 1) lv (ti_ v :: st) μ) : tg_AW E L kd X pc lv st μ := by
  refine tg_go K (fun hl hs => ⟨hl, List.forall_mem_cons.mpr ⟨ho, hs⟩⟩) (fun p l e R s m args below meth c D G ad A hEe H locs ls Q hlc hlk hsk kk => ?_)
  subst hEe
  obtain ⟨hx, hb, hml, hown, hts, hK, hD, hA, hlk0, hret, hR, hN⟩ := hE
  exact lv_iconst hx hb hd (show Int32.ofInt n = tg_I v by rw [hv]; rfl) (kk ls hlc)
theorem ta_bipush {n : Int} {v : Int} (hE : tg_Am E L kd own cc nL d) (hd : decode cc pc = .ok (.bipush n, 2)) (hv : (Int8.ofInt n).toInt32 = tg_I v) (ho : tg_inR v) (K : tg_AW E L kd X (pc + 2) lv (ti_ v :: st) μ) : tg_AW E L kd X pc lv st μ := by
  refine tg_go K (fun hl hs => ⟨hl, List.forall_mem_cons.mpr ⟨ho, hs⟩⟩) (fun p l e R s m args below meth c D G ad A hEe H locs ls Q hlc hlk hsk kk => ?_)
  subst hEe
  obtain ⟨hx, hb, hml, hown, hts, hK, hD, hA, hlk0, hret, hR, hN⟩ := hE
  exact lv_bipush hx hb hd hv (kk ls hlc)
theorem ta_sipush {n : Int} {v : Int} (hE : tg_Am E L kd own cc nL d) (hd : decode cc pc = .ok (.sipush n, 3)) (hv : (Int16.ofInt n).toInt32 = tg_I v) (ho : tg_inR v) (K : tg_AW E L kd X (pc + 3) lv (ti_ v :: st) μ) : tg_AW E L kd X pc lv st μ := by
  refine tg_go K (fun hl hs => ⟨hl, List.forall_mem_cons.mpr ⟨ho, hs⟩⟩) (fun p l e R s m args below meth c D G ad A hEe H locs ls Q hlc hlk hsk kk => ?_)
  subst hEe
  obtain ⟨hx, hb, hml, hown, hts, hK, hD, hA, hlk0, hret, hR, hN⟩ := hE
  exact lv_sipush hx hb hd hv (kk ls hlc)
theorem ta_lconst {n : Fin 2} {v : Int} (hE : tg_Am E L kd own cc nL d) (hd : decode cc pc = .ok (.lconst n, 1)) (hv : Int64.ofNat (n : Nat) = tg_J v) (ho : tg_inL v) (K : tg_AW E L kd X (pc + 1) lv (tl_ v :: st) μ) : tg_AW E L kd X pc lv st μ := by
  refine tg_go K (fun hl hs => ⟨hl, List.forall_mem_cons.mpr ⟨ho, hs⟩⟩) (fun p l e R s m args below meth c D G ad A hEe H locs ls Q hlc hlk hsk kk => ?_)
  subst hEe
  obtain ⟨hx, hb, hml, hown, hts, hK, hD, hA, hlk0, hret, hR, hN⟩ := hE
  exact lv_lconst hx hb hd hv (kk ls hlc)
theorem ta_ldc {v : Int} {index : Nat} (hE : tg_Am E L kd own cc nL d) (hd : decode cc pc = .ok (.ldc index, 2)) (hw : Cond.constant own index (tg_I v) ∈ tg_ALL) (ho : tg_inR v) (K : tg_AW E L kd X (pc + 2) lv (ti_ v :: st) μ) : tg_AW E L kd X pc lv st μ := by
  refine tg_go K (fun hl hs => ⟨hl, List.forall_mem_cons.mpr ⟨ho, hs⟩⟩) (fun p l e R s m args below meth c D G ad A hEe H locs ls Q hlc hlk hsk kk => ?_)
  subst hEe
  obtain ⟨hx, hb, hml, hown, hts, hK, hD, hA, hlk0, hret, hR, hN⟩ := hE
  exact lv_ldc hx hb hown (hts _ hw) hd (kk ls hlc)
theorem ta_ldc2 {v : Int} {index : Nat} (hE : tg_Am E L kd own cc nL d) (hd : decode cc pc = .ok (.ldc2_w index, 3)) (hw : Cond.constantLong own index (tg_J v) ∈ tg_ALL) (ho : tg_inL v) (K : tg_AW E L kd X (pc + 3) lv (tl_ v :: st) μ) : tg_AW E L kd X pc lv st μ := by
  refine tg_go K (fun hl hs => ⟨hl, List.forall_mem_cons.mpr ⟨ho, hs⟩⟩) (fun p l e R s m args below meth c D G ad A hEe H locs ls Q hlc hlk hsk kk => ?_)
  subst hEe
  obtain ⟨hx, hb, hml, hown, hts, hK, hD, hA, hlk0, hret, hR, hN⟩ := hE
  exact lv_ldc2 hx hb hown (hts _ hw) hd (kk ls hlc)
theorem tg_lc_at {ad : Nat → Nat} {ls : Array Slot} {i : Nat} {v : tg_V} (h : tg_lc ad ls lv) (hi : lv[i]? = some v) (hv : v ≠ tj_) : ls[i]? = some (.val (tg_cv ad v)) := h.2.2 i v hi hv
theorem ta_iloadn {k : Fin 4} {a : Int} (hE : tg_Am E L kd own cc nL d) (hd : decode cc pc = .ok (.iload_n k, 1)) (hi : lv[(k : Nat)]? = some (ti_ a)) (K : tg_AW E L kd X (pc + 1) lv (ti_ a :: st) μ) : tg_AW E L kd X pc lv st μ := by
  refine tg_go K (fun hl hs => ⟨hl, List.forall_mem_cons.mpr ⟨hl _ (List.mem_of_getElem? hi), hs⟩⟩) (fun p l e R s m args below meth c D G ad A hEe H locs ls Q hlc hlk hsk kk => ?_)
  subst hEe
  obtain ⟨hx, hb, hml, hown, hts, hK, hD, hA, hlk0, hret, hR, hN⟩ := hE
  exact lv_iload_n hx hb hd rfl (tg_lc_at hlc hi (fun q => by cases q)) (kk ls hlc)
theorem ta_iload {k : Nat} {a : Int} (hE : tg_Am E L kd own cc nL d) (hd : decode cc pc = .ok (.iload k, 2)) (hi : lv[k]? = some (ti_ a)) (K : tg_AW E L kd X (pc + 2) lv (ti_ a :: st) μ) : tg_AW E L kd X pc lv st μ := by
  refine tg_go K (fun hl hs => ⟨hl, List.forall_mem_cons.mpr ⟨hl _ (List.mem_of_getElem? hi), hs⟩⟩) (fun p l e R s m args below meth c D G ad A hEe H locs ls Q hlc hlk hsk kk => ?_)
  subst hEe
  obtain ⟨hx, hb, hml, hown, hts, hK, hD, hA, hlk0, hret, hR, hN⟩ := hE
  exact lv_iload hx hb hd (tg_lc_at hlc hi (fun q => by cases q)) (kk ls hlc)
theorem ta_lloadn {k : Fin 4} {a : Int} (hE : tg_Am E L kd own cc nL d) (hd : decode cc pc = .ok (.lload_n k, 1)) (hi : lv[(k : Nat)]? = some (tl_ a)) (K : tg_AW E L kd X (pc + 1) lv (tl_ a :: st) μ) : tg_AW E L kd X pc lv st μ := by
  refine tg_go K (fun hl hs => ⟨hl, List.forall_mem_cons.mpr ⟨hl _ (List.mem_of_getElem? hi), hs⟩⟩) (fun p l e R s m args below meth c D G ad A hEe H locs ls Q hlc hlk hsk kk => ?_)
  subst hEe
  obtain ⟨hx, hb, hml, hown, hts, hK, hD, hA, hlk0, hret, hR, hN⟩ := hE
  exact lv_lload_n hx hb hd rfl (tg_lc_at hlc hi (fun q => by cases q)) (kk ls hlc)
theorem ta_lload {k : Nat} {a : Int} (hE : tg_Am E L kd own cc nL d) (hd : decode cc pc = .ok (.lload k, 2)) (hi : lv[k]? = some (tl_ a)) (K : tg_AW E L kd X (pc + 2) lv (tl_ a :: st) μ) : tg_AW E L kd X pc lv st μ := by
  refine tg_go K (fun hl hs => ⟨hl, List.forall_mem_cons.mpr ⟨hl _ (List.mem_of_getElem? hi), hs⟩⟩) (fun p l e R s m args below meth c D G ad A hEe H locs ls Q hlc hlk hsk kk => ?_)
  subst hEe
  obtain ⟨hx, hb, hml, hown, hts, hK, hD, hA, hlk0, hret, hR, hN⟩ := hE
  exact lv_lload hx hb hd (tg_lc_at hlc hi (fun q => by cases q)) (kk ls hlc)
theorem ta_aloadn {k : Fin 4} {a : Nat} (hE : tg_Am E L kd own cc nL d) (hd : decode cc pc = .ok (.aload_n k, 1)) (hi : lv[(k : Nat)]? = some (tr_ a)) (K : tg_AW E L kd X (pc + 1) lv (tr_ a :: st) μ) : tg_AW E L kd X pc lv st μ := by
  refine tg_go K (fun hl hs => ⟨hl, List.forall_mem_cons.mpr ⟨hl _ (List.mem_of_getElem? hi), hs⟩⟩) (fun p l e R s m args below meth c D G ad A hEe H locs ls Q hlc hlk hsk kk => ?_)
  subst hEe
  obtain ⟨hx, hb, hml, hown, hts, hK, hD, hA, hlk0, hret, hR, hN⟩ := hE
  exact lv_aload_n hx hb hd rfl (tg_lc_at hlc hi (fun q => by cases q)) (kk ls hlc)
theorem ta_aload {k : Nat} {a : Nat} (hE : tg_Am E L kd own cc nL d) (hd : decode cc pc = .ok (.aload k, 2)) (hi : lv[k]? = some (tr_ a)) (K : tg_AW E L kd X (pc + 2) lv (tr_ a :: st) μ) : tg_AW E L kd X pc lv st μ := by
  refine tg_go K (fun hl hs => ⟨hl, List.forall_mem_cons.mpr ⟨hl _ (List.mem_of_getElem? hi), hs⟩⟩) (fun p l e R s m args below meth c D G ad A hEe H locs ls Q hlc hlk hsk kk => ?_)
  subst hEe
  obtain ⟨hx, hb, hml, hown, hts, hK, hD, hA, hlk0, hret, hR, hN⟩ := hE
  exact lv_aload hx hb hd (tg_lc_at hlc hi (fun q => by cases q)) (kk ls hlc)
def tg_n2o (x : Option tg_V) : Bool := match x with
  | some (.inr (.inl _)) => false
  | _ => true
def tg_n2 (lv : List tg_V) (i : Nat) : Bool := match i with
  | 0 => true
  | j + 1 => tg_n2o lv[j]?
def tg_prs (ad : Nat → Nat) (lv : List tg_V) : List (Nat × Value) := (lv.mapIdx (fun i v => (i, v))).filterMap (fun q => match q.2 with
  | .inr (.inr (.inr _)) => none
  | v => some (q.1, tg_cv ad v))
theorem tg_prs_mem {ad : Nat → Nat} {i : Nat} {w : Value} : (i, w) ∈ tg_prs ad lv ↔ ∃ v, lv[i]? = some v ∧ v ≠ tj_ ∧ w = tg_cv ad v := by
  unfold tg_prs
  rw [List.mem_filterMap]
  constructor
  · rintro ⟨⟨j, v⟩, hm, hq⟩
    rw [List.mem_mapIdx] at hm
    obtain ⟨k, hk, e9⟩ := hm
    have e1 : k = j := congrArg Prod.fst e9
    have e2 : lv[k] = v := congrArg Prod.snd e9
    have hv : lv[j]? = some v := by rw [← e1, List.getElem?_eq_getElem hk, e2]
    clear e9 e1 e2 hk
    match v, hv, hq with
    | .inl a, hv, hq => cases hq; exact ⟨_, hv, fun q => (by cases q), rfl⟩
    | .inr (.inl a), hv, hq => cases hq; exact ⟨_, hv, fun q => (by cases q), rfl⟩
    | .inr (.inr (.inl a)), hv, hq => cases hq; exact ⟨_, hv, fun q => (by cases q), rfl⟩
    | .inr (.inr (.inr a)), hv, hq => cases hq
  · rintro ⟨v, hv, hj, rfl⟩
    obtain ⟨hk, e9⟩ := List.getElem?_eq_some_iff.mp hv
    refine ⟨(i, v), List.mem_mapIdx.mpr ⟨i, hk, by rw [e9]⟩, ?_⟩
    match v, hj with
    | .inl a, _ => rfl
    | .inr (.inl a), _ => rfl
    | .inr (.inr (.inl a)), _ => rfl
    | .inr (.inr (.inr ())), hj => exact absurd rfl hj
theorem tg_lc_has {ad : Nat → Nat} {ls : Array Slot} (h : tg_lc ad ls lv) : lv_has ls lv.length (tg_prs ad lv) := by
  refine ⟨h.1, h.2.1, fun q hq => ?_⟩
  obtain ⟨v, h1, h2, h3⟩ := tg_prs_mem.mp (show (q.1, q.2) ∈ _ from hq)
  rw [h3]; exact h.2.2 _ _ h1 h2
theorem tg_cat (ad : Nat → Nat) (v : tg_V) : (tg_cv ad v).category = 2 ↔ ∃ a, v = tl_ a := by
  match v with
  | .inl a => constructor
              · intro h; cases h
              · rintro ⟨b, h⟩; cases h
  | .inr (.inl a) => constructor
                     · intro _; exact ⟨a, rfl⟩
                     · intro _; rfl
  | .inr (.inr (.inl a)) => constructor
                            · intro h; cases h
                            · rintro ⟨b, h⟩; cases h
  | .inr (.inr (.inr a)) => constructor
                            · intro h; cases h
                            · rintro ⟨b, h⟩; cases h
theorem tg_n2_of {i j : Nat} (h : tg_n2 lv i = true) (hj : j + 1 = i) : ∀ a, lv[j]? ≠ some (tl_ a) := by
  intro a ha
  subst hj
  have h9 : tg_n2o lv[j]? = true := h
  rw [ha] at h9
  cases h9
theorem tg_lc_st1 {ad : Nat → Nat} {ls : Array Slot} {i : Nat} {v : tg_V} (hv : v ≠ tj_) (h2 : tg_n2 lv i = true)
    (h : lv_has ls lv.length ((i, tg_cv ad v) :: (tg_prs ad lv).filter (fun q => !(q.1 == i) && !(q.1 + 1 == i && q.2.category == 2)))) (hi : i < lv.length) : tg_lc ad ls (lv.set i v) := by
  refine ⟨by rw [List.length_set]; exact h.1, h.2.1, fun j w hj hw => ?_⟩
  rw [List.getElem?_set] at hj
  by_cases e9 : i = j
  · subst e9
    rw [if_pos rfl, if_pos hi] at hj
    cases hj
    exact h.2.2 (i, tg_cv ad v) List.mem_cons_self
  · rw [if_neg e9] at hj
    refine h.2.2 (j, tg_cv ad w) (List.mem_cons_of_mem _ (List.mem_filter.mpr ⟨tg_prs_mem.mpr ⟨w, hj, hw, rfl⟩, ?_⟩))
    have n1 : (j == i) = false := by rw [beq_eq_false_iff_ne]; exact fun q => e9 q.symm
    rw [n1]
    by_cases e8 : j + 1 = i
    · have n2 : ((tg_cv ad w).category == 2) = false := by
        rw [beq_eq_false_iff_ne]
        intro q
        obtain ⟨a, rfl⟩ := (tg_cat ad w).mp q
        exact tg_n2_of h2 e8 a hj
      simp [n2]
    · have n3 : (j + 1 == i) = false := by rw [beq_eq_false_iff_ne]; exact e8
      simp [n3]
theorem tg_lc_st2 {ad : Nat → Nat} {ls : Array Slot} {i : Nat} {a : Int} (h2 : tg_n2 lv i = true)
    (h : lv_has ls lv.length ((i, .long (tg_J a)) :: (tg_prs ad lv).filter (fun q => !(q.1 == i) && (!(q.1 == i + 1) && !(q.1 + 1 == i && q.2.category == 2))))) (hi : i + 1 < lv.length) : tg_lc ad ls ((lv.set i (tl_ a)).set (i + 1) tj_) := by
  refine ⟨by rw [List.length_set, List.length_set]; exact h.1, h.2.1, fun j w hj hw => ?_⟩
  rw [List.getElem?_set] at hj
  by_cases e7 : i + 1 = j
  · subst e7
    rw [if_pos rfl, if_pos (by rw [List.length_set]; exact hi)] at hj
    cases hj
    exact absurd rfl hw
  · rw [if_neg e7, List.getElem?_set] at hj
    by_cases e9 : i = j
    · subst e9
      rw [if_pos rfl, if_pos (by omega)] at hj
      cases hj
      exact h.2.2 (i, .long (tg_J a)) List.mem_cons_self
    · rw [if_neg e9] at hj
      refine h.2.2 (j, tg_cv ad w) (List.mem_cons_of_mem _ (List.mem_filter.mpr ⟨tg_prs_mem.mpr ⟨w, hj, hw, rfl⟩, ?_⟩))
      have n1 : (j == i) = false := by rw [beq_eq_false_iff_ne]; exact fun q => e9 q.symm
      have n4 : (j == i + 1) = false := by rw [beq_eq_false_iff_ne]; exact fun q => e7 q.symm
      simp only [n1, n4]
      by_cases e8 : j + 1 = i
      · have n2 : ((tg_cv ad w).category == 2) = false := by
          rw [beq_eq_false_iff_ne]
          intro q
          obtain ⟨b, rfl⟩ := (tg_cat ad w).mp q
          exact tg_n2_of h2 e8 b hj
        simp [n2]
      · have n3 : (j + 1 == i) = false := by rw [beq_eq_false_iff_ne]; exact e8
        simp [n3]
theorem tg_set_ok {i : Nat} {v : tg_V} (hl : ∀ x ∈ lv, tg_vok x) (hv : tg_vok v) : ∀ x ∈ lv.set i v, tg_vok x := fun x hx => by
  rcases List.mem_or_eq_of_mem_set hx with h | h
  · exact hl x h
  · rw [h]; exact hv
theorem ta_istoren {k : Fin 4} {a : Int} {lv2 : List tg_V} (hE : tg_Am E L kd own cc nL d) (hd : decode cc pc = .ok (.istore_n k, 1)) (hi : (k : Nat) < lv.length) (h2 : tg_n2 lv (k : Nat) = true) (he : lv.set (k : Nat) (ti_ a) = lv2) (K : tg_AW E L kd X (pc + 1) lv2 st μ) : tg_AW E L kd X pc lv (ti_ a :: st) μ := by
  subst he
  refine tg_go K (fun hl hs => ⟨tg_set_ok hl (List.forall_mem_cons.mp hs).1, (List.forall_mem_cons.mp hs).2⟩) (fun p l e R s m args below meth c D G ad A hEe H locs ls Q hlc hlk hsk kk => ?_)
  subst hEe
  obtain ⟨hx, hb, hml, hown, hts, hK, hD, hA, hlk0, hret, hR, hN⟩ := hE
  exact lv_istore_n hx hb hd rfl (tg_lc_has hlc) hi rfl (fun ls2 h9 => kk ls2 (tg_lc_st1 (v := ti_ a) (fun q => by cases q) h2 h9 hi))
theorem ta_istore {k : Nat} {a : Int} {lv2 : List tg_V} (hE : tg_Am E L kd own cc nL d) (hd : decode cc pc = .ok (.istore k, 2)) (hi : k < lv.length) (h2 : tg_n2 lv k = true) (he : lv.set k (ti_ a) = lv2) (K : tg_AW E L kd X (pc + 2) lv2 st μ) : tg_AW E L kd X pc lv (ti_ a :: st) μ := by
  subst he
  refine tg_go K (fun hl hs => ⟨tg_set_ok hl (List.forall_mem_cons.mp hs).1, (List.forall_mem_cons.mp hs).2⟩) (fun p l e R s m args below meth c D G ad A hEe H locs ls Q hlc hlk hsk kk => ?_)
  subst hEe
  obtain ⟨hx, hb, hml, hown, hts, hK, hD, hA, hlk0, hret, hR, hN⟩ := hE
  exact lv_istore hx hb hd (tg_lc_has hlc) hi rfl (fun ls2 h9 => kk ls2 (tg_lc_st1 (v := ti_ a) (fun q => by cases q) h2 h9 hi))
theorem ta_astoren {k : Fin 4} {a : Nat} {lv2 : List tg_V} (hE : tg_Am E L kd own cc nL d) (hd : decode cc pc = .ok (.astore_n k, 1)) (hi : (k : Nat) < lv.length) (h2 : tg_n2 lv (k : Nat) = true) (he : lv.set (k : Nat) (tr_ a) = lv2) (K : tg_AW E L kd X (pc + 1) lv2 st μ) : tg_AW E L kd X pc lv (tr_ a :: st) μ := by
  subst he
  refine tg_go K (fun hl hs => ⟨tg_set_ok hl (List.forall_mem_cons.mp hs).1, (List.forall_mem_cons.mp hs).2⟩) (fun p l e R s m args below meth c D G ad A hEe H locs ls Q hlc hlk hsk kk => ?_)
  subst hEe
  obtain ⟨hx, hb, hml, hown, hts, hK, hD, hA, hlk0, hret, hR, hN⟩ := hE
  exact lv_astore_n hx hb hd rfl (tg_lc_has hlc) hi rfl (fun ls2 h9 => kk ls2 (tg_lc_st1 (v := tr_ a) (fun q => by cases q) h2 h9 hi))
theorem ta_astore {k : Nat} {a : Nat} {lv2 : List tg_V} (hE : tg_Am E L kd own cc nL d) (hd : decode cc pc = .ok (.astore k, 2)) (hi : k < lv.length) (h2 : tg_n2 lv k = true) (he : lv.set k (tr_ a) = lv2) (K : tg_AW E L kd X (pc + 2) lv2 st μ) : tg_AW E L kd X pc lv (tr_ a :: st) μ := by
  subst he
  refine tg_go K (fun hl hs => ⟨tg_set_ok hl (List.forall_mem_cons.mp hs).1, (List.forall_mem_cons.mp hs).2⟩) (fun p l e R s m args below meth c D G ad A hEe H locs ls Q hlc hlk hsk kk => ?_)
  subst hEe
  obtain ⟨hx, hb, hml, hown, hts, hK, hD, hA, hlk0, hret, hR, hN⟩ := hE
  exact lv_astore hx hb hd (tg_lc_has hlc) hi rfl (fun ls2 h9 => kk ls2 (tg_lc_st1 (v := tr_ a) (fun q => by cases q) h2 h9 hi))
theorem ta_lstoren {k : Fin 4} {a : Int} {lv2 : List tg_V} (hE : tg_Am E L kd own cc nL d) (hd : decode cc pc = .ok (.lstore_n k, 1)) (hi : (k : Nat) + 1 < lv.length) (h2 : tg_n2 lv (k : Nat) = true) (he : (lv.set (k : Nat) (tl_ a)).set ((k : Nat) + 1) tj_ = lv2) (K : tg_AW E L kd X (pc + 1) lv2 st μ) : tg_AW E L kd X pc lv (tl_ a :: st) μ := by
  subst he
  refine tg_go K (fun hl hs => ⟨tg_set_ok (tg_set_ok hl (List.forall_mem_cons.mp hs).1) trivial, (List.forall_mem_cons.mp hs).2⟩) (fun p l e R s m args below meth c D G ad A hEe H locs ls Q hlc hlk hsk kk => ?_)
  subst hEe
  obtain ⟨hx, hb, hml, hown, hts, hK, hD, hA, hlk0, hret, hR, hN⟩ := hE
  exact lv_lstore_n hx hb hd rfl (tg_lc_has hlc) hi rfl (fun ls2 h9 => kk ls2 (tg_lc_st2 h2 h9 hi))
theorem ta_lstore {k : Nat} {a : Int} {lv2 : List tg_V} (hE : tg_Am E L kd own cc nL d) (hd : decode cc pc = .ok (.lstore k, 2)) (hi : k + 1 < lv.length) (h2 : tg_n2 lv k = true) (he : (lv.set k (tl_ a)).set (k + 1) tj_ = lv2) (K : tg_AW E L kd X (pc + 2) lv2 st μ) : tg_AW E L kd X pc lv (tl_ a :: st) μ := by
  subst he
  refine tg_go K (fun hl hs => ⟨tg_set_ok (tg_set_ok hl (List.forall_mem_cons.mp hs).1) trivial, (List.forall_mem_cons.mp hs).2⟩) (fun p l e R s m args below meth c D G ad A hEe H locs ls Q hlc hlk hsk kk => ?_)
  subst hEe
  obtain ⟨hx, hb, hml, hown, hts, hK, hD, hA, hlk0, hret, hR, hN⟩ := hE
  exact lv_lstore hx hb hd (tg_lc_has hlc) hi rfl (fun ls2 h9 => kk ls2 (tg_lc_st2 h2 h9 hi))
theorem ta_iinc {k : Nat} {n a : Int} {lv2 : List tg_V} (hE : tg_Am E L kd own cc nL d) (hd : decode cc pc = .ok (.iinc k n, 3)) (hi : lv[k]? = some (ti_ a)) (h2 : tg_n2 lv k = true) (he : lv.set k (ti_ (tg_wi (a + n))) = lv2) (K : tg_AW E L kd X (pc + 3) lv2 st μ) : tg_AW E L kd X pc lv st μ := by
  subst he
  have hlt : k < lv.length := (List.getElem?_eq_some_iff.mp hi).1
  refine tg_go K (fun hl hs => ⟨tg_set_ok hl (tg_wi_in _), hs⟩) (fun p l e R s m args below meth c D G ad A hEe H locs ls Q hlc hlk hsk kk => ?_)
  subst hEe
  obtain ⟨hx, hb, hml, hown, hts, hK, hD, hA, hlk0, hret, hR, hN⟩ := hE
  have hm9 : (k, Value.int (tg_I a)) ∈ tg_prs ad lv := tg_prs_mem.mpr ⟨ti_ a, hi, (fun q => by cases q), rfl⟩
  obtain ⟨q9, hq9⟩ := List.getElem?_of_mem hm9
  have e9 : tg_I a + Int32.ofInt n = tg_I (tg_wi (a + n)) := by rw [tg_I_wi]; exact (Int32.ofInt_add a n).symm
  exact lv_iinc hx hb hd (tg_lc_has hlc) hq9 e9 hlt rfl (fun ls2 h9 => kk ls2 (tg_lc_st1 (v := ti_ (tg_wi (a + n))) (fun q => by cases q) h2 h9 hlt))
theorem ta_dup {v : tg_V} (hE : tg_Am E L kd own cc nL d) (hd : decode cc pc = .ok (.dup, 1)) (hc : ∀ ad, (tg_cv ad v).category = 1) (K : tg_AW E L kd X (pc + 1) lv (v :: v :: st) μ) : tg_AW E L kd X pc lv (v :: st) μ := by
  refine tg_go K (fun hl hs => ⟨hl, List.forall_mem_cons.mpr ⟨(List.forall_mem_cons.mp hs).1, hs⟩⟩) (fun p l e R s m args below meth c D G ad A hEe H locs ls Q hlc hlk hsk kk => ?_)
  subst hEe
  obtain ⟨hx, hb, hml, hown, hts, hK, hD, hA, hlk0, hret, hR, hN⟩ := hE
  exact lv_dup hx hb hd (hc ad) (kk ls hlc)
theorem ta_dup2 {v w : tg_V} (hE : tg_Am E L kd own cc nL d) (hd : decode cc pc = .ok (.dup2, 1)) (hc : ∀ ad, (tg_cv ad v).category = 1) (hc2 : ∀ ad, (tg_cv ad w).category = 1) (K : tg_AW E L kd X (pc + 1) lv (v :: w :: v :: w :: st) μ) : tg_AW E L kd X pc lv (v :: w :: st) μ := by
  refine tg_go K (fun hl hs => ⟨hl, List.forall_mem_cons.mpr ⟨(List.forall_mem_cons.mp hs).1, List.forall_mem_cons.mpr ⟨(List.forall_mem_cons.mp (List.forall_mem_cons.mp hs).2).1, hs⟩⟩⟩) (fun p l e R s m args below meth c D G ad A hEe H locs ls Q hlc hlk hsk kk => ?_)
  subst hEe
  obtain ⟨hx, hb, hml, hown, hts, hK, hD, hA, hlk0, hret, hR, hN⟩ := hE
  exact lv_dup2_11 hx hb hd (hc ad) (hc2 ad) (kk ls hlc)
theorem ta_pop {v : tg_V} (hE : tg_Am E L kd own cc nL d) (hd : decode cc pc = .ok (.pop, 1)) (hc : ∀ ad, (tg_cv ad v).category = 1) (K : tg_AW E L kd X (pc + 1) lv st μ) : tg_AW E L kd X pc lv (v :: st) μ := by
  refine tg_go K (fun hl hs => ⟨hl, (List.forall_mem_cons.mp hs).2⟩) (fun p l e R s m args below meth c D G ad A hEe H locs ls Q hlc hlk hsk kk => ?_)
  subst hEe
  obtain ⟨hx, hb, hml, hown, hts, hK, hD, hA, hlk0, hret, hR, hN⟩ := hE
  exact lv_pop hx hb hd (hc ad) (kk ls hlc)
theorem ta_goto {off : Int} {tgt : Nat} (hE : tg_Am E L kd own cc nL d) (hd : decode cc pc = .ok (.goto off, 3)) (ht : (pc : Int) + off = (tgt : Int)) (K : tg_AW E L kd X tgt lv st μ) : tg_AW E L kd X pc lv st μ := by
  refine tg_go K (fun hl hs => ⟨hl, hs⟩) (fun p l e R s m args below meth c D G ad A hEe H locs ls Q hlc hlk hsk kk => ?_)
  subst hEe
  obtain ⟨hx, hb, hml, hown, hts, hK, hD, hA, hlk0, hret, hR, hN⟩ := hE
  exact lv_goto hx hb hd ht (kk ls hlc)
theorem ta_wk {i : Nat} {lv2 : List tg_V} (he : lv.set i tj_ = lv2) (K : tg_AW E L kd X pc lv2 st μ) : tg_AW E L kd X pc lv st μ := by
  subst he
  refine tg_go K (fun hl hs => ⟨tg_set_ok hl trivial, hs⟩) (fun p l e R s m args below meth c D G ad A hEe H locs ls Q hlc hlk hsk kk => kk ls ⟨by rw [List.length_set]; exact hlc.1, hlc.2.1, fun j w hj hw => ?_⟩)
  rw [List.getElem?_set] at hj
  by_cases e9 : i = j
  · rw [if_pos e9] at hj
    by_cases e8 : i < lv.length
    · rw [if_pos e8] at hj; cases hj; exact absurd rfl hw
    · rw [if_neg e8] at hj; cases hj
  · rw [if_neg e9] at hj
    exact hlc.2.2 j w hj hw
theorem tg_br {X1 X2 : tg_R} {cnd : Prop} [Decidable cnd] {pc1 pc2 : Nat} {st2 : List tg_V} (hok : (∀ v ∈ st, tg_vok v) → (∀ v ∈ st2, tg_vok v))
    (hW : ∀ (p : Program) (l : Launch) (e : Env) (R : Room) (s : State) (m : MethodId) (args : Array Value) (below : List Frame) (meth : Method) (c : Code) (D : va_G) (G : tg_G) (ad : Nat → Nat) (A : Nat → Prop), E = (p, l, e, R, s, m, args, below, meth, c, D, G, ad, A) →
      ∀ (H : Heap) (locs : List Loc) (ls : Array Slot) (Q : State → Prop), (∀ v ∈ st, tg_vok v) → (cnd → W p l e R s m args below meth c H locs 0 0 Q (F0 m pc1 ls (st2.map (tg_cv ad)))) → (¬ cnd → W p l e R s m args below meth c H locs 0 0 Q (F0 m pc2 ls (st2.map (tg_cv ad)))) → W p l e R s m args below meth c H locs 0 0 Q (F0 m pc ls (st.map (tg_cv ad))))
    (K1 : cnd → tg_AW E L kd X1 pc1 lv st2 μ) (K2 : ¬ cnd → tg_AW E L kd X2 pc2 lv st2 μ) : tg_AW E L kd (if cnd then X1 else X2) pc lv st μ := by
  obtain ⟨p, l, e, R, s, m, args, below, meth, c, D, G, ad, A⟩ := E
  intro hm hl hs r μ' hX
  have h2 := hok hs
  by_cases hc : cnd
  · rw [if_pos hc] at hX
    exact fun H locs ls hP hS hlc => hW _ _ _ _ _ _ _ _ _ _ _ _ _ _ rfl H locs ls _ hs (fun _ => K1 hc hm hl h2 r μ' hX H locs ls hP hS hlc) (fun q => absurd hc q)
  · rw [if_neg hc] at hX
    exact fun H locs ls hP hS hlc => hW _ _ _ _ _ _ _ _ _ _ _ _ _ _ rfl H locs ls _ hs (fun q => absurd q hc) (fun _ => K2 hc hm hl h2 r μ' hX H locs ls hP hS hlc)
theorem ta_icmp_eq {X1 X2 : tg_R} {a b off : Int} {tgt : Nat} (hE : tg_Am E L kd own cc nL d) (hd : decode cc pc = .ok (.if_icmp .eq off, 3)) (ht : (pc : Int) + off = (tgt : Int)) (K1 : a = b → tg_AW E L kd X1 tgt lv st μ) (K2 : ¬ (a = b) → tg_AW E L kd X2 (pc + 3) lv st μ) : tg_AW E L kd (if a = b then X1 else X2) pc lv (ti_ b :: ti_ a :: st) μ := by
  refine tg_br (fun hs => (List.forall_mem_cons.mp (List.forall_mem_cons.mp hs).2).2) (fun p l e R s m args below meth c D G ad A hEe H locs ls Q hsk k1 k2 => ?_) K1 K2
  subst hEe
  obtain ⟨hx, hb, hml, hown, hts, hK, hD, hA, hlk0, hret, hR, hN⟩ := hE
  have hb0 : tg_inR b := (List.forall_mem_cons.mp hsk).1
  have ha : tg_inR a := (List.forall_mem_cons.mp (List.forall_mem_cons.mp hsk).2).1
  exact lv_icmp_eq hx hb hd ht (fun q => k1 ((tg_I_eq ha hb0).mp q)) (fun q => k2 (fun z => q ((tg_I_eq ha hb0).mpr z)))
theorem ta_icmp_ne {X1 X2 : tg_R} {a b off : Int} {tgt : Nat} (hE : tg_Am E L kd own cc nL d) (hd : decode cc pc = .ok (.if_icmp .ne off, 3)) (ht : (pc : Int) + off = (tgt : Int)) (K1 : a ≠ b → tg_AW E L kd X1 tgt lv st μ) (K2 : ¬ (a ≠ b) → tg_AW E L kd X2 (pc + 3) lv st μ) : tg_AW E L kd (if a ≠ b then X1 else X2) pc lv (ti_ b :: ti_ a :: st) μ := by
  refine tg_br (fun hs => (List.forall_mem_cons.mp (List.forall_mem_cons.mp hs).2).2) (fun p l e R s m args below meth c D G ad A hEe H locs ls Q hsk k1 k2 => ?_) K1 K2
  subst hEe
  obtain ⟨hx, hb, hml, hown, hts, hK, hD, hA, hlk0, hret, hR, hN⟩ := hE
  have hb0 : tg_inR b := (List.forall_mem_cons.mp hsk).1
  have ha : tg_inR a := (List.forall_mem_cons.mp (List.forall_mem_cons.mp hsk).2).1
  exact lv_icmp_ne hx hb hd ht (fun q => k1 ((not_congr (tg_I_eq ha hb0)).mp q)) (fun q => k2 (fun z => ((not_congr (tg_I_eq ha hb0)).mpr z) q))
theorem ta_icmp_lt {X1 X2 : tg_R} {a b off : Int} {tgt : Nat} (hE : tg_Am E L kd own cc nL d) (hd : decode cc pc = .ok (.if_icmp .lt off, 3)) (ht : (pc : Int) + off = (tgt : Int)) (K1 : a < b → tg_AW E L kd X1 tgt lv st μ) (K2 : ¬ (a < b) → tg_AW E L kd X2 (pc + 3) lv st μ) : tg_AW E L kd (if a < b then X1 else X2) pc lv (ti_ b :: ti_ a :: st) μ := by
  refine tg_br (fun hs => (List.forall_mem_cons.mp (List.forall_mem_cons.mp hs).2).2) (fun p l e R s m args below meth c D G ad A hEe H locs ls Q hsk k1 k2 => ?_) K1 K2
  subst hEe
  obtain ⟨hx, hb, hml, hown, hts, hK, hD, hA, hlk0, hret, hR, hN⟩ := hE
  have hb0 : tg_inR b := (List.forall_mem_cons.mp hsk).1
  have ha : tg_inR a := (List.forall_mem_cons.mp (List.forall_mem_cons.mp hsk).2).1
  exact lv_icmp_lt hx hb hd ht (fun q => k1 ((tg_I_lt ha hb0).mp q)) (fun q => k2 (fun z => q ((tg_I_lt ha hb0).mpr z)))
theorem ta_icmp_ge {X1 X2 : tg_R} {a b off : Int} {tgt : Nat} (hE : tg_Am E L kd own cc nL d) (hd : decode cc pc = .ok (.if_icmp .ge off, 3)) (ht : (pc : Int) + off = (tgt : Int)) (K1 : b ≤ a → tg_AW E L kd X1 tgt lv st μ) (K2 : ¬ (b ≤ a) → tg_AW E L kd X2 (pc + 3) lv st μ) : tg_AW E L kd (if b ≤ a then X1 else X2) pc lv (ti_ b :: ti_ a :: st) μ := by
  refine tg_br (fun hs => (List.forall_mem_cons.mp (List.forall_mem_cons.mp hs).2).2) (fun p l e R s m args below meth c D G ad A hEe H locs ls Q hsk k1 k2 => ?_) K1 K2
  subst hEe
  obtain ⟨hx, hb, hml, hown, hts, hK, hD, hA, hlk0, hret, hR, hN⟩ := hE
  have hb0 : tg_inR b := (List.forall_mem_cons.mp hsk).1
  have ha : tg_inR a := (List.forall_mem_cons.mp (List.forall_mem_cons.mp hsk).2).1
  exact lv_icmp_ge hx hb hd ht (fun q => k1 ((tg_I_le hb0 ha).mp q)) (fun q => k2 (fun z => q ((tg_I_le hb0 ha).mpr z)))
theorem ta_icmp_gt {X1 X2 : tg_R} {a b off : Int} {tgt : Nat} (hE : tg_Am E L kd own cc nL d) (hd : decode cc pc = .ok (.if_icmp .gt off, 3)) (ht : (pc : Int) + off = (tgt : Int)) (K1 : b < a → tg_AW E L kd X1 tgt lv st μ) (K2 : ¬ (b < a) → tg_AW E L kd X2 (pc + 3) lv st μ) : tg_AW E L kd (if b < a then X1 else X2) pc lv (ti_ b :: ti_ a :: st) μ := by
  refine tg_br (fun hs => (List.forall_mem_cons.mp (List.forall_mem_cons.mp hs).2).2) (fun p l e R s m args below meth c D G ad A hEe H locs ls Q hsk k1 k2 => ?_) K1 K2
  subst hEe
  obtain ⟨hx, hb, hml, hown, hts, hK, hD, hA, hlk0, hret, hR, hN⟩ := hE
  have hb0 : tg_inR b := (List.forall_mem_cons.mp hsk).1
  have ha : tg_inR a := (List.forall_mem_cons.mp (List.forall_mem_cons.mp hsk).2).1
  exact lv_icmp_gt hx hb hd ht (fun q => k1 ((tg_I_lt hb0 ha).mp q)) (fun q => k2 (fun z => q ((tg_I_lt hb0 ha).mpr z)))
theorem ta_icmp_le {X1 X2 : tg_R} {a b off : Int} {tgt : Nat} (hE : tg_Am E L kd own cc nL d) (hd : decode cc pc = .ok (.if_icmp .le off, 3)) (ht : (pc : Int) + off = (tgt : Int)) (K1 : a ≤ b → tg_AW E L kd X1 tgt lv st μ) (K2 : ¬ (a ≤ b) → tg_AW E L kd X2 (pc + 3) lv st μ) : tg_AW E L kd (if a ≤ b then X1 else X2) pc lv (ti_ b :: ti_ a :: st) μ := by
  refine tg_br (fun hs => (List.forall_mem_cons.mp (List.forall_mem_cons.mp hs).2).2) (fun p l e R s m args below meth c D G ad A hEe H locs ls Q hsk k1 k2 => ?_) K1 K2
  subst hEe
  obtain ⟨hx, hb, hml, hown, hts, hK, hD, hA, hlk0, hret, hR, hN⟩ := hE
  have hb0 : tg_inR b := (List.forall_mem_cons.mp hsk).1
  have ha : tg_inR a := (List.forall_mem_cons.mp (List.forall_mem_cons.mp hsk).2).1
  exact lv_icmp_le hx hb hd ht (fun q => k1 ((tg_I_le ha hb0).mp q)) (fun q => k2 (fun z => q ((tg_I_le ha hb0).mpr z)))
theorem ta_if_eq {X1 X2 : tg_R} {a off : Int} {tgt : Nat} (hE : tg_Am E L kd own cc nL d) (hd : decode cc pc = .ok (.ifCond .eq off, 3)) (ht : (pc : Int) + off = (tgt : Int)) (K1 : a = 0 → tg_AW E L kd X1 tgt lv st μ) (K2 : ¬ (a = 0) → tg_AW E L kd X2 (pc + 3) lv st μ) : tg_AW E L kd (if a = 0 then X1 else X2) pc lv (ti_ a :: st) μ := by
  refine tg_br (fun hs => (List.forall_mem_cons.mp hs).2) (fun p l e R s m args below meth c D G ad A hEe H locs ls Q hsk k1 k2 => ?_) K1 K2
  subst hEe
  obtain ⟨hx, hb, hml, hown, hts, hK, hD, hA, hlk0, hret, hR, hN⟩ := hE
  have ha : tg_inR a := (List.forall_mem_cons.mp hsk).1
  exact lv_if_eq hx hb hd ht (fun q => k1 ((tg_I_eq ha tg_R0).mp q)) (fun q => k2 (fun z => q ((tg_I_eq ha tg_R0).mpr z)))
theorem ta_if_ne {X1 X2 : tg_R} {a off : Int} {tgt : Nat} (hE : tg_Am E L kd own cc nL d) (hd : decode cc pc = .ok (.ifCond .ne off, 3)) (ht : (pc : Int) + off = (tgt : Int)) (K1 : a ≠ 0 → tg_AW E L kd X1 tgt lv st μ) (K2 : ¬ (a ≠ 0) → tg_AW E L kd X2 (pc + 3) lv st μ) : tg_AW E L kd (if a ≠ 0 then X1 else X2) pc lv (ti_ a :: st) μ := by
  refine tg_br (fun hs => (List.forall_mem_cons.mp hs).2) (fun p l e R s m args below meth c D G ad A hEe H locs ls Q hsk k1 k2 => ?_) K1 K2
  subst hEe
  obtain ⟨hx, hb, hml, hown, hts, hK, hD, hA, hlk0, hret, hR, hN⟩ := hE
  have ha : tg_inR a := (List.forall_mem_cons.mp hsk).1
  exact lv_if_ne hx hb hd ht (fun q => k1 ((not_congr (tg_I_eq ha tg_R0)).mp q)) (fun q => k2 (fun z => ((not_congr (tg_I_eq ha tg_R0)).mpr z) q))
theorem ta_if_lt {X1 X2 : tg_R} {a off : Int} {tgt : Nat} (hE : tg_Am E L kd own cc nL d) (hd : decode cc pc = .ok (.ifCond .lt off, 3)) (ht : (pc : Int) + off = (tgt : Int)) (K1 : a < 0 → tg_AW E L kd X1 tgt lv st μ) (K2 : ¬ (a < 0) → tg_AW E L kd X2 (pc + 3) lv st μ) : tg_AW E L kd (if a < 0 then X1 else X2) pc lv (ti_ a :: st) μ := by
  refine tg_br (fun hs => (List.forall_mem_cons.mp hs).2) (fun p l e R s m args below meth c D G ad A hEe H locs ls Q hsk k1 k2 => ?_) K1 K2
  subst hEe
  obtain ⟨hx, hb, hml, hown, hts, hK, hD, hA, hlk0, hret, hR, hN⟩ := hE
  have ha : tg_inR a := (List.forall_mem_cons.mp hsk).1
  exact lv_if_lt hx hb hd ht (fun q => k1 ((tg_I_lt ha tg_R0).mp q)) (fun q => k2 (fun z => q ((tg_I_lt ha tg_R0).mpr z)))
theorem ta_if_ge {X1 X2 : tg_R} {a off : Int} {tgt : Nat} (hE : tg_Am E L kd own cc nL d) (hd : decode cc pc = .ok (.ifCond .ge off, 3)) (ht : (pc : Int) + off = (tgt : Int)) (K1 : 0 ≤ a → tg_AW E L kd X1 tgt lv st μ) (K2 : ¬ (0 ≤ a) → tg_AW E L kd X2 (pc + 3) lv st μ) : tg_AW E L kd (if 0 ≤ a then X1 else X2) pc lv (ti_ a :: st) μ := by
  refine tg_br (fun hs => (List.forall_mem_cons.mp hs).2) (fun p l e R s m args below meth c D G ad A hEe H locs ls Q hsk k1 k2 => ?_) K1 K2
  subst hEe
  obtain ⟨hx, hb, hml, hown, hts, hK, hD, hA, hlk0, hret, hR, hN⟩ := hE
  have ha : tg_inR a := (List.forall_mem_cons.mp hsk).1
  exact lv_if_ge hx hb hd ht (fun q => k1 ((tg_I_le tg_R0 ha).mp q)) (fun q => k2 (fun z => q ((tg_I_le tg_R0 ha).mpr z)))
theorem ta_if_gt {X1 X2 : tg_R} {a off : Int} {tgt : Nat} (hE : tg_Am E L kd own cc nL d) (hd : decode cc pc = .ok (.ifCond .gt off, 3)) (ht : (pc : Int) + off = (tgt : Int)) (K1 : 0 < a → tg_AW E L kd X1 tgt lv st μ) (K2 : ¬ (0 < a) → tg_AW E L kd X2 (pc + 3) lv st μ) : tg_AW E L kd (if 0 < a then X1 else X2) pc lv (ti_ a :: st) μ := by
  refine tg_br (fun hs => (List.forall_mem_cons.mp hs).2) (fun p l e R s m args below meth c D G ad A hEe H locs ls Q hsk k1 k2 => ?_) K1 K2
  subst hEe
  obtain ⟨hx, hb, hml, hown, hts, hK, hD, hA, hlk0, hret, hR, hN⟩ := hE
  have ha : tg_inR a := (List.forall_mem_cons.mp hsk).1
  exact lv_if_gt hx hb hd ht (fun q => k1 ((tg_I_lt tg_R0 ha).mp q)) (fun q => k2 (fun z => q ((tg_I_lt tg_R0 ha).mpr z)))
theorem ta_if_le {X1 X2 : tg_R} {a off : Int} {tgt : Nat} (hE : tg_Am E L kd own cc nL d) (hd : decode cc pc = .ok (.ifCond .le off, 3)) (ht : (pc : Int) + off = (tgt : Int)) (K1 : a ≤ 0 → tg_AW E L kd X1 tgt lv st μ) (K2 : ¬ (a ≤ 0) → tg_AW E L kd X2 (pc + 3) lv st μ) : tg_AW E L kd (if a ≤ 0 then X1 else X2) pc lv (ti_ a :: st) μ := by
  refine tg_br (fun hs => (List.forall_mem_cons.mp hs).2) (fun p l e R s m args below meth c D G ad A hEe H locs ls Q hsk k1 k2 => ?_) K1 K2
  subst hEe
  obtain ⟨hx, hb, hml, hown, hts, hK, hD, hA, hlk0, hret, hR, hN⟩ := hE
  have ha : tg_inR a := (List.forall_mem_cons.mp hsk).1
  exact lv_if_le hx hb hd ht (fun q => k1 ((tg_I_le ha tg_R0).mp q)) (fun q => k2 (fun z => q ((tg_I_le ha tg_R0).mpr z)))
theorem tg_cmpv (x y : Int64) : lg_cmp x y = (if y < x then 1 else if x = y then 0 else -1) := rfl
theorem ta_lcmp_eq {X1 X2 : tg_R} {a b off : Int} {tgt : Nat} (hE : tg_Am E L kd own cc nL d) (hd0 : decode cc pc = .ok (.lcmp, 1)) (hd : decode cc (pc + 1) = .ok (.ifCond .eq off, 3)) (ht : ((pc + 1 : Nat) : Int) + off = (tgt : Int)) (K1 : a = b → tg_AW E L kd X1 tgt lv st μ) (K2 : ¬ (a = b) → tg_AW E L kd X2 (pc + 1 + 3) lv st μ) : tg_AW E L kd (if a = b then X1 else X2) pc lv (tl_ b :: tl_ a :: st) μ := by
  refine tg_br (fun hs => (List.forall_mem_cons.mp (List.forall_mem_cons.mp hs).2).2) (fun p l e R s m args below meth c D G ad A hEe H locs ls Q hsk k1 k2 => ?_) K1 K2
  subst hEe
  obtain ⟨hx, hb, hml, hown, hts, hK, hD, hA, hlk0, hret, hR, hN⟩ := hE
  have hb0 : tg_inL b := (List.forall_mem_cons.mp hsk).1
  have ha : tg_inL a := (List.forall_mem_cons.mp (List.forall_mem_cons.mp hsk).2).1
  have f1 : lg_cmp (tg_J a) (tg_J b) = 0 ↔ tg_J a = tg_J b := by
    rcases Int.lt_trichotomy (tg_J a).toInt (tg_J b).toInt with h | h | h
    · have h1 : ¬ tg_J b < tg_J a := by rw [Int64.lt_iff_toInt_lt]; omega
      have h2 : ¬ tg_J a = tg_J b := fun q => by rw [q] at h; omega
      have h3 : tg_J a < tg_J b := by rw [Int64.lt_iff_toInt_lt]; omega
      have h4 : tg_J a ≤ tg_J b := by rw [Int64.le_iff_toInt_le]; omega
      have h5 : ¬ tg_J b ≤ tg_J a := by rw [Int64.le_iff_toInt_le]; omega
      rw [tg_cmpv, if_neg h1, if_neg h2]
      simp [h1, h2, h3, h4, h5]
    · have h2 : tg_J a = tg_J b := Int64.toInt_inj.mp h
      have h1 : ¬ tg_J b < tg_J a := by rw [Int64.lt_iff_toInt_lt]; omega
      have h3 : ¬ tg_J a < tg_J b := by rw [Int64.lt_iff_toInt_lt]; omega
      have h4 : tg_J a ≤ tg_J b := by rw [Int64.le_iff_toInt_le]; omega
      have h5 : tg_J b ≤ tg_J a := by rw [Int64.le_iff_toInt_le]; omega
      rw [tg_cmpv, if_neg h1, if_pos h2]
      simp [h1, h2, h3, h4, h5]
    · have h1 : tg_J b < tg_J a := by rw [Int64.lt_iff_toInt_lt]; omega
      have h2 : ¬ tg_J a = tg_J b := fun q => by rw [q] at h; omega
      have h3 : ¬ tg_J a < tg_J b := by rw [Int64.lt_iff_toInt_lt]; omega
      have h4 : ¬ tg_J a ≤ tg_J b := by rw [Int64.le_iff_toInt_le]; omega
      have h5 : tg_J b ≤ tg_J a := by rw [Int64.le_iff_toInt_le]; omega
      rw [tg_cmpv, if_pos h1]
      simp [h1, h2, h3, h4, h5]
  refine W.lcmp hx hb hd0 ?_
  exact lv_if_eq hx hb hd ht (fun q => k1 ((tg_J_eq ha hb0).mp (f1.mp q))) (fun q => k2 (fun z => q (f1.mpr ((tg_J_eq ha hb0).mpr z))))
theorem ta_lcmp_ne {X1 X2 : tg_R} {a b off : Int} {tgt : Nat} (hE : tg_Am E L kd own cc nL d) (hd0 : decode cc pc = .ok (.lcmp, 1)) (hd : decode cc (pc + 1) = .ok (.ifCond .ne off, 3)) (ht : ((pc + 1 : Nat) : Int) + off = (tgt : Int)) (K1 : a ≠ b → tg_AW E L kd X1 tgt lv st μ) (K2 : ¬ (a ≠ b) → tg_AW E L kd X2 (pc + 1 + 3) lv st μ) : tg_AW E L kd (if a ≠ b then X1 else X2) pc lv (tl_ b :: tl_ a :: st) μ := by
  refine tg_br (fun hs => (List.forall_mem_cons.mp (List.forall_mem_cons.mp hs).2).2) (fun p l e R s m args below meth c D G ad A hEe H locs ls Q hsk k1 k2 => ?_) K1 K2
  subst hEe
  obtain ⟨hx, hb, hml, hown, hts, hK, hD, hA, hlk0, hret, hR, hN⟩ := hE
  have hb0 : tg_inL b := (List.forall_mem_cons.mp hsk).1
  have ha : tg_inL a := (List.forall_mem_cons.mp (List.forall_mem_cons.mp hsk).2).1
  have f1 : lg_cmp (tg_J a) (tg_J b) ≠ 0 ↔ ¬ tg_J a = tg_J b := by
    rcases Int.lt_trichotomy (tg_J a).toInt (tg_J b).toInt with h | h | h
    · have h1 : ¬ tg_J b < tg_J a := by rw [Int64.lt_iff_toInt_lt]; omega
      have h2 : ¬ tg_J a = tg_J b := fun q => by rw [q] at h; omega
      have h3 : tg_J a < tg_J b := by rw [Int64.lt_iff_toInt_lt]; omega
      have h4 : tg_J a ≤ tg_J b := by rw [Int64.le_iff_toInt_le]; omega
      have h5 : ¬ tg_J b ≤ tg_J a := by rw [Int64.le_iff_toInt_le]; omega
      rw [tg_cmpv, if_neg h1, if_neg h2]
      simp [h1, h2, h3, h4, h5]
    · have h2 : tg_J a = tg_J b := Int64.toInt_inj.mp h
      have h1 : ¬ tg_J b < tg_J a := by rw [Int64.lt_iff_toInt_lt]; omega
      have h3 : ¬ tg_J a < tg_J b := by rw [Int64.lt_iff_toInt_lt]; omega
      have h4 : tg_J a ≤ tg_J b := by rw [Int64.le_iff_toInt_le]; omega
      have h5 : tg_J b ≤ tg_J a := by rw [Int64.le_iff_toInt_le]; omega
      rw [tg_cmpv, if_neg h1, if_pos h2]
      simp [h1, h2, h3, h4, h5]
    · have h1 : tg_J b < tg_J a := by rw [Int64.lt_iff_toInt_lt]; omega
      have h2 : ¬ tg_J a = tg_J b := fun q => by rw [q] at h; omega
      have h3 : ¬ tg_J a < tg_J b := by rw [Int64.lt_iff_toInt_lt]; omega
      have h4 : ¬ tg_J a ≤ tg_J b := by rw [Int64.le_iff_toInt_le]; omega
      have h5 : tg_J b ≤ tg_J a := by rw [Int64.le_iff_toInt_le]; omega
      rw [tg_cmpv, if_pos h1]
      simp [h1, h2, h3, h4, h5]
  refine W.lcmp hx hb hd0 ?_
  exact lv_if_ne hx hb hd ht (fun q => k1 ((not_congr (tg_J_eq ha hb0)).mp (f1.mp q))) (fun q => k2 (fun z => (f1.mpr ((not_congr (tg_J_eq ha hb0)).mpr z)) q))
theorem ta_lcmp_lt {X1 X2 : tg_R} {a b off : Int} {tgt : Nat} (hE : tg_Am E L kd own cc nL d) (hd0 : decode cc pc = .ok (.lcmp, 1)) (hd : decode cc (pc + 1) = .ok (.ifCond .lt off, 3)) (ht : ((pc + 1 : Nat) : Int) + off = (tgt : Int)) (K1 : a < b → tg_AW E L kd X1 tgt lv st μ) (K2 : ¬ (a < b) → tg_AW E L kd X2 (pc + 1 + 3) lv st μ) : tg_AW E L kd (if a < b then X1 else X2) pc lv (tl_ b :: tl_ a :: st) μ := by
  refine tg_br (fun hs => (List.forall_mem_cons.mp (List.forall_mem_cons.mp hs).2).2) (fun p l e R s m args below meth c D G ad A hEe H locs ls Q hsk k1 k2 => ?_) K1 K2
  subst hEe
  obtain ⟨hx, hb, hml, hown, hts, hK, hD, hA, hlk0, hret, hR, hN⟩ := hE
  have hb0 : tg_inL b := (List.forall_mem_cons.mp hsk).1
  have ha : tg_inL a := (List.forall_mem_cons.mp (List.forall_mem_cons.mp hsk).2).1
  have f1 : lg_cmp (tg_J a) (tg_J b) < 0 ↔ tg_J a < tg_J b := by
    rcases Int.lt_trichotomy (tg_J a).toInt (tg_J b).toInt with h | h | h
    · have h1 : ¬ tg_J b < tg_J a := by rw [Int64.lt_iff_toInt_lt]; omega
      have h2 : ¬ tg_J a = tg_J b := fun q => by rw [q] at h; omega
      have h3 : tg_J a < tg_J b := by rw [Int64.lt_iff_toInt_lt]; omega
      have h4 : tg_J a ≤ tg_J b := by rw [Int64.le_iff_toInt_le]; omega
      have h5 : ¬ tg_J b ≤ tg_J a := by rw [Int64.le_iff_toInt_le]; omega
      rw [tg_cmpv, if_neg h1, if_neg h2]
      simp [h1, h2, h3, h4, h5]
    · have h2 : tg_J a = tg_J b := Int64.toInt_inj.mp h
      have h1 : ¬ tg_J b < tg_J a := by rw [Int64.lt_iff_toInt_lt]; omega
      have h3 : ¬ tg_J a < tg_J b := by rw [Int64.lt_iff_toInt_lt]; omega
      have h4 : tg_J a ≤ tg_J b := by rw [Int64.le_iff_toInt_le]; omega
      have h5 : tg_J b ≤ tg_J a := by rw [Int64.le_iff_toInt_le]; omega
      rw [tg_cmpv, if_neg h1, if_pos h2]
      simp [h1, h2, h3, h4, h5]
    · have h1 : tg_J b < tg_J a := by rw [Int64.lt_iff_toInt_lt]; omega
      have h2 : ¬ tg_J a = tg_J b := fun q => by rw [q] at h; omega
      have h3 : ¬ tg_J a < tg_J b := by rw [Int64.lt_iff_toInt_lt]; omega
      have h4 : ¬ tg_J a ≤ tg_J b := by rw [Int64.le_iff_toInt_le]; omega
      have h5 : tg_J b ≤ tg_J a := by rw [Int64.le_iff_toInt_le]; omega
      rw [tg_cmpv, if_pos h1]
      simp [h1, h2, h3, h4, h5]
  refine W.lcmp hx hb hd0 ?_
  exact lv_if_lt hx hb hd ht (fun q => k1 ((tg_J_lt ha hb0).mp (f1.mp q))) (fun q => k2 (fun z => q (f1.mpr ((tg_J_lt ha hb0).mpr z))))
theorem ta_lcmp_ge {X1 X2 : tg_R} {a b off : Int} {tgt : Nat} (hE : tg_Am E L kd own cc nL d) (hd0 : decode cc pc = .ok (.lcmp, 1)) (hd : decode cc (pc + 1) = .ok (.ifCond .ge off, 3)) (ht : ((pc + 1 : Nat) : Int) + off = (tgt : Int)) (K1 : b ≤ a → tg_AW E L kd X1 tgt lv st μ) (K2 : ¬ (b ≤ a) → tg_AW E L kd X2 (pc + 1 + 3) lv st μ) : tg_AW E L kd (if b ≤ a then X1 else X2) pc lv (tl_ b :: tl_ a :: st) μ := by
  refine tg_br (fun hs => (List.forall_mem_cons.mp (List.forall_mem_cons.mp hs).2).2) (fun p l e R s m args below meth c D G ad A hEe H locs ls Q hsk k1 k2 => ?_) K1 K2
  subst hEe
  obtain ⟨hx, hb, hml, hown, hts, hK, hD, hA, hlk0, hret, hR, hN⟩ := hE
  have hb0 : tg_inL b := (List.forall_mem_cons.mp hsk).1
  have ha : tg_inL a := (List.forall_mem_cons.mp (List.forall_mem_cons.mp hsk).2).1
  have f1 : 0 ≤ lg_cmp (tg_J a) (tg_J b) ↔ tg_J b ≤ tg_J a := by
    rcases Int.lt_trichotomy (tg_J a).toInt (tg_J b).toInt with h | h | h
    · have h1 : ¬ tg_J b < tg_J a := by rw [Int64.lt_iff_toInt_lt]; omega
      have h2 : ¬ tg_J a = tg_J b := fun q => by rw [q] at h; omega
      have h3 : tg_J a < tg_J b := by rw [Int64.lt_iff_toInt_lt]; omega
      have h4 : tg_J a ≤ tg_J b := by rw [Int64.le_iff_toInt_le]; omega
      have h5 : ¬ tg_J b ≤ tg_J a := by rw [Int64.le_iff_toInt_le]; omega
      rw [tg_cmpv, if_neg h1, if_neg h2]
      simp [h1, h2, h3, h4, h5]
    · have h2 : tg_J a = tg_J b := Int64.toInt_inj.mp h
      have h1 : ¬ tg_J b < tg_J a := by rw [Int64.lt_iff_toInt_lt]; omega
      have h3 : ¬ tg_J a < tg_J b := by rw [Int64.lt_iff_toInt_lt]; omega
      have h4 : tg_J a ≤ tg_J b := by rw [Int64.le_iff_toInt_le]; omega
      have h5 : tg_J b ≤ tg_J a := by rw [Int64.le_iff_toInt_le]; omega
      rw [tg_cmpv, if_neg h1, if_pos h2]
      simp [h1, h2, h3, h4, h5]
    · have h1 : tg_J b < tg_J a := by rw [Int64.lt_iff_toInt_lt]; omega
      have h2 : ¬ tg_J a = tg_J b := fun q => by rw [q] at h; omega
      have h3 : ¬ tg_J a < tg_J b := by rw [Int64.lt_iff_toInt_lt]; omega
      have h4 : ¬ tg_J a ≤ tg_J b := by rw [Int64.le_iff_toInt_le]; omega
      have h5 : tg_J b ≤ tg_J a := by rw [Int64.le_iff_toInt_le]; omega
      rw [tg_cmpv, if_pos h1]
      simp [h1, h2, h3, h4, h5]
  refine W.lcmp hx hb hd0 ?_
  exact lv_if_ge hx hb hd ht (fun q => k1 ((tg_J_le hb0 ha).mp (f1.mp q))) (fun q => k2 (fun z => q (f1.mpr ((tg_J_le hb0 ha).mpr z))))
theorem ta_lcmp_gt {X1 X2 : tg_R} {a b off : Int} {tgt : Nat} (hE : tg_Am E L kd own cc nL d) (hd0 : decode cc pc = .ok (.lcmp, 1)) (hd : decode cc (pc + 1) = .ok (.ifCond .gt off, 3)) (ht : ((pc + 1 : Nat) : Int) + off = (tgt : Int)) (K1 : b < a → tg_AW E L kd X1 tgt lv st μ) (K2 : ¬ (b < a) → tg_AW E L kd X2 (pc + 1 + 3) lv st μ) : tg_AW E L kd (if b < a then X1 else X2) pc lv (tl_ b :: tl_ a :: st) μ := by
  refine tg_br (fun hs => (List.forall_mem_cons.mp (List.forall_mem_cons.mp hs).2).2) (fun p l e R s m args below meth c D G ad A hEe H locs ls Q hsk k1 k2 => ?_) K1 K2
  subst hEe
  obtain ⟨hx, hb, hml, hown, hts, hK, hD, hA, hlk0, hret, hR, hN⟩ := hE
  have hb0 : tg_inL b := (List.forall_mem_cons.mp hsk).1
  have ha : tg_inL a := (List.forall_mem_cons.mp (List.forall_mem_cons.mp hsk).2).1
  have f1 : 0 < lg_cmp (tg_J a) (tg_J b) ↔ tg_J b < tg_J a := by
    rcases Int.lt_trichotomy (tg_J a).toInt (tg_J b).toInt with h | h | h
    · have h1 : ¬ tg_J b < tg_J a := by rw [Int64.lt_iff_toInt_lt]; omega
      have h2 : ¬ tg_J a = tg_J b := fun q => by rw [q] at h; omega
      have h3 : tg_J a < tg_J b := by rw [Int64.lt_iff_toInt_lt]; omega
      have h4 : tg_J a ≤ tg_J b := by rw [Int64.le_iff_toInt_le]; omega
      have h5 : ¬ tg_J b ≤ tg_J a := by rw [Int64.le_iff_toInt_le]; omega
      rw [tg_cmpv, if_neg h1, if_neg h2]
      simp [h1, h2, h3, h4, h5]
    · have h2 : tg_J a = tg_J b := Int64.toInt_inj.mp h
      have h1 : ¬ tg_J b < tg_J a := by rw [Int64.lt_iff_toInt_lt]; omega
      have h3 : ¬ tg_J a < tg_J b := by rw [Int64.lt_iff_toInt_lt]; omega
      have h4 : tg_J a ≤ tg_J b := by rw [Int64.le_iff_toInt_le]; omega
      have h5 : tg_J b ≤ tg_J a := by rw [Int64.le_iff_toInt_le]; omega
      rw [tg_cmpv, if_neg h1, if_pos h2]
      simp [h1, h2, h3, h4, h5]
    · have h1 : tg_J b < tg_J a := by rw [Int64.lt_iff_toInt_lt]; omega
      have h2 : ¬ tg_J a = tg_J b := fun q => by rw [q] at h; omega
      have h3 : ¬ tg_J a < tg_J b := by rw [Int64.lt_iff_toInt_lt]; omega
      have h4 : ¬ tg_J a ≤ tg_J b := by rw [Int64.le_iff_toInt_le]; omega
      have h5 : tg_J b ≤ tg_J a := by rw [Int64.le_iff_toInt_le]; omega
      rw [tg_cmpv, if_pos h1]
      simp [h1, h2, h3, h4, h5]
  refine W.lcmp hx hb hd0 ?_
  exact lv_if_gt hx hb hd ht (fun q => k1 ((tg_J_lt hb0 ha).mp (f1.mp q))) (fun q => k2 (fun z => q (f1.mpr ((tg_J_lt hb0 ha).mpr z))))
theorem ta_lcmp_le {X1 X2 : tg_R} {a b off : Int} {tgt : Nat} (hE : tg_Am E L kd own cc nL d) (hd0 : decode cc pc = .ok (.lcmp, 1)) (hd : decode cc (pc + 1) = .ok (.ifCond .le off, 3)) (ht : ((pc + 1 : Nat) : Int) + off = (tgt : Int)) (K1 : a ≤ b → tg_AW E L kd X1 tgt lv st μ) (K2 : ¬ (a ≤ b) → tg_AW E L kd X2 (pc + 1 + 3) lv st μ) : tg_AW E L kd (if a ≤ b then X1 else X2) pc lv (tl_ b :: tl_ a :: st) μ := by
  refine tg_br (fun hs => (List.forall_mem_cons.mp (List.forall_mem_cons.mp hs).2).2) (fun p l e R s m args below meth c D G ad A hEe H locs ls Q hsk k1 k2 => ?_) K1 K2
  subst hEe
  obtain ⟨hx, hb, hml, hown, hts, hK, hD, hA, hlk0, hret, hR, hN⟩ := hE
  have hb0 : tg_inL b := (List.forall_mem_cons.mp hsk).1
  have ha : tg_inL a := (List.forall_mem_cons.mp (List.forall_mem_cons.mp hsk).2).1
  have f1 : lg_cmp (tg_J a) (tg_J b) ≤ 0 ↔ tg_J a ≤ tg_J b := by
    rcases Int.lt_trichotomy (tg_J a).toInt (tg_J b).toInt with h | h | h
    · have h1 : ¬ tg_J b < tg_J a := by rw [Int64.lt_iff_toInt_lt]; omega
      have h2 : ¬ tg_J a = tg_J b := fun q => by rw [q] at h; omega
      have h3 : tg_J a < tg_J b := by rw [Int64.lt_iff_toInt_lt]; omega
      have h4 : tg_J a ≤ tg_J b := by rw [Int64.le_iff_toInt_le]; omega
      have h5 : ¬ tg_J b ≤ tg_J a := by rw [Int64.le_iff_toInt_le]; omega
      rw [tg_cmpv, if_neg h1, if_neg h2]
      simp [h1, h2, h3, h4, h5]
    · have h2 : tg_J a = tg_J b := Int64.toInt_inj.mp h
      have h1 : ¬ tg_J b < tg_J a := by rw [Int64.lt_iff_toInt_lt]; omega
      have h3 : ¬ tg_J a < tg_J b := by rw [Int64.lt_iff_toInt_lt]; omega
      have h4 : tg_J a ≤ tg_J b := by rw [Int64.le_iff_toInt_le]; omega
      have h5 : tg_J b ≤ tg_J a := by rw [Int64.le_iff_toInt_le]; omega
      rw [tg_cmpv, if_neg h1, if_pos h2]
      simp [h1, h2, h3, h4, h5]
    · have h1 : tg_J b < tg_J a := by rw [Int64.lt_iff_toInt_lt]; omega
      have h2 : ¬ tg_J a = tg_J b := fun q => by rw [q] at h; omega
      have h3 : ¬ tg_J a < tg_J b := by rw [Int64.lt_iff_toInt_lt]; omega
      have h4 : ¬ tg_J a ≤ tg_J b := by rw [Int64.le_iff_toInt_le]; omega
      have h5 : tg_J b ≤ tg_J a := by rw [Int64.le_iff_toInt_le]; omega
      rw [tg_cmpv, if_pos h1]
      simp [h1, h2, h3, h4, h5]
  refine W.lcmp hx hb hd0 ?_
  exact lv_if_le hx hb hd ht (fun q => k1 ((tg_J_le ha hb0).mp (f1.mp q))) (fun q => k2 (fun z => q (f1.mpr ((tg_J_le ha hb0).mpr z))))
end TGR
end
section
section TGF
variable {E : tg_E} {L : List tg_Sh} {kd : Option FieldType} {X : tg_R} {own : String} {cc : ByteArray} {nL d pc : Nat} {lv st : List tg_V} {μ : tg_Mem}
theorem tg_fs_at {ad : Nat → Nat} {row : Nat → Int} {fs : List (Option Nat)} {j : Nat} {f : Option Nat} (h : fs[j]? = some f) : (fs.mapIdx (tg_fv ad row))[j]? = some (tg_fv ad row j f) := by
  rw [List.getElem?_mapIdx, h]; rfl
theorem tg_fs_set {ad : Nat → Nat} {μ : tg_Mem} {fs : List (Option Nat)} {k j : Nat} {v : Int} (h : fs[j]? = some none) : (fs.mapIdx (tg_fv ad (μ k))).set j (.int (tg_I v)) = fs.mapIdx (tg_fv ad (tg_up μ k j v k)) := by
  apply List.ext_getElem?
  intro i
  rw [List.getElem?_set, List.length_mapIdx, List.getElem?_mapIdx, List.getElem?_mapIdx, tg_up_row]
  by_cases hi : j = i
  · subst hi
    have hk : j < fs.length := (List.getElem?_eq_some_iff.mp h).1
    rw [if_pos rfl, if_pos hk, h]
    show some (Value.int (tg_I v)) = some (Value.int (tg_I (if j = j then v else μ k j)))
    rw [if_pos rfl]
  · rw [if_neg hi]
    cases hf : fs[i]? with
    | none => rfl
    | some f =>
      cases f with
      | none =>
        show some (Value.int (tg_I (μ k i))) = some (Value.int (tg_I (if i = j then v else μ k i)))
        rw [if_neg (fun q => hi q.symm)]
      | some r => rfl
theorem ta_getI {k j idx ci N : Nat} {fs : List (Option Nat)} {C : String} {T : u_T} (hE : tg_Am E L kd own cc nL d) (hd : decode cc pc = .ok (.getfield idx, 3)) (hk : L[k]? = some (.inr (ci, fs))) (hf : fs[j]? = some none)
    (hc : vwCl[ci]? = some (C, T, N)) (hjn : j < N) (hin : ∀ w ∈ u_ws C T N, w ∈ tg_ALL) (hl : Cond.fieldLink own idx (T j).1 (T j).2.1 (T j).2.2.1 ∈ tg_ALL)
    (K : tg_AW E L kd X (pc + 3) lv (ti_ (μ k j) :: st) μ) : tg_AW E L kd X pc lv (tr_ k :: st) μ := by
  obtain ⟨p, l, e, R, s, m, args, below, meth, c, D, G, ad, A⟩ := E
  obtain ⟨hx, hb, hml, hown, hts, hK, hD, hA, hlk0, hret, hR, hN⟩ := hE
  intro hm hl0 hs r μ' hX H locs ls hP hS hlc
  have h9 : tg_inR (μ k j) := (hm k j).2 (by unfold tg_isl; rw [hk])
  have h8 := K hm hl0 (List.forall_mem_cons.mpr ⟨h9, (List.forall_mem_cons.mp hs).2⟩) r μ' hX H locs ls hP hS hlc
  exact va_get (D := D) hx hb hts hin hown hK hP k (tg_W_at hk) hc j hjn (hts _ hl) (fun _ h => h) (tg_fs_at hf) hd h8
theorem ta_getR {k j idx ci N q : Nat} {fs : List (Option Nat)} {C : String} {T : u_T} (hE : tg_Am E L kd own cc nL d) (hd : decode cc pc = .ok (.getfield idx, 3)) (hk : L[k]? = some (.inr (ci, fs))) (hf : fs[j]? = some (some q))
    (hc : vwCl[ci]? = some (C, T, N)) (hjn : j < N) (hin : ∀ w ∈ u_ws C T N, w ∈ tg_ALL) (hl : Cond.fieldLink own idx (T j).1 (T j).2.1 (T j).2.2.1 ∈ tg_ALL)
    (K : tg_AW E L kd X (pc + 3) lv (tr_ q :: st) μ) : tg_AW E L kd X pc lv (tr_ k :: st) μ := by
  obtain ⟨p, l, e, R, s, m, args, below, meth, c, D, G, ad, A⟩ := E
  obtain ⟨hx, hb, hml, hown, hts, hK, hD, hA, hlk0, hret, hR, hN⟩ := hE
  intro hm hl0 hs r μ' hX H locs ls hP hS hlc
  have h8 := K hm hl0 (List.forall_mem_cons.mpr ⟨trivial, (List.forall_mem_cons.mp hs).2⟩) r μ' hX H locs ls hP hS hlc
  exact va_get (D := D) hx hb hts hin hown hK hP k (tg_W_at hk) hc j hjn (hts _ hl) (fun _ h => h) (tg_fs_at hf) hd h8
theorem ta_putI {k j idx ci N : Nat} {v : Int} {fs : List (Option Nat)} {C : String} {T : u_T} {ty : Nat → FieldType} (hE : tg_Am E L kd own cc nL d) (hd : decode cc pc = .ok (.putfield idx, 3)) (hk : L[k]? = some (.inr (ci, fs))) (hf : fs[j]? = some none)
    (hc : vwCl[ci]? = some (C, T, N)) (hjn : j < N) (hin : ∀ w ∈ u_ws C T N, w ∈ tg_ALL) (hl : Cond.fieldLink own idx (T j).1 (T j).2.1 (T j).2.2.1 ∈ tg_ALL)
    (hty : ∀ k, k < N → parseFieldDescriptor (T k).2.2.1 = some (ty k)) (hnm : ∀ a, a < N → ∀ b, b < N → a ≠ b → (T a).2.1 ≠ (T b).2.1) (hfin : (T j).2.2.2 = false) (htj : ty j = .int)
    (K : tg_AW E L kd X (pc + 3) lv st (tg_up μ k j v)) : tg_AW E L kd X pc lv (ti_ v :: tr_ k :: st) μ := by
  obtain ⟨p, l, e, R, s, m, args, below, meth, c, D, G, ad, A⟩ := E
  obtain ⟨hx, hb, hml, hown, hts, hK, hD, hA, hlk0, hret, hR, hN⟩ := hE
  intro hm hl0 hs r μ' hX H locs ls hP hS hlc
  have hv : tg_inR v := (List.forall_mem_cons.mp hs).1
  have hs2 := (List.forall_mem_cons.mp (List.forall_mem_cons.mp hs).2).2
  have hd9 : parseFieldDescriptor (T j).2.2.1 = some .int := by rw [hty j hjn, htj]
  have e9 : (tg_W G ad L μ).set k (ad k, Sum.inr (ci, (fs.mapIdx (tg_fv ad (μ k))).set j (.int (tg_I v)))) = tg_W G ad L (tg_up μ k j v) := by
    rw [tg_fs_set hf]
    exact tg_W_set hk
  refine va_put (D := D) hx hb hts hin ty hty hnm hown hK hP (hD μ) hS k (tg_W_at hk) hc j hjn (hts _ hl) (fun _ h => h) hfin hd9 rfl rfl (by rw [List.length_mapIdx]; exact (List.getElem?_eq_some_iff.mp hf).1) hd (fun H1 locs1 hP1 hD1 hS1 => ?_)
  have hP2 : va_P D vwCl (tg_W G ad L (tg_up μ k j v)) H1 := by rw [← e9]; exact hP1
  exact K (tg_mok_up hm hv) hl0 hs2 r μ' hX H1 locs1 ls hP2 hS1 hlc
theorem tg_in_vp {i : Int} {n : Nat} (hi : tg_inR i) (h0 : 0 ≤ i) (hn : i < n) : vp_in (tg_I i) n ∧ (tg_I i).toNatClampNeg = i.toNat := by
  have e9 : (tg_I i).toInt = i := tg_It hi
  have e8 : (tg_I i).toNatClampNeg = i.toNat := by rw [← Int32.toNat_toInt, e9]
  exact ⟨vp_in_iff.mpr ⟨by rw [e9]; exact h0, by rw [e9]; exact hn⟩, e8⟩
theorem ta_iald {k n : Nat} {i n' : Int} {rs : List Nat} (hE : tg_Am E L kd own cc nL d) (hd : decode cc pc = .ok (.iaload, 1)) (hk : L[k]? = some (.inl (0, n, rs))) (hn : (n : Int) = n')
    (K : 0 ≤ i → i < n' → tg_AW E L kd X (pc + 1) lv (ti_ (μ k i.toNat) :: st) μ) : tg_AW E L kd (tg_ck (0 ≤ i ∧ i < n') X) pc lv (ti_ i :: tr_ k :: st) μ := by
  obtain ⟨p, l, e, R, s, m, args, below, meth, c, D, G, ad, A⟩ := E
  obtain ⟨hx, hb, hml, hown, hts, hK, hD, hA, hlk0, hret, hR, hN⟩ := hE
  intro hm hl0 hs r μ' hX H locs ls hP hS hlc
  subst hn
  obtain ⟨⟨h0, h1⟩, hX⟩ := tg_ck_of hX
  obtain ⟨v1, v2⟩ := tg_in_vp (List.forall_mem_cons.mp hs).1 h0 h1
  have h9 : tg_inR (μ k i.toNat) := (hm k i.toNat).2 (by unfold tg_isl; rw [hk]; rfl)
  have h8 := K h0 h1 hm hl0 (List.forall_mem_cons.mpr ⟨h9, (List.forall_mem_cons.mp (List.forall_mem_cons.mp hs).2).2⟩) r μ' hX H locs ls hP hS hlc
  refine va_iald (D := D) hx hb hK hP k 0 (tg_W_at hk) rfl v1 hd ?_
  rw [v2]
  exact h8
theorem ta_lald {k n : Nat} {i n' : Int} {rs : List Nat} (hE : tg_Am E L kd own cc nL d) (hd : decode cc pc = .ok (.laload, 1)) (hk : L[k]? = some (.inl (1, n, rs))) (hn : (n : Int) = n')
    (K : 0 ≤ i → i < n' → tg_AW E L kd X (pc + 1) lv (tl_ (μ k i.toNat) :: st) μ) : tg_AW E L kd (tg_ck (0 ≤ i ∧ i < n') X) pc lv (ti_ i :: tr_ k :: st) μ := by
  obtain ⟨p, l, e, R, s, m, args, below, meth, c, D, G, ad, A⟩ := E
  obtain ⟨hx, hb, hml, hown, hts, hK, hD, hA, hlk0, hret, hR, hN⟩ := hE
  intro hm hl0 hs r μ' hX H locs ls hP hS hlc
  subst hn
  obtain ⟨⟨h0, h1⟩, hX⟩ := tg_ck_of hX
  obtain ⟨v1, v2⟩ := tg_in_vp (List.forall_mem_cons.mp hs).1 h0 h1
  have h9 : tg_inL (μ k i.toNat) := (hm k i.toNat).1
  have h8 := K h0 h1 hm hl0 (List.forall_mem_cons.mpr ⟨h9, (List.forall_mem_cons.mp (List.forall_mem_cons.mp hs).2).2⟩) r μ' hX H locs ls hP hS hlc
  refine va_lald (D := D) hx hb hK hP k 1 (tg_W_at hk) rfl v1 hd ?_
  rw [v2]
  exact h8
theorem ta_iast {k n : Nat} {i v n' : Int} {rs : List Nat} (hE : tg_Am E L kd own cc nL d) (hd : decode cc pc = .ok (.iastore, 1)) (hk : L[k]? = some (.inl (0, n, rs))) (hn : (n : Int) = n')
    (K : 0 ≤ i → i < n' → tg_AW E L kd X (pc + 1) lv st (tg_up μ k i.toNat v)) : tg_AW E L kd (tg_ck (0 ≤ i ∧ i < n') X) pc lv (ti_ v :: ti_ i :: tr_ k :: st) μ := by
  obtain ⟨p, l, e, R, s, m, args, below, meth, c, D, G, ad, A⟩ := E
  obtain ⟨hx, hb, hml, hown, hts, hK, hD, hA, hlk0, hret, hR, hN⟩ := hE
  intro hm hl0 hs r μ' hX H locs ls hP hS hlc
  subst hn
  obtain ⟨⟨h0, h1⟩, hX⟩ := tg_ck_of hX
  have hs1 := List.forall_mem_cons.mp (List.forall_mem_cons.mp hs).2
  obtain ⟨v1, v2⟩ := tg_in_vp hs1.1 h0 h1
  have hv : tg_inR v := (List.forall_mem_cons.mp hs).1
  have e9 : (tg_W G ad L μ).set k (ad k, Sum.inl (G.1, n, Sum.inl (upd (fun j => tg_I (μ k j)) i.toNat (tg_I v)))) = tg_W G ad L (tg_up μ k i.toNat v) := by
    rw [← tg_W_set hk]
    have e7 : upd (fun j => tg_I (μ k j)) i.toNat (tg_I v) = fun j => tg_I (tg_up μ k i.toNat v k j) := by
      funext j
      rw [tg_up_row]
      show (if j = i.toNat then tg_I v else tg_I (μ k j)) = tg_I (if j = i.toNat then v else μ k j)
      by_cases hj : j = i.toNat
      · rw [if_pos hj, if_pos hj]
      · rw [if_neg hj, if_neg hj]
    rw [e7]; rfl
  refine va_iast (D := D) hx hb hK hP (hD μ) hS k 0 (tg_W_at hk) rfl v1 hd (fun H1 locs1 hP1 hD1 hS1 => ?_)
  rw [v2, e9] at hP1
  exact K h0 h1 (tg_mok_up hm hv) hl0 (List.forall_mem_cons.mp hs1.2).2 r μ' hX H1 locs1 ls hP1 hS1 hlc
theorem ta_last {k n : Nat} {i v n' : Int} {rs : List Nat} (hE : tg_Am E L kd own cc nL d) (hd : decode cc pc = .ok (.lastore, 1)) (hk : L[k]? = some (.inl (1, n, rs))) (hn : (n : Int) = n')
    (K : 0 ≤ i → i < n' → tg_AW E L kd X (pc + 1) lv st (tg_up μ k i.toNat v)) : tg_AW E L kd (tg_ck (0 ≤ i ∧ i < n') X) pc lv (tl_ v :: ti_ i :: tr_ k :: st) μ := by
  obtain ⟨p, l, e, R, s, m, args, below, meth, c, D, G, ad, A⟩ := E
  obtain ⟨hx, hb, hml, hown, hts, hK, hD, hA, hlk0, hret, hR, hN⟩ := hE
  intro hm hl0 hs r μ' hX H locs ls hP hS hlc
  subst hn
  obtain ⟨⟨h0, h1⟩, hX⟩ := tg_ck_of hX
  have hs1 := List.forall_mem_cons.mp (List.forall_mem_cons.mp hs).2
  obtain ⟨v1, v2⟩ := tg_in_vp hs1.1 h0 h1
  have hv : tg_inL v := (List.forall_mem_cons.mp hs).1
  have e9 : (tg_W G ad L μ).set k (ad k, Sum.inl (G.2.1, n, Sum.inr (Sum.inl (vp_updL (fun j => tg_J (μ k j)) i.toNat (tg_J v))))) = tg_W G ad L (tg_up μ k i.toNat v) := by
    rw [← tg_W_set hk]
    have e7 : vp_updL (fun j => tg_J (μ k j)) i.toNat (tg_J v) = fun j => tg_J (tg_up μ k i.toNat v k j) := by
      funext j
      rw [tg_up_row]
      show (if j = i.toNat then tg_J v else tg_J (μ k j)) = tg_J (if j = i.toNat then v else μ k j)
      by_cases hj : j = i.toNat
      · rw [if_pos hj, if_pos hj]
      · rw [if_neg hj, if_neg hj]
    rw [e7]; rfl
  refine va_last (D := D) hx hb hK hP (hD μ) hS k 1 (tg_W_at hk) rfl v1 hd (fun H1 locs1 hP1 hD1 hS1 => ?_)
  rw [v2, e9] at hP1
  exact K h0 h1 (tg_mok_upL hm (by unfold tg_isl; rw [hk]; rfl) hv) hl0 (List.forall_mem_cons.mp hs1.2).2 r μ' hX H1 locs1 ls hP1 hS1 hlc
theorem ta_aald {k n : Nat} {i n' : Int} {rs : List Nat} (hE : tg_Am E L kd own cc nL d) (hd : decode cc pc = .ok (.aaload, 1)) (hk : L[k]? = some (.inl (2, n, rs))) (hn : (n : Int) = n') (hlen : rs.length = n)
    (K : 0 ≤ i → i < n' → tg_AW E L kd X (pc + 1) lv (tr_ (rs.getD i.toNat 0) :: st) μ) : tg_AW E L kd (tg_ck (0 ≤ i ∧ i < n') X) pc lv (ti_ i :: tr_ k :: st) μ := by
  obtain ⟨p, l, e, R, s, m, args, below, meth, c, D, G, ad, A⟩ := E
  obtain ⟨hx, hb, hml, hown, hts, hK, hD, hA, hlk0, hret, hR, hN⟩ := hE
  intro hm hl0 hs r μ' hX H locs ls hP hS hlc
  subst hn
  obtain ⟨⟨h0, h1⟩, hX⟩ := tg_ck_of hX
  obtain ⟨v1, v2⟩ := tg_in_vp (List.forall_mem_cons.mp hs).1 h0 h1
  have h8 := K h0 h1 hm hl0 (List.forall_mem_cons.mpr ⟨trivial, (List.forall_mem_cons.mp (List.forall_mem_cons.mp hs).2).2⟩) r μ' hX H locs ls hP hS hlc
  refine va_aldq (D := D) hx hb hK hP k 2 (tg_W_at hk) rfl v1 hd ?_
  rw [v2]
  have hi : i.toNat < rs.length := by rw [hlen]; omega
  have e9 : va_rf ((rs[i.toNat]?).map ad) = .ref (ad (rs.getD i.toNat 0)) := by
    rw [List.getD_eq_getElem?_getD, List.getElem?_eq_getElem hi]; rfl
  show W p l e R s m args below meth c H locs 0 0 _ (F0 m (pc + 1) ls (va_rf ((rs[i.toNat]?).map ad) :: st.map (tg_cv ad)))
  rw [e9]
  exact h8
theorem ta_alen {k n a : Nat} {v : Int} {rs : List Nat} (hE : tg_Am E L kd own cc nL d) (hd : decode cc pc = .ok (.arraylength, 1)) (hk : L[k]? = some (.inl (a, n, rs))) (ha : a = 0) (hn : (n : Int) = v) (hv : n < 2147483648)
    (K : tg_AW E L kd X (pc + 1) lv (ti_ v :: st) μ) : tg_AW E L kd X pc lv (tr_ k :: st) μ := by
  obtain ⟨p, l, e, R, s, m, args, below, meth, c, D, G, ad, A⟩ := E
  obtain ⟨hx, hb, hml, hown, hts, hK, hD, hA, hlk0, hret, hR, hN⟩ := hE
  intro hm hl0 hs r μ' hX H locs ls hP hS hlc
  subst hn; subst ha
  have h8 := K hm hl0 (List.forall_mem_cons.mpr ⟨⟨by omega, by omega⟩, (List.forall_mem_cons.mp hs).2⟩) r μ' hX H locs ls hP hS hlc
  exact va_alen (D := D) hx hb hK hP k 0 (tg_W_at hk) rfl (show Int32.ofNat n = tg_I (n : Int) from Int32.ofInt_eq_ofNat.symm) hd h8
-- ends
theorem ta_iret {a : Int} (hE : tg_Am E L (some .int) own cc nL d) (hd : decode cc pc = .ok (.ireturn, 1)) : tg_AW E L (some .int) (some (a, μ)) pc lv [ti_ a] μ := by
  obtain ⟨p, l, e, R, s, m, args, below, meth, c, D, G, ad, A⟩ := E
  obtain ⟨hx, hb, hml, hown, hts, hK, hD, hA, hlk0, hret, hR, hN⟩ := hE
  intro hm hl0 hs r μ' hX H locs ls hP hS hlc
  cases hX
  exact W.iret hx hb hret (fun t ht hW => ⟨rfl, ⟨(List.forall_mem_cons.mp hs).1, hm⟩, ⟨by rw [ht]; exact hP, va_K.moved hW.alike hK, fun q hq => va_Nw.warmM hW (hN q hq)⟩, hS.F ht⟩) hS.2.2 hd hlk0
theorem ta_lret {a : Int} (hE : tg_Am E L (some .long) own cc nL d) (hd : decode cc pc = .ok (.lreturn, 1)) : tg_AW E L (some .long) (some (a, μ)) pc lv [tl_ a] μ := by
  obtain ⟨p, l, e, R, s, m, args, below, meth, c, D, G, ad, A⟩ := E
  obtain ⟨hx, hb, hml, hown, hts, hK, hD, hA, hlk0, hret, hR, hN⟩ := hE
  intro hm hl0 hs r μ' hX H locs ls hP hS hlc
  cases hX
  exact W.lret hx hb hret (fun t ht hW => ⟨rfl, ⟨(List.forall_mem_cons.mp hs).1, hm⟩, ⟨by rw [ht]; exact hP, va_K.moved hW.alike hK, fun q hq => va_Nw.warmM hW (hN q hq)⟩, hS.F ht⟩) hS.2.2 hd hlk0
theorem ta_zret {a : Int} (hE : tg_Am E L (some .boolean) own cc nL d) (hd : decode cc pc = .ok (.ireturn, 1)) (ha : a = 0 ∨ a = 1) : tg_AW E L (some .boolean) (some (a, μ)) pc lv [ti_ a] μ := by
  obtain ⟨p, l, e, R, s, m, args, below, meth, c, D, G, ad, A⟩ := E
  obtain ⟨hx, hb, hml, hown, hts, hK, hD, hA, hlk0, hret, hR, hN⟩ := hE
  intro hm hl0 hs r μ' hX H locs ls hP hS hlc
  cases hX
  have h9 : narrow .boolean (.int (tg_I a)) = .int (tg_I a) := by rcases ha with rfl | rfl <;> rfl
  exact W.zret hx hb hret h9 (fun t ht hW => ⟨rfl, ⟨ha, hm⟩, ⟨by rw [ht]; exact hP, va_K.moved hW.alike hK, fun q hq => va_Nw.warmM hW (hN q hq)⟩, hS.F ht⟩) hS.2.2 hd hlk0
theorem ta_vret (hE : tg_Am E L none own cc nL d) (hd : decode cc pc = .ok (.return_, 1)) : tg_AW E L none (some (0, μ)) pc lv [] μ := by
  obtain ⟨p, l, e, R, s, m, args, below, meth, c, D, G, ad, A⟩ := E
  obtain ⟨hx, hb, hml, hown, hts, hK, hD, hA, hlk0, hret, hR, hN⟩ := hE
  intro hm hl0 hs r μ' hX H locs ls hP hS hlc
  cases hX
  exact W.vret hx hb hret (fun t ht hW => ⟨rfl, ⟨trivial, hm⟩, ⟨by rw [ht]; exact hP, va_K.moved hW.alike hK, fun q hq => va_Nw.warmM hW (hN q hq)⟩, hS.F ht⟩) hS.2.2 hd hlk0
theorem ta_aret {k : Nat} {C : String} (hE : tg_Am E L (some (.object C)) own cc nL d) (hd : decode cc pc = .ok (.areturn, 1)) : tg_AW E L (some (.object C)) (some ((k : Int), μ)) pc lv [tr_ k] μ := by
  obtain ⟨p, l, e, R, s, m, args, below, meth, c, D, G, ad, A⟩ := E
  obtain ⟨hx, hb, hml, hown, hts, hK, hD, hA, hlk0, hret, hR, hN⟩ := hE
  intro hm hl0 hs r μ' hX H locs ls hP hS hlc
  cases hX
  exact W.aret hx hb hret (Or.inl ⟨C, rfl⟩) (Or.inr ⟨ad k, rfl⟩) (fun t ht hW => ⟨rfl, ⟨trivial, hm⟩, ⟨by rw [ht]; exact hP, va_K.moved hW.alike hK, fun q hq => va_Nw.warmM hW (hN q hq)⟩, hS.F ht⟩) hS.2.2 hd hlk0
-- calls
def tg_ps (kd : Option FieldType) (r : Int) (st : List tg_V) : List tg_V := match kd with
  | none => st
  | some .long => tl_ r :: st
  | some (.object _) => tr_ r.toNat :: st
  | some _ => ti_ r :: st
theorem tg_ps_ok {kd2 : Option FieldType} {r : Int} (h : tg_rok kd2 r) (hs : ∀ v ∈ st, tg_vok v) : ∀ v ∈ tg_ps kd2 r st, tg_vok v := by
  match kd2, h with
  | none, _ => exact hs
  | some .long, h => exact List.forall_mem_cons.mpr ⟨h, hs⟩
  | some (.object _), _ => exact List.forall_mem_cons.mpr ⟨trivial, hs⟩
  | some .boolean, h => exact List.forall_mem_cons.mpr ⟨by rcases h with rfl | rfl <;> exact ⟨by decide, by decide⟩, hs⟩
  | some .int, h => exact List.forall_mem_cons.mpr ⟨h, hs⟩
  | some .byte, h => exact List.forall_mem_cons.mpr ⟨h, hs⟩
  | some .char, h => exact List.forall_mem_cons.mpr ⟨h, hs⟩
  | some .short, h => exact List.forall_mem_cons.mpr ⟨h, hs⟩
  | some .float, h => exact List.forall_mem_cons.mpr ⟨h, hs⟩
  | some .double, h => exact List.forall_mem_cons.mpr ⟨h, hs⟩
  | some (.array _), h => exact List.forall_mem_cons.mpr ⟨h, hs⟩
theorem tg_ps_cv {kd2 : Option FieldType} {r : Int} (ad : Nat → Nat) : (tg_ps kd2 r st).map (tg_cv ad) = (tg_rv ad kd2 r).toList ++ st.map (tg_cv ad) := by
  match kd2 with
  | none => rfl
  | some .long => rfl
  | some (.object _) => rfl
  | some .boolean => rfl
  | some .int => rfl
  | some .byte => rfl
  | some .char => rfl
  | some .short => rfl
  | some .float => rfl
  | some .double => rfl
  | some (.array _) => rfl
/-- what stands behind each call: the machine's part as a run, then the rest -/
theorem tg_after {p : Program} {l : Launch} {e : Env} {R : Room} {s : State} {m : MethodId} {args : Array Value} {below : List Frame} {meth : Method} {c : Code} {D : va_G} {G : tg_G} {ad : Nat → Nat} {A : Nat → Prop} {H : Heap} {locs : List Loc} {ls : Array Slot} {Q : State → Prop} {stk : List Value} {kd2 : Option FieldType} {r : Int} {μ1 : tg_Mem} {a : Array Value} {rest : List tg_V}
    (hD : ∀ μ, va_D A (tg_W G ad L μ)) (hA : ∀ q : Nat, s.heap.size ≤ q → A q) (hS : va_S A s.heap H locs)
    (hr : va_Run p l e R s m args below meth c H locs 0 0 0 0 (F0 m pc ls stk) (rest.map (tg_cv ad)) (tg_Q (tg_rv ad kd2 r) (tg_rok kd2 r ∧ tg_mok L μ1) (tg_B D G ad L μ1) (va_A (tg_W G ad L μ) H.size) a) (va_A (tg_W G ad L μ) H.size))
    (kk : tg_rok kd2 r → tg_mok L μ1 → ∀ (H1 : Heap) (locs1 : List Loc), va_P D vwCl (tg_W G ad L μ1) H1 → va_S A s.heap H1 locs1 → W p l e R s m args below meth c H1 locs1 0 0 Q (F0 m (pc + 3) ls ((tg_ps kd2 r rest).map (tg_cv ad)))) : W p l e R s m args below meth c H locs 0 0 Q (F0 m pc ls stk) := by
  intro T hT X
  obtain ⟨v, st₀, t, T', L', h0, X', hL, e1, e2, ⟨hv, ⟨q1, q2⟩, hB, hz, hk⟩, st⟩ := hr T hT X
  rw [h0] at hz hk
  have hF : ∀ q, va_A (tg_W G ad L μ) H.size q → A q := by
    intro q hq
    rcases hq with ⟨k, ee, hq⟩ | hq
    · exact (hD μ).2 k _ hq
    · exact hA q (Nat.le_trans hS.1 hq)
  have hv2 : v = tg_rv ad kd2 r := by cases hv; rfl
  obtain ⟨t2, a1, b1⟩ := kk q1 q2 T'.heap (locs ++ L') (by rw [e1]; exact hB.1)
    ⟨Nat.le_trans hS.1 (by rw [e1]; exact hz), fun q h1 h2 => by rw [e1, hk q (Nat.lt_of_lt_of_le h1 hS.1) (fun z => h2 (hF q z))]; exact hS.2.1 q h1 h2, fun q hq => by
      rcases List.mem_append.mp hq with h | h
      · exact hS.2.2 q h
      · exact hF _ (hL q h)⟩ T' rfl X'
  refine ⟨t2, st t2 ?_, b1⟩
  rw [tg_ps_cv, ← hv2] at a1
  exact a1
theorem tg_blind {D : va_G} {G : tg_G} {ad : Nat → Nat} {sz : Nat} {tas : List Value} : FrameBlind (va_Pc tas (fun U => U.heap.size = sz ∧ tg_B D G ad L μ U ∧ va_D (fun _ => True) (tg_W G ad L μ))) :=
  fun a U g mk q => by
    obtain ⟨q0, q1, ⟨qP, qK, qN⟩, qD⟩ := q
    exact ⟨q0, q1, ⟨qP, va_K.moved (u := U) (U := U.calling g mk a) (Vm.Alike.refl U.vm) qK, fun z hz => va_Nw.same rfl rfl (qN z hz)⟩, qD⟩
theorem tg_preU {p : Program} {s : State} {D : va_G} {G : tg_G} {ad : Nat → Nat} {A : Nat → Prop} {H : Heap} {tas : List Value} (hP : va_P D vwCl (tg_W G ad L μ) H) (hK : va_K D vwCl (tg_tys G) s) (hN : tg_nest s) (hD : ∀ μ, va_D A (tg_W G ad L μ)) :
    ∀ U : State, U.heap = H → s.WarmedH U.vm → va_Pc tas (fun U => U.heap.size = H.size ∧ tg_B D G ad L μ U ∧ va_D (fun _ => True) (tg_W G ad L μ)) tas.toArray U :=
  fun U hU hW => ⟨rfl, by rw [hU], ⟨by rw [hU]; exact hP, va_K.moved hW.alike hK, fun z hz => va_Nw.warmM hW (hN z hz)⟩, (hD μ).weaken (fun _ _ _ _ => trivial)⟩
theorem tg_words {big : List Cond} {y : MethodName} {bytes : ByteArray} {maxL : Nat} {kd2 : Option FieldType} (hb : ∀ w ∈ tg_ALL, w ∈ big) (hco : Cond.code y bytes maxL kd2 ∈ tg_ALL) : GoodIn big (.code y bytes maxL kd2 :: tg_ALL) := by
  intro w hw
  rcases List.mem_cons.mp hw with rfl | hw
  · exact ⟨hb _ hco, good_of_word (List.mem_filter.mp hco).2⟩
  · exact tg_all_good hb w hw
theorem ta_callV {idx maxL d2 k ci N : Nat} {y : MethodName} {bytes : ByteArray} {kd2 : Option FieldType} {tas stk : List tg_V} {X1 : tg_R} {g : Int → tg_Mem → tg_R} {fs : List (Option Nat)} {C : String} {T : u_T}
    (hE : tg_Am E L kd own cc nL d) (hd : decode cc pc = .ok (.invokevirtual idx, 3)) (hC : tg_C y bytes maxL kd2 d2 L (tr_ k :: tas) X1 μ)
    (hml : Cond.methodLink own idx y ∈ tg_ALL) (him : Cond.instanceMethod y ∈ tg_ALL) (hse : Cond.selects C y y ∈ tg_ALL) (hini : Cond.initialized C ∈ tg_ALL) (hco : Cond.code y bytes maxL kd2 ∈ tg_ALL)
    (hy : y.cls = C ∧ y.cls ≠ "java/lang/invoke/MethodHandle" ∧ y.cls ≠ "java/lang/invoke/VarHandle" ∧ (parseMethodDescriptor y.desc).map (fun q => q.parameters.length) = some tas.length) (hdd : d2 + 1 ≤ d ∧ 8 + (maxL + 11) + 40 * d2 ≤ 40 * d)
    (hk : L[k]? = some (.inr (ci, fs))) (hci : vwCl[ci]? = some (C, T, N)) (hstk : tas.reverse ++ tr_ k :: st = stk) (hn : nL = lv.length) (hW8 : ∀ ad, ((st.map (tg_cv ad)).map fun v => v.category).sum ≤ 8)
    (K : ∀ (r : Int) (μ1 : tg_Mem), X1 = some (r, μ1) → tg_rok kd2 r → tg_AW E L kd (g r μ1) (pc + 3) lv (tg_ps kd2 r st) μ1) : tg_AW E L kd (tg_bd X1 g) pc lv stk μ := by
  obtain ⟨p, l, e, R, s, m, args, below, meth, c, D, G, ad, A⟩ := E
  obtain ⟨hx, hb, hml0, hown, hts, hK, hD, hA, hlk0, hret, hR, hN⟩ := id hE
  subst hstk; subst hR
  intro hm hl0 hs r μ' hX H locs ls hP hS hlc
  obtain ⟨a, μ1, hX1, hX2⟩ := tg_bd_of hX
  have hst := fun v hv => hs v (List.mem_append_right _ (List.mem_cons_of_mem _ hv))
  have hta : ∀ v ∈ (tr_ k :: tas), tg_vok v := List.forall_mem_cons.mpr ⟨trivial, fun v hv => hs v (List.mem_append_left _ (List.mem_reverse.mpr hv))⟩
  have hM := hC hm hta a μ1 hX1 l D G ad H.size
  have hPre := tg_preU (p := p) (tas := (tr_ k :: tas).map (tg_cv ad)) hP hK hN hD
  have hsz : ls.size = nL := by rw [hn]; exact hlc.1
  have cw : CallW (tg_rm d) s args own C idx y bytes maxL kd2 (.code y bytes maxL kd2 :: tg_ALL) (tg_rm d2) 0 0 (tas.map (tg_cv ad)).length := by
    rw [List.length_map]
    exact ⟨callB_of tas.length hts (tg_words (fun _ h => h) hco) rfl rfl rfl (hts _ (by rw [hy.1]; exact hini)) (hts _ hml) hy.2 hdd, hts _ him, hts _ hse⟩
  have hrun := va_runV (As := tas.map (tg_cv ad)) (rest := st.map (tg_cv ad)) (g := F0 m pc ls ((tas.reverse ++ tr_ k :: st).map (tg_cv ad))) (cells := 0) (slots := 0) (H := H) (locs := locs) (p := p) (l := l) (e := e) (below := below) (meth := meth) (nL := nL)
    ⟨hx, hb, hml0, hown, hts⟩ hM cw ⟨tg_blind, va_recv hK hP hci (tg_W_at hk), hPre⟩ rfl rfl hsz (by simp [List.map_append, List.map_reverse]; rfl) (lv_room (hW8 ad)) hd ⟨Nat.le_refl 0, Nat.le_refl 0⟩
  exact tg_after hD hA hS hrun (fun h1 h2 H1 locs1 hP1 hS1 => K a μ1 hX1 h1 h2 hl0 (tg_ps_ok h1 hst) r μ' hX2 H1 locs1 ls hP1 hS1 hlc)
theorem ta_callS {idx maxL d2 : Nat} {y : MethodName} {bytes : ByteArray} {kd2 : Option FieldType} {tas stk : List tg_V} {X1 : tg_R} {g : Int → tg_Mem → tg_R}
    (hE : tg_Am E L kd own cc nL d) (hd : decode cc pc = .ok (.invokestatic idx, 3)) (hC : tg_C y bytes maxL kd2 d2 L tas X1 μ)
    (hml : Cond.methodLink own idx y ∈ tg_ALL) (hsta : Cond.static y ∈ tg_ALL) (hini : Cond.initialized y.cls ∈ tg_ALL) (hco : Cond.code y bytes maxL kd2 ∈ tg_ALL)
    (hy : y.cls ≠ "java/lang/invoke/MethodHandle" ∧ y.cls ≠ "java/lang/invoke/VarHandle" ∧ (parseMethodDescriptor y.desc).map (fun q => q.parameters.length) = some tas.length) (hdd : d2 + 1 ≤ d ∧ 8 + (maxL + 11) + 40 * d2 ≤ 40 * d)
    (hstk : tas.reverse ++ st = stk) (hn : nL = lv.length) (hW8 : ∀ ad, ((st.map (tg_cv ad)).map fun v => v.category).sum ≤ 8)
    (K : ∀ (r : Int) (μ1 : tg_Mem), X1 = some (r, μ1) → tg_rok kd2 r → tg_AW E L kd (g r μ1) (pc + 3) lv (tg_ps kd2 r st) μ1) : tg_AW E L kd (tg_bd X1 g) pc lv stk μ := by
  obtain ⟨p, l, e, R, s, m, args, below, meth, c, D, G, ad, A⟩ := E
  obtain ⟨hx, hb, hml0, hown, hts, hK, hD, hA, hlk0, hret, hR, hN⟩ := id hE
  subst hstk; subst hR
  intro hm hl0 hs r μ' hX H locs ls hP hS hlc
  obtain ⟨a, μ1, hX1, hX2⟩ := tg_bd_of hX
  have hst := fun v hv => hs v (List.mem_append_right _ hv)
  have hta : ∀ v ∈ tas, tg_vok v := fun v hv => hs v (List.mem_append_left _ (List.mem_reverse.mpr hv))
  have hM := hC hm hta a μ1 hX1 l D G ad H.size
  have hPre := tg_preU (p := p) (tas := tas.map (tg_cv ad)) hP hK hN hD
  have hsz : ls.size = nL := by rw [hn]; exact hlc.1
  have cw : CallB (tg_rm d) s args own idx y bytes maxL kd2 (.code y bytes maxL kd2 :: tg_ALL) (tg_rm d2) 0 0 (tas.map (tg_cv ad)).length ∧ (Cond.static y).before args s = true := by
    rw [List.length_map]
    exact ⟨callB_of tas.length hts (tg_words (fun _ h => h) hco) rfl rfl rfl (hts _ hini) (hts _ hml) hy hdd, hts _ hsta⟩
  have hrun := va_runS (As := tas.map (tg_cv ad)) (rest := st.map (tg_cv ad)) (g := F0 m pc ls ((tas.reverse ++ st).map (tg_cv ad))) (cells := 0) (slots := 0) (H := H) (locs := locs) (p := p) (l := l) (e := e) (below := below) (meth := meth) (nL := nL)
    ⟨hx, hb, hml0, hown, hts⟩ hM cw ⟨tg_blind, hPre⟩ rfl rfl hsz (by simp [List.map_append, List.map_reverse]) (lv_room (hW8 ad)) hd ⟨Nat.le_refl 0, Nat.le_refl 0⟩
  exact tg_after hD hA hS hrun (fun h1 h2 H1 locs1 hP1 hS1 => K a μ1 hX1 h1 h2 hl0 (tg_ps_ok h1 hst) r μ' hX2 H1 locs1 ls hP1 hS1 hlc)
theorem ta_callN {idx maxL d2 : Nat} {y : MethodName} {bytes : ByteArray} {kd2 : Option FieldType} {tas stk : List tg_V} {X1 : tg_R} {g : Int → tg_Mem → tg_R} {host : String}
    (hE : tg_Am E L kd own cc nL d) (hd : decode cc pc = .ok (.invokestatic idx, 3)) (hC : tg_C y bytes maxL kd2 d2 L tas X1 μ)
    (hnl : (own, idx, y, host) ∈ tg_nests) (hsta : Cond.static y ∈ tg_ALL) (hini : Cond.initialized y.cls ∈ tg_ALL) (hco : Cond.code y bytes maxL kd2 ∈ tg_ALL)
    (hy : y.cls ≠ "java/lang/invoke/MethodHandle" ∧ y.cls ≠ "java/lang/invoke/VarHandle" ∧ (parseMethodDescriptor y.desc).map (fun q => q.parameters.length) = some tas.length) (hdd : d2 + 1 ≤ d ∧ 8 + (maxL + 11) + 40 * d2 ≤ 40 * d)
    (hstk : tas.reverse ++ st = stk) (hn : nL = lv.length) (hW8 : ∀ ad, ((st.map (tg_cv ad)).map fun v => v.category).sum ≤ 8)
    (K : ∀ (r : Int) (μ1 : tg_Mem), X1 = some (r, μ1) → tg_rok kd2 r → tg_AW E L kd (g r μ1) (pc + 3) lv (tg_ps kd2 r st) μ1) : tg_AW E L kd (tg_bd X1 g) pc lv stk μ := by
  obtain ⟨p, l, e, R, s, m, args, below, meth, c, D, G, ad, A⟩ := E
  obtain ⟨hx, hb, hml0, hown, hts, hK, hD, hA, hlk0, hret, hR, hN⟩ := id hE
  subst hstk; subst hR
  intro hm hl0 hs r μ' hX H locs ls hP hS hlc
  obtain ⟨a, μ1, hX1, hX2⟩ := tg_bd_of hX
  have hst := fun v hv => hs v (List.mem_append_right _ hv)
  have hta : ∀ v ∈ tas, tg_vok v := fun v hv => hs v (List.mem_append_left _ (List.mem_reverse.mpr hv))
  have hM := hC hm hta a μ1 hX1 l D G ad H.size
  have hPre := tg_preU (p := p) (tas := tas.map (tg_cv ad)) hP hK hN hD
  have hsz : ls.size = nL := by rw [hn]; exact hlc.1
  have cw : va_CN (tg_rm d) s args own idx y host bytes maxL kd2 (.code y bytes maxL kd2 :: tg_ALL) (tg_rm d2) 0 0 (tas.map (tg_cv ad)).length ∧ (Cond.static y).before args s = true ∧ True := by
    rw [List.length_map]
    exact ⟨va_cnB tas.length hts (tg_words (fun _ h => h) hco) rfl rfl rfl (hN _ hnl) (hts _ hini) hy hdd, hts _ hsta, trivial⟩
  have hrun := va_runSN (As := tas.map (tg_cv ad)) (rest := st.map (tg_cv ad)) (g := F0 m pc ls ((tas.reverse ++ st).map (tg_cv ad))) (cells := 0) (slots := 0) (H := H) (locs := locs) (p := p) (l := l) (e := e) (below := below) (meth := meth) (nL := nL)
    ⟨hx, hb, hml0, hown, hts⟩ hM cw ⟨tg_blind, hPre⟩ rfl rfl hsz (by simp [List.map_append, List.map_reverse]) (lv_room (hW8 ad)) hd ⟨Nat.le_refl 0, Nat.le_refl 0⟩
  exact tg_after hD hA hS hrun (fun h1 h2 H1 locs1 hP1 hS1 => K a μ1 hX1 h1 h2 hl0 (tg_ps_ok h1 hst) r μ' hX2 H1 locs1 ls hP1 hS1 hlc)
-- the entry of a method
def tg_fl (tas : List tg_V) : List tg_V := tas.flatMap (fun v => match v with
  | .inr (.inl a) => [tl_ a, tj_]
  | v => [v])
def tg_l0 (tas : List tg_V) (n : Nat) : List tg_V := tg_fl tas ++ List.replicate (n - (tg_fl tas).length) tj_
theorem tg_fl_sl (ad : Nat → Nat) (tas : List tg_V) (hj : ∀ v ∈ tas, v ≠ tj_) : (lg_sl (tas.map (tg_cv ad))).length = (tg_fl tas).length ∧ ∀ (b i : Nat) (v : tg_V), (tg_fl tas)[i]? = some v → v ≠ tj_ → (b + i, tg_cv ad v) ∈ lv_args b (tas.map (tg_cv ad)) := by
  induction tas with
  | nil => exact ⟨rfl, fun b i v h => by cases h⟩
  | cons a tas ih =>
    obtain ⟨ih1, ih2⟩ := ih (fun v hv => hj v (List.mem_cons_of_mem _ hv))
    have e0 : lg_sl ((a :: tas).map (tg_cv ad)) = (if (tg_cv ad a).category = 2 then [Slot.val (tg_cv ad a), .second] else [.val (tg_cv ad a)]) ++ lg_sl (tas.map (tg_cv ad)) := rfl
    have e2 : lv_args = lv_args := rfl
    match a with
    | .inr (.inl z) =>
      have e1 : tg_fl (Sum.inr (Sum.inl z) :: tas) = [tl_ z, tj_] ++ tg_fl tas := rfl
      refine ⟨by rw [e0, e1, List.length_append, List.length_append, ih1]; rfl, fun b i v h hv => ?_⟩
      rw [e1] at h
      match i, h with
      | 0, h => cases h; exact List.mem_cons_self
      | 1, h => cases h; exact absurd rfl hv
      | i + 2, h =>
        have := ih2 (b + 2) i v h hv
        rw [show b + (i + 2) = b + 2 + i from by omega]
        exact List.mem_cons_of_mem _ this
    | .inl z =>
      have e1 : tg_fl (Sum.inl z :: tas) = [ti_ z] ++ tg_fl tas := rfl
      refine ⟨by rw [e0, e1, List.length_append, List.length_append, ih1]; rfl, fun b i v h hv => ?_⟩
      rw [e1] at h
      match i, h with
      | 0, h => cases h; exact List.mem_cons_self
      | i + 1, h =>
        have := ih2 (b + 1) i v h hv
        rw [show b + (i + 1) = b + 1 + i from by omega]
        exact List.mem_cons_of_mem _ this
    | .inr (.inr (.inl z)) =>
      have e1 : tg_fl (Sum.inr (Sum.inr (Sum.inl z)) :: tas) = [tr_ z] ++ tg_fl tas := rfl
      refine ⟨by rw [e0, e1, List.length_append, List.length_append, ih1]; rfl, fun b i v h hv => ?_⟩
      rw [e1] at h
      match i, h with
      | 0, h => cases h; exact List.mem_cons_self
      | i + 1, h =>
        have := ih2 (b + 1) i v h hv
        rw [show b + (i + 1) = b + 1 + i from by omega]
        exact List.mem_cons_of_mem _ this
    | .inr (.inr (.inr ())) => exact absurd rfl (hj _ List.mem_cons_self)
theorem tg_fl_ok (tas : List tg_V) (h : ∀ v ∈ tas, tg_vok v) (n : Nat) : ∀ v ∈ tg_l0 tas n, tg_vok v := by
  intro v hv
  rcases List.mem_append.mp hv with hv | hv
  · obtain ⟨w, hw, hv⟩ := List.mem_flatMap.mp hv
    have hw2 := h w hw
    match w, hw2, hv with
    | .inr (.inl z), hw2, hv =>
      rcases List.mem_cons.mp hv with rfl | hv
      · exact hw2
      · rcases List.mem_cons.mp hv with rfl | hv
        · trivial
        · cases hv
    | .inl z, hw2, hv => rcases List.mem_cons.mp hv with rfl | hv; exact hw2; cases hv
    | .inr (.inr z), hw2, hv => rcases List.mem_cons.mp hv with rfl | hv; exact hw2; cases hv
  · rw [List.eq_of_mem_replicate hv]; trivial
theorem ta_enter {y : MethodName} {n : Nat} {tas lv0 : List tg_V} (hy : plainName y.cls = true) (hown : y.cls = own) (hj : ∀ v ∈ tas, v ≠ tj_) (hlen : (tg_fl tas).length ≤ n) (hlv : tg_l0 tas n = lv0)
    (K : ∀ E, tg_Am E L kd own cc n d → tg_AW E L kd X 0 lv0 [] μ) : tg_C y cc n kd d L tas X μ := by
  intro hm hok r μ' hX l D G ad sz
  refine Met.ofW (cc := cc) (maxL := n) (ret := kd) hy rfl ?_
  intro p e s m args below meth c s₁ B hml hv
  obtain ⟨rfl, hsz, ⟨hP, hK, hN⟩, hD0⟩ := hv
  have hts := atoms_spec (ws := .code y cc n kd :: tg_ALL) B.pre
  have hown2 : s.vm.findClass own = some m.cls := by rw [← hown]; exact findClass_of_methodNamed B.named
  subst hsz; subst hlv
  have hD : ∀ μ2, va_D (va_A (tg_W G ad L μ) s.heap.size) (tg_W G ad L μ2) := by
    intro μ2
    have hw : ∀ (μ3 : tg_Mem) (i : Nat) (q : Nat × va_E), (tg_W G ad L μ3)[i]? = some q → ∃ e2, (tg_W G ad L μ)[i]? = some (q.1, e2) := by
      intro μ3 i q hq
      unfold tg_W at hq ⊢
      rw [List.getElem?_mapIdx] at hq ⊢
      cases hL : L[i]? with
      | none => rw [hL] at hq; cases hq
      | some sh => rw [hL] at hq; cases hq; exact ⟨_, rfl⟩
    refine ⟨fun i j a b ha hb hab => ?_, fun k q hq => ?_⟩
    · obtain ⟨e1, h1⟩ := hw μ2 i a ha
      obtain ⟨e2, h2⟩ := hw μ2 j b hb
      exact hD0.1 i j _ _ h1 h2 hab
    · obtain ⟨e1, h1⟩ := hw μ2 k q hq
      exact Or.inl ⟨k, e1, h1⟩
  have hE : tg_Am (p, l, e, (headSpec (.code y cc n kd :: tg_ALL) (tg_rm d)).room, s, m, (tas.map (tg_cv ad)).toArray, below, meth, c, D, G, ad, va_A (tg_W G ad L μ) s.heap.size) L kd own cc n d :=
    ⟨B.exec, B.bytes, hml, hown2, fun w hw => hts w (List.mem_cons_of_mem _ hw), hK, hD, fun q h => Or.inr h, B.notSynchronized, B.returns, rfl, hN⟩
  obtain ⟨f1, f2⟩ := tg_fl_sl ad tas hj
  have hl := lv_entry (tas.map (tg_cv ad)) (n := n) (by rw [f1]; exact hlen)
  rw [lg_entry_eq]
  refine K _ hE hm (tg_fl_ok tas hok n) (fun _ h => by cases h) r μ' hX s.heap [] _ hP va_S.rf ⟨?_, hl.2.1, fun i v hi hv => ?_⟩
  · rw [hl.1]
    unfold tg_l0
    rw [List.length_append, List.length_replicate]
    omega
  · have hi2 : (tg_fl tas)[i]? = some v := by
      unfold tg_l0 at hi
      rw [List.getElem?_append] at hi
      by_cases hlt : i < (tg_fl tas).length
      · rw [if_pos hlt] at hi; exact hi
      · rw [if_neg hlt] at hi
        exact absurd (List.eq_of_mem_replicate (List.mem_of_getElem? hi)) hv
    have h9 := f2 0 i v hi2 hv
    rw [Nat.zero_add] at h9
    exact hl.2.2 (i, tg_cv ad v) h9
-- names for what is computed, joins, loops
theorem ta_name {β : Type} {e : β} {k : β → tg_R} (K : tg_AW E L kd (k e) pc lv st μ) : tg_AW E L kd (tg_lt e k) pc lv st μ := K
theorem ta_nmi {a : Int} {k : Int → tg_R} (K : ∀ x : Int, tg_AW E L kd (k x) pc lv (ti_ x :: st) μ) : tg_AW E L kd (tg_lt a k) pc lv (ti_ a :: st) μ := K a
theorem ta_nml {a : Int} {k : Int → tg_R} (K : ∀ x : Int, tg_AW E L kd (k x) pc lv (tl_ x :: st) μ) : tg_AW E L kd (tg_lt a k) pc lv (tl_ a :: st) μ := K a
theorem ta_nma {a : Nat} {k : Nat → tg_R} (K : ∀ x : Nat, x = a → tg_AW E L kd (k x) pc lv (tr_ x :: st) μ) : tg_AW E L kd (tg_lt a k) pc lv (tr_ a :: st) μ := K a rfl
theorem ta_nmm {k : tg_Mem → tg_R} (K : ∀ x : tg_Mem, tg_AW E L kd (k x) pc lv st x) : tg_AW E L kd (tg_lt μ k) pc lv st μ := K μ
theorem ta_join {γ : Type} {J : γ} {k : γ → tg_R} (P : γ → Prop) (hJ : P J) (K : ∀ J2, P J2 → tg_AW E L kd (k J2) pc lv st μ) : tg_AW E L kd (tg_jn J k) pc lv st μ := K J hJ
def tg_fx {γ : Type} (F : γ → γ) (z : γ) : Nat → γ
  | 0 => z
  | n + 1 => F (tg_fx F z n)
theorem tg_fx_s {γ : Type} (F : γ → γ) (z : γ) (n : Nat) : tg_fx F z (n + 1) = F (tg_fx F z n) := rfl
theorem ta_fx {γ : Type} {F : γ → γ} {z : γ} (P : γ → Prop) (h0 : P z) (hF : ∀ self, P self → P (F self)) : ∀ n, P (tg_fx F z n) := by
  intro n
  induction n with
  | zero => exact h0
  | succ n ih => exact hF _ ih
theorem ta_none : tg_AW E L kd none pc lv st μ := by
  obtain ⟨p, l, e, R, s, m, args, below, meth, c, D, G, ad, A⟩ := E
  intro hm hl hs r μ' hX
  cases hX
theorem ta_ite {cnd : Prop} [Decidable cnd] {X1 X2 : tg_R} (K1 : cnd → tg_AW E L kd X1 pc lv st μ) (K2 : ¬ cnd → tg_AW E L kd X2 pc lv st μ) : tg_AW E L kd (if cnd then X1 else X2) pc lv st μ := by
  by_cases hc : cnd
  · rw [if_pos hc]; exact K1 hc
  · rw [if_neg hc]; exact K2 hc
theorem ta_ck {cnd : Prop} [Decidable cnd] (K : cnd → tg_AW E L kd X pc lv st μ) : tg_AW E L kd (tg_ck cnd X) pc lv st μ := by
  unfold tg_ck
  by_cases hc : cnd
  · rw [if_pos hc]; exact K hc
  · rw [if_neg hc]; exact ta_none
theorem ta_swc {a dflt lo hi off : Int} {offs : Array Int} {len tgt : Nat} (x : Int) (hE : tg_Am E L kd own cc nL d) (hd : decode cc pc = .ok (.tableswitch dflt lo hi offs, len)) (hx : a = x) (h1 : ¬ x < lo) (h2 : ¬ hi < x) (ho : offs[(x - lo).toNat]? = some off) (ht : (pc : Int) + off = (tgt : Int))
    (K : tg_AW E L kd X tgt lv st μ) : tg_AW E L kd X pc lv (ti_ a :: st) μ := by
  subst hx
  refine tg_go K (fun hl hs => ⟨hl, (List.forall_mem_cons.mp hs).2⟩) (fun p l e R s m args below meth c D G ad A hEe H locs ls Q hlc hlk hsk kk => ?_)
  subst hEe
  obtain ⟨hx, hb, hml, hown, hts, hK, hD, hA, hlk0, hret, hR, hN⟩ := hE
  have e9 : (tg_I a).toInt = a := tg_It (List.forall_mem_cons.mp hsk).1
  exact lv_tableIn hx hb hd (by rw [e9]; exact h1) (by rw [e9]; exact h2) (by rw [e9]; exact ho) ht (kk ls hlc)
theorem ta_swd {a dflt lo hi : Int} {offs : Array Int} {len tgt : Nat} (hE : tg_Am E L kd own cc nL d) (hd : decode cc pc = .ok (.tableswitch dflt lo hi offs, len)) (h1 : a < lo ∨ hi < a) (ht : (pc : Int) + dflt = (tgt : Int))
    (K : tg_AW E L kd X tgt lv st μ) : tg_AW E L kd X pc lv (ti_ a :: st) μ := by
  refine tg_go K (fun hl hs => ⟨hl, (List.forall_mem_cons.mp hs).2⟩) (fun p l e R s m args below meth c D G ad A hEe H locs ls Q hlc hlk hsk kk => ?_)
  subst hEe
  obtain ⟨hx, hb, hml, hown, hts, hK, hD, hA, hlk0, hret, hR, hN⟩ := hE
  have e9 : (tg_I a).toInt = a := tg_It (List.forall_mem_cons.mp hsk).1
  exact lv_tableOut hx hb hd (by rw [e9]; exact h1) ht (kk ls hlc)
def tg_cpy (μ : tg_Mem) (k1 i k2 j n : Nat) : tg_Mem := fun k' j' => if k' = k2 ∧ j ≤ j' ∧ j' < j + n then μ k1 (i + (j' - j)) else μ k' j'
theorem tg_cpy_row (μ : tg_Mem) (k1 i k2 j n : Nat) : tg_cpy μ k1 i k2 j n k2 = va_cpy (μ k1) (μ k2) i j n := by
  funext j'
  unfold tg_cpy va_cpy
  by_cases h : j ≤ j' ∧ j' < j + n
  · rw [if_pos h, if_pos ⟨rfl, h⟩]
  · rw [if_neg h, if_neg (fun q => h q.2)]
theorem tg_cpy_W {G : tg_G} {ad : Nat → Nat} {k1 i k2 j n : Nat} {s : tg_Sh} (h : L[k2]? = some s) :
    (tg_W G ad L μ).set k2 (ad k2, tg_ce G ad (tg_cpy μ k1 i k2 j n k2) s) = tg_W G ad L (tg_cpy μ k1 i k2 j n) := by
  apply List.ext_getElem?
  intro a
  unfold tg_W
  rw [List.getElem?_set, List.length_mapIdx, List.getElem?_mapIdx, List.getElem?_mapIdx]
  by_cases hi : k2 = a
  · subst hi
    have hk : k2 < L.length := (List.getElem?_eq_some_iff.mp h).1
    rw [if_pos rfl, if_pos hk, h]; rfl
  · rw [if_neg hi]
    have e7 : tg_cpy μ k1 i k2 j n a = μ a := by
      funext j'
      unfold tg_cpy
      rw [if_neg (fun q => hi q.1.symm)]
    rw [e7]
theorem ta_copy {idx k1 k2 n1 n2 : Nat} {i j n : Int} {rs1 rs2 : List Nat} (hE : tg_Am E L kd own cc nL d) (hd : decode cc pc = .ok (.invokestatic idx, 3)) (hk1 : L[k1]? = some (.inl (0, n1, rs1))) (hk2 : L[k2]? = some (.inl (0, n2, rs2)))
    (hml : Cond.methodLink own idx arraycopyName ∈ tg_ALL) (hna : Cond.native arraycopyName ∈ tg_ALL) (hsta : Cond.static arraycopyName ∈ tg_ALL) (hini : Cond.initialized "java/lang/System" ∈ tg_ALL)
    (h1 : 0 ≤ i) (h2 : 0 ≤ j) (h3 : 0 ≤ n) (h4 : i + n ≤ n1) (h5 : j + n ≤ n2) (hn : nL = lv.length) (hdd : 1 ≤ d) (hW8 : ∀ ad, ((st.map (tg_cv ad)).map fun v => v.category).sum = 0)
    (K : tg_AW E L kd X (pc + 3) lv st (tg_cpy μ k1 i.toNat k2 j.toNat n.toNat)) : tg_AW E L kd X pc lv (ti_ n :: ti_ j :: tr_ k2 :: ti_ i :: tr_ k1 :: st) μ := by
  obtain ⟨p, l, e, R, s, m, args, below, meth, c, D, G, ad, A⟩ := E
  obtain ⟨hx, hb, hml0, hown, hts, hK, hD, hA, hlk0, hret, hR, hN⟩ := hE
  subst hR
  intro hm hl0 hs r μ' hX H locs ls hP hS hlc
  have q1 := List.forall_mem_cons.mp hs
  have q2 := List.forall_mem_cons.mp q1.2
  have q3 := List.forall_mem_cons.mp q2.2
  have q4 := List.forall_mem_cons.mp q3.2
  have q5 := List.forall_mem_cons.mp q4.2
  have e1 : (tg_I i).toInt = i := tg_It q4.1
  have e2 : (tg_I j).toInt = j := tg_It q2.1
  have e3 : (tg_I n).toInt = n := tg_It q1.1
  have f1 : (tg_I i).toNatClampNeg = i.toNat := by rw [← Int32.toNat_toInt, e1]
  have f2 : (tg_I j).toNatClampNeg = j.toNat := by rw [← Int32.toNat_toInt, e2]
  have f3 : (tg_I n).toNatClampNeg = n.toNat := by rw [← Int32.toNat_toInt, e3]
  have hm2 : tg_mok L (tg_cpy μ k1 i.toNat k2 j.toNat n.toNat) := by
    intro k' j'
    unfold tg_cpy
    by_cases hc : k' = k2 ∧ j.toNat ≤ j' ∧ j' < j.toNat + n.toNat
    · rw [if_pos hc]
      have := (hm k1 (i.toNat + (j' - j.toNat))).2 (by unfold tg_isl; rw [hk1]; rfl)
      exact ⟨tg_inL_of this, fun _ => this⟩
    · rw [if_neg hc]; exact hm k' j'
  have e9 : (tg_W G ad L μ).set k2 (ad k2, Sum.inl (G.1, n2, Sum.inl (va_cpy (fun j => tg_I (μ k1 j)) (fun j => tg_I (μ k2 j)) i.toNat j.toNat n.toNat))) = tg_W G ad L (tg_cpy μ k1 i.toNat k2 j.toNat n.toNat) := by
    rw [← tg_cpy_W hk2]
    have e7 : va_cpy (fun j => tg_I (μ k1 j)) (fun j => tg_I (μ k2 j)) i.toNat j.toNat n.toNat = fun j' => tg_I (tg_cpy μ k1 i.toNat k2 j.toNat n.toNat k2 j') := by
      rw [tg_cpy_row]
      funext j'
      unfold va_cpy
      by_cases hc : j.toNat ≤ j' ∧ j' < j.toNat + n.toNat
      · rw [if_pos hc, if_pos hc]
      · rw [if_neg hc, if_neg hc]
    rw [e7]; rfl
  have z0 : ∀ (x : Int), (tg_I x).toInt = x → 0 ≤ x → ¬ tg_I x < 0 := fun x hx h => by
    rw [Int32.lt_iff_toInt_lt, hx, Int32.toInt_zero]; omega
  refine va_copyi (D := D) hx hb (by rw [hml0, hn]; exact hlc.1.symm) hown (hts _ hml) (hts _ hna) (hts _ hsta) (hts _ hini) hK hP (hD μ) hS k1 k2 0 0 (tg_W_at hk1) (tg_W_at hk2) rfl rfl rfl (z0 i e1 h1) (z0 j e2 h2) (z0 n e3 h3) (by rw [f1, f3]; omega) (by rw [f2, f3]; omega) (fun _ _ => rfl) hdd (by rw [hW8 ad]; show 0 + _ ≤ 40 * d; exact Nat.le_trans (Nat.le_of_ble_eq_true rfl : _ ≤ 40) (by omega)) hd (fun H1 locs1 hP1 hD1 hS1 => ?_)
  rw [f1, f2, f3] at hP1
  have hP2 : va_P D vwCl (tg_W G ad L (tg_cpy μ k1 i.toNat k2 j.toNat n.toNat)) H1 := by rw [← e9]; exact hP1
  exact K hm2 hl0 q5.2 r μ' hX H1 locs1 ls hP2 hS1 hlc
end TGF
end
