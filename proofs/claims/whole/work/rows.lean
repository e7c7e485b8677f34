section
/-- a private method of a class that the tables say can be made, by its rows of tables_1 -/
def lw_okq (q : MethodName × Nat) : Prop := (q.1.cls ≠ "java/lang/invoke/MethodHandle" ∧ q.1.cls ≠ "java/lang/invoke/VarHandle") ∧ Cond.instantiable q.1.cls q.2 ∈ tables_1 ∧ Cond.privateMethod q.1 ∈ tables_1 ∧ Cond.instanceMethod q.1 ∈ tables_1
theorem lw_p0 : lw_okq (⟨"LakeSwimmers", "refuse", "(I)I"⟩, 11) := ⟨⟨by decide +kernel, by decide +kernel⟩, List.mem_of_getElem? (i := 19) (by decide +kernel), List.mem_of_getElem? (i := 331) (by decide +kernel), List.mem_of_getElem? (i := 332) (by decide +kernel)⟩
theorem lw_p1 : lw_okq (⟨"LakeSwimmers$Law", "workOut", "(III)I"⟩, 4) := ⟨⟨by decide +kernel, by decide +kernel⟩, List.mem_of_getElem? (i := 35) (by decide +kernel), List.mem_of_getElem? (i := 353) (by decide +kernel), List.mem_of_getElem? (i := 354) (by decide +kernel)⟩
theorem lw_p2 : lw_okq (⟨"LakeSwimmers$Swimmer", "plainPace", "(I)I"⟩, 6) := ⟨⟨by decide +kernel, by decide +kernel⟩, List.mem_of_getElem? (i := 54) (by decide +kernel), List.mem_of_getElem? (i := 430) (by decide +kernel), List.mem_of_getElem? (i := 431) (by decide +kernel)⟩
theorem lw_p3 : lw_okq (⟨"LakeSwimmers$Reader", "readAny", "(I)Z"⟩, 6) := ⟨⟨by decide +kernel, by decide +kernel⟩, List.mem_of_getElem? (i := 152) (by decide +kernel), List.mem_of_getElem? (i := 460) (by decide +kernel), List.mem_of_getElem? (i := 461) (by decide +kernel)⟩
theorem lw_p4 : lw_okq (⟨"LakeSwimmers$Reader", "readAll", "(I)Z"⟩, 6) := ⟨⟨by decide +kernel, by decide +kernel⟩, List.mem_of_getElem? (i := 152) (by decide +kernel), List.mem_of_getElem? (i := 464) (by decide +kernel), List.mem_of_getElem? (i := 465) (by decide +kernel)⟩
theorem lw_p5 : lw_okq (⟨"LakeSwimmers$Reader", "readComparison", "(I)Z"⟩, 6) := ⟨⟨by decide +kernel, by decide +kernel⟩, List.mem_of_getElem? (i := 152) (by decide +kernel), List.mem_of_getElem? (i := 468) (by decide +kernel), List.mem_of_getElem? (i := 469) (by decide +kernel)⟩
theorem lw_p6 : lw_okq (⟨"LakeSwimmers$Reader", "readSum", "(I)Z"⟩, 6) := ⟨⟨by decide +kernel, by decide +kernel⟩, List.mem_of_getElem? (i := 152) (by decide +kernel), List.mem_of_getElem? (i := 472) (by decide +kernel), List.mem_of_getElem? (i := 473) (by decide +kernel)⟩
theorem lw_p7 : lw_okq (⟨"LakeSwimmers$Reader", "readProduct", "(I)Z"⟩, 6) := ⟨⟨by decide +kernel, by decide +kernel⟩, List.mem_of_getElem? (i := 152) (by decide +kernel), List.mem_of_getElem? (i := 476) (by decide +kernel), List.mem_of_getElem? (i := 477) (by decide +kernel)⟩
theorem lw_p8 : lw_okq (⟨"LakeSwimmers$Reader", "readPart", "(I)Z"⟩, 6) := ⟨⟨by decide +kernel, by decide +kernel⟩, List.mem_of_getElem? (i := 152) (by decide +kernel), List.mem_of_getElem? (i := 480) (by decide +kernel), List.mem_of_getElem? (i := 481) (by decide +kernel)⟩
theorem lw_p9 : lw_okq (⟨"LakeSwimmers$Reader", "next", "()I"⟩, 6) := ⟨⟨by decide +kernel, by decide +kernel⟩, List.mem_of_getElem? (i := 152) (by decide +kernel), List.mem_of_getElem? (i := 484) (by decide +kernel), List.mem_of_getElem? (i := 485) (by decide +kernel)⟩
theorem lw_p10 : lw_okq (⟨"LakeSwimmers$Reader", "readNumber", "()V"⟩, 6) := ⟨⟨by decide +kernel, by decide +kernel⟩, List.mem_of_getElem? (i := 152) (by decide +kernel), List.mem_of_getElem? (i := 491) (by decide +kernel), List.mem_of_getElem? (i := 492) (by decide +kernel)⟩
theorem lw_p11 : lw_okq (⟨"LakeSwimmers$Reader", "add", "(I)V"⟩, 6) := ⟨⟨by decide +kernel, by decide +kernel⟩, List.mem_of_getElem? (i := 152) (by decide +kernel), List.mem_of_getElem? (i := 495) (by decide +kernel), List.mem_of_getElem? (i := 496) (by decide +kernel)⟩
theorem lw_p12 : lw_okq (⟨"LakeSwimmers$Reader", "readNot", "(I)Z"⟩, 6) := ⟨⟨by decide +kernel, by decide +kernel⟩, List.mem_of_getElem? (i := 152) (by decide +kernel), List.mem_of_getElem? (i := 581) (by decide +kernel), List.mem_of_getElem? (i := 582) (by decide +kernel)⟩
theorem lw_p13 : lw_okq (⟨"LakeSwimmers$Reader", "readBracket", "(I)Z"⟩, 6) := ⟨⟨by decide +kernel, by decide +kernel⟩, List.mem_of_getElem? (i := 152) (by decide +kernel), List.mem_of_getElem? (i := 585) (by decide +kernel), List.mem_of_getElem? (i := 586) (by decide +kernel)⟩
theorem lw_p14 : lw_okq (⟨"LakeSwimmers$Swim", "begin", "(LLakeSwimmers$Swimmer;LLakeSwimmers$Swimmer;)V"⟩, 6) := ⟨⟨by decide +kernel, by decide +kernel⟩, List.mem_of_getElem? (i := 181) (by decide +kernel), List.mem_of_getElem? (i := 643) (by decide +kernel), List.mem_of_getElem? (i := 644) (by decide +kernel)⟩
theorem lw_p15 : lw_okq (⟨"LakeSwimmers$Swim", "gap", "(LLakeSwimmers$Swimmer;)I"⟩, 6) := ⟨⟨by decide +kernel, by decide +kernel⟩, List.mem_of_getElem? (i := 181) (by decide +kernel), List.mem_of_getElem? (i := 647) (by decide +kernel), List.mem_of_getElem? (i := 648) (by decide +kernel)⟩
def lw_privs_1 : List (MethodName × Nat) := [(⟨"LakeSwimmers", "refuse", "(I)I"⟩, 11), (⟨"LakeSwimmers$Law", "workOut", "(III)I"⟩, 4), (⟨"LakeSwimmers$Swimmer", "plainPace", "(I)I"⟩, 6), (⟨"LakeSwimmers$Reader", "readAny", "(I)Z"⟩, 6), (⟨"LakeSwimmers$Reader", "readAll", "(I)Z"⟩, 6), (⟨"LakeSwimmers$Reader", "readComparison", "(I)Z"⟩, 6), (⟨"LakeSwimmers$Reader", "readSum", "(I)Z"⟩, 6), (⟨"LakeSwimmers$Reader", "readProduct", "(I)Z"⟩, 6), (⟨"LakeSwimmers$Reader", "readPart", "(I)Z"⟩, 6), (⟨"LakeSwimmers$Reader", "next", "()I"⟩, 6), (⟨"LakeSwimmers$Reader", "readNumber", "()V"⟩, 6), (⟨"LakeSwimmers$Reader", "add", "(I)V"⟩, 6), (⟨"LakeSwimmers$Reader", "readNot", "(I)Z"⟩, 6), (⟨"LakeSwimmers$Reader", "readBracket", "(I)Z"⟩, 6), (⟨"LakeSwimmers$Swim", "begin", "(LLakeSwimmers$Swimmer;LLakeSwimmers$Swimmer;)V"⟩, 6), (⟨"LakeSwimmers$Swim", "gap", "(LLakeSwimmers$Swimmer;)I"⟩, 6)]
theorem lw_r1 : ∀ q ∈ lw_privs_1, lw_okq q := List.forall_mem_cons.mpr ⟨lw_p0, List.forall_mem_cons.mpr ⟨lw_p1, List.forall_mem_cons.mpr ⟨lw_p2, List.forall_mem_cons.mpr ⟨lw_p3, List.forall_mem_cons.mpr ⟨lw_p4, List.forall_mem_cons.mpr ⟨lw_p5, List.forall_mem_cons.mpr ⟨lw_p6, List.forall_mem_cons.mpr ⟨lw_p7, List.forall_mem_cons.mpr ⟨lw_p8, List.forall_mem_cons.mpr ⟨lw_p9, List.forall_mem_cons.mpr ⟨lw_p10, List.forall_mem_cons.mpr ⟨lw_p11, List.forall_mem_cons.mpr ⟨lw_p12, List.forall_mem_cons.mpr ⟨lw_p13, List.forall_mem_cons.mpr ⟨lw_p14, List.forall_mem_cons.mpr ⟨lw_p15, fun _ h => absurd h List.not_mem_nil⟩⟩⟩⟩⟩⟩⟩⟩⟩⟩⟩⟩⟩⟩⟩⟩
theorem lw_p16 : lw_okq (⟨"LakeSwimmers", "whyNoYear", "(II)I"⟩, 11) := ⟨⟨by decide +kernel, by decide +kernel⟩, List.mem_of_getElem? (i := 19) (by decide +kernel), List.mem_of_getElem? (i := 655) (by decide +kernel), List.mem_of_getElem? (i := 656) (by decide +kernel)⟩
theorem lw_p17 : lw_okq (⟨"LakeSwimmers", "letYearGoBy", "(II)V"⟩, 11) := ⟨⟨by decide +kernel, by decide +kernel⟩, List.mem_of_getElem? (i := 19) (by decide +kernel), List.mem_of_getElem? (i := 659) (by decide +kernel), List.mem_of_getElem? (i := 660) (by decide +kernel)⟩
theorem lw_p18 : lw_okq (⟨"LakeSwimmers$PlanSearch", "tryLanes", "(II)V"⟩, 8) := ⟨⟨by decide +kernel, by decide +kernel⟩, List.mem_of_getElem? (i := 209) (by decide +kernel), List.mem_of_getElem? (i := 693) (by decide +kernel), List.mem_of_getElem? (i := 694) (by decide +kernel)⟩
theorem lw_p19 : lw_okq (⟨"LakeSwimmers$PlanSearch", "setLane", "(II)V"⟩, 8) := ⟨⟨by decide +kernel, by decide +kernel⟩, List.mem_of_getElem? (i := 209) (by decide +kernel), List.mem_of_getElem? (i := 699) (by decide +kernel), List.mem_of_getElem? (i := 700) (by decide +kernel)⟩
theorem lw_p20 : lw_okq (⟨"LakeSwimmers$PlanSearch", "meetsAt", "(II)Z"⟩, 8) := ⟨⟨by decide +kernel, by decide +kernel⟩, List.mem_of_getElem? (i := 209) (by decide +kernel), List.mem_of_getElem? (i := 704) (by decide +kernel), List.mem_of_getElem? (i := 705) (by decide +kernel)⟩
theorem lw_p21 : lw_okq (⟨"LakeSwimmers", "worstPlaceIn", "(ILLakeSwimmers$Swimmer;LLakeSwimmers$Swimmer;)I"⟩, 11) := ⟨⟨by decide +kernel, by decide +kernel⟩, List.mem_of_getElem? (i := 19) (by decide +kernel), List.mem_of_getElem? (i := 721) (by decide +kernel), List.mem_of_getElem? (i := 722) (by decide +kernel)⟩
theorem lw_p22 : lw_okq (⟨"LakeSwimmers", "meetInLane", "(ILLakeSwimmers$Swimmer;LLakeSwimmers$Swimmer;)Z"⟩, 11) := ⟨⟨by decide +kernel, by decide +kernel⟩, List.mem_of_getElem? (i := 19) (by decide +kernel), List.mem_of_getElem? (i := 725) (by decide +kernel), List.mem_of_getElem? (i := 726) (by decide +kernel)⟩
theorem lw_p23 : lw_okq (⟨"LakeSwimmers$Voices", "say", "(IIII)I"⟩, 5) := ⟨⟨by decide +kernel, by decide +kernel⟩, List.mem_of_getElem? (i := 244) (by decide +kernel), List.mem_of_getElem? (i := 774) (by decide +kernel), List.mem_of_getElem? (i := 775) (by decide +kernel)⟩
theorem lw_p24 : lw_okq (⟨"LakeSwimmers$Voices", "note", "(I)V"⟩, 5) := ⟨⟨by decide +kernel, by decide +kernel⟩, List.mem_of_getElem? (i := 244) (by decide +kernel), List.mem_of_getElem? (i := 785) (by decide +kernel), List.mem_of_getElem? (i := 786) (by decide +kernel)⟩
theorem lw_p25 : lw_okq (⟨"LakeSwimmers", "sheetAt", "(I)LLakeSwimmers$Sheet;"⟩, 11) := ⟨⟨by decide +kernel, by decide +kernel⟩, List.mem_of_getElem? (i := 19) (by decide +kernel), List.mem_of_getElem? (i := 797) (by decide +kernel), List.mem_of_getElem? (i := 798) (by decide +kernel)⟩
theorem lw_p26 : lw_okq (⟨"LakeSwimmersModel", "finds", "(I)I"⟩, 24) := ⟨⟨by decide +kernel, by decide +kernel⟩, List.mem_of_getElem? (i := 877) (by decide +kernel), List.mem_of_getElem? (i := 964) (by decide +kernel), List.mem_of_getElem? (i := 965) (by decide +kernel)⟩
theorem lw_p27 : lw_okq (⟨"LakeSwimmersModel", "reads", "(III)V"⟩, 24) := ⟨⟨by decide +kernel, by decide +kernel⟩, List.mem_of_getElem? (i := 877) (by decide +kernel), List.mem_of_getElem? (i := 974) (by decide +kernel), List.mem_of_getElem? (i := 975) (by decide +kernel)⟩
theorem lw_p28 : lw_okq (⟨"LakeSwimmersModel", "either", "()V"⟩, 24) := ⟨⟨by decide +kernel, by decide +kernel⟩, List.mem_of_getElem? (i := 877) (by decide +kernel), List.mem_of_getElem? (i := 978) (by decide +kernel), List.mem_of_getElem? (i := 979) (by decide +kernel)⟩
theorem lw_p29 : lw_okq (⟨"LakeSwimmersModel", "both", "()V"⟩, 24) := ⟨⟨by decide +kernel, by decide +kernel⟩, List.mem_of_getElem? (i := 877) (by decide +kernel), List.mem_of_getElem? (i := 982) (by decide +kernel), List.mem_of_getElem? (i := 983) (by decide +kernel)⟩
theorem lw_p30 : lw_okq (⟨"LakeSwimmersModel", "compared", "()V"⟩, 24) := ⟨⟨by decide +kernel, by decide +kernel⟩, List.mem_of_getElem? (i := 877) (by decide +kernel), List.mem_of_getElem? (i := 986) (by decide +kernel), List.mem_of_getElem? (i := 987) (by decide +kernel)⟩
theorem lw_p31 : lw_okq (⟨"LakeSwimmersModel", "sum", "()V"⟩, 24) := ⟨⟨by decide +kernel, by decide +kernel⟩, List.mem_of_getElem? (i := 877) (by decide +kernel), List.mem_of_getElem? (i := 990) (by decide +kernel), List.mem_of_getElem? (i := 991) (by decide +kernel)⟩
def lw_privs_2 : List (MethodName × Nat) := [(⟨"LakeSwimmers", "whyNoYear", "(II)I"⟩, 11), (⟨"LakeSwimmers", "letYearGoBy", "(II)V"⟩, 11), (⟨"LakeSwimmers$PlanSearch", "tryLanes", "(II)V"⟩, 8), (⟨"LakeSwimmers$PlanSearch", "setLane", "(II)V"⟩, 8), (⟨"LakeSwimmers$PlanSearch", "meetsAt", "(II)Z"⟩, 8), (⟨"LakeSwimmers", "worstPlaceIn", "(ILLakeSwimmers$Swimmer;LLakeSwimmers$Swimmer;)I"⟩, 11), (⟨"LakeSwimmers", "meetInLane", "(ILLakeSwimmers$Swimmer;LLakeSwimmers$Swimmer;)Z"⟩, 11), (⟨"LakeSwimmers$Voices", "say", "(IIII)I"⟩, 5), (⟨"LakeSwimmers$Voices", "note", "(I)V"⟩, 5), (⟨"LakeSwimmers", "sheetAt", "(I)LLakeSwimmers$Sheet;"⟩, 11), (⟨"LakeSwimmersModel", "finds", "(I)I"⟩, 24), (⟨"LakeSwimmersModel", "reads", "(III)V"⟩, 24), (⟨"LakeSwimmersModel", "either", "()V"⟩, 24), (⟨"LakeSwimmersModel", "both", "()V"⟩, 24), (⟨"LakeSwimmersModel", "compared", "()V"⟩, 24), (⟨"LakeSwimmersModel", "sum", "()V"⟩, 24)]
theorem lw_r2 : ∀ q ∈ lw_privs_2, lw_okq q := List.forall_mem_cons.mpr ⟨lw_p16, List.forall_mem_cons.mpr ⟨lw_p17, List.forall_mem_cons.mpr ⟨lw_p18, List.forall_mem_cons.mpr ⟨lw_p19, List.forall_mem_cons.mpr ⟨lw_p20, List.forall_mem_cons.mpr ⟨lw_p21, List.forall_mem_cons.mpr ⟨lw_p22, List.forall_mem_cons.mpr ⟨lw_p23, List.forall_mem_cons.mpr ⟨lw_p24, List.forall_mem_cons.mpr ⟨lw_p25, List.forall_mem_cons.mpr ⟨lw_p26, List.forall_mem_cons.mpr ⟨lw_p27, List.forall_mem_cons.mpr ⟨lw_p28, List.forall_mem_cons.mpr ⟨lw_p29, List.forall_mem_cons.mpr ⟨lw_p30, List.forall_mem_cons.mpr ⟨lw_p31, fun _ h => absurd h List.not_mem_nil⟩⟩⟩⟩⟩⟩⟩⟩⟩⟩⟩⟩⟩⟩⟩⟩
theorem lw_p32 : lw_okq (⟨"LakeSwimmersModel", "product", "()V"⟩, 24) := ⟨⟨by decide +kernel, by decide +kernel⟩, List.mem_of_getElem? (i := 877) (by decide +kernel), List.mem_of_getElem? (i := 994) (by decide +kernel), List.mem_of_getElem? (i := 995) (by decide +kernel)⟩
theorem lw_p33 : lw_okq (⟨"LakeSwimmersModel", "unit", "()V"⟩, 24) := ⟨⟨by decide +kernel, by decide +kernel⟩, List.mem_of_getElem? (i := 877) (by decide +kernel), List.mem_of_getElem? (i := 998) (by decide +kernel), List.mem_of_getElem? (i := 999) (by decide +kernel)⟩
theorem lw_p34 : lw_okq (⟨"LakeSwimmersModel", "here", "()I"⟩, 24) := ⟨⟨by decide +kernel, by decide +kernel⟩, List.mem_of_getElem? (i := 877) (by decide +kernel), List.mem_of_getElem? (i := 1002) (by decide +kernel), List.mem_of_getElem? (i := 1003) (by decide +kernel)⟩
theorem lw_p35 : lw_okq (⟨"LakeSwimmersModel", "opens", "(I)V"⟩, 24) := ⟨⟨by decide +kernel, by decide +kernel⟩, List.mem_of_getElem? (i := 877) (by decide +kernel), List.mem_of_getElem? (i := 1006) (by decide +kernel), List.mem_of_getElem? (i := 1007) (by decide +kernel)⟩
theorem lw_p36 : lw_okq (⟨"LakeSwimmersModel", "wrong", "()V"⟩, 24) := ⟨⟨by decide +kernel, by decide +kernel⟩, List.mem_of_getElem? (i := 877) (by decide +kernel), List.mem_of_getElem? (i := 1010) (by decide +kernel), List.mem_of_getElem? (i := 1011) (by decide +kernel)⟩
theorem lw_p37 : lw_okq (⟨"LakeSwimmersModel", "lay", "(I)V"⟩, 24) := ⟨⟨by decide +kernel, by decide +kernel⟩, List.mem_of_getElem? (i := 877) (by decide +kernel), List.mem_of_getElem? (i := 1014) (by decide +kernel), List.mem_of_getElem? (i := 1015) (by decide +kernel)⟩
theorem lw_p38 : lw_okq (⟨"LakeSwimmersModel", "takes", "(I)Z"⟩, 24) := ⟨⟨by decide +kernel, by decide +kernel⟩, List.mem_of_getElem? (i := 877) (by decide +kernel), List.mem_of_getElem? (i := 1018) (by decide +kernel), List.mem_of_getElem? (i := 1019) (by decide +kernel)⟩
theorem lw_p39 : lw_okq (⟨"LakeSwimmersModel", "nameOf", "(I)I"⟩, 24) := ⟨⟨by decide +kernel, by decide +kernel⟩, List.mem_of_getElem? (i := 877) (by decide +kernel), List.mem_of_getElem? (i := 1022) (by decide +kernel), List.mem_of_getElem? (i := 1023) (by decide +kernel)⟩
theorem lw_p40 : lw_okq (⟨"LakeSwimmersModel", "gives", "(IIII)I"⟩, 24) := ⟨⟨by decide +kernel, by decide +kernel⟩, List.mem_of_getElem? (i := 877) (by decide +kernel), List.mem_of_getElem? (i := 1032) (by decide +kernel), List.mem_of_getElem? (i := 1033) (by decide +kernel)⟩
theorem lw_p41 : lw_okq (⟨"LakeSwimmersModel", "worked", "(II)I"⟩, 24) := ⟨⟨by decide +kernel, by decide +kernel⟩, List.mem_of_getElem? (i := 877) (by decide +kernel), List.mem_of_getElem? (i := 1036) (by decide +kernel), List.mem_of_getElem? (i := 1037) (by decide +kernel)⟩
theorem lw_p42 : lw_okq (⟨"LakeSwimmersModel", "flowOf", "(I)I"⟩, 24) := ⟨⟨by decide +kernel, by decide +kernel⟩, List.mem_of_getElem? (i := 877) (by decide +kernel), List.mem_of_getElem? (i := 1068) (by decide +kernel), List.mem_of_getElem? (i := 1069) (by decide +kernel)⟩
theorem lw_p43 : lw_okq (⟨"LakeSwimmersModel", "becomes", "(III)V"⟩, 24) := ⟨⟨by decide +kernel, by decide +kernel⟩, List.mem_of_getElem? (i := 877) (by decide +kernel), List.mem_of_getElem? (i := 1077) (by decide +kernel), List.mem_of_getElem? (i := 1078) (by decide +kernel)⟩
theorem lw_p44 : lw_okq (⟨"LakeSwimmersModel", "isSwimmer", "(I)Z"⟩, 24) := ⟨⟨by decide +kernel, by decide +kernel⟩, List.mem_of_getElem? (i := 877) (by decide +kernel), List.mem_of_getElem? (i := 1085) (by decide +kernel), List.mem_of_getElem? (i := 1086) (by decide +kernel)⟩
theorem lw_p45 : lw_okq (⟨"LakeSwimmersModel", "of", "(II)I"⟩, 24) := ⟨⟨by decide +kernel, by decide +kernel⟩, List.mem_of_getElem? (i := 877) (by decide +kernel), List.mem_of_getElem? (i := 1089) (by decide +kernel), List.mem_of_getElem? (i := 1090) (by decide +kernel)⟩
theorem lw_p46 : lw_okq (⟨"LakeSwimmersModel", "paceOf", "(II)I"⟩, 24) := ⟨⟨by decide +kernel, by decide +kernel⟩, List.mem_of_getElem? (i := 877) (by decide +kernel), List.mem_of_getElem? (i := 1119) (by decide +kernel), List.mem_of_getElem? (i := 1120) (by decide +kernel)⟩
theorem lw_p47 : lw_okq (⟨"LakeSwimmersModel", "goes", "(III)I"⟩, 24) := ⟨⟨by decide +kernel, by decide +kernel⟩, List.mem_of_getElem? (i := 877) (by decide +kernel), List.mem_of_getElem? (i := 1131) (by decide +kernel), List.mem_of_getElem? (i := 1132) (by decide +kernel)⟩
def lw_privs_3 : List (MethodName × Nat) := [(⟨"LakeSwimmersModel", "product", "()V"⟩, 24), (⟨"LakeSwimmersModel", "unit", "()V"⟩, 24), (⟨"LakeSwimmersModel", "here", "()I"⟩, 24), (⟨"LakeSwimmersModel", "opens", "(I)V"⟩, 24), (⟨"LakeSwimmersModel", "wrong", "()V"⟩, 24), (⟨"LakeSwimmersModel", "lay", "(I)V"⟩, 24), (⟨"LakeSwimmersModel", "takes", "(I)Z"⟩, 24), (⟨"LakeSwimmersModel", "nameOf", "(I)I"⟩, 24), (⟨"LakeSwimmersModel", "gives", "(IIII)I"⟩, 24), (⟨"LakeSwimmersModel", "worked", "(II)I"⟩, 24), (⟨"LakeSwimmersModel", "flowOf", "(I)I"⟩, 24), (⟨"LakeSwimmersModel", "becomes", "(III)V"⟩, 24), (⟨"LakeSwimmersModel", "isSwimmer", "(I)Z"⟩, 24), (⟨"LakeSwimmersModel", "of", "(II)I"⟩, 24), (⟨"LakeSwimmersModel", "paceOf", "(II)I"⟩, 24), (⟨"LakeSwimmersModel", "goes", "(III)I"⟩, 24)]
theorem lw_r3 : ∀ q ∈ lw_privs_3, lw_okq q := List.forall_mem_cons.mpr ⟨lw_p32, List.forall_mem_cons.mpr ⟨lw_p33, List.forall_mem_cons.mpr ⟨lw_p34, List.forall_mem_cons.mpr ⟨lw_p35, List.forall_mem_cons.mpr ⟨lw_p36, List.forall_mem_cons.mpr ⟨lw_p37, List.forall_mem_cons.mpr ⟨lw_p38, List.forall_mem_cons.mpr ⟨lw_p39, List.forall_mem_cons.mpr ⟨lw_p40, List.forall_mem_cons.mpr ⟨lw_p41, List.forall_mem_cons.mpr ⟨lw_p42, List.forall_mem_cons.mpr ⟨lw_p43, List.forall_mem_cons.mpr ⟨lw_p44, List.forall_mem_cons.mpr ⟨lw_p45, List.forall_mem_cons.mpr ⟨lw_p46, List.forall_mem_cons.mpr ⟨lw_p47, fun _ h => absurd h List.not_mem_nil⟩⟩⟩⟩⟩⟩⟩⟩⟩⟩⟩⟩⟩⟩⟩⟩
theorem lw_p48 : lw_okq (⟨"LakeSwimmersModel", "laneOf", "(II)I"⟩, 24) := ⟨⟨by decide +kernel, by decide +kernel⟩, List.mem_of_getElem? (i := 877) (by decide +kernel), List.mem_of_getElem? (i := 1135) (by decide +kernel), List.mem_of_getElem? (i := 1136) (by decide +kernel)⟩
theorem lw_p49 : lw_okq (⟨"LakeSwimmersModel", "areUnlike", "(II)Z"⟩, 24) := ⟨⟨by decide +kernel, by decide +kernel⟩, List.mem_of_getElem? (i := 877) (by decide +kernel), List.mem_of_getElem? (i := 1146) (by decide +kernel), List.mem_of_getElem? (i := 1147) (by decide +kernel)⟩
theorem lw_p50 : lw_okq (⟨"LakeSwimmersModel", "swim", "(II)Z"⟩, 24) := ⟨⟨by decide +kernel, by decide +kernel⟩, List.mem_of_getElem? (i := 877) (by decide +kernel), List.mem_of_getElem? (i := 1151) (by decide +kernel), List.mem_of_getElem? (i := 1152) (by decide +kernel)⟩
theorem lw_p51 : lw_okq (⟨"LakeSwimmersModel", "aYear", "(IIZ)I"⟩, 24) := ⟨⟨by decide +kernel, by decide +kernel⟩, List.mem_of_getElem? (i := 877) (by decide +kernel), List.mem_of_getElem? (i := 1159) (by decide +kernel), List.mem_of_getElem? (i := 1160) (by decide +kernel)⟩
theorem lw_p52 : lw_okq (⟨"LakeSwimmersModel", "drawn", "()I"⟩, 24) := ⟨⟨by decide +kernel, by decide +kernel⟩, List.mem_of_getElem? (i := 877) (by decide +kernel), List.mem_of_getElem? (i := 1163) (by decide +kernel), List.mem_of_getElem? (i := 1164) (by decide +kernel)⟩
theorem lw_p53 : lw_okq (⟨"LakeSwimmersModel", "goesBy", "(II)V"⟩, 24) := ⟨⟨by decide +kernel, by decide +kernel⟩, List.mem_of_getElem? (i := 877) (by decide +kernel), List.mem_of_getElem? (i := 1168) (by decide +kernel), List.mem_of_getElem? (i := 1169) (by decide +kernel)⟩
theorem lw_p54 : lw_okq (⟨"LakeSwimmersModel", "plans", "(IIIII)V"⟩, 24) := ⟨⟨by decide +kernel, by decide +kernel⟩, List.mem_of_getElem? (i := 877) (by decide +kernel), List.mem_of_getElem? (i := 1188) (by decide +kernel), List.mem_of_getElem? (i := 1189) (by decide +kernel)⟩
theorem lw_p55 : lw_okq (⟨"LakeSwimmersModel", "endOf", "(IIII)I"⟩, 24) := ⟨⟨by decide +kernel, by decide +kernel⟩, List.mem_of_getElem? (i := 877) (by decide +kernel), List.mem_of_getElem? (i := 1199) (by decide +kernel), List.mem_of_getElem? (i := 1200) (by decide +kernel)⟩
theorem lw_p56 : lw_okq (⟨"LakeSwimmersModel", "changeSides", "(II)V"⟩, 24) := ⟨⟨by decide +kernel, by decide +kernel⟩, List.mem_of_getElem? (i := 877) (by decide +kernel), List.mem_of_getElem? (i := 1227) (by decide +kernel), List.mem_of_getElem? (i := 1228) (by decide +kernel)⟩
theorem lw_p57 : lw_okq (⟨"LakeSwimmersModel", "own", "()I"⟩, 24) := ⟨⟨by decide +kernel, by decide +kernel⟩, List.mem_of_getElem? (i := 877) (by decide +kernel), List.mem_of_getElem? (i := 1239) (by decide +kernel), List.mem_of_getElem? (i := 1240) (by decide +kernel)⟩
theorem lw_p58 : lw_okq (⟨"LakeSwimmersModel", "swims", "(II)I"⟩, 24) := ⟨⟨by decide +kernel, by decide +kernel⟩, List.mem_of_getElem? (i := 877) (by decide +kernel), List.mem_of_getElem? (i := 1243) (by decide +kernel), List.mem_of_getElem? (i := 1244) (by decide +kernel)⟩
theorem lw_p59 : lw_okq (⟨"LakeSwimmersModel", "ran", "(I)V"⟩, 24) := ⟨⟨by decide +kernel, by decide +kernel⟩, List.mem_of_getElem? (i := 877) (by decide +kernel), List.mem_of_getElem? (i := 1247) (by decide +kernel), List.mem_of_getElem? (i := 1248) (by decide +kernel)⟩
theorem lw_p60 : lw_okq (⟨"LakeSwimmersModel", "breathes", "(II)I"⟩, 24) := ⟨⟨by decide +kernel, by decide +kernel⟩, List.mem_of_getElem? (i := 877) (by decide +kernel), List.mem_of_getElem? (i := 1251) (by decide +kernel), List.mem_of_getElem? (i := 1252) (by decide +kernel)⟩
theorem lw_p61 : lw_okq (⟨"LakeSwimmersModel", "tires", "(II)I"⟩, 24) := ⟨⟨by decide +kernel, by decide +kernel⟩, List.mem_of_getElem? (i := 877) (by decide +kernel), List.mem_of_getElem? (i := 1255) (by decide +kernel), List.mem_of_getElem? (i := 1256) (by decide +kernel)⟩
theorem lw_p62 : lw_okq (⟨"LakeSwimmersModel", "tells", "(II)I"⟩, 24) := ⟨⟨by decide +kernel, by decide +kernel⟩, List.mem_of_getElem? (i := 877) (by decide +kernel), List.mem_of_getElem? (i := 1259) (by decide +kernel), List.mem_of_getElem? (i := 1260) (by decide +kernel)⟩
def lw_privs_4 : List (MethodName × Nat) := [(⟨"LakeSwimmersModel", "laneOf", "(II)I"⟩, 24), (⟨"LakeSwimmersModel", "areUnlike", "(II)Z"⟩, 24), (⟨"LakeSwimmersModel", "swim", "(II)Z"⟩, 24), (⟨"LakeSwimmersModel", "aYear", "(IIZ)I"⟩, 24), (⟨"LakeSwimmersModel", "drawn", "()I"⟩, 24), (⟨"LakeSwimmersModel", "goesBy", "(II)V"⟩, 24), (⟨"LakeSwimmersModel", "plans", "(IIIII)V"⟩, 24), (⟨"LakeSwimmersModel", "endOf", "(IIII)I"⟩, 24), (⟨"LakeSwimmersModel", "changeSides", "(II)V"⟩, 24), (⟨"LakeSwimmersModel", "own", "()I"⟩, 24), (⟨"LakeSwimmersModel", "swims", "(II)I"⟩, 24), (⟨"LakeSwimmersModel", "ran", "(I)V"⟩, 24), (⟨"LakeSwimmersModel", "breathes", "(II)I"⟩, 24), (⟨"LakeSwimmersModel", "tires", "(II)I"⟩, 24), (⟨"LakeSwimmersModel", "tells", "(II)I"⟩, 24)]
theorem lw_r4 : ∀ q ∈ lw_privs_4, lw_okq q := List.forall_mem_cons.mpr ⟨lw_p48, List.forall_mem_cons.mpr ⟨lw_p49, List.forall_mem_cons.mpr ⟨lw_p50, List.forall_mem_cons.mpr ⟨lw_p51, List.forall_mem_cons.mpr ⟨lw_p52, List.forall_mem_cons.mpr ⟨lw_p53, List.forall_mem_cons.mpr ⟨lw_p54, List.forall_mem_cons.mpr ⟨lw_p55, List.forall_mem_cons.mpr ⟨lw_p56, List.forall_mem_cons.mpr ⟨lw_p57, List.forall_mem_cons.mpr ⟨lw_p58, List.forall_mem_cons.mpr ⟨lw_p59, List.forall_mem_cons.mpr ⟨lw_p60, List.forall_mem_cons.mpr ⟨lw_p61, List.forall_mem_cons.mpr ⟨lw_p62, fun _ h => absurd h List.not_mem_nil⟩⟩⟩⟩⟩⟩⟩⟩⟩⟩⟩⟩⟩⟩⟩
def lw_privs : List (MethodName × Nat) := lw_privs_1 ++ (lw_privs_2 ++ (lw_privs_3 ++ (lw_privs_4)))
def lw_tbl : List Cond := k2_sels lw_privs ++ tables_1
theorem lw_privs_ok : ∀ q ∈ lw_privs, lw_okq q := by
  show ∀ q ∈ lw_privs_1 ++ (lw_privs_2 ++ (lw_privs_3 ++ (lw_privs_4))), lw_okq q
  exact List.forall_mem_append.mpr ⟨lw_r1, List.forall_mem_append.mpr ⟨lw_r2, List.forall_mem_append.mpr ⟨lw_r3, lw_r4⟩⟩⟩
end
section
theorem goodIn_r {big : List Cond} (ws : List Cond) (ps : List Nat) (hp : ws = ps.filterMap (fun i => big[i]?)) (h : ws.all goodWord = true) : GoodIn big ws := by
  intro w hw
  have h1 := List.all_eq_true.mp h w hw
  rw [hp] at hw
  obtain ⟨i, -, hi⟩ := List.mem_filterMap.mp hw
  have hm : w ∈ big := by first | exact List.mem_of_getElem? hi | exact List.getElem?_mem hi
  exact ⟨hm, good_of_word h1⟩
theorem goodIn_app {big a b : List Cond} (ha : GoodIn big a) (hb : GoodIn big b) : GoodIn big (a ++ b) := fun w h => (List.mem_append.mp h).elim (ha w) (hb w)
theorem goodIn_ca {big a b : List Cond} {c : Cond} (ha : GoodIn big (c :: a)) (hb : GoodIn big b) : GoodIn big (c :: (a ++ b)) := fun w h => (List.mem_cons.mp h).elim (fun e => ha w (List.mem_cons.mpr (Or.inl e))) (fun h => (List.mem_append.mp h).elim (fun h => ha w (List.mem_cons.mpr (Or.inr h))) (hb w))
theorem goodIn_sub {big ws : List Cond} (hm : ∀ w ∈ ws, w ∈ big) (h : ws.all goodWord = true) : GoodIn big ws := fun w hw => ⟨hm w hw, good_of_word (List.all_eq_true.mp h w hw)⟩
def RX0 : String := "LakeSwimmers$Lake"
def TX0 : u_T := fun k => match k with
  | 0 => ("LakeSwimmers$Lake", "currents", "[I", true)
  | 1 => ("LakeSwimmers$Lake", "wind", "I", false)
  | 2 => ("LakeSwimmers$Lake", "sight", "I", false)
  | 3 => ("LakeSwimmers$Lake", "border", "I", false)
  | 4 => ("LakeSwimmers$Lake", "year", "I", false)
  | 5 => ("LakeSwimmers$Lake", "fish", "I", false)
  | 6 => ("LakeSwimmers$Lake", "otherFish", "I", false)
  | 7 => ("LakeSwimmers$Lake", "swimmers", "[LLakeSwimmers$Swimmer;", true)
  | 8 => ("LakeSwimmers$Lake", "swimmerCount", "I", false)
  | 9 => ("LakeSwimmers$Lake", "flows", "LLakeSwimmers$Law;", true)
  | 10 => ("LakeSwimmers$Lake", "catches", "LLakeSwimmers$Law;", true)
  | 11 => ("LakeSwimmers$Lake", "tape", "[I", true)
  | 12 => ("LakeSwimmers$Lake", "tapeLength", "I", false)
  | 13 => ("LakeSwimmers$Lake", "waiting", "[I", true)
  | 14 => ("LakeSwimmers$Lake", "waitingCount", "I", false)
  | _ => ("LakeSwimmers$Lake", "z", "I", false)
def tyX0 : Nat → FieldType := fun k => match k with
  | 0 => .array .int
  | 1 => .int
  | 2 => .int
  | 3 => .int
  | 4 => .int
  | 5 => .int
  | 6 => .int
  | 7 => .array (.object "LakeSwimmers$Swimmer")
  | 8 => .int
  | 9 => .object "LakeSwimmers$Law"
  | 10 => .object "LakeSwimmers$Law"
  | 11 => .array .int
  | 12 => .int
  | 13 => .array .int
  | 14 => .int
  | _ => .int
abbrev wsX00 : List Cond := u_ws RX0 TX0 16
theorem nmX0 : ∀ a, a < 16 → ∀ b, b < 16 → a ≠ b → (TX0 a).2.1 ≠ (TX0 b).2.1 := by decide +kernel
theorem tyX0_ok : ∀ k, k < 16 → parseFieldDescriptor (TX0 k).2.2.1 = some (tyX0 k) := by decide +kernel
abbrev cX0_init : ByteArray := prog_2_method_1_code
def yX0_init : MethodName := ⟨RX0, "<init>", "()V"⟩
abbrev cX0_swimmerAt : ByteArray := prog_2_method_2_code
def yX0_swimmerAt : MethodName := ⟨RX0, "swimmerAt", "(I)LLakeSwimmers$Swimmer;"⟩
abbrev cX0_lawOf : ByteArray := prog_2_method_3_code
def yX0_lawOf : MethodName := ⟨RX0, "lawOf", "(I)LLakeSwimmers$Law;"⟩
abbrev cX0_flowOf : ByteArray := prog_2_method_4_code
def yX0_flowOf : MethodName := ⟨RX0, "flowOf", "(II)I"⟩
abbrev cX0_addToTape : ByteArray := prog_2_method_5_code
def yX0_addToTape : MethodName := ⟨RX0, "addToTape", "(JI)V"⟩
abbrev cX0_draw : ByteArray := prog_2_method_6_code
def yX0_draw : MethodName := ⟨RX0, "draw", "()I"⟩
abbrev cX0_share : ByteArray := prog_2_method_7_code
def yX0_share : MethodName := ⟨RX0, "share", "()V"⟩
abbrev cX0_copy : ByteArray := prog_2_method_8_code
def yX0_copy : MethodName := ⟨RX0, "copy", "(LLakeSwimmers$Lake;)V"⟩
def RX1 : String := "LakeSwimmers$Law"
def TX1 : u_T := fun k => match k with
  | 0 => ("LakeSwimmers$Law", "use", "I", true)
  | 1 => ("LakeSwimmers$Law", "row", "[I", true)
  | 2 => ("LakeSwimmers$Law", "stack", "[I", true)
  | _ => ("LakeSwimmers$Law", "length", "I", false)
def tyX1 : Nat → FieldType := fun k => match k with
  | 0 => .int
  | 1 => .array .int
  | 2 => .array .int
  | _ => .int
abbrev wsX10 : List Cond := u_ws RX1 TX1 4
theorem nmX1 : ∀ a, a < 4 → ∀ b, b < 4 → a ≠ b → (TX1 a).2.1 ≠ (TX1 b).2.1 := by decide +kernel
theorem tyX1_ok : ∀ k, k < 4 → parseFieldDescriptor (TX1 k).2.2.1 = some (tyX1 k) := by decide +kernel
abbrev cX1_init : ByteArray := prog_3_method_1_code
def yX1_init : MethodName := ⟨RX1, "<init>", "(I)V"⟩
abbrev cX1_take : ByteArray := prog_3_method_2_code
def yX1_take : MethodName := ⟨RX1, "take", "(LLakeSwimmers$Reader;)V"⟩
abbrev cX1_copy : ByteArray := prog_3_method_3_code
def yX1_copy : MethodName := ⟨RX1, "copy", "(LLakeSwimmers$Law;)V"⟩
abbrev cX1_give : ByteArray := prog_3_method_4_code
def yX1_give : MethodName := ⟨RX1, "give", "(III)I"⟩
abbrev cX1_workOut : ByteArray := prog_3_method_5_code
def yX1_workOut : MethodName := ⟨RX1, "workOut", "(III)I"⟩
abbrev cX1_valueOf : ByteArray := prog_3_method_6_code
def yX1_valueOf : MethodName := ⟨RX1, "valueOf", "(IIII)I"⟩
abbrev cX1_joined : ByteArray := prog_3_method_7_code
def yX1_joined : MethodName := ⟨RX1, "joined", "(III)I"⟩
def RX2 : String := "LakeSwimmers$PlanSearch"
def TX2 : u_T := fun k => match k with
  | 0 => ("LakeSwimmers$PlanSearch", "found", "Z", false)
  | 1 => ("LakeSwimmers$PlanSearch", "place", "I", false)
  | 2 => ("LakeSwimmers$PlanSearch", "best", "[I", true)
  | 3 => ("LakeSwimmers$PlanSearch", "tried", "LLakeSwimmers$Swimmer;", true)
  | 4 => ("LakeSwimmers$PlanSearch", "otherPlaces", "[I", true)
  | 5 => ("LakeSwimmers$PlanSearch", "swim", "LLakeSwimmers$Swim;", false)
  | 6 => ("LakeSwimmers$PlanSearch", "other", "LLakeSwimmers$Swimmer;", false)
  | _ => ("LakeSwimmers$PlanSearch", "sight", "I", false)
def tyX2 : Nat → FieldType := fun k => match k with
  | 0 => .boolean
  | 1 => .int
  | 2 => .array .int
  | 3 => .object "LakeSwimmers$Swimmer"
  | 4 => .array .int
  | 5 => .object "LakeSwimmers$Swim"
  | 6 => .object "LakeSwimmers$Swimmer"
  | _ => .int
abbrev wsX20 : List Cond := u_ws RX2 TX2 8
theorem nmX2 : ∀ a, a < 8 → ∀ b, b < 8 → a ≠ b → (TX2 a).2.1 ≠ (TX2 b).2.1 := by decide +kernel
theorem tyX2_ok : ∀ k, k < 8 → parseFieldDescriptor (TX2 k).2.2.1 = some (tyX2 k) := by decide +kernel
abbrev cX2_init : ByteArray := prog_4_method_1_code
def yX2_init : MethodName := ⟨RX2, "<init>", "()V"⟩
abbrev cX2_bestLane : ByteArray := prog_4_method_2_code
def yX2_bestLane : MethodName := ⟨RX2, "bestLane", "(I)I"⟩
abbrev cX2_seek : ByteArray := prog_4_method_3_code
def yX2_seek : MethodName := ⟨RX2, "seek", "(LLakeSwimmers$Swim;LLakeSwimmers$Swimmer;LLakeSwimmers$Swimmer;I)V"⟩
abbrev cX2_tryLanes : ByteArray := prog_4_method_4_code
def yX2_tryLanes : MethodName := ⟨RX2, "tryLanes", "(II)V"⟩
abbrev cX2_setLane : ByteArray := prog_4_method_5_code
def yX2_setLane : MethodName := ⟨RX2, "setLane", "(II)V"⟩
abbrev cX2_meetsAt : ByteArray := prog_4_method_6_code
def yX2_meetsAt : MethodName := ⟨RX2, "meetsAt", "(II)Z"⟩
def RX3 : String := "LakeSwimmers$Reader"
def TX3 : u_T := fun k => match k with
  | 0 => ("LakeSwimmers$Reader", "row", "[I", true)
  | 1 => ("LakeSwimmers$Reader", "rowLength", "I", false)
  | 2 => ("LakeSwimmers$Reader", "bytes", "[I", true)
  | 3 => ("LakeSwimmers$Reader", "length", "I", false)
  | 4 => ("LakeSwimmers$Reader", "place", "I", false)
  | _ => ("LakeSwimmers$Reader", "names", "Ljava/lang/String;", false)
def tyX3 : Nat → FieldType := fun k => match k with
  | 0 => .array .int
  | 1 => .int
  | 2 => .array .int
  | 3 => .int
  | 4 => .int
  | _ => .object "java/lang/String"
abbrev wsX30 : List Cond := u_ws RX3 TX3 6
theorem nmX3 : ∀ a, a < 6 → ∀ b, b < 6 → a ≠ b → (TX3 a).2.1 ≠ (TX3 b).2.1 := by decide +kernel
theorem tyX3_ok : ∀ k, k < 6 → parseFieldDescriptor (TX3 k).2.2.1 = some (tyX3 k) := by decide +kernel
abbrev cX3_init : ByteArray := prog_5_method_1_code
def yX3_init : MethodName := ⟨RX3, "<init>", "()V"⟩
abbrev cX3_read : ByteArray := prog_5_method_2_code
def yX3_read : MethodName := ⟨RX3, "read", "([III)I"⟩
abbrev cX3_next : ByteArray := prog_5_method_3_code
def yX3_next : MethodName := ⟨RX3, "next", "()I"⟩
abbrev cX3_add : ByteArray := prog_5_method_4_code
def yX3_add : MethodName := ⟨RX3, "add", "(I)V"⟩
abbrev cX3_readAny : ByteArray := prog_5_method_5_code
def yX3_readAny : MethodName := ⟨RX3, "readAny", "(I)Z"⟩
abbrev cX3_readAll : ByteArray := prog_5_method_6_code
def yX3_readAll : MethodName := ⟨RX3, "readAll", "(I)Z"⟩
abbrev cX3_readComparison : ByteArray := prog_5_method_7_code
def yX3_readComparison : MethodName := ⟨RX3, "readComparison", "(I)Z"⟩
abbrev cX3_readSum : ByteArray := prog_5_method_8_code
def yX3_readSum : MethodName := ⟨RX3, "readSum", "(I)Z"⟩
abbrev cX3_readProduct : ByteArray := prog_5_method_9_code
def yX3_readProduct : MethodName := ⟨RX3, "readProduct", "(I)Z"⟩
abbrev cX3_readPart : ByteArray := prog_5_method_10_code
def yX3_readPart : MethodName := ⟨RX3, "readPart", "(I)Z"⟩
abbrev cX3_readNot : ByteArray := prog_5_method_11_code
def yX3_readNot : MethodName := ⟨RX3, "readNot", "(I)Z"⟩
abbrev cX3_readBracket : ByteArray := prog_5_method_12_code
def yX3_readBracket : MethodName := ⟨RX3, "readBracket", "(I)Z"⟩
abbrev cX3_readNumber : ByteArray := prog_5_method_13_code
def yX3_readNumber : MethodName := ⟨RX3, "readNumber", "()V"⟩
abbrev cX3_isDigit : ByteArray := prog_5_method_14_code
def yX3_isDigit : MethodName := ⟨RX3, "isDigit", "(I)Z"⟩
def RX4 : String := "LakeSwimmers$Sheet"
def TX4 : u_T := fun k => match k with
  | 0 => ("LakeSwimmers$Sheet", "numbers", "[I", true)
  | 1 => ("LakeSwimmers$Sheet", "length", "I", false)
  | _ => ("LakeSwimmers$Sheet", "bits", "I", false)
def tyX4 : Nat → FieldType := fun k => match k with
  | 0 => .array .int
  | 1 => .int
  | _ => .int
abbrev wsX40 : List Cond := u_ws RX4 TX4 3
theorem nmX4 : ∀ a, a < 3 → ∀ b, b < 3 → a ≠ b → (TX4 a).2.1 ≠ (TX4 b).2.1 := by decide +kernel
theorem tyX4_ok : ∀ k, k < 3 → parseFieldDescriptor (TX4 k).2.2.1 = some (tyX4 k) := by decide +kernel
abbrev cX4_init : ByteArray := prog_6_method_1_code
def yX4_init : MethodName := ⟨RX4, "<init>", "()V"⟩
abbrev cX4_clear : ByteArray := prog_6_method_2_code
def yX4_clear : MethodName := ⟨RX4, "clear", "(II)V"⟩
abbrev cX4_isMissing : ByteArray := prog_6_method_3_code
def yX4_isMissing : MethodName := ⟨RX4, "isMissing", "()Z"⟩
abbrev cX4_read : ByteArray := prog_6_method_4_code
def yX4_read : MethodName := ⟨RX4, "read", "(I)I"⟩
abbrev cX4_write : ByteArray := prog_6_method_5_code
def yX4_write : MethodName := ⟨RX4, "write", "(II)V"⟩
abbrev cX4_holds : ByteArray := prog_6_method_6_code
def yX4_holds : MethodName := ⟨RX4, "holds", "(II)Z"⟩
def RX5 : String := "LakeSwimmers$Swim"
def TX5 : u_T := fun k => match k with
  | 0 => ("LakeSwimmers$Swim", "flows", "[I", true)
  | 1 => ("LakeSwimmers$Swim", "minute", "I", false)
  | 2 => ("LakeSwimmers$Swim", "place", "I", false)
  | 3 => ("LakeSwimmers$Swim", "lane", "I", false)
  | 4 => ("LakeSwimmers$Swim", "oneAt", "I", false)
  | _ => ("LakeSwimmers$Swim", "otherAt", "I", false)
def tyX5 : Nat → FieldType := fun k => match k with
  | 0 => .array .int
  | 1 => .int
  | 2 => .int
  | 3 => .int
  | 4 => .int
  | _ => .int
abbrev wsX50 : List Cond := u_ws RX5 TX5 6
theorem nmX5 : ∀ a, a < 6 → ∀ b, b < 6 → a ≠ b → (TX5 a).2.1 ≠ (TX5 b).2.1 := by decide +kernel
theorem tyX5_ok : ∀ k, k < 6 → parseFieldDescriptor (TX5 k).2.2.1 = some (tyX5 k) := by decide +kernel
abbrev cX5_init : ByteArray := prog_7_method_1_code
def yX5_init : MethodName := ⟨RX5, "<init>", "()V"⟩
abbrev cX5_feel : ByteArray := prog_7_method_2_code
def yX5_feel : MethodName := ⟨RX5, "feel", "(LLakeSwimmers$Lake;I)V"⟩
abbrev cX5_flowIn : ByteArray := prog_7_method_3_code
def yX5_flowIn : MethodName := ⟨RX5, "flowIn", "(I)I"⟩
abbrev cX5_placeNext : ByteArray := prog_7_method_4_code
def yX5_placeNext : MethodName := ⟨RX5, "placeNext", "(LLakeSwimmers$Swimmer;II)I"⟩
abbrev cX5_placeBehind : ByteArray := prog_7_method_5_code
def yX5_placeBehind : MethodName := ⟨RX5, "placeBehind", "(LLakeSwimmers$Swimmer;I)I"⟩
abbrev cX5_meets : ByteArray := prog_7_method_6_code
def yX5_meets : MethodName := ⟨RX5, "meets", "(LLakeSwimmers$Swimmer;LLakeSwimmers$Swimmer;I)Z"⟩
abbrev cX5_leastGap : ByteArray := prog_7_method_7_code
def yX5_leastGap : MethodName := ⟨RX5, "leastGap", "(LLakeSwimmers$Swimmer;LLakeSwimmers$Swimmer;)I"⟩
abbrev cX5_begin : ByteArray := prog_7_method_8_code
def yX5_begin : MethodName := ⟨RX5, "begin", "(LLakeSwimmers$Swimmer;LLakeSwimmers$Swimmer;)V"⟩
abbrev cX5_gap : ByteArray := prog_7_method_9_code
def yX5_gap : MethodName := ⟨RX5, "gap", "(LLakeSwimmers$Swimmer;)I"⟩
def RX6 : String := "LakeSwimmers$Swimmer"
def TX6 : u_T := fun k => match k with
  | 0 => ("LakeSwimmers$Swimmer", "kind", "I", false)
  | 1 => ("LakeSwimmers$Swimmer", "m", "I", false)
  | 2 => ("LakeSwimmers$Swimmer", "side", "I", false)
  | 3 => ("LakeSwimmers$Swimmer", "skill", "I", false)
  | 4 => ("LakeSwimmers$Swimmer", "met", "I", false)
  | _ => ("LakeSwimmers$Swimmer", "lanes", "[I", true)
def tyX6 : Nat → FieldType := fun k => match k with
  | 0 => .int
  | 1 => .int
  | 2 => .int
  | 3 => .int
  | 4 => .int
  | _ => .array .int
abbrev wsX60 : List Cond := u_ws RX6 TX6 6
theorem nmX6 : ∀ a, a < 6 → ∀ b, b < 6 → a ≠ b → (TX6 a).2.1 ≠ (TX6 b).2.1 := by decide +kernel
theorem tyX6_ok : ∀ k, k < 6 → parseFieldDescriptor (TX6 k).2.2.1 = some (tyX6 k) := by decide +kernel
abbrev cX6_init : ByteArray := prog_8_method_1_code
def yX6_init : MethodName := ⟨RX6, "<init>", "()V"⟩
abbrev cX6_begin : ByteArray := prog_8_method_2_code
def yX6_begin : MethodName := ⟨RX6, "begin", "(II)V"⟩
abbrev cX6_turnInto : ByteArray := prog_8_method_3_code
def yX6_turnInto : MethodName := ⟨RX6, "turnInto", "(I)V"⟩
abbrev cX6_keepTo : ByteArray := prog_8_method_4_code
def yX6_keepTo : MethodName := ⟨RX6, "keepTo", "(I)V"⟩
abbrev cX6_copy : ByteArray := prog_8_method_5_code
def yX6_copy : MethodName := ⟨RX6, "copy", "(LLakeSwimmers$Swimmer;)V"⟩
abbrev cX6_shore : ByteArray := prog_8_method_6_code
def yX6_shore : MethodName := ⟨RX6, "shore", "()I"⟩
abbrev cX6_laneOf : ByteArray := prog_8_method_7_code
def yX6_laneOf : MethodName := ⟨RX6, "laneOf", "(I)I"⟩
abbrev cX6_laneIn : ByteArray := prog_8_method_8_code
def yX6_laneIn : MethodName := ⟨RX6, "laneIn", "(I)I"⟩
abbrev cX6_paceIn : ByteArray := prog_8_method_9_code
def yX6_paceIn : MethodName := ⟨RX6, "paceIn", "(I)I"⟩
abbrev cX6_plainPace : ByteArray := prog_8_method_10_code
def yX6_plainPace : MethodName := ⟨RX6, "plainPace", "(I)I"⟩
def RX7 : String := "LakeSwimmers$Voices"
def TX7 : u_T := fun k => match k with
  | 0 => ("LakeSwimmers$Voices", "trace", "[I", true)
  | 1 => ("LakeSwimmers$Voices", "traceLength", "I", false)
  | 2 => ("LakeSwimmers$Voices", "kind", "I", false)
  | 3 => ("LakeSwimmers$Voices", "n", "I", false)
  | _ => ("LakeSwimmers$Voices", "m", "I", false)
def tyX7 : Nat → FieldType := fun k => match k with
  | 0 => .array .int
  | 1 => .int
  | 2 => .int
  | 3 => .int
  | _ => .int
abbrev wsX70 : List Cond := u_ws RX7 TX7 5
theorem nmX7 : ∀ a, a < 5 → ∀ b, b < 5 → a ≠ b → (TX7 a).2.1 ≠ (TX7 b).2.1 := by decide +kernel
theorem tyX7_ok : ∀ k, k < 5 → parseFieldDescriptor (TX7 k).2.2.1 = some (tyX7 k) := by decide +kernel
abbrev cX7_init : ByteArray := prog_9_method_1_code
def yX7_init : MethodName := ⟨RX7, "<init>", "()V"⟩
abbrev cX7_speak : ByteArray := prog_9_method_2_code
def yX7_speak : MethodName := ⟨RX7, "speak", "(LLakeSwimmers$Swimmer;III)I"⟩
abbrev cX7_say : ByteArray := prog_9_method_3_code
def yX7_say : MethodName := ⟨RX7, "say", "(IIII)I"⟩
abbrev cX7_bodyOf : ByteArray := prog_9_method_4_code
def yX7_bodyOf : MethodName := ⟨RX7, "bodyOf", "(II)I"⟩
abbrev cX7_note : ByteArray := prog_9_method_5_code
def yX7_note : MethodName := ⟨RX7, "note", "(I)V"⟩
def RX8 : String := "LakeSwimmers"
def TX8 : u_T := fun k => match k with
  | 0 => ("LakeSwimmers", "lake", "LLakeSwimmers$Lake;", true)
  | 1 => ("LakeSwimmers", "kept", "LLakeSwimmers$Lake;", true)
  | 2 => ("LakeSwimmers", "reader", "LLakeSwimmers$Reader;", true)
  | 3 => ("LakeSwimmers", "swim", "LLakeSwimmers$Swim;", true)
  | 4 => ("LakeSwimmers", "search", "LLakeSwimmers$PlanSearch;", true)
  | 5 => ("LakeSwimmers", "voices", "LLakeSwimmers$Voices;", true)
  | 6 => ("LakeSwimmers", "sheets", "[LLakeSwimmers$Sheet;", true)
  | 7 => ("LakeSwimmers", "errorCounts", "[I", true)
  | 8 => ("LakeSwimmers", "standIn", "LLakeSwimmers$Swimmer;", true)
  | 9 => ("LakeSwimmers", "otherStandIn", "LLakeSwimmers$Swimmer;", true)
  | _ => ("LakeSwimmers", "imageCount", "I", false)
def tyX8 : Nat → FieldType := fun k => match k with
  | 0 => .object "LakeSwimmers$Lake"
  | 1 => .object "LakeSwimmers$Lake"
  | 2 => .object "LakeSwimmers$Reader"
  | 3 => .object "LakeSwimmers$Swim"
  | 4 => .object "LakeSwimmers$PlanSearch"
  | 5 => .object "LakeSwimmers$Voices"
  | 6 => .array (.object "LakeSwimmers$Sheet")
  | 7 => .array .int
  | 8 => .object "LakeSwimmers$Swimmer"
  | 9 => .object "LakeSwimmers$Swimmer"
  | _ => .int
abbrev wsX80 : List Cond := u_ws RX8 TX8 11
theorem nmX8 : ∀ a, a < 11 → ∀ b, b < 11 → a ≠ b → (TX8 a).2.1 ≠ (TX8 b).2.1 := by decide +kernel
theorem tyX8_ok : ∀ k, k < 11 → parseFieldDescriptor (TX8 k).2.2.1 = some (tyX8 k) := by decide +kernel
abbrev cX8_init : ByteArray := prog_1_method_1_code
def yX8_init : MethodName := ⟨RX8, "<init>", "()V"⟩
abbrev cX8_current : ByteArray := prog_1_method_2_code
def yX8_current : MethodName := ⟨RX8, "current", "(II)I"⟩
abbrev cX8_set : ByteArray := prog_1_method_3_code
def yX8_set : MethodName := ⟨RX8, "set", "(II)I"⟩
abbrev cX8_flow : ByteArray := prog_1_method_4_code
def yX8_flow : MethodName := ⟨RX8, "flow", "(I)I"⟩
abbrev cX8_swimmer : ByteArray := prog_1_method_5_code
def yX8_swimmer : MethodName := ⟨RX8, "swimmer", "(II)I"⟩
abbrev cX8_ofSwimmer : ByteArray := prog_1_method_6_code
def yX8_ofSwimmer : MethodName := ⟨RX8, "ofSwimmer", "(II)I"⟩
abbrev cX8_train : ByteArray := prog_1_method_7_code
def yX8_train : MethodName := ⟨RX8, "train", "(II)I"⟩
abbrev cX8_plan : ByteArray := prog_1_method_8_code
def yX8_plan : MethodName := ⟨RX8, "plan", "(III)I"⟩
abbrev cX8_become : ByteArray := prog_1_method_9_code
def yX8_become : MethodName := ⟨RX8, "become", "(II)I"⟩
abbrev cX8_as : ByteArray := prog_1_method_10_code
def yX8_as : MethodName := ⟨RX8, "as", "(II)I"⟩
abbrev cX8_pace : ByteArray := prog_1_method_11_code
def yX8_pace : MethodName := ⟨RX8, "pace", "(II)I"⟩
abbrev cX8_feed : ByteArray := prog_1_method_12_code
def yX8_feed : MethodName := ⟨RX8, "feed", "(JI)I"⟩
abbrev cX8_text : ByteArray := prog_1_method_13_code
def yX8_text : MethodName := ⟨RX8, "text", "(I)I"⟩
abbrev cX8_law : ByteArray := prog_1_method_14_code
def yX8_law : MethodName := ⟨RX8, "law", "(IIII)I"⟩
abbrev cX8_where : ByteArray := prog_1_method_15_code
def yX8_where : MethodName := ⟨RX8, "where", "(II)I"⟩
abbrev cX8_meet : ByteArray := prog_1_method_16_code
def yX8_meet : MethodName := ⟨RX8, "meet", "(III)I"⟩
abbrev cX8_year : ByteArray := prog_1_method_17_code
def yX8_year : MethodName := ⟨RX8, "year", "(II)I"⟩
abbrev cX8_loose : ByteArray := prog_1_method_18_code
def yX8_loose : MethodName := ⟨RX8, "loose", "(II)I"⟩
abbrev cX8_bestPlan : ByteArray := prog_1_method_19_code
def yX8_bestPlan : MethodName := ⟨RX8, "bestPlan", "(III)I"⟩
abbrev cX8_hold : ByteArray := prog_1_method_20_code
def yX8_hold : MethodName := ⟨RX8, "hold", "(III)I"⟩
abbrev cX8_ask : ByteArray := prog_1_method_21_code
def yX8_ask : MethodName := ⟨RX8, "ask", "(II)I"⟩
abbrev cX8_leastSight : ByteArray := prog_1_method_22_code
def yX8_leastSight : MethodName := ⟨RX8, "leastSight", "(II)I"⟩
abbrev cX8_send : ByteArray := prog_1_method_23_code
def yX8_send : MethodName := ⟨RX8, "send", "(I)I"⟩
abbrev cX8_diary : ByteArray := prog_1_method_24_code
def yX8_diary : MethodName := ⟨RX8, "diary", "(IIIII)I"⟩
abbrev cX8_training : ByteArray := prog_1_method_25_code
def yX8_training : MethodName := ⟨RX8, "training", "(III)I"⟩
abbrev cX8_fair : ByteArray := prog_1_method_26_code
def yX8_fair : MethodName := ⟨RX8, "fair", "(II)I"⟩
abbrev cX8_seed : ByteArray := prog_1_method_27_code
def yX8_seed : MethodName := ⟨RX8, "seed", "(I)I"⟩
abbrev cX8_voice : ByteArray := prog_1_method_28_code
def yX8_voice : MethodName := ⟨RX8, "voice", "(III)I"⟩
abbrev cX8_trace : ByteArray := prog_1_method_29_code
def yX8_trace : MethodName := ⟨RX8, "trace", "(I)I"⟩
abbrev cX8_sheet : ByteArray := prog_1_method_30_code
def yX8_sheet : MethodName := ⟨RX8, "sheet", "(III)I"⟩
abbrev cX8_put : ByteArray := prog_1_method_31_code
def yX8_put : MethodName := ⟨RX8, "put", "(III)I"⟩
abbrev cX8_move : ByteArray := prog_1_method_32_code
def yX8_move : MethodName := ⟨RX8, "move", "(IIIII)I"⟩
abbrev cX8_years : ByteArray := prog_1_method_33_code
def yX8_years : MethodName := ⟨RX8, "years", "(I)I"⟩
abbrev cX8_judge : ByteArray := prog_1_method_34_code
def yX8_judge : MethodName := ⟨RX8, "judge", "(II)I"⟩
abbrev cX8_image : ByteArray := prog_1_method_35_code
def yX8_image : MethodName := ⟨RX8, "image", "()I"⟩
abbrev cX8_restore : ByteArray := prog_1_method_36_code
def yX8_restore : MethodName := ⟨RX8, "restore", "()I"⟩
abbrev cX8_tell : ByteArray := prog_1_method_37_code
def yX8_tell : MethodName := ⟨RX8, "tell", "(I)I"⟩
abbrev cX8_check : ByteArray := prog_1_method_38_code
def yX8_check : MethodName := ⟨RX8, "check", "(II)I"⟩
abbrev cX8_count : ByteArray := prog_1_method_39_code
def yX8_count : MethodName := ⟨RX8, "count", "(I)I"⟩
abbrev cX8_told : ByteArray := prog_1_method_40_code
def yX8_told : MethodName := ⟨RX8, "told", "(I)I"⟩
abbrev cX8_refuse : ByteArray := prog_1_method_41_code
def yX8_refuse : MethodName := ⟨RX8, "refuse", "(I)I"⟩
abbrev cX8_sheetAt : ByteArray := prog_1_method_42_code
def yX8_sheetAt : MethodName := ⟨RX8, "sheetAt", "(I)LLakeSwimmers$Sheet;"⟩
abbrev cX8_whyNoYear : ByteArray := prog_1_method_43_code
def yX8_whyNoYear : MethodName := ⟨RX8, "whyNoYear", "(II)I"⟩
abbrev cX8_letYearGoBy : ByteArray := prog_1_method_44_code
def yX8_letYearGoBy : MethodName := ⟨RX8, "letYearGoBy", "(II)V"⟩
abbrev cX8_meetInLane : ByteArray := prog_1_method_45_code
def yX8_meetInLane : MethodName := ⟨RX8, "meetInLane", "(ILLakeSwimmers$Swimmer;LLakeSwimmers$Swimmer;)Z"⟩
abbrev cX8_worstPlaceIn : ByteArray := prog_1_method_46_code
def yX8_worstPlaceIn : MethodName := ⟨RX8, "worstPlaceIn", "(ILLakeSwimmers$Swimmer;LLakeSwimmers$Swimmer;)I"⟩
abbrev cX8_isOutside : ByteArray := prog_1_method_47_code
def yX8_isOutside : MethodName := ⟨RX8, "isOutside", "(III)Z"⟩
abbrev cX8_heldWithin : ByteArray := prog_1_method_48_code
def yX8_heldWithin : MethodName := ⟨RX8, "heldWithin", "(III)I"⟩
abbrev cX8_isUnder : ByteArray := prog_1_method_49_code
def yX8_isUnder : MethodName := ⟨RX8, "isUnder", "(II)Z"⟩
abbrev cX8_areUnlike : ByteArray := prog_1_method_50_code
def yX8_areUnlike : MethodName := ⟨RX8, "areUnlike", "(LLakeSwimmers$Swimmer;LLakeSwimmers$Swimmer;)Z"⟩
abbrev cX8_isBetter : ByteArray := prog_1_method_51_code
def yX8_isBetter : MethodName := ⟨RX8, "isBetter", "(III)Z"⟩
def RX9 : String := "LakeSwimmersModel"
def TX9 : u_T := fun k => match k with
  | 0 => ("LakeSwimmersModel", "d", "[I", true)
  | 1 => ("LakeSwimmersModel", "e", "[I", true)
  | 2 => ("LakeSwimmersModel", "kept", "[I", true)
  | 3 => ("LakeSwimmersModel", "images", "I", false)
  | 4 => ("LakeSwimmersModel", "found", "[I", true)
  | 5 => ("LakeSwimmersModel", "base", "I", false)
  | 6 => ("LakeSwimmersModel", "at", "I", false)
  | 7 => ("LakeSwimmersModel", "size", "I", false)
  | 8 => ("LakeSwimmersModel", "fault", "I", false)
  | 9 => ("LakeSwimmersModel", "opened", "I", false)
  | 10 => ("LakeSwimmersModel", "isCatch", "Z", false)
  | 11 => ("LakeSwimmersModel", "names", "[I", true)
  | 12 => ("LakeSwimmersModel", "code", "[I", true)
  | 13 => ("LakeSwimmersModel", "coded", "I", false)
  | 14 => ("LakeSwimmersModel", "pile", "[I", true)
  | 15 => ("LakeSwimmersModel", "metIn", "I", false)
  | 16 => ("LakeSwimmersModel", "metAt", "I", false)
  | 17 => ("LakeSwimmersModel", "traced", "[I", true)
  | 18 => ("LakeSwimmersModel", "traceMany", "I", false)
  | 19 => ("LakeSwimmersModel", "who", "I", false)
  | 20 => ("LakeSwimmersModel", "bitsOf", "[I", true)
  | 21 => ("LakeSwimmersModel", "sizeOf", "[I", true)
  | 22 => ("LakeSwimmersModel", "number", "[I", true)
  | _ => ("LakeSwimmersModel", "lifted", "[I", true)
def tyX9 : Nat → FieldType := fun k => match k with
  | 0 => .array .int
  | 1 => .array .int
  | 2 => .array .int
  | 3 => .int
  | 4 => .array .int
  | 5 => .int
  | 6 => .int
  | 7 => .int
  | 8 => .int
  | 9 => .int
  | 10 => .boolean
  | 11 => .array .int
  | 12 => .array .int
  | 13 => .int
  | 14 => .array .int
  | 15 => .int
  | 16 => .int
  | 17 => .array .int
  | 18 => .int
  | 19 => .int
  | 20 => .array .int
  | 21 => .array .int
  | 22 => .array .int
  | _ => .array .int
abbrev wsX90 : List Cond := u_ws RX9 TX9 24
theorem nmX9 : ∀ a, a < 24 → ∀ b, b < 24 → a ≠ b → (TX9 a).2.1 ≠ (TX9 b).2.1 := by decide +kernel
theorem tyX9_ok : ∀ k, k < 24 → parseFieldDescriptor (TX9 k).2.2.1 = some (tyX9 k) := by decide +kernel
abbrev cX9_init : ByteArray := prog_11_method_1_code
def yX9_init : MethodName := ⟨RX9, "<init>", "()V"⟩
abbrev cX9_finds : ByteArray := prog_11_method_3_code
def yX9_finds : MethodName := ⟨RX9, "finds", "(I)I"⟩
abbrev cX9_in : ByteArray := prog_11_method_4_code
def yX9_in : MethodName := ⟨RX9, "in", "(JJJ)Z"⟩
abbrev cX9_held : ByteArray := prog_11_method_5_code
def yX9_held : MethodName := ⟨RX9, "held", "(III)I"⟩
abbrev cX9_lesser : ByteArray := prog_11_method_6_code
def yX9_lesser : MethodName := ⟨RX9, "lesser", "(II)I"⟩
abbrev cX9_greater : ByteArray := prog_11_method_7_code
def yX9_greater : MethodName := ⟨RX9, "greater", "(II)I"⟩
abbrev cX9_copies : ByteArray := prog_11_method_8_code
def yX9_copies : MethodName := ⟨RX9, "copies", "([I[I)V"⟩
abbrev cX9_isLane : ByteArray := prog_11_method_9_code
def yX9_isLane : MethodName := ⟨RX9, "isLane", "(I)Z"⟩
abbrev cX9_isSwimmer : ByteArray := prog_11_method_10_code
def yX9_isSwimmer : MethodName := ⟨RX9, "isSwimmer", "(I)Z"⟩
abbrev cX9_of : ByteArray := prog_11_method_11_code
def yX9_of : MethodName := ⟨RX9, "of", "(II)I"⟩
abbrev cX9_becomes : ByteArray := prog_11_method_12_code
def yX9_becomes : MethodName := ⟨RX9, "becomes", "(III)V"⟩
abbrev cX9_here : ByteArray := prog_11_method_13_code
def yX9_here : MethodName := ⟨RX9, "here", "()I"⟩
abbrev cX9_wrong : ByteArray := prog_11_method_14_code
def yX9_wrong : MethodName := ⟨RX9, "wrong", "()V"⟩
abbrev cX9_takes : ByteArray := prog_11_method_15_code
def yX9_takes : MethodName := ⟨RX9, "takes", "(I)Z"⟩
abbrev cX9_nameOf : ByteArray := prog_11_method_16_code
def yX9_nameOf : MethodName := ⟨RX9, "nameOf", "(I)I"⟩
abbrev cX9_lay : ByteArray := prog_11_method_17_code
def yX9_lay : MethodName := ⟨RX9, "lay", "(I)V"⟩
abbrev cX9_either : ByteArray := prog_11_method_18_code
def yX9_either : MethodName := ⟨RX9, "either", "()V"⟩
abbrev cX9_both : ByteArray := prog_11_method_19_code
def yX9_both : MethodName := ⟨RX9, "both", "()V"⟩
abbrev cX9_compared : ByteArray := prog_11_method_20_code
def yX9_compared : MethodName := ⟨RX9, "compared", "()V"⟩
abbrev cX9_sum : ByteArray := prog_11_method_21_code
def yX9_sum : MethodName := ⟨RX9, "sum", "()V"⟩
abbrev cX9_product : ByteArray := prog_11_method_22_code
def yX9_product : MethodName := ⟨RX9, "product", "()V"⟩
abbrev cX9_opens : ByteArray := prog_11_method_23_code
def yX9_opens : MethodName := ⟨RX9, "opens", "(I)V"⟩
abbrev cX9_unit : ByteArray := prog_11_method_24_code
def yX9_unit : MethodName := ⟨RX9, "unit", "()V"⟩
abbrev cX9_reads : ByteArray := prog_11_method_25_code
def yX9_reads : MethodName := ⟨RX9, "reads", "(III)V"⟩
abbrev cX9_done : ByteArray := prog_11_method_26_code
def yX9_done : MethodName := ⟨RX9, "done", "(III)I"⟩
abbrev cX9_worked : ByteArray := prog_11_method_27_code
def yX9_worked : MethodName := ⟨RX9, "worked", "(II)I"⟩
abbrev cX9_feed : ByteArray := prog_11_method_28_code
def yX9_feed : MethodName := ⟨RX9, "feed", "(JI)I"⟩
abbrev cX9_text : ByteArray := prog_11_method_29_code
def yX9_text : MethodName := ⟨RX9, "text", "(I)I"⟩
abbrev cX9_gives : ByteArray := prog_11_method_30_code
def yX9_gives : MethodName := ⟨RX9, "gives", "(IIII)I"⟩
abbrev cX9_law : ByteArray := prog_11_method_31_code
def yX9_law : MethodName := ⟨RX9, "law", "(IIII)I"⟩
abbrev cX9_current : ByteArray := prog_11_method_32_code
def yX9_current : MethodName := ⟨RX9, "current", "(II)I"⟩
abbrev cX9_set : ByteArray := prog_11_method_33_code
def yX9_set : MethodName := ⟨RX9, "set", "(II)I"⟩
abbrev cX9_flowOf : ByteArray := prog_11_method_34_code
def yX9_flowOf : MethodName := ⟨RX9, "flowOf", "(I)I"⟩
abbrev cX9_flow : ByteArray := prog_11_method_35_code
def yX9_flow : MethodName := ⟨RX9, "flow", "(I)I"⟩
abbrev cX9_swimmer : ByteArray := prog_11_method_36_code
def yX9_swimmer : MethodName := ⟨RX9, "swimmer", "(II)I"⟩
abbrev cX9_ofSwimmer : ByteArray := prog_11_method_37_code
def yX9_ofSwimmer : MethodName := ⟨RX9, "ofSwimmer", "(II)I"⟩
abbrev cX9_train : ByteArray := prog_11_method_38_code
def yX9_train : MethodName := ⟨RX9, "train", "(II)I"⟩
abbrev cX9_plan : ByteArray := prog_11_method_39_code
def yX9_plan : MethodName := ⟨RX9, "plan", "(III)I"⟩
abbrev cX9_become : ByteArray := prog_11_method_40_code
def yX9_become : MethodName := ⟨RX9, "become", "(II)I"⟩
abbrev cX9_above : ByteArray := prog_11_method_41_code
def yX9_above : MethodName := ⟨RX9, "above", "(I)I"⟩
abbrev cX9_as : ByteArray := prog_11_method_42_code
def yX9_as : MethodName := ⟨RX9, "as", "(II)I"⟩
abbrev cX9_paceOf : ByteArray := prog_11_method_43_code
def yX9_paceOf : MethodName := ⟨RX9, "paceOf", "(II)I"⟩
abbrev cX9_pace : ByteArray := prog_11_method_44_code
def yX9_pace : MethodName := ⟨RX9, "pace", "(II)I"⟩
abbrev cX9_laneOf : ByteArray := prog_11_method_45_code
def yX9_laneOf : MethodName := ⟨RX9, "laneOf", "(II)I"⟩
abbrev cX9_goes : ByteArray := prog_11_method_46_code
def yX9_goes : MethodName := ⟨RX9, "goes", "(III)I"⟩
abbrev cX9_where : ByteArray := prog_11_method_47_code
def yX9_where : MethodName := ⟨RX9, "where", "(II)I"⟩
abbrev cX9_swim : ByteArray := prog_11_method_48_code
def yX9_swim : MethodName := ⟨RX9, "swim", "(II)Z"⟩
abbrev cX9_areUnlike : ByteArray := prog_11_method_49_code
def yX9_areUnlike : MethodName := ⟨RX9, "areUnlike", "(II)Z"⟩
abbrev cX9_meet : ByteArray := prog_11_method_50_code
def yX9_meet : MethodName := ⟨RX9, "meet", "(III)I"⟩
abbrev cX9_goesBy : ByteArray := prog_11_method_51_code
def yX9_goesBy : MethodName := ⟨RX9, "goesBy", "(II)V"⟩
abbrev cX9_drawn : ByteArray := prog_11_method_52_code
def yX9_drawn : MethodName := ⟨RX9, "drawn", "()I"⟩
abbrev cX9_aYear : ByteArray := prog_11_method_53_code
def yX9_aYear : MethodName := ⟨RX9, "aYear", "(IIZ)I"⟩
abbrev cX9_year : ByteArray := prog_11_method_54_code
def yX9_year : MethodName := ⟨RX9, "year", "(II)I"⟩
abbrev cX9_loose : ByteArray := prog_11_method_55_code
def yX9_loose : MethodName := ⟨RX9, "loose", "(II)I"⟩
abbrev cX9_isBetter : ByteArray := prog_11_method_56_code
def yX9_isBetter : MethodName := ⟨RX9, "isBetter", "(III)Z"⟩
abbrev cX9_plans : ByteArray := prog_11_method_57_code
def yX9_plans : MethodName := ⟨RX9, "plans", "(IIIII)V"⟩
abbrev cX9_laneIn : ByteArray := prog_11_method_58_code
def yX9_laneIn : MethodName := ⟨RX9, "laneIn", "(II)I"⟩
abbrev cX9_bestPlan : ByteArray := prog_11_method_59_code
def yX9_bestPlan : MethodName := ⟨RX9, "bestPlan", "(III)I"⟩
abbrev cX9_endOf : ByteArray := prog_11_method_60_code
def yX9_endOf : MethodName := ⟨RX9, "endOf", "(IIII)I"⟩
abbrev cX9_hold : ByteArray := prog_11_method_61_code
def yX9_hold : MethodName := ⟨RX9, "hold", "(III)I"⟩
abbrev cX9_ask : ByteArray := prog_11_method_62_code
def yX9_ask : MethodName := ⟨RX9, "ask", "(II)I"⟩
abbrev cX9_leastSight : ByteArray := prog_11_method_63_code
def yX9_leastSight : MethodName := ⟨RX9, "leastSight", "(II)I"⟩
abbrev cX9_send : ByteArray := prog_11_method_64_code
def yX9_send : MethodName := ⟨RX9, "send", "(I)I"⟩
abbrev cX9_diary : ByteArray := prog_11_method_65_code
def yX9_diary : MethodName := ⟨RX9, "diary", "(IIIII)I"⟩
abbrev cX9_training : ByteArray := prog_11_method_66_code
def yX9_training : MethodName := ⟨RX9, "training", "(III)I"⟩
abbrev cX9_changeSides : ByteArray := prog_11_method_67_code
def yX9_changeSides : MethodName := ⟨RX9, "changeSides", "(II)V"⟩
abbrev cX9_fair : ByteArray := prog_11_method_68_code
def yX9_fair : MethodName := ⟨RX9, "fair", "(II)I"⟩
abbrev cX9_seed : ByteArray := prog_11_method_69_code
def yX9_seed : MethodName := ⟨RX9, "seed", "(I)I"⟩
abbrev cX9_ran : ByteArray := prog_11_method_70_code
def yX9_ran : MethodName := ⟨RX9, "ran", "(I)V"⟩
abbrev cX9_own : ByteArray := prog_11_method_71_code
def yX9_own : MethodName := ⟨RX9, "own", "()I"⟩
abbrev cX9_swims : ByteArray := prog_11_method_72_code
def yX9_swims : MethodName := ⟨RX9, "swims", "(II)I"⟩
abbrev cX9_breathes : ByteArray := prog_11_method_73_code
def yX9_breathes : MethodName := ⟨RX9, "breathes", "(II)I"⟩
abbrev cX9_tires : ByteArray := prog_11_method_74_code
def yX9_tires : MethodName := ⟨RX9, "tires", "(II)I"⟩
abbrev cX9_tells : ByteArray := prog_11_method_75_code
def yX9_tells : MethodName := ⟨RX9, "tells", "(II)I"⟩
abbrev cX9_voice : ByteArray := prog_11_method_76_code
def yX9_voice : MethodName := ⟨RX9, "voice", "(III)I"⟩
abbrev cX9_trace : ByteArray := prog_11_method_77_code
def yX9_trace : MethodName := ⟨RX9, "trace", "(I)I"⟩
abbrev cX9_isSheet : ByteArray := prog_11_method_78_code
def yX9_isSheet : MethodName := ⟨RX9, "isSheet", "(I)Z"⟩
abbrev cX9_sheet : ByteArray := prog_11_method_79_code
def yX9_sheet : MethodName := ⟨RX9, "sheet", "(III)I"⟩
abbrev cX9_put : ByteArray := prog_11_method_80_code
def yX9_put : MethodName := ⟨RX9, "put", "(III)I"⟩
abbrev cX9_move : ByteArray := prog_11_method_81_code
def yX9_move : MethodName := ⟨RX9, "move", "(IIIII)I"⟩
abbrev cX9_years : ByteArray := prog_11_method_82_code
def yX9_years : MethodName := ⟨RX9, "years", "(I)I"⟩
abbrev cX9_judge : ByteArray := prog_11_method_83_code
def yX9_judge : MethodName := ⟨RX9, "judge", "(II)I"⟩
abbrev cX9_image : ByteArray := prog_11_method_84_code
def yX9_image : MethodName := ⟨RX9, "image", "()I"⟩
abbrev cX9_restore : ByteArray := prog_11_method_85_code
def yX9_restore : MethodName := ⟨RX9, "restore", "()I"⟩
abbrev cX9_tell : ByteArray := prog_11_method_86_code
def yX9_tell : MethodName := ⟨RX9, "tell", "(I)I"⟩
abbrev cX9_check : ByteArray := prog_11_method_87_code
def yX9_check : MethodName := ⟨RX9, "check", "(II)I"⟩
abbrev cX9_count : ByteArray := prog_11_method_88_code
def yX9_count : MethodName := ⟨RX9, "count", "(I)I"⟩
abbrev cX9_told : ByteArray := prog_11_method_89_code
def yX9_told : MethodName := ⟨RX9, "told", "(I)I"⟩
def RJ11 : String := "java/lang/Character"
def TJ11 : u_T := fun k => match k with
  | _ => ("", "", "", false)
def tyJ11 : Nat → FieldType := fun k => match k with
  | _ => .int
abbrev wsJ110 : List Cond := u_ws RJ11 TJ11 0
theorem nmJ11 : ∀ a, a < 0 → ∀ b, b < 0 → a ≠ b → (TJ11 a).2.1 ≠ (TJ11 b).2.1 := by decide +kernel
theorem tyJ11_ok : ∀ k, k < 0 → parseFieldDescriptor (TJ11 k).2.2.1 = some (tyJ11 k) := by decide +kernel
abbrev cJ11_isValidCodePoint_9a6ad : ByteArray := prog_12_method_11_code
def yJ11_isValidCodePoint_9a6ad : MethodName := ⟨RJ11, "isValidCodePoint", "(I)Z"⟩
abbrev cJ11_highSurrogate_5068e : ByteArray := prog_12_method_28_code
def yJ11_highSurrogate_5068e : MethodName := ⟨RJ11, "highSurrogate", "(I)C"⟩
abbrev cJ11_lowSurrogate_5068e : ByteArray := prog_12_method_29_code
def yJ11_lowSurrogate_5068e : MethodName := ⟨RJ11, "lowSurrogate", "(I)C"⟩
def RJ9 : String := "java/lang/Math"
def TJ9 : u_T := fun k => match k with
  | _ => ("", "", "", false)
def tyJ9 : Nat → FieldType := fun k => match k with
  | _ => .int
abbrev wsJ90 : List Cond := u_ws RJ9 TJ9 0
theorem nmJ9 : ∀ a, a < 0 → ∀ b, b < 0 → a ≠ b → (TJ9 a).2.1 ≠ (TJ9 b).2.1 := by decide +kernel
theorem tyJ9_ok : ∀ k, k < 0 → parseFieldDescriptor (TJ9 k).2.2.1 = some (tyJ9 k) := by decide +kernel
abbrev cJ9_max_7cf53 : ByteArray := prog_13_method_65_code
def yJ9_max_7cf53 : MethodName := ⟨RJ9, "max", "(II)I"⟩
abbrev cJ9_min_7cf53 : ByteArray := prog_13_method_69_code
def yJ9_min_7cf53 : MethodName := ⟨RJ9, "min", "(II)I"⟩
def RJ0 : String := "java/lang/String"
def TJ0 : u_T := fun k => match k with
  | _ => ("", "", "", false)
def tyJ0 : Nat → FieldType := fun k => match k with
  | _ => .int
abbrev wsJ00 : List Cond := u_ws RJ0 TJ0 0
theorem nmJ0 : ∀ a, a < 0 → ∀ b, b < 0 → a ≠ b → (TJ0 a).2.1 ≠ (TJ0 b).2.1 := by decide +kernel
theorem tyJ0_ok : ∀ k, k < 0 → parseFieldDescriptor (TJ0 k).2.2.1 = some (tyJ0 k) := by decide +kernel
abbrev cJ0_length_8abf5 : ByteArray := prog_14_method_54_code
def yJ0_length_8abf5 : MethodName := ⟨RJ0, "length", "()I"⟩
abbrev cJ0_indexOf_0f7a4 : ByteArray := prog_14_method_79_code
def yJ0_indexOf_0f7a4 : MethodName := ⟨RJ0, "indexOf", "(I)I"⟩
abbrev cJ0_indexOf_7cf53 : ByteArray := prog_14_method_80_code
def yJ0_indexOf_7cf53 : MethodName := ⟨RJ0, "indexOf", "(II)I"⟩
abbrev cJ0_coder_7d493 : ByteArray := prog_14_method_152_code
def yJ0_coder_7d493 : MethodName := ⟨RJ0, "coder", "()B"⟩
abbrev cJ0_isLatin1_aae02 : ByteArray := prog_14_method_154_code
def yJ0_isLatin1_aae02 : MethodName := ⟨RJ0, "isLatin1", "()Z"⟩
abbrev cJ0_checkBoundsBeginEnd_23922 : ByteArray := prog_14_method_158_code
def yJ0_checkBoundsBeginEnd_23922 : MethodName := ⟨RJ0, "checkBoundsBeginEnd", "(III)V"⟩
def RJ1 : String := "java/lang/StringLatin1"
def TJ1 : u_T := fun k => match k with
  | _ => ("", "", "", false)
def tyJ1 : Nat → FieldType := fun k => match k with
  | _ => .int
abbrev wsJ10 : List Cond := u_ws RJ1 TJ1 0
theorem nmJ1 : ∀ a, a < 0 → ∀ b, b < 0 → a ≠ b → (TJ1 a).2.1 ≠ (TJ1 b).2.1 := by decide +kernel
theorem tyJ1_ok : ∀ k, k < 0 → parseFieldDescriptor (TJ1 k).2.2.1 = some (tyJ1 k) := by decide +kernel
abbrev cJ1_canEncode_9a6ad : ByteArray := prog_15_method_4_code
def yJ1_canEncode_9a6ad : MethodName := ⟨RJ1, "canEncode", "(I)Z"⟩
abbrev cJ1_indexOf_4cfef : ByteArray := prog_15_method_22_code
def yJ1_indexOf_4cfef : MethodName := ⟨RJ1, "indexOf", "([BIII)I"⟩
abbrev cJ1_indexOfChar_4cfef : ByteArray := prog_15_method_23_code
def yJ1_indexOfChar_4cfef : MethodName := ⟨RJ1, "indexOfChar", "([BIII)I"⟩
def RJ2 : String := "java/lang/StringUTF16"
def TJ2 : u_T := fun k => match k with
  | _ => ("", "", "", false)
def tyJ2 : Nat → FieldType := fun k => match k with
  | _ => .int
abbrev wsJ20 : List Cond := u_ws RJ2 TJ2 0
theorem nmJ2 : ∀ a, a < 0 → ∀ b, b < 0 → a ≠ b → (TJ2 a).2.1 ≠ (TJ2 b).2.1 := by decide +kernel
theorem tyJ2_ok : ∀ k, k < 0 → parseFieldDescriptor (TJ2 k).2.2.1 = some (tyJ2 k) := by decide +kernel
abbrev cJ2_getChar_3b067 : ByteArray := prog_16_method_5_code
def yJ2_getChar_3b067 : MethodName := ⟨RJ2, "getChar", "([BI)C"⟩
abbrev cJ2_length_9d52b : ByteArray := prog_16_method_6_code
def yJ2_length_9d52b : MethodName := ⟨RJ2, "length", "([B)I"⟩
abbrev cJ2_indexOf_4cfef : ByteArray := prog_16_method_40_code
def yJ2_indexOf_4cfef : MethodName := ⟨RJ2, "indexOf", "([BIII)I"⟩
abbrev cJ2_indexOfChar_4cfef : ByteArray := prog_16_method_47_code
def yJ2_indexOfChar_4cfef : MethodName := ⟨RJ2, "indexOfChar", "([BIII)I"⟩
abbrev cJ2_indexOfCharUnsafe_4cfef : ByteArray := prog_16_method_48_code
def yJ2_indexOfCharUnsafe_4cfef : MethodName := ⟨RJ2, "indexOfCharUnsafe", "([BIII)I"⟩
abbrev cJ2_indexOfSupplementary_4cfef : ByteArray := prog_16_method_49_code
def yJ2_indexOfSupplementary_4cfef : MethodName := ⟨RJ2, "indexOfSupplementary", "([BIII)I"⟩
abbrev cJ2_checkBoundsBeginEnd_d044e : ByteArray := prog_16_method_93_code
def yJ2_checkBoundsBeginEnd_d044e : MethodName := ⟨RJ2, "checkBoundsBeginEnd", "(II[B)V"⟩
def RJ10 : String := "java/lang/System"
def TJ10 : u_T := fun k => match k with
  | _ => ("", "", "", false)
def tyJ10 : Nat → FieldType := fun k => match k with
  | _ => .int
abbrev wsJ100 : List Cond := u_ws RJ10 TJ10 0
theorem nmJ10 : ∀ a, a < 0 → ∀ b, b < 0 → a ≠ b → (TJ10 a).2.1 ≠ (TJ10 b).2.1 := by decide +kernel
theorem tyJ10_ok : ∀ k, k < 0 → parseFieldDescriptor (TJ10 k).2.2.1 = some (tyJ10 k) := by decide +kernel
def RJ3 : String := "jdk/internal/util/Preconditions"
def TJ3 : u_T := fun k => match k with
  | _ => ("", "", "", false)
def tyJ3 : Nat → FieldType := fun k => match k with
  | _ => .int
abbrev wsJ30 : List Cond := u_ws RJ3 TJ3 0
theorem nmJ3 : ∀ a, a < 0 → ∀ b, b < 0 → a ≠ b → (TJ3 a).2.1 ≠ (TJ3 b).2.1 := by decide +kernel
theorem tyJ3_ok : ∀ k, k < 0 → parseFieldDescriptor (TJ3 k).2.2.1 = some (tyJ3 k) := by decide +kernel
abbrev cJ3_checkFromToIndex_8c36e : ByteArray := prog_18_method_12_code
def yJ3_checkFromToIndex_8c36e : MethodName := ⟨RJ3, "checkFromToIndex", "(IIILjava/util/function/BiFunction;)I"⟩
def RL : String := "LakeSwimmersLaw"
abbrev cL_law : ByteArray := code
def yL_law : MethodName := ⟨RL, "law", "([I)Z"⟩
abbrev vwCl : List vw_C := [(RX0, TX0, 16), (RX1, TX1, 4), (RX2, TX2, 8), (RX3, TX3, 6), (RX4, TX4, 3), (RX5, TX5, 6), (RX6, TX6, 6), (RX7, TX7, 5), (RX8, TX8, 11), (RX9, TX9, 24)]
end
section
def TB : List Cond := lw_tbl.filter goodWord
theorem tb_in {w : Cond} (h : w ∈ lw_tbl) (g : goodWord w = true) : w ∈ TB := List.mem_filter.mpr ⟨h, g⟩
theorem tb_0 {w : Cond} {i : Nat} (h : (k2_sels lw_privs)[i]? = some w) (g : goodWord w = true) : w ∈ TB := tb_in (List.mem_append_left _ (List.mem_of_getElem? h)) g
theorem tb_1 {w : Cond} {i : Nat} (h : tables_1_1[i]? = some w) (g : goodWord w = true) : w ∈ TB := tb_in (List.mem_append_right _ (show w ∈ tables_1 from List.mem_append_left _ (List.mem_of_getElem? h))) g
theorem tb_2 {w : Cond} {i : Nat} (h : tables_1_2[i]? = some w) (g : goodWord w = true) : w ∈ TB := tb_in (List.mem_append_right _ (show w ∈ tables_1 from List.mem_append_right _ (List.mem_append_left _ (List.mem_of_getElem? h)))) g
theorem tb_3 {w : Cond} {i : Nat} (h : tables_1_3[i]? = some w) (g : goodWord w = true) : w ∈ TB := tb_in (List.mem_append_right _ (show w ∈ tables_1 from List.mem_append_right _ (List.mem_append_right _ (List.mem_append_left _ (List.mem_of_getElem? h))))) g
theorem tb_4 {w : Cond} {i : Nat} (h : tables_1_4[i]? = some w) (g : goodWord w = true) : w ∈ TB := tb_in (List.mem_append_right _ (show w ∈ tables_1 from List.mem_append_right _ (List.mem_append_right _ (List.mem_append_right _ (List.mem_append_left _ (List.mem_of_getElem? h)))))) g
theorem tb_5 {w : Cond} {i : Nat} (h : tables_1_5[i]? = some w) (g : goodWord w = true) : w ∈ TB := tb_in (List.mem_append_right _ (show w ∈ tables_1 from List.mem_append_right _ (List.mem_append_right _ (List.mem_append_right _ (List.mem_append_right _ (List.mem_append_left _ (List.mem_of_getElem? h))))))) g
theorem tb_6 {w : Cond} {i : Nat} (h : tables_1_6[i]? = some w) (g : goodWord w = true) : w ∈ TB := tb_in (List.mem_append_right _ (show w ∈ tables_1 from List.mem_append_right _ (List.mem_append_right _ (List.mem_append_right _ (List.mem_append_right _ (List.mem_append_right _ (List.mem_of_getElem? h))))))) g
theorem tb_ws (ws : List Cond) (ps : List Nat) (hp : ws = ps.filterMap (fun i => lw_tbl[i]?)) (h : ws.all goodWord = true) : ∀ w ∈ ws, w ∈ TB := fun w hw => tb_in (goodIn_r ws ps hp h w hw).1 (List.all_eq_true.mp h w hw)
theorem tb_good : ∀ w ∈ TB, goodWord w = true := fun _ h => (List.mem_filter.mp h).2
theorem tb_GoodIn {y : MethodName} {cc : ByteArray} {n : Nat} {r : Option FieldType} (h : Cond.code y cc n r ∈ TB) : GoodIn TB (Cond.code y cc n r :: TB) := fun w hw => by
  have hm : w ∈ TB := by
    rcases List.mem_cons.mp hw with rfl | h1
    · exact h
    · exact h1
  exact ⟨hm, good_of_word (tb_good w hm)⟩
set_option maxRecDepth 100000 in
theorem q_0 : Cond.initialized RL ∈ TB := tb_1 (i := 0) rfl rfl
set_option maxRecDepth 100000 in
theorem q_1 : Cond.initialized RX8 ∈ TB := tb_1 (i := 1) rfl rfl
set_option maxRecDepth 100000 in
theorem q_2 : Cond.initialized RX0 ∈ TB := tb_1 (i := 2) rfl rfl
set_option maxRecDepth 100000 in
theorem q_3 : Cond.initialized RX1 ∈ TB := tb_1 (i := 3) rfl rfl
set_option maxRecDepth 100000 in
theorem q_4 : Cond.initialized RX6 ∈ TB := tb_1 (i := 4) rfl rfl
set_option maxRecDepth 100000 in
theorem q_5 : Cond.initialized RX3 ∈ TB := tb_1 (i := 5) rfl rfl
set_option maxRecDepth 100000 in
theorem q_6 : Cond.initialized RX5 ∈ TB := tb_1 (i := 6) rfl rfl
set_option maxRecDepth 100000 in
theorem q_7 : Cond.initialized RX2 ∈ TB := tb_1 (i := 7) rfl rfl
set_option maxRecDepth 100000 in
theorem q_8 : Cond.initialized RX7 ∈ TB := tb_1 (i := 8) rfl rfl
set_option maxRecDepth 100000 in
theorem q_9 : Cond.initialized RX4 ∈ TB := tb_1 (i := 9) rfl rfl
set_option maxRecDepth 100000 in
theorem q_10 : Cond.initialized RX9 ∈ TB := tb_1 (i := 10) rfl rfl
set_option maxRecDepth 100000 in
theorem q_11 : Cond.initialized RJ9 ∈ TB := tb_1 (i := 11) rfl rfl
set_option maxRecDepth 100000 in
theorem q_12 : Cond.initialized RJ10 ∈ TB := tb_1 (i := 12) rfl rfl
set_option maxRecDepth 100000 in
theorem q_13 : Cond.initialized RJ0 ∈ TB := tb_1 (i := 13) rfl rfl
set_option maxRecDepth 100000 in
theorem q_14 : Cond.initialized RJ1 ∈ TB := tb_1 (i := 14) rfl rfl
set_option maxRecDepth 100000 in
theorem q_15 : Cond.initialized RJ2 ∈ TB := tb_1 (i := 15) rfl rfl
set_option maxRecDepth 100000 in
theorem q_16 : Cond.initialized RJ3 ∈ TB := tb_1 (i := 16) rfl rfl
set_option maxRecDepth 100000 in
theorem q_17 : Cond.initialized RJ11 ∈ TB := tb_1 (i := 17) rfl rfl
set_option maxRecDepth 100000 in
theorem q_18 : Cond.classLink RL 7 RX8 ∈ TB := tb_1 (i := 18) rfl rfl
set_option maxRecDepth 100000 in
theorem q_19 : Cond.instantiable RX8 11 ∈ TB := tb_1 (i := 19) rfl rfl
set_option maxRecDepth 100000 in
theorem q_20 : Cond.methodLink RL 9 yX8_init ∈ TB := tb_1 (i := 20) rfl rfl
set_option maxRecDepth 100000 in
theorem q_21 : Cond.instanceMethod yX8_init ∈ TB := tb_1 (i := 21) rfl rfl
set_option maxRecDepth 100000 in
theorem q_22 : Cond.code yX8_init prog_1_method_1_code 2 (Option.none : Option Jvm.ClassFile.FieldType) ∈ TB := tb_1 (i := 22) rfl rfl
set_option maxRecDepth 100000 in
theorem q_23 : Cond.methodLink RX8 1 objectInit ∈ TB := tb_1 (i := 23) rfl rfl
set_option maxRecDepth 100000 in
theorem q_24 : Cond.instanceMethod objectInit ∈ TB := tb_1 (i := 24) rfl rfl
set_option maxRecDepth 100000 in
theorem q_25 : Cond.code objectInit object_method_1_code 1 (Option.none : Option Jvm.ClassFile.FieldType) ∈ TB := tb_1 (i := 25) rfl rfl
set_option maxRecDepth 100000 in
theorem q_26 : Cond.classLink RX8 7 RX0 ∈ TB := tb_1 (i := 26) rfl rfl
set_option maxRecDepth 100000 in
theorem q_27 : Cond.instantiable RX0 16 ∈ TB := tb_1 (i := 27) rfl rfl
set_option maxRecDepth 100000 in
theorem q_28 : Cond.methodLink RX8 9 yX0_init ∈ TB := tb_1 (i := 28) rfl rfl
set_option maxRecDepth 100000 in
theorem q_29 : Cond.instanceMethod yX0_init ∈ TB := tb_1 (i := 29) rfl rfl
set_option maxRecDepth 100000 in
theorem q_30 : Cond.code yX0_init prog_2_method_1_code 2 (Option.none : Option Jvm.ClassFile.FieldType) ∈ TB := tb_1 (i := 30) rfl rfl
set_option maxRecDepth 100000 in
theorem q_31 : Cond.methodLink RX0 3 objectInit ∈ TB := tb_1 (i := 31) rfl rfl
set_option maxRecDepth 100000 in
theorem q_32 : Cond.classLink RX0 34 RX6 ∈ TB := tb_1 (i := 32) rfl rfl
set_option maxRecDepth 100000 in
theorem q_34 : Cond.classLink RX0 43 RX1 ∈ TB := tb_1 (i := 34) rfl rfl
set_option maxRecDepth 100000 in
theorem q_35 : Cond.instantiable RX1 4 ∈ TB := tb_1 (i := 35) rfl rfl
set_option maxRecDepth 100000 in
theorem q_36 : Cond.methodLink RX0 45 yX1_init ∈ TB := tb_1 (i := 36) rfl rfl
set_option maxRecDepth 100000 in
theorem q_37 : Cond.instanceMethod yX1_init ∈ TB := tb_1 (i := 37) rfl rfl
set_option maxRecDepth 100000 in
theorem q_38 : Cond.code yX1_init prog_3_method_1_code 2 (Option.none : Option Jvm.ClassFile.FieldType) ∈ TB := tb_1 (i := 38) rfl rfl
set_option maxRecDepth 100000 in
theorem q_39 : Cond.methodLink RX1 3 objectInit ∈ TB := tb_1 (i := 39) rfl rfl
set_option maxRecDepth 100000 in
theorem q_40 : Cond.fieldLink RX1 22 RX1 "use" "I" ∈ TB := tb_1 (i := 40) rfl rfl
set_option maxRecDepth 100000 in
theorem q_41 : Cond.fieldLink RX1 9 RX1 "row" "[I" ∈ TB := tb_1 (i := 41) rfl rfl
set_option maxRecDepth 100000 in
theorem q_42 : Cond.fieldLink RX1 15 RX1 "stack" "[I" ∈ TB := tb_1 (i := 42) rfl rfl
set_option maxRecDepth 100000 in
theorem q_43 : Cond.fieldLink RX1 18 RX1 "length" "I" ∈ TB := tb_1 (i := 43) rfl rfl
set_option maxRecDepth 100000 in
theorem q_53 : Cond.arrayClass Jvm.ClassFile.FieldType.int ∈ TB := tb_1 (i := 53) rfl rfl
set_option maxRecDepth 100000 in
theorem q_54 : Cond.instantiable RX6 6 ∈ TB := tb_1 (i := 54) rfl rfl
set_option maxRecDepth 100000 in
theorem q_56 : Cond.instanceMethod yX6_init ∈ TB := tb_1 (i := 56) rfl rfl
set_option maxRecDepth 100000 in
theorem q_57 : Cond.code yX6_init prog_8_method_1_code 1 (Option.none : Option Jvm.ClassFile.FieldType) ∈ TB := tb_1 (i := 57) rfl rfl
set_option maxRecDepth 100000 in
theorem q_58 : Cond.methodLink RX6 3 objectInit ∈ TB := tb_1 (i := 58) rfl rfl
set_option maxRecDepth 100000 in
theorem q_59 : Cond.fieldLink RX6 9 RX6 "kind" "I" ∈ TB := tb_1 (i := 59) rfl rfl
set_option maxRecDepth 100000 in
theorem q_60 : Cond.fieldLink RX7 28 RX6 "kind" "I" ∈ TB := tb_1 (i := 60) rfl rfl
set_option maxRecDepth 100000 in
theorem q_61 : Cond.fieldLink RX8 107 RX6 "kind" "I" ∈ TB := tb_1 (i := 61) rfl rfl
set_option maxRecDepth 100000 in
theorem q_62 : Cond.fieldLink RX6 15 RX6 "m" "I" ∈ TB := tb_1 (i := 62) rfl rfl
set_option maxRecDepth 100000 in
theorem q_63 : Cond.fieldLink RX7 31 RX6 "m" "I" ∈ TB := tb_1 (i := 63) rfl rfl
set_option maxRecDepth 100000 in
theorem q_64 : Cond.fieldLink RX8 110 RX6 "m" "I" ∈ TB := tb_1 (i := 64) rfl rfl
set_option maxRecDepth 100000 in
theorem q_65 : Cond.fieldLink RX6 18 RX6 "side" "I" ∈ TB := tb_1 (i := 65) rfl rfl
set_option maxRecDepth 100000 in
theorem q_66 : Cond.fieldLink RX5 47 RX6 "side" "I" ∈ TB := tb_1 (i := 66) rfl rfl
set_option maxRecDepth 100000 in
theorem q_67 : Cond.fieldLink RX2 88 RX6 "side" "I" ∈ TB := tb_1 (i := 67) rfl rfl
set_option maxRecDepth 100000 in
theorem q_68 : Cond.fieldLink RX8 113 RX6 "side" "I" ∈ TB := tb_1 (i := 68) rfl rfl
set_option maxRecDepth 100000 in
theorem q_69 : Cond.fieldLink RX6 21 RX6 "skill" "I" ∈ TB := tb_1 (i := 69) rfl rfl
set_option maxRecDepth 100000 in
theorem q_70 : Cond.fieldLink RX8 116 RX6 "skill" "I" ∈ TB := tb_1 (i := 70) rfl rfl
set_option maxRecDepth 100000 in
theorem q_71 : Cond.fieldLink RX6 24 RX6 "met" "I" ∈ TB := tb_1 (i := 71) rfl rfl
set_option maxRecDepth 100000 in
theorem q_72 : Cond.fieldLink RX8 119 RX6 "met" "I" ∈ TB := tb_1 (i := 72) rfl rfl
set_option maxRecDepth 100000 in
theorem q_73 : Cond.fieldLink RX6 27 RX6 "lanes" "[I" ∈ TB := tb_1 (i := 73) rfl rfl
set_option maxRecDepth 100000 in
theorem q_74 : Cond.fieldLink RX2 82 RX6 "lanes" "[I" ∈ TB := tb_1 (i := 74) rfl rfl
set_option maxRecDepth 100000 in
theorem q_75 : Cond.fieldLink RX8 125 RX6 "lanes" "[I" ∈ TB := tb_1 (i := 75) rfl rfl
set_option maxRecDepth 100000 in
theorem q_89 : Cond.fieldLink RX0 9 RX0 "currents" "[I" ∈ TB := tb_1 (i := 89) rfl rfl
set_option maxRecDepth 100000 in
theorem q_90 : Cond.fieldLink RX8 80 RX0 "currents" "[I" ∈ TB := tb_1 (i := 90) rfl rfl
set_option maxRecDepth 100000 in
theorem q_91 : Cond.fieldLink RX0 15 RX0 "wind" "I" ∈ TB := tb_1 (i := 91) rfl rfl
set_option maxRecDepth 100000 in
theorem q_92 : Cond.fieldLink RX8 83 RX0 "wind" "I" ∈ TB := tb_1 (i := 92) rfl rfl
set_option maxRecDepth 100000 in
theorem q_93 : Cond.fieldLink RX0 19 RX0 "sight" "I" ∈ TB := tb_1 (i := 93) rfl rfl
set_option maxRecDepth 100000 in
theorem q_94 : Cond.fieldLink RX8 86 RX0 "sight" "I" ∈ TB := tb_1 (i := 94) rfl rfl
set_option maxRecDepth 100000 in
theorem q_95 : Cond.fieldLink RX0 22 RX0 "border" "I" ∈ TB := tb_1 (i := 95) rfl rfl
set_option maxRecDepth 100000 in
theorem q_96 : Cond.fieldLink RX8 89 RX0 "border" "I" ∈ TB := tb_1 (i := 96) rfl rfl
set_option maxRecDepth 100000 in
theorem q_97 : Cond.fieldLink RX0 25 RX0 "year" "I" ∈ TB := tb_1 (i := 97) rfl rfl
set_option maxRecDepth 100000 in
theorem q_98 : Cond.fieldLink RX8 290 RX0 "year" "I" ∈ TB := tb_1 (i := 98) rfl rfl
set_option maxRecDepth 100000 in
theorem q_99 : Cond.fieldLink RX0 28 RX0 "fish" "I" ∈ TB := tb_1 (i := 99) rfl rfl
set_option maxRecDepth 100000 in
theorem q_100 : Cond.fieldLink RX8 299 RX0 "fish" "I" ∈ TB := tb_1 (i := 100) rfl rfl
set_option maxRecDepth 100000 in
theorem q_101 : Cond.fieldLink RX0 31 RX0 "otherFish" "I" ∈ TB := tb_1 (i := 101) rfl rfl
set_option maxRecDepth 100000 in
theorem q_102 : Cond.fieldLink RX8 302 RX0 "otherFish" "I" ∈ TB := tb_1 (i := 102) rfl rfl
set_option maxRecDepth 100000 in
theorem q_103 : Cond.fieldLink RX0 36 RX0 "swimmers" "[LLakeSwimmers$Swimmer;" ∈ TB := tb_1 (i := 103) rfl rfl
set_option maxRecDepth 100000 in
theorem q_104 : Cond.fieldLink RX0 40 RX0 "swimmerCount" "I" ∈ TB := tb_1 (i := 104) rfl rfl
set_option maxRecDepth 100000 in
theorem q_105 : Cond.fieldLink RX8 96 RX0 "swimmerCount" "I" ∈ TB := tb_1 (i := 105) rfl rfl
set_option maxRecDepth 100000 in
theorem q_106 : Cond.fieldLink RX0 48 RX0 "flows" "LLakeSwimmers$Law;" ∈ TB := tb_1 (i := 106) rfl rfl
set_option maxRecDepth 100000 in
theorem q_107 : Cond.fieldLink RX0 52 RX0 "catches" "LLakeSwimmers$Law;" ∈ TB := tb_1 (i := 107) rfl rfl
set_option maxRecDepth 100000 in
theorem q_108 : Cond.fieldLink RX0 55 RX0 "tape" "[I" ∈ TB := tb_1 (i := 108) rfl rfl
set_option maxRecDepth 100000 in
theorem q_109 : Cond.fieldLink RX8 150 RX0 "tape" "[I" ∈ TB := tb_1 (i := 109) rfl rfl
set_option maxRecDepth 100000 in
theorem q_110 : Cond.fieldLink RX0 58 RX0 "tapeLength" "I" ∈ TB := tb_1 (i := 110) rfl rfl
set_option maxRecDepth 100000 in
theorem q_111 : Cond.fieldLink RX8 139 RX0 "tapeLength" "I" ∈ TB := tb_1 (i := 111) rfl rfl
set_option maxRecDepth 100000 in
theorem q_112 : Cond.fieldLink RX0 61 RX0 "waiting" "[I" ∈ TB := tb_1 (i := 112) rfl rfl
set_option maxRecDepth 100000 in
theorem q_113 : Cond.fieldLink RX8 296 RX0 "waiting" "[I" ∈ TB := tb_1 (i := 113) rfl rfl
set_option maxRecDepth 100000 in
theorem q_114 : Cond.fieldLink RX0 64 RX0 "waitingCount" "I" ∈ TB := tb_1 (i := 114) rfl rfl
set_option maxRecDepth 100000 in
theorem q_115 : Cond.fieldLink RX8 293 RX0 "waitingCount" "I" ∈ TB := tb_1 (i := 115) rfl rfl
set_option maxRecDepth 100000 in
theorem q_116 : Cond.fieldLink RX0 67 RX0 "z" "I" ∈ TB := tb_1 (i := 116) rfl rfl
set_option maxRecDepth 100000 in
theorem q_117 : Cond.fieldLink RX8 233 RX0 "z" "I" ∈ TB := tb_1 (i := 117) rfl rfl
set_option maxRecDepth 100000 in
theorem q_151 : Cond.classLink RX8 19 RX3 ∈ TB := tb_1 (i := 151) rfl rfl
set_option maxRecDepth 100000 in
theorem q_152 : Cond.instantiable RX3 6 ∈ TB := tb_1 (i := 152) rfl rfl
set_option maxRecDepth 100000 in
theorem q_154 : Cond.instanceMethod yX3_init ∈ TB := tb_1 (i := 154) rfl rfl
set_option maxRecDepth 100000 in
theorem q_155 : Cond.code yX3_init prog_5_method_1_code 1 (Option.none : Option Jvm.ClassFile.FieldType) ∈ TB := tb_1 (i := 155) rfl rfl
set_option maxRecDepth 100000 in
theorem q_156 : Cond.methodLink RX3 3 objectInit ∈ TB := tb_1 (i := 156) rfl rfl
set_option maxRecDepth 100000 in
theorem q_158 : Cond.fieldLink RX3 9 RX3 "row" "[I" ∈ TB := tb_1 (i := 158) rfl rfl
set_option maxRecDepth 100000 in
theorem q_159 : Cond.fieldLink RX1 30 RX3 "row" "[I" ∈ TB := tb_1 (i := 159) rfl rfl
set_option maxRecDepth 100000 in
theorem q_160 : Cond.fieldLink RX3 15 RX3 "rowLength" "I" ∈ TB := tb_1 (i := 160) rfl rfl
set_option maxRecDepth 100000 in
theorem q_161 : Cond.fieldLink RX1 25 RX3 "rowLength" "I" ∈ TB := tb_1 (i := 161) rfl rfl
set_option maxRecDepth 100000 in
theorem q_162 : Cond.fieldLink RX3 19 RX3 "bytes" "[I" ∈ TB := tb_1 (i := 162) rfl rfl
set_option maxRecDepth 100000 in
theorem q_163 : Cond.fieldLink RX3 22 RX3 "length" "I" ∈ TB := tb_1 (i := 163) rfl rfl
set_option maxRecDepth 100000 in
theorem q_164 : Cond.fieldLink RX3 25 RX3 "place" "I" ∈ TB := tb_1 (i := 164) rfl rfl
set_option maxRecDepth 100000 in
theorem q_165 : Cond.fieldLink RX3 30 RX3 "names" "Ljava/lang/String;" ∈ TB := tb_1 (i := 165) rfl rfl
set_option maxRecDepth 100000 in
theorem q_179 : Cond.arrayClass Jvm.ClassFile.FieldType.byte ∈ TB := tb_1 (i := 179) rfl rfl
set_option maxRecDepth 100000 in
theorem q_180 : Cond.classLink RX8 26 RX5 ∈ TB := tb_1 (i := 180) rfl rfl
set_option maxRecDepth 100000 in
theorem q_181 : Cond.instantiable RX5 6 ∈ TB := tb_1 (i := 181) rfl rfl
set_option maxRecDepth 100000 in
theorem q_183 : Cond.instanceMethod yX5_init ∈ TB := tb_1 (i := 183) rfl rfl
set_option maxRecDepth 100000 in
theorem q_184 : Cond.code yX5_init prog_7_method_1_code 1 (Option.none : Option Jvm.ClassFile.FieldType) ∈ TB := tb_1 (i := 184) rfl rfl
set_option maxRecDepth 100000 in
theorem q_185 : Cond.methodLink RX5 3 objectInit ∈ TB := tb_1 (i := 185) rfl rfl
set_option maxRecDepth 100000 in
theorem q_186 : Cond.fieldLink RX5 9 RX5 "flows" "[I" ∈ TB := tb_1 (i := 186) rfl rfl
set_option maxRecDepth 100000 in
theorem q_187 : Cond.fieldLink RX5 15 RX5 "minute" "I" ∈ TB := tb_1 (i := 187) rfl rfl
set_option maxRecDepth 100000 in
theorem q_188 : Cond.fieldLink RX8 183 RX5 "minute" "I" ∈ TB := tb_1 (i := 188) rfl rfl
set_option maxRecDepth 100000 in
theorem q_189 : Cond.fieldLink RX5 19 RX5 "place" "I" ∈ TB := tb_1 (i := 189) rfl rfl
set_option maxRecDepth 100000 in
theorem q_190 : Cond.fieldLink RX8 186 RX5 "place" "I" ∈ TB := tb_1 (i := 190) rfl rfl
set_option maxRecDepth 100000 in
theorem q_191 : Cond.fieldLink RX5 22 RX5 "lane" "I" ∈ TB := tb_1 (i := 191) rfl rfl
set_option maxRecDepth 100000 in
theorem q_192 : Cond.fieldLink RX8 189 RX5 "lane" "I" ∈ TB := tb_1 (i := 192) rfl rfl
set_option maxRecDepth 100000 in
theorem q_193 : Cond.fieldLink RX5 25 RX5 "oneAt" "I" ∈ TB := tb_1 (i := 193) rfl rfl
set_option maxRecDepth 100000 in
theorem q_194 : Cond.fieldLink RX5 28 RX5 "otherAt" "I" ∈ TB := tb_1 (i := 194) rfl rfl
set_option maxRecDepth 100000 in
theorem q_208 : Cond.classLink RX8 33 RX2 ∈ TB := tb_1 (i := 208) rfl rfl
set_option maxRecDepth 100000 in
theorem q_209 : Cond.instantiable RX2 8 ∈ TB := tb_1 (i := 209) rfl rfl
set_option maxRecDepth 100000 in
theorem q_211 : Cond.instanceMethod yX2_init ∈ TB := tb_1 (i := 211) rfl rfl
set_option maxRecDepth 100000 in
theorem q_212 : Cond.code yX2_init prog_4_method_1_code 1 (Option.none : Option Jvm.ClassFile.FieldType) ∈ TB := tb_1 (i := 212) rfl rfl
set_option maxRecDepth 100000 in
theorem q_213 : Cond.methodLink RX2 3 objectInit ∈ TB := tb_1 (i := 213) rfl rfl
set_option maxRecDepth 100000 in
theorem q_214 : Cond.classLink RX2 23 RX6 ∈ TB := tb_1 (i := 214) rfl rfl
set_option maxRecDepth 100000 in
theorem q_216 : Cond.fieldLink RX2 9 RX2 "found" "Z" ∈ TB := tb_1 (i := 216) rfl rfl
set_option maxRecDepth 100000 in
theorem q_217 : Cond.fieldLink RX8 206 RX2 "found" "Z" ∈ TB := tb_1 (i := 217) rfl rfl
set_option maxRecDepth 100000 in
theorem q_218 : Cond.fieldLink RX2 15 RX2 "place" "I" ∈ TB := tb_1 (i := 218) rfl rfl
set_option maxRecDepth 100000 in
theorem q_219 : Cond.fieldLink RX8 210 RX2 "place" "I" ∈ TB := tb_1 (i := 219) rfl rfl
set_option maxRecDepth 100000 in
theorem q_220 : Cond.fieldLink RX2 19 RX2 "best" "[I" ∈ TB := tb_1 (i := 220) rfl rfl
set_option maxRecDepth 100000 in
theorem q_221 : Cond.fieldLink RX2 26 RX2 "tried" "LLakeSwimmers$Swimmer;" ∈ TB := tb_1 (i := 221) rfl rfl
set_option maxRecDepth 100000 in
theorem q_222 : Cond.fieldLink RX2 30 RX2 "otherPlaces" "[I" ∈ TB := tb_1 (i := 222) rfl rfl
set_option maxRecDepth 100000 in
theorem q_223 : Cond.fieldLink RX2 33 RX2 "swim" "LLakeSwimmers$Swim;" ∈ TB := tb_1 (i := 223) rfl rfl
set_option maxRecDepth 100000 in
theorem q_224 : Cond.fieldLink RX2 37 RX2 "other" "LLakeSwimmers$Swimmer;" ∈ TB := tb_1 (i := 224) rfl rfl
set_option maxRecDepth 100000 in
theorem q_225 : Cond.fieldLink RX2 40 RX2 "sight" "I" ∈ TB := tb_1 (i := 225) rfl rfl
set_option maxRecDepth 100000 in
theorem q_243 : Cond.classLink RX8 40 RX7 ∈ TB := tb_2 (i := 3) rfl rfl
set_option maxRecDepth 100000 in
theorem q_244 : Cond.instantiable RX7 5 ∈ TB := tb_2 (i := 4) rfl rfl
set_option maxRecDepth 100000 in
theorem q_246 : Cond.instanceMethod yX7_init ∈ TB := tb_2 (i := 6) rfl rfl
set_option maxRecDepth 100000 in
theorem q_247 : Cond.code yX7_init prog_9_method_1_code 1 (Option.none : Option Jvm.ClassFile.FieldType) ∈ TB := tb_2 (i := 7) rfl rfl
set_option maxRecDepth 100000 in
theorem q_248 : Cond.methodLink RX7 3 objectInit ∈ TB := tb_2 (i := 8) rfl rfl
set_option maxRecDepth 100000 in
theorem q_249 : Cond.fieldLink RX7 9 RX7 "trace" "[I" ∈ TB := tb_2 (i := 9) rfl rfl
set_option maxRecDepth 100000 in
theorem q_250 : Cond.fieldLink RX8 243 RX7 "trace" "[I" ∈ TB := tb_2 (i := 10) rfl rfl
set_option maxRecDepth 100000 in
theorem q_251 : Cond.fieldLink RX7 15 RX7 "traceLength" "I" ∈ TB := tb_2 (i := 11) rfl rfl
set_option maxRecDepth 100000 in
theorem q_252 : Cond.fieldLink RX8 240 RX7 "traceLength" "I" ∈ TB := tb_2 (i := 12) rfl rfl
set_option maxRecDepth 100000 in
theorem q_253 : Cond.fieldLink RX7 19 RX7 "kind" "I" ∈ TB := tb_2 (i := 13) rfl rfl
set_option maxRecDepth 100000 in
theorem q_254 : Cond.fieldLink RX7 22 RX7 "n" "I" ∈ TB := tb_2 (i := 14) rfl rfl
set_option maxRecDepth 100000 in
theorem q_255 : Cond.fieldLink RX7 25 RX7 "m" "I" ∈ TB := tb_2 (i := 15) rfl rfl
set_option maxRecDepth 100000 in
theorem q_267 : Cond.classLink RX8 47 RX4 ∈ TB := tb_2 (i := 27) rfl rfl
set_option maxRecDepth 100000 in
theorem q_269 : Cond.classLink RX8 57 RX6 ∈ TB := tb_2 (i := 29) rfl rfl
set_option maxRecDepth 100000 in
theorem q_271 : Cond.instantiable RX4 3 ∈ TB := tb_2 (i := 31) rfl rfl
set_option maxRecDepth 100000 in
theorem q_273 : Cond.instanceMethod yX4_init ∈ TB := tb_2 (i := 33) rfl rfl
set_option maxRecDepth 100000 in
theorem q_274 : Cond.code yX4_init prog_6_method_1_code 1 (Option.none : Option Jvm.ClassFile.FieldType) ∈ TB := tb_2 (i := 34) rfl rfl
set_option maxRecDepth 100000 in
theorem q_275 : Cond.methodLink RX4 3 objectInit ∈ TB := tb_2 (i := 35) rfl rfl
set_option maxRecDepth 100000 in
theorem q_276 : Cond.fieldLink RX4 9 RX4 "numbers" "[I" ∈ TB := tb_2 (i := 36) rfl rfl
set_option maxRecDepth 100000 in
theorem q_277 : Cond.fieldLink RX8 269 RX4 "numbers" "[I" ∈ TB := tb_2 (i := 37) rfl rfl
set_option maxRecDepth 100000 in
theorem q_278 : Cond.fieldLink RX4 15 RX4 "length" "I" ∈ TB := tb_2 (i := 38) rfl rfl
set_option maxRecDepth 100000 in
theorem q_279 : Cond.fieldLink RX8 257 RX4 "length" "I" ∈ TB := tb_2 (i := 39) rfl rfl
set_option maxRecDepth 100000 in
theorem q_280 : Cond.fieldLink RX4 19 RX4 "bits" "I" ∈ TB := tb_2 (i := 40) rfl rfl
set_option maxRecDepth 100000 in
theorem q_281 : Cond.fieldLink RX8 263 RX4 "bits" "I" ∈ TB := tb_2 (i := 41) rfl rfl
set_option maxRecDepth 100000 in
theorem q_289 : Cond.fieldLink RX8 10 RX8 "lake" "LLakeSwimmers$Lake;" ∈ TB := tb_2 (i := 49) rfl rfl
set_option maxRecDepth 100000 in
theorem q_290 : Cond.fieldLink RX8 16 RX8 "kept" "LLakeSwimmers$Lake;" ∈ TB := tb_2 (i := 50) rfl rfl
set_option maxRecDepth 100000 in
theorem q_291 : Cond.fieldLink RX8 22 RX8 "reader" "LLakeSwimmers$Reader;" ∈ TB := tb_2 (i := 51) rfl rfl
set_option maxRecDepth 100000 in
theorem q_292 : Cond.fieldLink RX8 29 RX8 "swim" "LLakeSwimmers$Swim;" ∈ TB := tb_2 (i := 52) rfl rfl
set_option maxRecDepth 100000 in
theorem q_293 : Cond.fieldLink RX8 36 RX8 "search" "LLakeSwimmers$PlanSearch;" ∈ TB := tb_2 (i := 53) rfl rfl
set_option maxRecDepth 100000 in
theorem q_294 : Cond.fieldLink RX8 43 RX8 "voices" "LLakeSwimmers$Voices;" ∈ TB := tb_2 (i := 54) rfl rfl
set_option maxRecDepth 100000 in
theorem q_295 : Cond.fieldLink RX8 49 RX8 "sheets" "[LLakeSwimmers$Sheet;" ∈ TB := tb_2 (i := 55) rfl rfl
set_option maxRecDepth 100000 in
theorem q_296 : Cond.fieldLink RX8 53 RX8 "errorCounts" "[I" ∈ TB := tb_2 (i := 56) rfl rfl
set_option maxRecDepth 100000 in
theorem q_297 : Cond.fieldLink RX8 60 RX8 "standIn" "LLakeSwimmers$Swimmer;" ∈ TB := tb_2 (i := 57) rfl rfl
set_option maxRecDepth 100000 in
theorem q_298 : Cond.fieldLink RX8 64 RX8 "otherStandIn" "LLakeSwimmers$Swimmer;" ∈ TB := tb_2 (i := 58) rfl rfl
set_option maxRecDepth 100000 in
theorem q_299 : Cond.fieldLink RX8 67 RX8 "imageCount" "I" ∈ TB := tb_2 (i := 59) rfl rfl
set_option maxRecDepth 100000 in
theorem q_323 : Cond.methodLink RL 13 yX8_current ∈ TB := tb_2 (i := 83) rfl rfl
set_option maxRecDepth 100000 in
theorem q_324 : Cond.instanceMethod yX8_current ∈ TB := tb_2 (i := 84) rfl rfl
set_option maxRecDepth 100000 in
theorem q_325 : Cond.selects RX8 yX8_current yX8_current ∈ TB := tb_2 (i := 85) rfl rfl
set_option maxRecDepth 100000 in
theorem q_326 : Cond.code yX8_current prog_1_method_2_code 4 (Option.some Jvm.ClassFile.FieldType.int) ∈ TB := tb_2 (i := 86) rfl rfl
set_option maxRecDepth 100000 in
theorem q_327 : Cond.methodLink RX8 72 yX8_isOutside ∈ TB := tb_2 (i := 87) rfl rfl
set_option maxRecDepth 100000 in
theorem q_328 : Cond.static yX8_isOutside ∈ TB := tb_2 (i := 88) rfl rfl
set_option maxRecDepth 100000 in
theorem q_329 : Cond.code yX8_isOutside prog_1_method_47_code 3 (Option.some Jvm.ClassFile.FieldType.boolean) ∈ TB := tb_2 (i := 89) rfl rfl
set_option maxRecDepth 100000 in
theorem q_330 : Cond.methodLink RX8 76 yX8_refuse ∈ TB := tb_2 (i := 90) rfl rfl
set_option maxRecDepth 100000 in
theorem q_332 : Cond.instanceMethod yX8_refuse ∈ TB := tb_2 (i := 92) rfl rfl
set_option maxRecDepth 100000 in
theorem q_333 : Cond.code yX8_refuse prog_1_method_41_code 2 (Option.some Jvm.ClassFile.FieldType.int) ∈ TB := tb_2 (i := 93) rfl rfl
set_option maxRecDepth 100000 in
theorem q_334 : Cond.constant RX8 305 (-1000000000) ∈ TB := tb_2 (i := 94) rfl rfl
set_option maxRecDepth 100000 in
theorem q_335 : Cond.methodLink RL 18 yX8_set ∈ TB := tb_2 (i := 95) rfl rfl
set_option maxRecDepth 100000 in
theorem q_336 : Cond.instanceMethod yX8_set ∈ TB := tb_2 (i := 96) rfl rfl
set_option maxRecDepth 100000 in
theorem q_337 : Cond.selects RX8 yX8_set yX8_set ∈ TB := tb_2 (i := 97) rfl rfl
set_option maxRecDepth 100000 in
theorem q_338 : Cond.code yX8_set prog_1_method_3_code 4 (Option.some Jvm.ClassFile.FieldType.int) ∈ TB := tb_2 (i := 98) rfl rfl
set_option maxRecDepth 100000 in
theorem q_339 : Cond.methodLink RL 22 yX8_flow ∈ TB := tb_2 (i := 99) rfl rfl
set_option maxRecDepth 100000 in
theorem q_340 : Cond.instanceMethod yX8_flow ∈ TB := tb_2 (i := 100) rfl rfl
set_option maxRecDepth 100000 in
theorem q_341 : Cond.selects RX8 yX8_flow yX8_flow ∈ TB := tb_2 (i := 101) rfl rfl
set_option maxRecDepth 100000 in
theorem q_342 : Cond.code yX8_flow prog_1_method_4_code 2 (Option.some Jvm.ClassFile.FieldType.int) ∈ TB := tb_2 (i := 102) rfl rfl
set_option maxRecDepth 100000 in
theorem q_343 : Cond.methodLink RX8 92 yX0_flowOf ∈ TB := tb_2 (i := 103) rfl rfl
set_option maxRecDepth 100000 in
theorem q_344 : Cond.instanceMethod yX0_flowOf ∈ TB := tb_2 (i := 104) rfl rfl
set_option maxRecDepth 100000 in
theorem q_345 : Cond.selects RX0 yX0_flowOf yX0_flowOf ∈ TB := tb_2 (i := 105) rfl rfl
set_option maxRecDepth 100000 in
theorem q_346 : Cond.code yX0_flowOf prog_2_method_4_code 3 (Option.some Jvm.ClassFile.FieldType.int) ∈ TB := tb_2 (i := 106) rfl rfl
set_option maxRecDepth 100000 in
theorem q_348 : Cond.methodLink RX0 75 yX1_give ∈ TB := tb_2 (i := 108) rfl rfl
set_option maxRecDepth 100000 in
theorem q_349 : Cond.instanceMethod yX1_give ∈ TB := tb_2 (i := 109) rfl rfl
set_option maxRecDepth 100000 in
theorem q_350 : Cond.selects RX1 yX1_give yX1_give ∈ TB := tb_2 (i := 110) rfl rfl
set_option maxRecDepth 100000 in
theorem q_351 : Cond.code yX1_give prog_3_method_4_code 4 (Option.some Jvm.ClassFile.FieldType.int) ∈ TB := tb_2 (i := 111) rfl rfl
set_option maxRecDepth 100000 in
theorem q_352 : Cond.methodLink RX1 37 yX1_workOut ∈ TB := tb_2 (i := 112) rfl rfl
set_option maxRecDepth 100000 in
theorem q_354 : Cond.instanceMethod yX1_workOut ∈ TB := tb_2 (i := 114) rfl rfl
set_option maxRecDepth 100000 in
theorem q_355 : Cond.code yX1_workOut prog_3_method_5_code 7 (Option.some Jvm.ClassFile.FieldType.int) ∈ TB := tb_2 (i := 115) rfl rfl
set_option maxRecDepth 100000 in
theorem q_356 : Cond.methodLink RX1 44 yX1_valueOf ∈ TB := tb_2 (i := 116) rfl rfl
set_option maxRecDepth 100000 in
theorem q_357 : Cond.static yX1_valueOf ∈ TB := tb_2 (i := 117) rfl rfl
set_option maxRecDepth 100000 in
theorem q_358 : Cond.code yX1_valueOf prog_3_method_6_code 4 (Option.some Jvm.ClassFile.FieldType.int) ∈ TB := tb_2 (i := 118) rfl rfl
set_option maxRecDepth 100000 in
theorem q_359 : Cond.methodLink RX1 48 yX1_joined ∈ TB := tb_2 (i := 119) rfl rfl
set_option maxRecDepth 100000 in
theorem q_360 : Cond.static yX1_joined ∈ TB := tb_2 (i := 120) rfl rfl
set_option maxRecDepth 100000 in
theorem q_361 : Cond.code yX1_joined prog_3_method_7_code 3 (Option.some Jvm.ClassFile.FieldType.int) ∈ TB := tb_2 (i := 121) rfl rfl
set_option maxRecDepth 100000 in
theorem q_363 : Cond.static yX8_heldWithin ∈ TB := tb_2 (i := 123) rfl rfl
set_option maxRecDepth 100000 in
theorem q_364 : Cond.code yX8_heldWithin prog_1_method_48_code 3 (Option.some Jvm.ClassFile.FieldType.int) ∈ TB := tb_2 (i := 124) rfl rfl
set_option maxRecDepth 100000 in
theorem q_365 : Cond.methodLink RX8 306 yJ9_min_7cf53 ∈ TB := tb_2 (i := 125) rfl rfl
set_option maxRecDepth 100000 in
theorem q_366 : Cond.static yJ9_min_7cf53 ∈ TB := tb_2 (i := 126) rfl rfl
set_option maxRecDepth 100000 in
theorem q_367 : Cond.code yJ9_min_7cf53 prog_13_method_69_code 2 (Option.some Jvm.ClassFile.FieldType.int) ∈ TB := tb_2 (i := 127) rfl rfl
set_option maxRecDepth 100000 in
theorem q_368 : Cond.methodLink RX8 317 yJ9_max_7cf53 ∈ TB := tb_2 (i := 128) rfl rfl
set_option maxRecDepth 100000 in
theorem q_369 : Cond.static yJ9_max_7cf53 ∈ TB := tb_2 (i := 129) rfl rfl
set_option maxRecDepth 100000 in
theorem q_370 : Cond.code yJ9_max_7cf53 prog_13_method_65_code 2 (Option.some Jvm.ClassFile.FieldType.int) ∈ TB := tb_2 (i := 130) rfl rfl
set_option maxRecDepth 100000 in
theorem q_371 : Cond.methodLink RL 27 yX8_swimmer ∈ TB := tb_2 (i := 131) rfl rfl
set_option maxRecDepth 100000 in
theorem q_372 : Cond.instanceMethod yX8_swimmer ∈ TB := tb_2 (i := 132) rfl rfl
set_option maxRecDepth 100000 in
theorem q_373 : Cond.selects RX8 yX8_swimmer yX8_swimmer ∈ TB := tb_2 (i := 133) rfl rfl
set_option maxRecDepth 100000 in
theorem q_374 : Cond.code yX8_swimmer prog_1_method_5_code 5 (Option.some Jvm.ClassFile.FieldType.int) ∈ TB := tb_2 (i := 134) rfl rfl
set_option maxRecDepth 100000 in
theorem q_375 : Cond.methodLink RX8 99 yX0_swimmerAt ∈ TB := tb_2 (i := 135) rfl rfl
set_option maxRecDepth 100000 in
theorem q_376 : Cond.instanceMethod yX0_swimmerAt ∈ TB := tb_2 (i := 136) rfl rfl
set_option maxRecDepth 100000 in
theorem q_377 : Cond.selects RX0 yX0_swimmerAt yX0_swimmerAt ∈ TB := tb_2 (i := 137) rfl rfl
set_option maxRecDepth 100000 in
theorem q_378 : Cond.code yX0_swimmerAt prog_2_method_2_code 2 (Option.some (Jvm.ClassFile.FieldType.object RX6)) ∈ TB := tb_2 (i := 138) rfl rfl
set_option maxRecDepth 100000 in
theorem q_379 : Cond.methodLink RX8 103 yX6_begin ∈ TB := tb_2 (i := 139) rfl rfl
set_option maxRecDepth 100000 in
theorem q_380 : Cond.instanceMethod yX6_begin ∈ TB := tb_2 (i := 140) rfl rfl
set_option maxRecDepth 100000 in
theorem q_381 : Cond.selects RX6 yX6_begin yX6_begin ∈ TB := tb_2 (i := 141) rfl rfl
set_option maxRecDepth 100000 in
theorem q_382 : Cond.code yX6_begin prog_8_method_2_code 3 (Option.none : Option Jvm.ClassFile.FieldType) ∈ TB := tb_2 (i := 142) rfl rfl
set_option maxRecDepth 100000 in
theorem q_383 : Cond.methodLink RX6 31 yX6_turnInto ∈ TB := tb_2 (i := 143) rfl rfl
set_option maxRecDepth 100000 in
theorem q_384 : Cond.instanceMethod yX6_turnInto ∈ TB := tb_2 (i := 144) rfl rfl
set_option maxRecDepth 100000 in
theorem q_385 : Cond.selects RX6 yX6_turnInto yX6_turnInto ∈ TB := tb_2 (i := 145) rfl rfl
set_option maxRecDepth 100000 in
theorem q_386 : Cond.code yX6_turnInto prog_8_method_3_code 2 (Option.none : Option Jvm.ClassFile.FieldType) ∈ TB := tb_2 (i := 146) rfl rfl
set_option maxRecDepth 100000 in
theorem q_387 : Cond.methodLink RX6 35 yX6_keepTo ∈ TB := tb_2 (i := 147) rfl rfl
set_option maxRecDepth 100000 in
theorem q_388 : Cond.instanceMethod yX6_keepTo ∈ TB := tb_2 (i := 148) rfl rfl
set_option maxRecDepth 100000 in
theorem q_389 : Cond.selects RX6 yX6_keepTo yX6_keepTo ∈ TB := tb_2 (i := 149) rfl rfl
set_option maxRecDepth 100000 in
theorem q_390 : Cond.code yX6_keepTo prog_8_method_4_code 3 (Option.none : Option Jvm.ClassFile.FieldType) ∈ TB := tb_2 (i := 150) rfl rfl
set_option maxRecDepth 100000 in
theorem q_391 : Cond.methodLink RL 31 yX8_ofSwimmer ∈ TB := tb_2 (i := 151) rfl rfl
set_option maxRecDepth 100000 in
theorem q_392 : Cond.instanceMethod yX8_ofSwimmer ∈ TB := tb_2 (i := 152) rfl rfl
set_option maxRecDepth 100000 in
theorem q_393 : Cond.selects RX8 yX8_ofSwimmer yX8_ofSwimmer ∈ TB := tb_2 (i := 153) rfl rfl
set_option maxRecDepth 100000 in
theorem q_394 : Cond.code yX8_ofSwimmer prog_1_method_6_code 4 (Option.some Jvm.ClassFile.FieldType.int) ∈ TB := tb_2 (i := 154) rfl rfl
set_option maxRecDepth 100000 in
theorem q_395 : Cond.methodLink RX8 122 yX6_laneOf ∈ TB := tb_2 (i := 155) rfl rfl
set_option maxRecDepth 100000 in
theorem q_396 : Cond.instanceMethod yX6_laneOf ∈ TB := tb_2 (i := 156) rfl rfl
set_option maxRecDepth 100000 in
theorem q_397 : Cond.selects RX6 yX6_laneOf yX6_laneOf ∈ TB := tb_2 (i := 157) rfl rfl
set_option maxRecDepth 100000 in
theorem q_398 : Cond.code yX6_laneOf prog_8_method_7_code 2 (Option.some Jvm.ClassFile.FieldType.int) ∈ TB := tb_2 (i := 158) rfl rfl
set_option maxRecDepth 100000 in
theorem q_399 : Cond.methodLink RL 35 yX8_train ∈ TB := tb_2 (i := 159) rfl rfl
set_option maxRecDepth 100000 in
theorem q_400 : Cond.instanceMethod yX8_train ∈ TB := tb_2 (i := 160) rfl rfl
set_option maxRecDepth 100000 in
theorem q_401 : Cond.selects RX8 yX8_train yX8_train ∈ TB := tb_2 (i := 161) rfl rfl
set_option maxRecDepth 100000 in
theorem q_402 : Cond.code yX8_train prog_1_method_7_code 5 (Option.some Jvm.ClassFile.FieldType.int) ∈ TB := tb_2 (i := 162) rfl rfl
set_option maxRecDepth 100000 in
theorem q_403 : Cond.methodLink RL 39 yX8_plan ∈ TB := tb_2 (i := 163) rfl rfl
set_option maxRecDepth 100000 in
theorem q_404 : Cond.instanceMethod yX8_plan ∈ TB := tb_2 (i := 164) rfl rfl
set_option maxRecDepth 100000 in
theorem q_405 : Cond.selects RX8 yX8_plan yX8_plan ∈ TB := tb_2 (i := 165) rfl rfl
set_option maxRecDepth 100000 in
theorem q_406 : Cond.code yX8_plan prog_1_method_8_code 6 (Option.some Jvm.ClassFile.FieldType.int) ∈ TB := tb_2 (i := 166) rfl rfl
set_option maxRecDepth 100000 in
theorem q_407 : Cond.methodLink RL 44 yX8_become ∈ TB := tb_2 (i := 167) rfl rfl
set_option maxRecDepth 100000 in
theorem q_408 : Cond.instanceMethod yX8_become ∈ TB := tb_2 (i := 168) rfl rfl
set_option maxRecDepth 100000 in
theorem q_409 : Cond.selects RX8 yX8_become yX8_become ∈ TB := tb_2 (i := 169) rfl rfl
set_option maxRecDepth 100000 in
theorem q_410 : Cond.code yX8_become prog_1_method_9_code 5 (Option.some Jvm.ClassFile.FieldType.int) ∈ TB := tb_2 (i := 170) rfl rfl
set_option maxRecDepth 100000 in
theorem q_411 : Cond.methodLink RX8 128 yX6_turnInto ∈ TB := tb_2 (i := 171) rfl rfl
set_option maxRecDepth 100000 in
theorem q_412 : Cond.methodLink RL 48 yX8_as ∈ TB := tb_2 (i := 172) rfl rfl
set_option maxRecDepth 100000 in
theorem q_413 : Cond.instanceMethod yX8_as ∈ TB := tb_2 (i := 173) rfl rfl
set_option maxRecDepth 100000 in
theorem q_414 : Cond.selects RX8 yX8_as yX8_as ∈ TB := tb_2 (i := 174) rfl rfl
set_option maxRecDepth 100000 in
theorem q_415 : Cond.code yX8_as prog_1_method_10_code 4 (Option.some Jvm.ClassFile.FieldType.int) ∈ TB := tb_2 (i := 175) rfl rfl
set_option maxRecDepth 100000 in
theorem q_416 : Cond.methodLink RX8 132 yX8_isUnder ∈ TB := tb_2 (i := 176) rfl rfl
set_option maxRecDepth 100000 in
theorem q_417 : Cond.static yX8_isUnder ∈ TB := tb_2 (i := 177) rfl rfl
set_option maxRecDepth 100000 in
theorem q_418 : Cond.code yX8_isUnder prog_1_method_49_code 4 (Option.some Jvm.ClassFile.FieldType.boolean) ∈ TB := tb_2 (i := 178) rfl rfl
set_option maxRecDepth 100000 in
theorem q_419 : Cond.fieldLink RX8 320 RX8 "ABOVE" "[I" ∈ TB := tb_2 (i := 179) rfl rfl
set_option maxRecDepth 100000 in
theorem q_421 : Cond.methodLink RL 52 yX8_pace ∈ TB := tb_2 (i := 181) rfl rfl
set_option maxRecDepth 100000 in
theorem q_422 : Cond.instanceMethod yX8_pace ∈ TB := tb_2 (i := 182) rfl rfl
set_option maxRecDepth 100000 in
theorem q_423 : Cond.selects RX8 yX8_pace yX8_pace ∈ TB := tb_2 (i := 183) rfl rfl
set_option maxRecDepth 100000 in
theorem q_424 : Cond.code yX8_pace prog_1_method_11_code 4 (Option.some Jvm.ClassFile.FieldType.int) ∈ TB := tb_2 (i := 184) rfl rfl
set_option maxRecDepth 100000 in
theorem q_425 : Cond.methodLink RX8 136 yX6_paceIn ∈ TB := tb_2 (i := 185) rfl rfl
set_option maxRecDepth 100000 in
theorem q_426 : Cond.instanceMethod yX6_paceIn ∈ TB := tb_2 (i := 186) rfl rfl
set_option maxRecDepth 100000 in
theorem q_427 : Cond.selects RX6 yX6_paceIn yX6_paceIn ∈ TB := tb_2 (i := 187) rfl rfl
set_option maxRecDepth 100000 in
theorem q_428 : Cond.code yX6_paceIn prog_8_method_9_code 4 (Option.some Jvm.ClassFile.FieldType.int) ∈ TB := tb_2 (i := 188) rfl rfl
set_option maxRecDepth 100000 in
theorem q_429 : Cond.methodLink RX6 48 yX6_plainPace ∈ TB := tb_2 (i := 189) rfl rfl
set_option maxRecDepth 100000 in
theorem q_431 : Cond.instanceMethod yX6_plainPace ∈ TB := tb_2 (i := 191) rfl rfl
set_option maxRecDepth 100000 in
theorem q_432 : Cond.code yX6_plainPace prog_8_method_10_code 3 (Option.some Jvm.ClassFile.FieldType.int) ∈ TB := tb_2 (i := 192) rfl rfl
set_option maxRecDepth 100000 in
theorem q_433 : Cond.methodLink RL 58 yX8_feed ∈ TB := tb_2 (i := 193) rfl rfl
set_option maxRecDepth 100000 in
theorem q_434 : Cond.instanceMethod yX8_feed ∈ TB := tb_2 (i := 194) rfl rfl
set_option maxRecDepth 100000 in
theorem q_435 : Cond.selects RX8 yX8_feed yX8_feed ∈ TB := tb_2 (i := 195) rfl rfl
set_option maxRecDepth 100000 in
theorem q_436 : Cond.code yX8_feed prog_1_method_12_code 4 (Option.some Jvm.ClassFile.FieldType.int) ∈ TB := tb_2 (i := 196) rfl rfl
set_option maxRecDepth 100000 in
theorem q_437 : Cond.methodLink RX8 142 yX0_addToTape ∈ TB := tb_2 (i := 197) rfl rfl
set_option maxRecDepth 100000 in
theorem q_438 : Cond.instanceMethod yX0_addToTape ∈ TB := tb_2 (i := 198) rfl rfl
set_option maxRecDepth 100000 in
theorem q_439 : Cond.selects RX0 yX0_addToTape yX0_addToTape ∈ TB := tb_2 (i := 199) rfl rfl
set_option maxRecDepth 100000 in
theorem q_440 : Cond.code yX0_addToTape prog_2_method_5_code 5 (Option.none : Option Jvm.ClassFile.FieldType) ∈ TB := tb_2 (i := 200) rfl rfl
set_option maxRecDepth 100000 in
theorem q_441 : Cond.methodLink RL 63 yX8_text ∈ TB := tb_2 (i := 201) rfl rfl
set_option maxRecDepth 100000 in
theorem q_442 : Cond.instanceMethod yX8_text ∈ TB := tb_2 (i := 202) rfl rfl
set_option maxRecDepth 100000 in
theorem q_443 : Cond.selects RX8 yX8_text yX8_text ∈ TB := tb_2 (i := 203) rfl rfl
set_option maxRecDepth 100000 in
theorem q_444 : Cond.code yX8_text prog_1_method_13_code 4 (Option.some Jvm.ClassFile.FieldType.int) ∈ TB := tb_2 (i := 204) rfl rfl
set_option maxRecDepth 100000 in
theorem q_445 : Cond.methodLink RX8 146 yX0_lawOf ∈ TB := tb_2 (i := 205) rfl rfl
set_option maxRecDepth 100000 in
theorem q_446 : Cond.instanceMethod yX0_lawOf ∈ TB := tb_2 (i := 206) rfl rfl
set_option maxRecDepth 100000 in
theorem q_447 : Cond.selects RX0 yX0_lawOf yX0_lawOf ∈ TB := tb_2 (i := 207) rfl rfl
set_option maxRecDepth 100000 in
theorem q_448 : Cond.code yX0_lawOf prog_2_method_3_code 2 (Option.some (Jvm.ClassFile.FieldType.object RX1)) ∈ TB := tb_2 (i := 208) rfl rfl
set_option maxRecDepth 100000 in
theorem q_449 : Cond.methodLink RX8 153 yX3_read ∈ TB := tb_2 (i := 209) rfl rfl
set_option maxRecDepth 100000 in
theorem q_450 : Cond.instanceMethod yX3_read ∈ TB := tb_2 (i := 210) rfl rfl
set_option maxRecDepth 100000 in
theorem q_451 : Cond.selects RX3 yX3_read yX3_read ∈ TB := tb_2 (i := 211) rfl rfl
set_option maxRecDepth 100000 in
theorem q_452 : Cond.code yX3_read prog_5_method_2_code 4 (Option.some Jvm.ClassFile.FieldType.int) ∈ TB := tb_2 (i := 212) rfl rfl
set_option maxRecDepth 100000 in
theorem q_453 : Cond.methodLink RX3 34 yJ9_min_7cf53 ∈ TB := tb_2 (i := 213) rfl rfl
set_option maxRecDepth 100000 in
theorem q_454 : Cond.methodLink RX3 40 arraycopyName ∈ TB := tb_2 (i := 214) rfl rfl
set_option maxRecDepth 100000 in
theorem q_455 : Cond.static arraycopyName ∈ TB := tb_2 (i := 215) rfl rfl
set_option maxRecDepth 100000 in
theorem q_456 : Cond.native arraycopyName ∈ TB := tb_2 (i := 216) rfl rfl
set_option maxRecDepth 100000 in
theorem q_459 : Cond.methodLink RX3 50 yX3_readAny ∈ TB := tb_2 (i := 219) rfl rfl
set_option maxRecDepth 100000 in
theorem q_461 : Cond.instanceMethod yX3_readAny ∈ TB := tb_2 (i := 221) rfl rfl
set_option maxRecDepth 100000 in
theorem q_462 : Cond.code yX3_readAny prog_5_method_5_code 2 (Option.some Jvm.ClassFile.FieldType.boolean) ∈ TB := tb_2 (i := 222) rfl rfl
set_option maxRecDepth 100000 in
theorem q_463 : Cond.methodLink RX3 54 yX3_readAll ∈ TB := tb_2 (i := 223) rfl rfl
set_option maxRecDepth 100000 in
theorem q_465 : Cond.instanceMethod yX3_readAll ∈ TB := tb_2 (i := 225) rfl rfl
set_option maxRecDepth 100000 in
theorem q_466 : Cond.code yX3_readAll prog_5_method_6_code 2 (Option.some Jvm.ClassFile.FieldType.boolean) ∈ TB := tb_2 (i := 226) rfl rfl
set_option maxRecDepth 100000 in
theorem q_467 : Cond.methodLink RX3 65 yX3_readComparison ∈ TB := tb_2 (i := 227) rfl rfl
set_option maxRecDepth 100000 in
theorem q_469 : Cond.instanceMethod yX3_readComparison ∈ TB := tb_2 (i := 229) rfl rfl
set_option maxRecDepth 100000 in
theorem q_470 : Cond.code yX3_readComparison prog_5_method_7_code 3 (Option.some Jvm.ClassFile.FieldType.boolean) ∈ TB := tb_2 (i := 230) rfl rfl
set_option maxRecDepth 100000 in
theorem q_471 : Cond.methodLink RX3 68 yX3_readSum ∈ TB := tb_2 (i := 231) rfl rfl
set_option maxRecDepth 100000 in
theorem q_473 : Cond.instanceMethod yX3_readSum ∈ TB := tb_2 (i := 233) rfl rfl
set_option maxRecDepth 100000 in
theorem q_474 : Cond.code yX3_readSum prog_5_method_8_code 3 (Option.some Jvm.ClassFile.FieldType.boolean) ∈ TB := tb_2 (i := 234) rfl rfl
set_option maxRecDepth 100000 in
theorem q_475 : Cond.methodLink RX3 71 yX3_readProduct ∈ TB := tb_2 (i := 235) rfl rfl
set_option maxRecDepth 100000 in
theorem q_477 : Cond.instanceMethod yX3_readProduct ∈ TB := tb_2 (i := 237) rfl rfl
set_option maxRecDepth 100000 in
theorem q_478 : Cond.code yX3_readProduct prog_5_method_9_code 3 (Option.some Jvm.ClassFile.FieldType.boolean) ∈ TB := tb_2 (i := 238) rfl rfl
set_option maxRecDepth 100000 in
theorem q_479 : Cond.methodLink RX3 74 yX3_readPart ∈ TB := tb_2 (i := 239) rfl rfl
set_option maxRecDepth 100000 in
theorem q_481 : Cond.instanceMethod yX3_readPart ∈ TB := tb_3 (i := 1) rfl rfl
set_option maxRecDepth 100000 in
theorem q_482 : Cond.code yX3_readPart prog_5_method_10_code 4 (Option.some Jvm.ClassFile.FieldType.boolean) ∈ TB := tb_3 (i := 2) rfl rfl
set_option maxRecDepth 100000 in
theorem q_483 : Cond.methodLink RX3 57 yX3_next ∈ TB := tb_3 (i := 3) rfl rfl
set_option maxRecDepth 100000 in
theorem q_485 : Cond.instanceMethod yX3_next ∈ TB := tb_3 (i := 5) rfl rfl
set_option maxRecDepth 100000 in
theorem q_486 : Cond.code yX3_next prog_5_method_3_code 1 (Option.some Jvm.ClassFile.FieldType.int) ∈ TB := tb_3 (i := 6) rfl rfl
set_option maxRecDepth 100000 in
theorem q_487 : Cond.methodLink RX3 77 yX3_isDigit ∈ TB := tb_3 (i := 7) rfl rfl
set_option maxRecDepth 100000 in
theorem q_488 : Cond.static yX3_isDigit ∈ TB := tb_3 (i := 8) rfl rfl
set_option maxRecDepth 100000 in
theorem q_489 : Cond.code yX3_isDigit prog_5_method_14_code 1 (Option.some Jvm.ClassFile.FieldType.boolean) ∈ TB := tb_3 (i := 9) rfl rfl
set_option maxRecDepth 100000 in
theorem q_490 : Cond.methodLink RX3 80 yX3_readNumber ∈ TB := tb_3 (i := 10) rfl rfl
set_option maxRecDepth 100000 in
theorem q_492 : Cond.instanceMethod yX3_readNumber ∈ TB := tb_3 (i := 12) rfl rfl
set_option maxRecDepth 100000 in
theorem q_493 : Cond.code yX3_readNumber prog_5_method_13_code 3 (Option.none : Option Jvm.ClassFile.FieldType) ∈ TB := tb_3 (i := 13) rfl rfl
set_option maxRecDepth 100000 in
theorem q_494 : Cond.methodLink RX3 61 yX3_add ∈ TB := tb_3 (i := 14) rfl rfl
set_option maxRecDepth 100000 in
theorem q_496 : Cond.instanceMethod yX3_add ∈ TB := tb_3 (i := 16) rfl rfl
set_option maxRecDepth 100000 in
theorem q_497 : Cond.code yX3_add prog_5_method_4_code 2 (Option.none : Option Jvm.ClassFile.FieldType) ∈ TB := tb_3 (i := 17) rfl rfl
set_option maxRecDepth 100000 in
theorem q_498 : Cond.methodLink RX3 83 yJ0_indexOf_0f7a4 ∈ TB := tb_3 (i := 18) rfl rfl
set_option maxRecDepth 100000 in
theorem q_499 : Cond.instanceMethod yJ0_indexOf_0f7a4 ∈ TB := tb_3 (i := 19) rfl rfl
set_option maxRecDepth 100000 in
theorem q_500 : Cond.selects RJ0 yJ0_indexOf_0f7a4 yJ0_indexOf_0f7a4 ∈ TB := tb_3 (i := 20) rfl rfl
set_option maxRecDepth 100000 in
theorem q_501 : Cond.code yJ0_indexOf_0f7a4 prog_14_method_79_code 2 (Option.some Jvm.ClassFile.FieldType.int) ∈ TB := tb_3 (i := 21) rfl rfl
set_option maxRecDepth 100000 in
theorem q_502 : Cond.methodLink RJ0 633 yJ0_indexOf_7cf53 ∈ TB := tb_3 (i := 22) rfl rfl
set_option maxRecDepth 100000 in
theorem q_503 : Cond.instanceMethod yJ0_indexOf_7cf53 ∈ TB := tb_3 (i := 23) rfl rfl
set_option maxRecDepth 100000 in
theorem q_504 : Cond.selects RJ0 yJ0_indexOf_7cf53 yJ0_indexOf_7cf53 ∈ TB := tb_3 (i := 24) rfl rfl
set_option maxRecDepth 100000 in
theorem q_505 : Cond.code yJ0_indexOf_7cf53 prog_14_method_80_code 3 (Option.some Jvm.ClassFile.FieldType.int) ∈ TB := tb_3 (i := 25) rfl rfl
set_option maxRecDepth 100000 in
theorem q_506 : Cond.methodLink RJ0 492 yJ0_isLatin1_aae02 ∈ TB := tb_3 (i := 26) rfl rfl
set_option maxRecDepth 100000 in
theorem q_507 : Cond.instanceMethod yJ0_isLatin1_aae02 ∈ TB := tb_3 (i := 27) rfl rfl
set_option maxRecDepth 100000 in
theorem q_508 : Cond.selects RJ0 yJ0_isLatin1_aae02 yJ0_isLatin1_aae02 ∈ TB := tb_3 (i := 28) rfl rfl
set_option maxRecDepth 100000 in
theorem q_509 : Cond.code yJ0_isLatin1_aae02 prog_14_method_154_code 1 (Option.some Jvm.ClassFile.FieldType.boolean) ∈ TB := tb_3 (i := 29) rfl rfl
set_option maxRecDepth 100000 in
theorem q_510 : Cond.fieldLink RJ0 38 RJ0 "COMPACT_STRINGS" "Z" ∈ TB := tb_3 (i := 30) rfl rfl
set_option maxRecDepth 100000 in
theorem q_512 : Cond.methodLink RJ0 505 yJ0_length_8abf5 ∈ TB := tb_3 (i := 32) rfl rfl
set_option maxRecDepth 100000 in
theorem q_513 : Cond.instanceMethod yJ0_length_8abf5 ∈ TB := tb_3 (i := 33) rfl rfl
set_option maxRecDepth 100000 in
theorem q_514 : Cond.selects RJ0 yJ0_length_8abf5 yJ0_length_8abf5 ∈ TB := tb_3 (i := 34) rfl rfl
set_option maxRecDepth 100000 in
theorem q_515 : Cond.code yJ0_length_8abf5 prog_14_method_54_code 1 (Option.some Jvm.ClassFile.FieldType.int) ∈ TB := tb_3 (i := 35) rfl rfl
set_option maxRecDepth 100000 in
theorem q_516 : Cond.methodLink RJ0 335 yJ0_coder_7d493 ∈ TB := tb_3 (i := 36) rfl rfl
set_option maxRecDepth 100000 in
theorem q_517 : Cond.instanceMethod yJ0_coder_7d493 ∈ TB := tb_3 (i := 37) rfl rfl
set_option maxRecDepth 100000 in
theorem q_518 : Cond.selects RJ0 yJ0_coder_7d493 yJ0_coder_7d493 ∈ TB := tb_3 (i := 38) rfl rfl
set_option maxRecDepth 100000 in
theorem q_519 : Cond.code yJ0_coder_7d493 prog_14_method_152_code 1 (Option.some Jvm.ClassFile.FieldType.byte) ∈ TB := tb_3 (i := 39) rfl rfl
set_option maxRecDepth 100000 in
theorem q_520 : Cond.methodLink RJ0 637 yJ1_indexOf_4cfef ∈ TB := tb_3 (i := 40) rfl rfl
set_option maxRecDepth 100000 in
theorem q_521 : Cond.static yJ1_indexOf_4cfef ∈ TB := tb_3 (i := 41) rfl rfl
set_option maxRecDepth 100000 in
theorem q_522 : Cond.code yJ1_indexOf_4cfef prog_15_method_22_code 4 (Option.some Jvm.ClassFile.FieldType.int) ∈ TB := tb_3 (i := 42) rfl rfl
set_option maxRecDepth 100000 in
theorem q_523 : Cond.methodLink RJ1 88 yJ1_canEncode_9a6ad ∈ TB := tb_3 (i := 43) rfl rfl
set_option maxRecDepth 100000 in
theorem q_524 : Cond.static yJ1_canEncode_9a6ad ∈ TB := tb_3 (i := 44) rfl rfl
set_option maxRecDepth 100000 in
theorem q_525 : Cond.code yJ1_canEncode_9a6ad prog_15_method_4_code 1 (Option.some Jvm.ClassFile.FieldType.boolean) ∈ TB := tb_3 (i := 45) rfl rfl
set_option maxRecDepth 100000 in
theorem q_526 : Cond.methodLink RJ1 92 yJ9_max_7cf53 ∈ TB := tb_3 (i := 46) rfl rfl
set_option maxRecDepth 100000 in
theorem q_527 : Cond.methodLink RJ1 38 yJ9_min_7cf53 ∈ TB := tb_3 (i := 47) rfl rfl
set_option maxRecDepth 100000 in
theorem q_528 : Cond.methodLink RJ1 95 yJ1_indexOfChar_4cfef ∈ TB := tb_3 (i := 48) rfl rfl
set_option maxRecDepth 100000 in
theorem q_529 : Cond.static yJ1_indexOfChar_4cfef ∈ TB := tb_3 (i := 49) rfl rfl
set_option maxRecDepth 100000 in
theorem q_530 : Cond.code yJ1_indexOfChar_4cfef prog_15_method_23_code 6 (Option.some Jvm.ClassFile.FieldType.int) ∈ TB := tb_3 (i := 50) rfl rfl
set_option maxRecDepth 100000 in
theorem q_531 : Cond.methodLink RJ0 640 yJ2_indexOf_4cfef ∈ TB := tb_3 (i := 51) rfl rfl
set_option maxRecDepth 100000 in
theorem q_532 : Cond.static yJ2_indexOf_4cfef ∈ TB := tb_3 (i := 52) rfl rfl
set_option maxRecDepth 100000 in
theorem q_533 : Cond.code yJ2_indexOf_4cfef prog_16_method_40_code 4 (Option.some Jvm.ClassFile.FieldType.int) ∈ TB := tb_3 (i := 53) rfl rfl
set_option maxRecDepth 100000 in
theorem q_534 : Cond.methodLink RJ2 224 yJ9_max_7cf53 ∈ TB := tb_3 (i := 54) rfl rfl
set_option maxRecDepth 100000 in
theorem q_535 : Cond.methodLink RJ2 183 yJ9_min_7cf53 ∈ TB := tb_3 (i := 55) rfl rfl
set_option maxRecDepth 100000 in
theorem q_536 : Cond.constant RJ2 227 65536 ∈ TB := tb_3 (i := 56) rfl rfl
set_option maxRecDepth 100000 in
theorem q_537 : Cond.methodLink RJ2 228 yJ2_indexOfChar_4cfef ∈ TB := tb_3 (i := 57) rfl rfl
set_option maxRecDepth 100000 in
theorem q_538 : Cond.static yJ2_indexOfChar_4cfef ∈ TB := tb_3 (i := 58) rfl rfl
set_option maxRecDepth 100000 in
theorem q_539 : Cond.code yJ2_indexOfChar_4cfef prog_16_method_47_code 4 (Option.some Jvm.ClassFile.FieldType.int) ∈ TB := tb_3 (i := 59) rfl rfl
set_option maxRecDepth 100000 in
theorem q_540 : Cond.methodLink RJ2 96 yJ2_checkBoundsBeginEnd_d044e ∈ TB := tb_3 (i := 60) rfl rfl
set_option maxRecDepth 100000 in
theorem q_541 : Cond.static yJ2_checkBoundsBeginEnd_d044e ∈ TB := tb_3 (i := 61) rfl rfl
set_option maxRecDepth 100000 in
theorem q_542 : Cond.code yJ2_checkBoundsBeginEnd_d044e prog_16_method_93_code 3 (Option.none : Option Jvm.ClassFile.FieldType) ∈ TB := tb_3 (i := 62) rfl rfl
set_option maxRecDepth 100000 in
theorem q_543 : Cond.methodLink RJ2 48 yJ2_length_9d52b ∈ TB := tb_3 (i := 63) rfl rfl
set_option maxRecDepth 100000 in
theorem q_544 : Cond.static yJ2_length_9d52b ∈ TB := tb_3 (i := 64) rfl rfl
set_option maxRecDepth 100000 in
theorem q_545 : Cond.code yJ2_length_9d52b prog_16_method_6_code 1 (Option.some Jvm.ClassFile.FieldType.int) ∈ TB := tb_3 (i := 65) rfl rfl
set_option maxRecDepth 100000 in
theorem q_546 : Cond.methodLink RJ2 241 yJ0_checkBoundsBeginEnd_23922 ∈ TB := tb_3 (i := 66) rfl rfl
set_option maxRecDepth 100000 in
theorem q_547 : Cond.static yJ0_checkBoundsBeginEnd_23922 ∈ TB := tb_3 (i := 67) rfl rfl
set_option maxRecDepth 100000 in
theorem q_548 : Cond.code yJ0_checkBoundsBeginEnd_23922 prog_14_method_158_code 3 (Option.none : Option Jvm.ClassFile.FieldType) ∈ TB := tb_3 (i := 68) rfl rfl
set_option maxRecDepth 100000 in
theorem q_549 : Cond.fieldLink RJ0 1053 RJ3 "SIOOBE_FORMATTER" "Ljava/util/function/BiFunction;" ∈ TB := tb_3 (i := 69) rfl rfl
set_option maxRecDepth 100000 in
theorem q_551 : Cond.methodLink RJ0 1062 yJ3_checkFromToIndex_8c36e ∈ TB := tb_3 (i := 71) rfl rfl
set_option maxRecDepth 100000 in
theorem q_552 : Cond.static yJ3_checkFromToIndex_8c36e ∈ TB := tb_3 (i := 72) rfl rfl
set_option maxRecDepth 100000 in
theorem q_553 : Cond.code yJ3_checkFromToIndex_8c36e prog_18_method_12_code 4 (Option.some Jvm.ClassFile.FieldType.int) ∈ TB := tb_3 (i := 73) rfl rfl
set_option maxRecDepth 100000 in
theorem q_554 : Cond.methodLink RJ2 244 yJ2_indexOfCharUnsafe_4cfef ∈ TB := tb_3 (i := 74) rfl rfl
set_option maxRecDepth 100000 in
theorem q_555 : Cond.static yJ2_indexOfCharUnsafe_4cfef ∈ TB := tb_3 (i := 75) rfl rfl
set_option maxRecDepth 100000 in
theorem q_556 : Cond.code yJ2_indexOfCharUnsafe_4cfef prog_16_method_48_code 5 (Option.some Jvm.ClassFile.FieldType.int) ∈ TB := tb_3 (i := 76) rfl rfl
set_option maxRecDepth 100000 in
theorem q_557 : Cond.methodLink RJ2 71 yJ2_getChar_3b067 ∈ TB := tb_3 (i := 77) rfl rfl
set_option maxRecDepth 100000 in
theorem q_558 : Cond.static yJ2_getChar_3b067 ∈ TB := tb_3 (i := 78) rfl rfl
set_option maxRecDepth 100000 in
theorem q_559 : Cond.code yJ2_getChar_3b067 prog_16_method_5_code 2 (Option.some Jvm.ClassFile.FieldType.char) ∈ TB := tb_3 (i := 79) rfl rfl
set_option maxRecDepth 100000 in
theorem q_560 : Cond.fieldLink RJ2 44 RJ2 "$assertionsDisabled" "Z" ∈ TB := tb_3 (i := 80) rfl rfl
set_option maxRecDepth 100000 in
theorem q_562 : Cond.fieldLink RJ2 59 RJ2 "HI_BYTE_SHIFT" "I" ∈ TB := tb_3 (i := 82) rfl rfl
set_option maxRecDepth 100000 in
theorem q_564 : Cond.fieldLink RJ2 63 RJ2 "LO_BYTE_SHIFT" "I" ∈ TB := tb_3 (i := 84) rfl rfl
set_option maxRecDepth 100000 in
theorem q_566 : Cond.methodLink RJ2 232 yJ2_indexOfSupplementary_4cfef ∈ TB := tb_3 (i := 86) rfl rfl
set_option maxRecDepth 100000 in
theorem q_567 : Cond.static yJ2_indexOfSupplementary_4cfef ∈ TB := tb_3 (i := 87) rfl rfl
set_option maxRecDepth 100000 in
theorem q_568 : Cond.code yJ2_indexOfSupplementary_4cfef prog_16_method_49_code 7 (Option.some Jvm.ClassFile.FieldType.int) ∈ TB := tb_3 (i := 88) rfl rfl
set_option maxRecDepth 100000 in
theorem q_569 : Cond.methodLink RJ2 164 yJ11_isValidCodePoint_9a6ad ∈ TB := tb_3 (i := 89) rfl rfl
set_option maxRecDepth 100000 in
theorem q_570 : Cond.static yJ11_isValidCodePoint_9a6ad ∈ TB := tb_3 (i := 90) rfl rfl
set_option maxRecDepth 100000 in
theorem q_571 : Cond.code yJ11_isValidCodePoint_9a6ad prog_12_method_11_code 2 (Option.some Jvm.ClassFile.FieldType.boolean) ∈ TB := tb_3 (i := 91) rfl rfl
set_option maxRecDepth 100000 in
theorem q_572 : Cond.methodLink RJ2 157 yJ11_highSurrogate_5068e ∈ TB := tb_3 (i := 92) rfl rfl
set_option maxRecDepth 100000 in
theorem q_573 : Cond.static yJ11_highSurrogate_5068e ∈ TB := tb_3 (i := 93) rfl rfl
set_option maxRecDepth 100000 in
theorem q_574 : Cond.code yJ11_highSurrogate_5068e prog_12_method_28_code 1 (Option.some Jvm.ClassFile.FieldType.char) ∈ TB := tb_3 (i := 94) rfl rfl
set_option maxRecDepth 100000 in
theorem q_575 : Cond.constant RJ11 110 55232 ∈ TB := tb_3 (i := 95) rfl rfl
set_option maxRecDepth 100000 in
theorem q_576 : Cond.methodLink RJ2 161 yJ11_lowSurrogate_5068e ∈ TB := tb_3 (i := 96) rfl rfl
set_option maxRecDepth 100000 in
theorem q_577 : Cond.static yJ11_lowSurrogate_5068e ∈ TB := tb_3 (i := 97) rfl rfl
set_option maxRecDepth 100000 in
theorem q_578 : Cond.code yJ11_lowSurrogate_5068e prog_12_method_29_code 1 (Option.some Jvm.ClassFile.FieldType.char) ∈ TB := tb_3 (i := 98) rfl rfl
set_option maxRecDepth 100000 in
theorem q_579 : Cond.constant RJ11 76 56320 ∈ TB := tb_3 (i := 99) rfl rfl
set_option maxRecDepth 100000 in
theorem q_580 : Cond.methodLink RX3 89 yX3_readNot ∈ TB := tb_3 (i := 100) rfl rfl
set_option maxRecDepth 100000 in
theorem q_582 : Cond.instanceMethod yX3_readNot ∈ TB := tb_3 (i := 102) rfl rfl
set_option maxRecDepth 100000 in
theorem q_583 : Cond.code yX3_readNot prog_5_method_11_code 2 (Option.some Jvm.ClassFile.FieldType.boolean) ∈ TB := tb_3 (i := 103) rfl rfl
set_option maxRecDepth 100000 in
theorem q_584 : Cond.methodLink RX3 92 yX3_readBracket ∈ TB := tb_3 (i := 104) rfl rfl
set_option maxRecDepth 100000 in
theorem q_586 : Cond.instanceMethod yX3_readBracket ∈ TB := tb_3 (i := 106) rfl rfl
set_option maxRecDepth 100000 in
theorem q_587 : Cond.code yX3_readBracket prog_5_method_12_code 2 (Option.some Jvm.ClassFile.FieldType.boolean) ∈ TB := tb_3 (i := 107) rfl rfl
set_option maxRecDepth 100000 in
theorem q_588 : Cond.methodLink RX8 157 yX1_take ∈ TB := tb_3 (i := 108) rfl rfl
set_option maxRecDepth 100000 in
theorem q_589 : Cond.instanceMethod yX1_take ∈ TB := tb_3 (i := 109) rfl rfl
set_option maxRecDepth 100000 in
theorem q_590 : Cond.selects RX1 yX1_take yX1_take ∈ TB := tb_3 (i := 110) rfl rfl
set_option maxRecDepth 100000 in
theorem q_591 : Cond.code yX1_take prog_3_method_2_code 2 (Option.none : Option Jvm.ClassFile.FieldType) ∈ TB := tb_3 (i := 111) rfl rfl
set_option maxRecDepth 100000 in
theorem q_592 : Cond.methodLink RX1 31 arraycopyName ∈ TB := tb_3 (i := 112) rfl rfl
set_option maxRecDepth 100000 in
theorem q_593 : Cond.methodLink RL 67 yX8_law ∈ TB := tb_3 (i := 113) rfl rfl
set_option maxRecDepth 100000 in
theorem q_594 : Cond.instanceMethod yX8_law ∈ TB := tb_3 (i := 114) rfl rfl
set_option maxRecDepth 100000 in
theorem q_595 : Cond.selects RX8 yX8_law yX8_law ∈ TB := tb_3 (i := 115) rfl rfl
set_option maxRecDepth 100000 in
theorem q_596 : Cond.code yX8_law prog_1_method_14_code 6 (Option.some Jvm.ClassFile.FieldType.int) ∈ TB := tb_3 (i := 116) rfl rfl
set_option maxRecDepth 100000 in
theorem q_597 : Cond.methodLink RX8 163 yX1_give ∈ TB := tb_3 (i := 117) rfl rfl
set_option maxRecDepth 100000 in
theorem q_598 : Cond.methodLink RL 72 yX8_where ∈ TB := tb_3 (i := 118) rfl rfl
set_option maxRecDepth 100000 in
theorem q_599 : Cond.instanceMethod yX8_where ∈ TB := tb_3 (i := 119) rfl rfl
set_option maxRecDepth 100000 in
theorem q_600 : Cond.selects RX8 yX8_where yX8_where ∈ TB := tb_3 (i := 120) rfl rfl
set_option maxRecDepth 100000 in
theorem q_601 : Cond.code yX8_where prog_1_method_15_code 4 (Option.some Jvm.ClassFile.FieldType.int) ∈ TB := tb_3 (i := 121) rfl rfl
set_option maxRecDepth 100000 in
theorem q_602 : Cond.methodLink RX8 167 yX5_feel ∈ TB := tb_3 (i := 122) rfl rfl
set_option maxRecDepth 100000 in
theorem q_603 : Cond.instanceMethod yX5_feel ∈ TB := tb_3 (i := 123) rfl rfl
set_option maxRecDepth 100000 in
theorem q_604 : Cond.selects RX5 yX5_feel yX5_feel ∈ TB := tb_3 (i := 124) rfl rfl
set_option maxRecDepth 100000 in
theorem q_605 : Cond.code yX5_feel prog_7_method_2_code 4 (Option.none : Option Jvm.ClassFile.FieldType) ∈ TB := tb_3 (i := 125) rfl rfl
set_option maxRecDepth 100000 in
theorem q_606 : Cond.methodLink RX5 31 yX0_flowOf ∈ TB := tb_3 (i := 126) rfl rfl
set_option maxRecDepth 100000 in
theorem q_607 : Cond.methodLink RX8 171 yX5_placeBehind ∈ TB := tb_3 (i := 127) rfl rfl
set_option maxRecDepth 100000 in
theorem q_608 : Cond.instanceMethod yX5_placeBehind ∈ TB := tb_3 (i := 128) rfl rfl
set_option maxRecDepth 100000 in
theorem q_609 : Cond.selects RX5 yX5_placeBehind yX5_placeBehind ∈ TB := tb_3 (i := 129) rfl rfl
set_option maxRecDepth 100000 in
theorem q_610 : Cond.code yX5_placeBehind prog_7_method_5_code 5 (Option.some Jvm.ClassFile.FieldType.int) ∈ TB := tb_3 (i := 130) rfl rfl
set_option maxRecDepth 100000 in
theorem q_611 : Cond.methodLink RX5 60 yX6_shore ∈ TB := tb_3 (i := 131) rfl rfl
set_option maxRecDepth 100000 in
theorem q_612 : Cond.instanceMethod yX6_shore ∈ TB := tb_3 (i := 132) rfl rfl
set_option maxRecDepth 100000 in
theorem q_613 : Cond.selects RX6 yX6_shore yX6_shore ∈ TB := tb_3 (i := 133) rfl rfl
set_option maxRecDepth 100000 in
theorem q_614 : Cond.code yX6_shore prog_8_method_6_code 1 (Option.some Jvm.ClassFile.FieldType.int) ∈ TB := tb_3 (i := 134) rfl rfl
set_option maxRecDepth 100000 in
theorem q_615 : Cond.methodLink RX5 64 yX5_placeNext ∈ TB := tb_3 (i := 135) rfl rfl
set_option maxRecDepth 100000 in
theorem q_616 : Cond.instanceMethod yX5_placeNext ∈ TB := tb_3 (i := 136) rfl rfl
set_option maxRecDepth 100000 in
theorem q_617 : Cond.selects RX5 yX5_placeNext yX5_placeNext ∈ TB := tb_3 (i := 137) rfl rfl
set_option maxRecDepth 100000 in
theorem q_618 : Cond.code yX5_placeNext prog_7_method_4_code 6 (Option.some Jvm.ClassFile.FieldType.int) ∈ TB := tb_3 (i := 138) rfl rfl
set_option maxRecDepth 100000 in
theorem q_619 : Cond.methodLink RX5 41 yX6_paceIn ∈ TB := tb_3 (i := 139) rfl rfl
set_option maxRecDepth 100000 in
theorem q_620 : Cond.methodLink RX5 50 yX6_laneIn ∈ TB := tb_3 (i := 140) rfl rfl
set_option maxRecDepth 100000 in
theorem q_621 : Cond.instanceMethod yX6_laneIn ∈ TB := tb_3 (i := 141) rfl rfl
set_option maxRecDepth 100000 in
theorem q_622 : Cond.selects RX6 yX6_laneIn yX6_laneIn ∈ TB := tb_3 (i := 142) rfl rfl
set_option maxRecDepth 100000 in
theorem q_623 : Cond.code yX6_laneIn prog_8_method_8_code 3 (Option.some Jvm.ClassFile.FieldType.int) ∈ TB := tb_3 (i := 143) rfl rfl
set_option maxRecDepth 100000 in
theorem q_624 : Cond.methodLink RX6 44 yX6_laneOf ∈ TB := tb_3 (i := 144) rfl rfl
set_option maxRecDepth 100000 in
theorem q_625 : Cond.methodLink RX5 53 yX5_flowIn ∈ TB := tb_3 (i := 145) rfl rfl
set_option maxRecDepth 100000 in
theorem q_626 : Cond.instanceMethod yX5_flowIn ∈ TB := tb_3 (i := 146) rfl rfl
set_option maxRecDepth 100000 in
theorem q_627 : Cond.selects RX5 yX5_flowIn yX5_flowIn ∈ TB := tb_3 (i := 147) rfl rfl
set_option maxRecDepth 100000 in
theorem q_628 : Cond.code yX5_flowIn prog_7_method_3_code 2 (Option.some Jvm.ClassFile.FieldType.int) ∈ TB := tb_3 (i := 148) rfl rfl
set_option maxRecDepth 100000 in
theorem q_631 : Cond.methodLink RL 76 yX8_meet ∈ TB := tb_3 (i := 151) rfl rfl
set_option maxRecDepth 100000 in
theorem q_632 : Cond.instanceMethod yX8_meet ∈ TB := tb_3 (i := 152) rfl rfl
set_option maxRecDepth 100000 in
theorem q_633 : Cond.selects RX8 yX8_meet yX8_meet ∈ TB := tb_3 (i := 153) rfl rfl
set_option maxRecDepth 100000 in
theorem q_634 : Cond.code yX8_meet prog_1_method_16_code 6 (Option.some Jvm.ClassFile.FieldType.int) ∈ TB := tb_3 (i := 154) rfl rfl
set_option maxRecDepth 100000 in
theorem q_635 : Cond.methodLink RX8 175 yX8_areUnlike ∈ TB := tb_3 (i := 155) rfl rfl
set_option maxRecDepth 100000 in
theorem q_636 : Cond.static yX8_areUnlike ∈ TB := tb_3 (i := 156) rfl rfl
set_option maxRecDepth 100000 in
theorem q_637 : Cond.code yX8_areUnlike prog_1_method_50_code 2 (Option.some Jvm.ClassFile.FieldType.boolean) ∈ TB := tb_3 (i := 157) rfl rfl
set_option maxRecDepth 100000 in
theorem q_638 : Cond.methodLink RX8 179 yX5_meets ∈ TB := tb_3 (i := 158) rfl rfl
set_option maxRecDepth 100000 in
theorem q_639 : Cond.instanceMethod yX5_meets ∈ TB := tb_3 (i := 159) rfl rfl
set_option maxRecDepth 100000 in
theorem q_640 : Cond.selects RX5 yX5_meets yX5_meets ∈ TB := tb_3 (i := 160) rfl rfl
set_option maxRecDepth 100000 in
theorem q_641 : Cond.code yX5_meets prog_7_method_6_code 5 (Option.some Jvm.ClassFile.FieldType.boolean) ∈ TB := tb_3 (i := 161) rfl rfl
set_option maxRecDepth 100000 in
theorem q_642 : Cond.methodLink RX5 68 yX5_begin ∈ TB := tb_3 (i := 162) rfl rfl
set_option maxRecDepth 100000 in
theorem q_644 : Cond.instanceMethod yX5_begin ∈ TB := tb_3 (i := 164) rfl rfl
set_option maxRecDepth 100000 in
theorem q_645 : Cond.code yX5_begin prog_7_method_8_code 3 (Option.none : Option Jvm.ClassFile.FieldType) ∈ TB := tb_3 (i := 165) rfl rfl
set_option maxRecDepth 100000 in
theorem q_646 : Cond.methodLink RX5 72 yX5_gap ∈ TB := tb_3 (i := 166) rfl rfl
set_option maxRecDepth 100000 in
theorem q_648 : Cond.instanceMethod yX5_gap ∈ TB := tb_3 (i := 168) rfl rfl
set_option maxRecDepth 100000 in
theorem q_649 : Cond.code yX5_gap prog_7_method_9_code 2 (Option.some Jvm.ClassFile.FieldType.int) ∈ TB := tb_3 (i := 169) rfl rfl
set_option maxRecDepth 100000 in
theorem q_650 : Cond.methodLink RL 80 yX8_year ∈ TB := tb_3 (i := 170) rfl rfl
set_option maxRecDepth 100000 in
theorem q_651 : Cond.instanceMethod yX8_year ∈ TB := tb_3 (i := 171) rfl rfl
set_option maxRecDepth 100000 in
theorem q_652 : Cond.selects RX8 yX8_year yX8_year ∈ TB := tb_3 (i := 172) rfl rfl
set_option maxRecDepth 100000 in
theorem q_653 : Cond.code yX8_year prog_1_method_17_code 4 (Option.some Jvm.ClassFile.FieldType.int) ∈ TB := tb_3 (i := 173) rfl rfl
set_option maxRecDepth 100000 in
theorem q_654 : Cond.methodLink RX8 192 yX8_whyNoYear ∈ TB := tb_3 (i := 174) rfl rfl
set_option maxRecDepth 100000 in
theorem q_656 : Cond.instanceMethod yX8_whyNoYear ∈ TB := tb_3 (i := 176) rfl rfl
set_option maxRecDepth 100000 in
theorem q_657 : Cond.code yX8_whyNoYear prog_1_method_43_code 3 (Option.some Jvm.ClassFile.FieldType.int) ∈ TB := tb_3 (i := 177) rfl rfl
set_option maxRecDepth 100000 in
theorem q_658 : Cond.methodLink RX8 195 yX8_letYearGoBy ∈ TB := tb_3 (i := 178) rfl rfl
set_option maxRecDepth 100000 in
theorem q_660 : Cond.instanceMethod yX8_letYearGoBy ∈ TB := tb_3 (i := 180) rfl rfl
set_option maxRecDepth 100000 in
theorem q_661 : Cond.code yX8_letYearGoBy prog_1_method_44_code 5 (Option.none : Option Jvm.ClassFile.FieldType) ∈ TB := tb_3 (i := 181) rfl rfl
set_option maxRecDepth 100000 in
theorem q_662 : Cond.methodLink RX8 311 yX0_share ∈ TB := tb_3 (i := 182) rfl rfl
set_option maxRecDepth 100000 in
theorem q_663 : Cond.instanceMethod yX0_share ∈ TB := tb_3 (i := 183) rfl rfl
set_option maxRecDepth 100000 in
theorem q_664 : Cond.selects RX0 yX0_share yX0_share ∈ TB := tb_3 (i := 184) rfl rfl
set_option maxRecDepth 100000 in
theorem q_665 : Cond.code yX0_share prog_2_method_7_code 2 (Option.none : Option Jvm.ClassFile.FieldType) ∈ TB := tb_3 (i := 185) rfl rfl
set_option maxRecDepth 100000 in
theorem q_666 : Cond.constant RX0 80 999999 ∈ TB := tb_3 (i := 186) rfl rfl
set_option maxRecDepth 100000 in
theorem q_667 : Cond.methodLink RX0 81 yJ9_min_7cf53 ∈ TB := tb_3 (i := 187) rfl rfl
set_option maxRecDepth 100000 in
theorem q_668 : Cond.methodLink RL 84 yX8_loose ∈ TB := tb_3 (i := 188) rfl rfl
set_option maxRecDepth 100000 in
theorem q_669 : Cond.instanceMethod yX8_loose ∈ TB := tb_3 (i := 189) rfl rfl
set_option maxRecDepth 100000 in
theorem q_670 : Cond.selects RX8 yX8_loose yX8_loose ∈ TB := tb_3 (i := 190) rfl rfl
set_option maxRecDepth 100000 in
theorem q_671 : Cond.code yX8_loose prog_1_method_18_code 4 (Option.some Jvm.ClassFile.FieldType.int) ∈ TB := tb_3 (i := 191) rfl rfl
set_option maxRecDepth 100000 in
theorem q_672 : Cond.methodLink RX8 198 yX0_draw ∈ TB := tb_3 (i := 192) rfl rfl
set_option maxRecDepth 100000 in
theorem q_673 : Cond.instanceMethod yX0_draw ∈ TB := tb_3 (i := 193) rfl rfl
set_option maxRecDepth 100000 in
theorem q_674 : Cond.selects RX0 yX0_draw yX0_draw ∈ TB := tb_3 (i := 194) rfl rfl
set_option maxRecDepth 100000 in
theorem q_675 : Cond.code yX0_draw prog_2_method_6_code 1 (Option.some Jvm.ClassFile.FieldType.int) ∈ TB := tb_3 (i := 195) rfl rfl
set_option maxRecDepth 100000 in
theorem q_676 : Cond.constant RX0 79 1103515245 ∈ TB := tb_3 (i := 196) rfl rfl
set_option maxRecDepth 100000 in
theorem q_677 : Cond.methodLink RL 88 yX8_bestPlan ∈ TB := tb_3 (i := 197) rfl rfl
set_option maxRecDepth 100000 in
theorem q_678 : Cond.instanceMethod yX8_bestPlan ∈ TB := tb_3 (i := 198) rfl rfl
set_option maxRecDepth 100000 in
theorem q_679 : Cond.selects RX8 yX8_bestPlan yX8_bestPlan ∈ TB := tb_3 (i := 199) rfl rfl
set_option maxRecDepth 100000 in
theorem q_680 : Cond.code yX8_bestPlan prog_1_method_19_code 6 (Option.some Jvm.ClassFile.FieldType.int) ∈ TB := tb_3 (i := 200) rfl rfl
set_option maxRecDepth 100000 in
theorem q_681 : Cond.methodLink RX8 202 yX2_seek ∈ TB := tb_3 (i := 201) rfl rfl
set_option maxRecDepth 100000 in
theorem q_682 : Cond.instanceMethod yX2_seek ∈ TB := tb_3 (i := 202) rfl rfl
set_option maxRecDepth 100000 in
theorem q_683 : Cond.selects RX2 yX2_seek yX2_seek ∈ TB := tb_3 (i := 203) rfl rfl
set_option maxRecDepth 100000 in
theorem q_684 : Cond.code yX2_seek prog_4_method_3_code 7 (Option.none : Option Jvm.ClassFile.FieldType) ∈ TB := tb_3 (i := 204) rfl rfl
set_option maxRecDepth 100000 in
theorem q_685 : Cond.methodLink RX2 47 yX6_copy ∈ TB := tb_3 (i := 205) rfl rfl
set_option maxRecDepth 100000 in
theorem q_686 : Cond.instanceMethod yX6_copy ∈ TB := tb_3 (i := 206) rfl rfl
set_option maxRecDepth 100000 in
theorem q_687 : Cond.selects RX6 yX6_copy yX6_copy ∈ TB := tb_3 (i := 207) rfl rfl
set_option maxRecDepth 100000 in
theorem q_688 : Cond.code yX6_copy prog_8_method_5_code 2 (Option.none : Option Jvm.ClassFile.FieldType) ∈ TB := tb_3 (i := 208) rfl rfl
set_option maxRecDepth 100000 in
theorem q_689 : Cond.methodLink RX6 38 arraycopyName ∈ TB := tb_3 (i := 209) rfl rfl
set_option maxRecDepth 100000 in
theorem q_690 : Cond.methodLink RX2 51 yX6_shore ∈ TB := tb_3 (i := 210) rfl rfl
set_option maxRecDepth 100000 in
theorem q_691 : Cond.methodLink RX2 55 yX5_placeNext ∈ TB := tb_3 (i := 211) rfl rfl
set_option maxRecDepth 100000 in
theorem q_692 : Cond.methodLink RX2 61 yX2_tryLanes ∈ TB := tb_3 (i := 212) rfl rfl
set_option maxRecDepth 100000 in
theorem q_694 : Cond.instanceMethod yX2_tryLanes ∈ TB := tb_3 (i := 214) rfl rfl
set_option maxRecDepth 100000 in
theorem q_695 : Cond.code yX2_tryLanes prog_4_method_4_code 9 (Option.none : Option Jvm.ClassFile.FieldType) ∈ TB := tb_3 (i := 215) rfl rfl
set_option maxRecDepth 100000 in
theorem q_697 : Cond.methodLink RX2 65 yX6_laneOf ∈ TB := tb_3 (i := 217) rfl rfl
set_option maxRecDepth 100000 in
theorem q_698 : Cond.methodLink RX2 69 yX2_setLane ∈ TB := tb_3 (i := 218) rfl rfl
set_option maxRecDepth 100000 in
theorem q_700 : Cond.instanceMethod yX2_setLane ∈ TB := tb_3 (i := 220) rfl rfl
set_option maxRecDepth 100000 in
theorem q_701 : Cond.code yX2_setLane prog_4_method_5_code 4 (Option.none : Option Jvm.ClassFile.FieldType) ∈ TB := tb_3 (i := 221) rfl rfl
set_option maxRecDepth 100000 in
theorem q_702 : Cond.methodLink RX2 76 yJ9_max_7cf53 ∈ TB := tb_3 (i := 222) rfl rfl
set_option maxRecDepth 100000 in
theorem q_703 : Cond.methodLink RX2 72 yX2_meetsAt ∈ TB := tb_3 (i := 223) rfl rfl
set_option maxRecDepth 100000 in
theorem q_705 : Cond.instanceMethod yX2_meetsAt ∈ TB := tb_3 (i := 225) rfl rfl
set_option maxRecDepth 100000 in
theorem q_706 : Cond.code yX2_meetsAt prog_4_method_6_code 6 (Option.some Jvm.ClassFile.FieldType.boolean) ∈ TB := tb_3 (i := 226) rfl rfl
set_option maxRecDepth 100000 in
theorem q_707 : Cond.methodLink RX2 85 yX6_laneIn ∈ TB := tb_3 (i := 227) rfl rfl
set_option maxRecDepth 100000 in
theorem q_709 : Cond.static yX8_isBetter ∈ TB := tb_3 (i := 229) rfl rfl
set_option maxRecDepth 100000 in
theorem q_710 : Cond.code yX8_isBetter prog_1_method_51_code 3 (Option.some Jvm.ClassFile.FieldType.boolean) ∈ TB := tb_3 (i := 230) rfl rfl
set_option maxRecDepth 100000 in
theorem q_711 : Cond.methodLink RX2 94 arraycopyName ∈ TB := tb_3 (i := 231) rfl rfl
set_option maxRecDepth 100000 in
theorem q_712 : Cond.methodLink RX8 211 yX2_bestLane ∈ TB := tb_3 (i := 232) rfl rfl
set_option maxRecDepth 100000 in
theorem q_713 : Cond.instanceMethod yX2_bestLane ∈ TB := tb_3 (i := 233) rfl rfl
set_option maxRecDepth 100000 in
theorem q_714 : Cond.selects RX2 yX2_bestLane yX2_bestLane ∈ TB := tb_3 (i := 234) rfl rfl
set_option maxRecDepth 100000 in
theorem q_715 : Cond.code yX2_bestLane prog_4_method_2_code 2 (Option.some Jvm.ClassFile.FieldType.int) ∈ TB := tb_3 (i := 235) rfl rfl
set_option maxRecDepth 100000 in
theorem q_716 : Cond.methodLink RL 92 yX8_hold ∈ TB := tb_3 (i := 236) rfl rfl
set_option maxRecDepth 100000 in
theorem q_717 : Cond.instanceMethod yX8_hold ∈ TB := tb_3 (i := 237) rfl rfl
set_option maxRecDepth 100000 in
theorem q_718 : Cond.selects RX8 yX8_hold yX8_hold ∈ TB := tb_3 (i := 238) rfl rfl
set_option maxRecDepth 100000 in
theorem q_719 : Cond.code yX8_hold prog_1_method_20_code 10 (Option.some Jvm.ClassFile.FieldType.int) ∈ TB := tb_3 (i := 239) rfl rfl
set_option maxRecDepth 100000 in
theorem q_720 : Cond.methodLink RX8 214 yX8_worstPlaceIn ∈ TB := tb_4 (i := 0) rfl rfl
set_option maxRecDepth 100000 in
theorem q_722 : Cond.instanceMethod yX8_worstPlaceIn ∈ TB := tb_4 (i := 2) rfl rfl
set_option maxRecDepth 100000 in
theorem q_723 : Cond.code yX8_worstPlaceIn prog_1_method_46_code 5 (Option.some Jvm.ClassFile.FieldType.int) ∈ TB := tb_4 (i := 3) rfl rfl
set_option maxRecDepth 100000 in
theorem q_724 : Cond.methodLink RX8 225 yX8_meetInLane ∈ TB := tb_4 (i := 4) rfl rfl
set_option maxRecDepth 100000 in
theorem q_726 : Cond.instanceMethod yX8_meetInLane ∈ TB := tb_4 (i := 6) rfl rfl
set_option maxRecDepth 100000 in
theorem q_727 : Cond.code yX8_meetInLane prog_1_method_45_code 4 (Option.some Jvm.ClassFile.FieldType.boolean) ∈ TB := tb_4 (i := 7) rfl rfl
set_option maxRecDepth 100000 in
theorem q_728 : Cond.methodLink RX8 229 yX6_copy ∈ TB := tb_4 (i := 8) rfl rfl
set_option maxRecDepth 100000 in
theorem q_729 : Cond.methodLink RX8 314 yX6_keepTo ∈ TB := tb_4 (i := 9) rfl rfl
set_option maxRecDepth 100000 in
theorem q_730 : Cond.methodLink RX8 218 yX8_isBetter ∈ TB := tb_4 (i := 10) rfl rfl
set_option maxRecDepth 100000 in
theorem q_731 : Cond.methodLink RL 96 yX8_ask ∈ TB := tb_4 (i := 11) rfl rfl
set_option maxRecDepth 100000 in
theorem q_732 : Cond.instanceMethod yX8_ask ∈ TB := tb_4 (i := 12) rfl rfl
set_option maxRecDepth 100000 in
theorem q_733 : Cond.selects RX8 yX8_ask yX8_ask ∈ TB := tb_4 (i := 13) rfl rfl
set_option maxRecDepth 100000 in
theorem q_734 : Cond.code yX8_ask prog_1_method_21_code 9 (Option.some Jvm.ClassFile.FieldType.int) ∈ TB := tb_4 (i := 14) rfl rfl
set_option maxRecDepth 100000 in
theorem q_735 : Cond.methodLink RL 100 yX8_leastSight ∈ TB := tb_4 (i := 15) rfl rfl
set_option maxRecDepth 100000 in
theorem q_736 : Cond.instanceMethod yX8_leastSight ∈ TB := tb_4 (i := 16) rfl rfl
set_option maxRecDepth 100000 in
theorem q_737 : Cond.selects RX8 yX8_leastSight yX8_leastSight ∈ TB := tb_4 (i := 17) rfl rfl
set_option maxRecDepth 100000 in
theorem q_738 : Cond.code yX8_leastSight prog_1_method_22_code 6 (Option.some Jvm.ClassFile.FieldType.int) ∈ TB := tb_4 (i := 18) rfl rfl
set_option maxRecDepth 100000 in
theorem q_739 : Cond.methodLink RX8 221 yX5_leastGap ∈ TB := tb_4 (i := 19) rfl rfl
set_option maxRecDepth 100000 in
theorem q_740 : Cond.instanceMethod yX5_leastGap ∈ TB := tb_4 (i := 20) rfl rfl
set_option maxRecDepth 100000 in
theorem q_741 : Cond.selects RX5 yX5_leastGap yX5_leastGap ∈ TB := tb_4 (i := 21) rfl rfl
set_option maxRecDepth 100000 in
theorem q_742 : Cond.code yX5_leastGap prog_7_method_7_code 5 (Option.some Jvm.ClassFile.FieldType.int) ∈ TB := tb_4 (i := 22) rfl rfl
set_option maxRecDepth 100000 in
theorem q_743 : Cond.methodLink RX5 76 yJ9_max_7cf53 ∈ TB := tb_4 (i := 23) rfl rfl
set_option maxRecDepth 100000 in
theorem q_744 : Cond.methodLink RX5 81 yJ9_min_7cf53 ∈ TB := tb_4 (i := 24) rfl rfl
set_option maxRecDepth 100000 in
theorem q_745 : Cond.methodLink RL 104 yX8_send ∈ TB := tb_4 (i := 25) rfl rfl
set_option maxRecDepth 100000 in
theorem q_746 : Cond.instanceMethod yX8_send ∈ TB := tb_4 (i := 26) rfl rfl
set_option maxRecDepth 100000 in
theorem q_747 : Cond.selects RX8 yX8_send yX8_send ∈ TB := tb_4 (i := 27) rfl rfl
set_option maxRecDepth 100000 in
theorem q_748 : Cond.code yX8_send prog_1_method_23_code 7 (Option.some Jvm.ClassFile.FieldType.int) ∈ TB := tb_4 (i := 28) rfl rfl
set_option maxRecDepth 100000 in
theorem q_749 : Cond.methodLink RL 108 yX8_diary ∈ TB := tb_4 (i := 29) rfl rfl
set_option maxRecDepth 100000 in
theorem q_750 : Cond.instanceMethod yX8_diary ∈ TB := tb_4 (i := 30) rfl rfl
set_option maxRecDepth 100000 in
theorem q_751 : Cond.selects RX8 yX8_diary yX8_diary ∈ TB := tb_4 (i := 31) rfl rfl
set_option maxRecDepth 100000 in
theorem q_752 : Cond.code yX8_diary prog_1_method_24_code 11 (Option.some Jvm.ClassFile.FieldType.int) ∈ TB := tb_4 (i := 32) rfl rfl
set_option maxRecDepth 100000 in
theorem q_753 : Cond.methodLink RL 113 yX8_training ∈ TB := tb_4 (i := 33) rfl rfl
set_option maxRecDepth 100000 in
theorem q_754 : Cond.instanceMethod yX8_training ∈ TB := tb_4 (i := 34) rfl rfl
set_option maxRecDepth 100000 in
theorem q_755 : Cond.selects RX8 yX8_training yX8_training ∈ TB := tb_4 (i := 35) rfl rfl
set_option maxRecDepth 100000 in
theorem q_756 : Cond.code yX8_training prog_1_method_25_code 7 (Option.some Jvm.ClassFile.FieldType.int) ∈ TB := tb_4 (i := 36) rfl rfl
set_option maxRecDepth 100000 in
theorem q_757 : Cond.methodLink RL 117 yX8_fair ∈ TB := tb_4 (i := 37) rfl rfl
set_option maxRecDepth 100000 in
theorem q_758 : Cond.instanceMethod yX8_fair ∈ TB := tb_4 (i := 38) rfl rfl
set_option maxRecDepth 100000 in
theorem q_759 : Cond.selects RX8 yX8_fair yX8_fair ∈ TB := tb_4 (i := 39) rfl rfl
set_option maxRecDepth 100000 in
theorem q_760 : Cond.code yX8_fair prog_1_method_26_code 6 (Option.some Jvm.ClassFile.FieldType.int) ∈ TB := tb_4 (i := 40) rfl rfl
set_option maxRecDepth 100000 in
theorem q_761 : Cond.methodLink RL 121 yX8_seed ∈ TB := tb_4 (i := 41) rfl rfl
set_option maxRecDepth 100000 in
theorem q_762 : Cond.instanceMethod yX8_seed ∈ TB := tb_4 (i := 42) rfl rfl
set_option maxRecDepth 100000 in
theorem q_763 : Cond.selects RX8 yX8_seed yX8_seed ∈ TB := tb_4 (i := 43) rfl rfl
set_option maxRecDepth 100000 in
theorem q_764 : Cond.code yX8_seed prog_1_method_27_code 3 (Option.some Jvm.ClassFile.FieldType.int) ∈ TB := tb_4 (i := 44) rfl rfl
set_option maxRecDepth 100000 in
theorem q_765 : Cond.methodLink RL 125 yX8_voice ∈ TB := tb_4 (i := 45) rfl rfl
set_option maxRecDepth 100000 in
theorem q_766 : Cond.instanceMethod yX8_voice ∈ TB := tb_4 (i := 46) rfl rfl
set_option maxRecDepth 100000 in
theorem q_767 : Cond.selects RX8 yX8_voice yX8_voice ∈ TB := tb_4 (i := 47) rfl rfl
set_option maxRecDepth 100000 in
theorem q_768 : Cond.code yX8_voice prog_1_method_28_code 5 (Option.some Jvm.ClassFile.FieldType.int) ∈ TB := tb_4 (i := 48) rfl rfl
set_option maxRecDepth 100000 in
theorem q_769 : Cond.methodLink RX8 236 yX7_speak ∈ TB := tb_4 (i := 49) rfl rfl
set_option maxRecDepth 100000 in
theorem q_770 : Cond.instanceMethod yX7_speak ∈ TB := tb_4 (i := 50) rfl rfl
set_option maxRecDepth 100000 in
theorem q_771 : Cond.selects RX7 yX7_speak yX7_speak ∈ TB := tb_4 (i := 51) rfl rfl
set_option maxRecDepth 100000 in
theorem q_772 : Cond.code yX7_speak prog_9_method_2_code 5 (Option.some Jvm.ClassFile.FieldType.int) ∈ TB := tb_4 (i := 52) rfl rfl
set_option maxRecDepth 100000 in
theorem q_773 : Cond.methodLink RX7 32 yX7_say ∈ TB := tb_4 (i := 53) rfl rfl
set_option maxRecDepth 100000 in
theorem q_775 : Cond.instanceMethod yX7_say ∈ TB := tb_4 (i := 55) rfl rfl
set_option maxRecDepth 100000 in
theorem q_776 : Cond.code yX7_say prog_9_method_3_code 7 (Option.some Jvm.ClassFile.FieldType.int) ∈ TB := tb_4 (i := 56) rfl rfl
set_option maxRecDepth 100000 in
theorem q_777 : Cond.methodLink RX7 36 yX7_bodyOf ∈ TB := tb_4 (i := 57) rfl rfl
set_option maxRecDepth 100000 in
theorem q_778 : Cond.static yX7_bodyOf ∈ TB := tb_4 (i := 58) rfl rfl
set_option maxRecDepth 100000 in
theorem q_779 : Cond.code yX7_bodyOf prog_9_method_4_code 5 (Option.some Jvm.ClassFile.FieldType.int) ∈ TB := tb_4 (i := 59) rfl rfl
set_option maxRecDepth 100000 in
theorem q_781 : Cond.fieldLink RX7 48 RX7 "BODIES" "[I" ∈ TB := tb_4 (i := 61) rfl rfl
set_option maxRecDepth 100000 in
theorem q_784 : Cond.methodLink RX7 40 yX7_note ∈ TB := tb_4 (i := 64) rfl rfl
set_option maxRecDepth 100000 in
theorem q_786 : Cond.instanceMethod yX7_note ∈ TB := tb_4 (i := 66) rfl rfl
set_option maxRecDepth 100000 in
theorem q_787 : Cond.code yX7_note prog_9_method_5_code 2 (Option.none : Option Jvm.ClassFile.FieldType) ∈ TB := tb_4 (i := 67) rfl rfl
set_option maxRecDepth 100000 in
theorem q_788 : Cond.methodLink RL 129 yX8_trace ∈ TB := tb_4 (i := 68) rfl rfl
set_option maxRecDepth 100000 in
theorem q_789 : Cond.instanceMethod yX8_trace ∈ TB := tb_4 (i := 69) rfl rfl
set_option maxRecDepth 100000 in
theorem q_790 : Cond.selects RX8 yX8_trace yX8_trace ∈ TB := tb_4 (i := 70) rfl rfl
set_option maxRecDepth 100000 in
theorem q_791 : Cond.code yX8_trace prog_1_method_29_code 2 (Option.some Jvm.ClassFile.FieldType.int) ∈ TB := tb_4 (i := 71) rfl rfl
set_option maxRecDepth 100000 in
theorem q_792 : Cond.methodLink RL 133 yX8_sheet ∈ TB := tb_4 (i := 72) rfl rfl
set_option maxRecDepth 100000 in
theorem q_793 : Cond.instanceMethod yX8_sheet ∈ TB := tb_4 (i := 73) rfl rfl
set_option maxRecDepth 100000 in
theorem q_794 : Cond.selects RX8 yX8_sheet yX8_sheet ∈ TB := tb_4 (i := 74) rfl rfl
set_option maxRecDepth 100000 in
theorem q_795 : Cond.code yX8_sheet prog_1_method_30_code 5 (Option.some Jvm.ClassFile.FieldType.int) ∈ TB := tb_4 (i := 75) rfl rfl
set_option maxRecDepth 100000 in
theorem q_796 : Cond.methodLink RX8 246 yX8_sheetAt ∈ TB := tb_4 (i := 76) rfl rfl
set_option maxRecDepth 100000 in
theorem q_798 : Cond.instanceMethod yX8_sheetAt ∈ TB := tb_4 (i := 78) rfl rfl
set_option maxRecDepth 100000 in
theorem q_799 : Cond.code yX8_sheetAt prog_1_method_42_code 2 (Option.some (Jvm.ClassFile.FieldType.object RX4)) ∈ TB := tb_4 (i := 79) rfl rfl
set_option maxRecDepth 100000 in
theorem q_800 : Cond.methodLink RX8 250 yX4_clear ∈ TB := tb_4 (i := 80) rfl rfl
set_option maxRecDepth 100000 in
theorem q_801 : Cond.instanceMethod yX4_clear ∈ TB := tb_4 (i := 81) rfl rfl
set_option maxRecDepth 100000 in
theorem q_802 : Cond.selects RX4 yX4_clear yX4_clear ∈ TB := tb_4 (i := 82) rfl rfl
set_option maxRecDepth 100000 in
theorem q_803 : Cond.code yX4_clear prog_6_method_2_code 4 (Option.none : Option Jvm.ClassFile.FieldType) ∈ TB := tb_4 (i := 83) rfl rfl
set_option maxRecDepth 100000 in
theorem q_805 : Cond.methodLink RL 137 yX8_put ∈ TB := tb_4 (i := 85) rfl rfl
set_option maxRecDepth 100000 in
theorem q_806 : Cond.instanceMethod yX8_put ∈ TB := tb_4 (i := 86) rfl rfl
set_option maxRecDepth 100000 in
theorem q_807 : Cond.selects RX8 yX8_put yX8_put ∈ TB := tb_4 (i := 87) rfl rfl
set_option maxRecDepth 100000 in
theorem q_808 : Cond.code yX8_put prog_1_method_31_code 5 (Option.some Jvm.ClassFile.FieldType.int) ∈ TB := tb_4 (i := 88) rfl rfl
set_option maxRecDepth 100000 in
theorem q_809 : Cond.methodLink RX8 253 yX4_isMissing ∈ TB := tb_4 (i := 89) rfl rfl
set_option maxRecDepth 100000 in
theorem q_810 : Cond.instanceMethod yX4_isMissing ∈ TB := tb_4 (i := 90) rfl rfl
set_option maxRecDepth 100000 in
theorem q_811 : Cond.selects RX4 yX4_isMissing yX4_isMissing ∈ TB := tb_4 (i := 91) rfl rfl
set_option maxRecDepth 100000 in
theorem q_812 : Cond.code yX4_isMissing prog_6_method_3_code 1 (Option.some Jvm.ClassFile.FieldType.boolean) ∈ TB := tb_4 (i := 92) rfl rfl
set_option maxRecDepth 100000 in
theorem q_813 : Cond.methodLink RX8 260 yX4_write ∈ TB := tb_4 (i := 93) rfl rfl
set_option maxRecDepth 100000 in
theorem q_814 : Cond.instanceMethod yX4_write ∈ TB := tb_4 (i := 94) rfl rfl
set_option maxRecDepth 100000 in
theorem q_815 : Cond.selects RX4 yX4_write yX4_write ∈ TB := tb_4 (i := 95) rfl rfl
set_option maxRecDepth 100000 in
theorem q_816 : Cond.code yX4_write prog_6_method_5_code 3 (Option.none : Option Jvm.ClassFile.FieldType) ∈ TB := tb_4 (i := 96) rfl rfl
set_option maxRecDepth 100000 in
theorem q_818 : Cond.methodLink RL 141 yX8_move ∈ TB := tb_4 (i := 98) rfl rfl
set_option maxRecDepth 100000 in
theorem q_819 : Cond.instanceMethod yX8_move ∈ TB := tb_4 (i := 99) rfl rfl
set_option maxRecDepth 100000 in
theorem q_820 : Cond.selects RX8 yX8_move yX8_move ∈ TB := tb_4 (i := 100) rfl rfl
set_option maxRecDepth 100000 in
theorem q_821 : Cond.code yX8_move prog_1_method_32_code 8 (Option.some Jvm.ClassFile.FieldType.int) ∈ TB := tb_4 (i := 101) rfl rfl
set_option maxRecDepth 100000 in
theorem q_822 : Cond.methodLink RX8 266 yX4_holds ∈ TB := tb_4 (i := 102) rfl rfl
set_option maxRecDepth 100000 in
theorem q_823 : Cond.instanceMethod yX4_holds ∈ TB := tb_4 (i := 103) rfl rfl
set_option maxRecDepth 100000 in
theorem q_824 : Cond.selects RX4 yX4_holds yX4_holds ∈ TB := tb_4 (i := 104) rfl rfl
set_option maxRecDepth 100000 in
theorem q_825 : Cond.code yX4_holds prog_6_method_6_code 3 (Option.some Jvm.ClassFile.FieldType.boolean) ∈ TB := tb_4 (i := 105) rfl rfl
set_option maxRecDepth 100000 in
theorem q_826 : Cond.methodLink RX8 272 arraycopyName ∈ TB := tb_4 (i := 106) rfl rfl
set_option maxRecDepth 100000 in
theorem q_827 : Cond.methodLink RL 145 yX8_years ∈ TB := tb_4 (i := 107) rfl rfl
set_option maxRecDepth 100000 in
theorem q_828 : Cond.instanceMethod yX8_years ∈ TB := tb_4 (i := 108) rfl rfl
set_option maxRecDepth 100000 in
theorem q_829 : Cond.selects RX8 yX8_years yX8_years ∈ TB := tb_4 (i := 109) rfl rfl
set_option maxRecDepth 100000 in
theorem q_830 : Cond.code yX8_years prog_1_method_33_code 7 (Option.some Jvm.ClassFile.FieldType.int) ∈ TB := tb_4 (i := 110) rfl rfl
set_option maxRecDepth 100000 in
theorem q_831 : Cond.methodLink RX8 278 yX4_read ∈ TB := tb_4 (i := 111) rfl rfl
set_option maxRecDepth 100000 in
theorem q_832 : Cond.instanceMethod yX4_read ∈ TB := tb_4 (i := 112) rfl rfl
set_option maxRecDepth 100000 in
theorem q_833 : Cond.selects RX4 yX4_read yX4_read ∈ TB := tb_4 (i := 113) rfl rfl
set_option maxRecDepth 100000 in
theorem q_834 : Cond.code yX4_read prog_6_method_4_code 2 (Option.some Jvm.ClassFile.FieldType.int) ∈ TB := tb_4 (i := 114) rfl rfl
set_option maxRecDepth 100000 in
theorem q_835 : Cond.methodLink RL 149 yX8_judge ∈ TB := tb_4 (i := 115) rfl rfl
set_option maxRecDepth 100000 in
theorem q_836 : Cond.instanceMethod yX8_judge ∈ TB := tb_4 (i := 116) rfl rfl
set_option maxRecDepth 100000 in
theorem q_837 : Cond.selects RX8 yX8_judge yX8_judge ∈ TB := tb_4 (i := 117) rfl rfl
set_option maxRecDepth 100000 in
theorem q_838 : Cond.code yX8_judge prog_1_method_34_code 7 (Option.some Jvm.ClassFile.FieldType.int) ∈ TB := tb_4 (i := 118) rfl rfl
set_option maxRecDepth 100000 in
theorem q_839 : Cond.methodLink RX8 280 yX6_shore ∈ TB := tb_4 (i := 119) rfl rfl
set_option maxRecDepth 100000 in
theorem q_840 : Cond.methodLink RX8 283 yX5_placeNext ∈ TB := tb_4 (i := 120) rfl rfl
set_option maxRecDepth 100000 in
theorem q_841 : Cond.methodLink RL 153 yX8_image ∈ TB := tb_4 (i := 121) rfl rfl
set_option maxRecDepth 100000 in
theorem q_842 : Cond.instanceMethod yX8_image ∈ TB := tb_4 (i := 122) rfl rfl
set_option maxRecDepth 100000 in
theorem q_843 : Cond.selects RX8 yX8_image yX8_image ∈ TB := tb_4 (i := 123) rfl rfl
set_option maxRecDepth 100000 in
theorem q_844 : Cond.code yX8_image prog_1_method_35_code 1 (Option.some Jvm.ClassFile.FieldType.int) ∈ TB := tb_4 (i := 124) rfl rfl
set_option maxRecDepth 100000 in
theorem q_845 : Cond.methodLink RX8 287 yX0_copy ∈ TB := tb_4 (i := 125) rfl rfl
set_option maxRecDepth 100000 in
theorem q_846 : Cond.instanceMethod yX0_copy ∈ TB := tb_4 (i := 126) rfl rfl
set_option maxRecDepth 100000 in
theorem q_847 : Cond.selects RX0 yX0_copy yX0_copy ∈ TB := tb_4 (i := 127) rfl rfl
set_option maxRecDepth 100000 in
theorem q_848 : Cond.code yX0_copy prog_2_method_8_code 5 (Option.none : Option Jvm.ClassFile.FieldType) ∈ TB := tb_4 (i := 128) rfl rfl
set_option maxRecDepth 100000 in
theorem q_849 : Cond.methodLink RX0 87 yX1_copy ∈ TB := tb_4 (i := 129) rfl rfl
set_option maxRecDepth 100000 in
theorem q_850 : Cond.instanceMethod yX1_copy ∈ TB := tb_4 (i := 130) rfl rfl
set_option maxRecDepth 100000 in
theorem q_851 : Cond.selects RX1 yX1_copy yX1_copy ∈ TB := tb_4 (i := 131) rfl rfl
set_option maxRecDepth 100000 in
theorem q_852 : Cond.code yX1_copy prog_3_method_3_code 2 (Option.none : Option Jvm.ClassFile.FieldType) ∈ TB := tb_4 (i := 132) rfl rfl
set_option maxRecDepth 100000 in
theorem q_853 : Cond.methodLink RX0 91 arraycopyName ∈ TB := tb_4 (i := 133) rfl rfl
set_option maxRecDepth 100000 in
theorem q_854 : Cond.methodLink RX0 97 yX0_swimmerAt ∈ TB := tb_4 (i := 134) rfl rfl
set_option maxRecDepth 100000 in
theorem q_855 : Cond.methodLink RX0 101 yX6_copy ∈ TB := tb_4 (i := 135) rfl rfl
set_option maxRecDepth 100000 in
theorem q_856 : Cond.methodLink RL 158 yX8_restore ∈ TB := tb_4 (i := 136) rfl rfl
set_option maxRecDepth 100000 in
theorem q_857 : Cond.instanceMethod yX8_restore ∈ TB := tb_4 (i := 137) rfl rfl
set_option maxRecDepth 100000 in
theorem q_858 : Cond.selects RX8 yX8_restore yX8_restore ∈ TB := tb_4 (i := 138) rfl rfl
set_option maxRecDepth 100000 in
theorem q_859 : Cond.code yX8_restore prog_1_method_36_code 1 (Option.some Jvm.ClassFile.FieldType.int) ∈ TB := tb_4 (i := 139) rfl rfl
set_option maxRecDepth 100000 in
theorem q_860 : Cond.methodLink RL 162 yX8_tell ∈ TB := tb_4 (i := 140) rfl rfl
set_option maxRecDepth 100000 in
theorem q_861 : Cond.instanceMethod yX8_tell ∈ TB := tb_4 (i := 141) rfl rfl
set_option maxRecDepth 100000 in
theorem q_862 : Cond.selects RX8 yX8_tell yX8_tell ∈ TB := tb_4 (i := 142) rfl rfl
set_option maxRecDepth 100000 in
theorem q_863 : Cond.code yX8_tell prog_1_method_37_code 3 (Option.some Jvm.ClassFile.FieldType.int) ∈ TB := tb_4 (i := 143) rfl rfl
set_option maxRecDepth 100000 in
theorem q_864 : Cond.methodLink RL 166 yX8_check ∈ TB := tb_4 (i := 144) rfl rfl
set_option maxRecDepth 100000 in
theorem q_865 : Cond.instanceMethod yX8_check ∈ TB := tb_4 (i := 145) rfl rfl
set_option maxRecDepth 100000 in
theorem q_866 : Cond.selects RX8 yX8_check yX8_check ∈ TB := tb_4 (i := 146) rfl rfl
set_option maxRecDepth 100000 in
theorem q_867 : Cond.code yX8_check prog_1_method_38_code 9 (Option.some Jvm.ClassFile.FieldType.int) ∈ TB := tb_4 (i := 147) rfl rfl
set_option maxRecDepth 100000 in
theorem q_868 : Cond.methodLink RL 170 yX8_count ∈ TB := tb_4 (i := 148) rfl rfl
set_option maxRecDepth 100000 in
theorem q_869 : Cond.instanceMethod yX8_count ∈ TB := tb_4 (i := 149) rfl rfl
set_option maxRecDepth 100000 in
theorem q_870 : Cond.selects RX8 yX8_count yX8_count ∈ TB := tb_4 (i := 150) rfl rfl
set_option maxRecDepth 100000 in
theorem q_871 : Cond.code yX8_count prog_1_method_39_code 2 (Option.some Jvm.ClassFile.FieldType.int) ∈ TB := tb_4 (i := 151) rfl rfl
set_option maxRecDepth 100000 in
theorem q_872 : Cond.methodLink RL 174 yX8_told ∈ TB := tb_4 (i := 152) rfl rfl
set_option maxRecDepth 100000 in
theorem q_873 : Cond.instanceMethod yX8_told ∈ TB := tb_4 (i := 153) rfl rfl
set_option maxRecDepth 100000 in
theorem q_874 : Cond.selects RX8 yX8_told yX8_told ∈ TB := tb_4 (i := 154) rfl rfl
set_option maxRecDepth 100000 in
theorem q_875 : Cond.code yX8_told prog_1_method_40_code 2 (Option.some Jvm.ClassFile.FieldType.int) ∈ TB := tb_4 (i := 155) rfl rfl
set_option maxRecDepth 100000 in
theorem q_876 : Cond.classLink RL 10 RX9 ∈ TB := tb_4 (i := 156) rfl rfl
set_option maxRecDepth 100000 in
theorem q_877 : Cond.instantiable RX9 24 ∈ TB := tb_4 (i := 157) rfl rfl
set_option maxRecDepth 100000 in
theorem q_878 : Cond.methodLink RL 12 yX9_init ∈ TB := tb_4 (i := 158) rfl rfl
set_option maxRecDepth 100000 in
theorem q_879 : Cond.instanceMethod yX9_init ∈ TB := tb_4 (i := 159) rfl rfl
set_option maxRecDepth 100000 in
theorem q_880 : Cond.code yX9_init prog_11_method_1_code 1 (Option.none : Option Jvm.ClassFile.FieldType) ∈ TB := tb_4 (i := 160) rfl rfl
set_option maxRecDepth 100000 in
theorem q_881 : Cond.methodLink RX9 1 objectInit ∈ TB := tb_4 (i := 161) rfl rfl
set_option maxRecDepth 100000 in
theorem q_882 : Cond.fieldLink RX9 7 RX9 "d" "[I" ∈ TB := tb_4 (i := 162) rfl rfl
set_option maxRecDepth 100000 in
theorem q_883 : Cond.fieldLink RX9 13 RX9 "e" "[I" ∈ TB := tb_4 (i := 163) rfl rfl
set_option maxRecDepth 100000 in
theorem q_884 : Cond.fieldLink RX9 16 RX9 "kept" "[I" ∈ TB := tb_4 (i := 164) rfl rfl
set_option maxRecDepth 100000 in
theorem q_885 : Cond.fieldLink RX9 279 RX9 "images" "I" ∈ TB := tb_4 (i := 165) rfl rfl
set_option maxRecDepth 100000 in
theorem q_886 : Cond.fieldLink RX9 19 RX9 "found" "[I" ∈ TB := tb_4 (i := 166) rfl rfl
set_option maxRecDepth 100000 in
theorem q_887 : Cond.fieldLink RX9 63 RX9 "base" "I" ∈ TB := tb_4 (i := 167) rfl rfl
set_option maxRecDepth 100000 in
theorem q_888 : Cond.fieldLink RX9 53 RX9 "at" "I" ∈ TB := tb_4 (i := 168) rfl rfl
set_option maxRecDepth 100000 in
theorem q_889 : Cond.fieldLink RX9 57 RX9 "size" "I" ∈ TB := tb_4 (i := 169) rfl rfl
set_option maxRecDepth 100000 in
theorem q_890 : Cond.fieldLink RX9 60 RX9 "fault" "I" ∈ TB := tb_4 (i := 170) rfl rfl
set_option maxRecDepth 100000 in
theorem q_891 : Cond.fieldLink RX9 100 RX9 "opened" "I" ∈ TB := tb_4 (i := 171) rfl rfl
set_option maxRecDepth 100000 in
theorem q_892 : Cond.fieldLink RX9 70 RX9 "isCatch" "Z" ∈ TB := tb_4 (i := 172) rfl rfl
set_option maxRecDepth 100000 in
theorem q_893 : Cond.fieldLink RX9 22 RX9 "names" "[I" ∈ TB := tb_4 (i := 173) rfl rfl
set_option maxRecDepth 100000 in
theorem q_894 : Cond.fieldLink RX9 25 RX9 "code" "[I" ∈ TB := tb_4 (i := 174) rfl rfl
set_option maxRecDepth 100000 in
theorem q_895 : Cond.fieldLink RX9 74 RX9 "coded" "I" ∈ TB := tb_4 (i := 175) rfl rfl
set_option maxRecDepth 100000 in
theorem q_896 : Cond.fieldLink RX9 28 RX9 "pile" "[I" ∈ TB := tb_4 (i := 176) rfl rfl
set_option maxRecDepth 100000 in
theorem q_897 : Cond.fieldLink RX9 201 RX9 "metIn" "I" ∈ TB := tb_4 (i := 177) rfl rfl
set_option maxRecDepth 100000 in
theorem q_898 : Cond.fieldLink RX9 204 RX9 "metAt" "I" ∈ TB := tb_4 (i := 178) rfl rfl
set_option maxRecDepth 100000 in
theorem q_899 : Cond.fieldLink RX9 31 RX9 "traced" "[I" ∈ TB := tb_4 (i := 179) rfl rfl
set_option maxRecDepth 100000 in
theorem q_900 : Cond.fieldLink RX9 252 RX9 "traceMany" "I" ∈ TB := tb_4 (i := 180) rfl rfl
set_option maxRecDepth 100000 in
theorem q_901 : Cond.fieldLink RX9 255 RX9 "who" "I" ∈ TB := tb_4 (i := 181) rfl rfl
set_option maxRecDepth 100000 in
theorem q_902 : Cond.fieldLink RX9 34 RX9 "bitsOf" "[I" ∈ TB := tb_4 (i := 182) rfl rfl
set_option maxRecDepth 100000 in
theorem q_903 : Cond.fieldLink RX9 37 RX9 "sizeOf" "[I" ∈ TB := tb_4 (i := 183) rfl rfl
set_option maxRecDepth 100000 in
theorem q_904 : Cond.fieldLink RX9 40 RX9 "number" "[I" ∈ TB := tb_4 (i := 184) rfl rfl
set_option maxRecDepth 100000 in
theorem q_905 : Cond.fieldLink RX9 43 RX9 "lifted" "[I" ∈ TB := tb_4 (i := 185) rfl rfl
set_option maxRecDepth 100000 in
theorem q_955 : Cond.methodLink RL 62 yX9_feed ∈ TB := tb_4 (i := 235) rfl rfl
set_option maxRecDepth 100000 in
theorem q_956 : Cond.instanceMethod yX9_feed ∈ TB := tb_4 (i := 236) rfl rfl
set_option maxRecDepth 100000 in
theorem q_957 : Cond.selects RX9 yX9_feed yX9_feed ∈ TB := tb_4 (i := 237) rfl rfl
set_option maxRecDepth 100000 in
theorem q_958 : Cond.code yX9_feed prog_11_method_28_code 5 (Option.some Jvm.ClassFile.FieldType.int) ∈ TB := tb_4 (i := 238) rfl rfl
set_option maxRecDepth 100000 in
theorem q_959 : Cond.constantLong RX9 124 8 ∈ TB := tb_4 (i := 239) rfl rfl
set_option maxRecDepth 100000 in
theorem q_960 : Cond.methodLink RX9 49 yX9_in ∈ TB := tb_5 (i := 0) rfl rfl
set_option maxRecDepth 100000 in
theorem q_961 : Cond.static yX9_in ∈ TB := tb_5 (i := 1) rfl rfl
set_option maxRecDepth 100000 in
theorem q_962 : Cond.code yX9_in prog_11_method_4_code 6 (Option.some Jvm.ClassFile.FieldType.boolean) ∈ TB := tb_5 (i := 2) rfl rfl
set_option maxRecDepth 100000 in
theorem q_963 : Cond.methodLink RX9 126 yX9_finds ∈ TB := tb_5 (i := 3) rfl rfl
set_option maxRecDepth 100000 in
theorem q_965 : Cond.instanceMethod yX9_finds ∈ TB := tb_5 (i := 5) rfl rfl
set_option maxRecDepth 100000 in
theorem q_966 : Cond.code yX9_finds prog_11_method_3_code 2 (Option.some Jvm.ClassFile.FieldType.int) ∈ TB := tb_5 (i := 6) rfl rfl
set_option maxRecDepth 100000 in
theorem q_967 : Cond.constant RX9 46 (-1000000000) ∈ TB := tb_5 (i := 7) rfl rfl
set_option maxRecDepth 100000 in
theorem q_968 : Cond.constantLong RX9 129 255 ∈ TB := tb_5 (i := 8) rfl rfl
set_option maxRecDepth 100000 in
theorem q_969 : Cond.methodLink RL 66 yX9_text ∈ TB := tb_5 (i := 9) rfl rfl
set_option maxRecDepth 100000 in
theorem q_970 : Cond.instanceMethod yX9_text ∈ TB := tb_5 (i := 10) rfl rfl
set_option maxRecDepth 100000 in
theorem q_971 : Cond.selects RX9 yX9_text yX9_text ∈ TB := tb_5 (i := 11) rfl rfl
set_option maxRecDepth 100000 in
theorem q_972 : Cond.code yX9_text prog_11_method_29_code 4 (Option.some Jvm.ClassFile.FieldType.int) ∈ TB := tb_5 (i := 12) rfl rfl
set_option maxRecDepth 100000 in
theorem q_973 : Cond.methodLink RX9 131 yX9_reads ∈ TB := tb_5 (i := 13) rfl rfl
set_option maxRecDepth 100000 in
theorem q_975 : Cond.instanceMethod yX9_reads ∈ TB := tb_5 (i := 15) rfl rfl
set_option maxRecDepth 100000 in
theorem q_976 : Cond.code yX9_reads prog_11_method_25_code 4 (Option.none : Option Jvm.ClassFile.FieldType) ∈ TB := tb_5 (i := 16) rfl rfl
set_option maxRecDepth 100000 in
theorem q_977 : Cond.methodLink RX9 106 yX9_either ∈ TB := tb_5 (i := 17) rfl rfl
set_option maxRecDepth 100000 in
theorem q_979 : Cond.instanceMethod yX9_either ∈ TB := tb_5 (i := 19) rfl rfl
set_option maxRecDepth 100000 in
theorem q_980 : Cond.code yX9_either prog_11_method_18_code 1 (Option.none : Option Jvm.ClassFile.FieldType) ∈ TB := tb_5 (i := 20) rfl rfl
set_option maxRecDepth 100000 in
theorem q_981 : Cond.methodLink RX9 77 yX9_both ∈ TB := tb_5 (i := 21) rfl rfl
set_option maxRecDepth 100000 in
theorem q_983 : Cond.instanceMethod yX9_both ∈ TB := tb_5 (i := 23) rfl rfl
set_option maxRecDepth 100000 in
theorem q_984 : Cond.code yX9_both prog_11_method_19_code 1 (Option.none : Option Jvm.ClassFile.FieldType) ∈ TB := tb_5 (i := 24) rfl rfl
set_option maxRecDepth 100000 in
theorem q_985 : Cond.methodLink RX9 88 yX9_compared ∈ TB := tb_5 (i := 25) rfl rfl
set_option maxRecDepth 100000 in
theorem q_987 : Cond.instanceMethod yX9_compared ∈ TB := tb_5 (i := 27) rfl rfl
set_option maxRecDepth 100000 in
theorem q_988 : Cond.code yX9_compared prog_11_method_20_code 2 (Option.none : Option Jvm.ClassFile.FieldType) ∈ TB := tb_5 (i := 28) rfl rfl
set_option maxRecDepth 100000 in
theorem q_989 : Cond.methodLink RX9 91 yX9_sum ∈ TB := tb_5 (i := 29) rfl rfl
set_option maxRecDepth 100000 in
theorem q_991 : Cond.instanceMethod yX9_sum ∈ TB := tb_5 (i := 31) rfl rfl
set_option maxRecDepth 100000 in
theorem q_992 : Cond.code yX9_sum prog_11_method_21_code 2 (Option.none : Option Jvm.ClassFile.FieldType) ∈ TB := tb_5 (i := 32) rfl rfl
set_option maxRecDepth 100000 in
theorem q_993 : Cond.methodLink RX9 94 yX9_product ∈ TB := tb_5 (i := 33) rfl rfl
set_option maxRecDepth 100000 in
theorem q_995 : Cond.instanceMethod yX9_product ∈ TB := tb_5 (i := 35) rfl rfl
set_option maxRecDepth 100000 in
theorem q_996 : Cond.code yX9_product prog_11_method_22_code 2 (Option.none : Option Jvm.ClassFile.FieldType) ∈ TB := tb_5 (i := 36) rfl rfl
set_option maxRecDepth 100000 in
theorem q_997 : Cond.methodLink RX9 97 yX9_unit ∈ TB := tb_5 (i := 37) rfl rfl
set_option maxRecDepth 100000 in
theorem q_999 : Cond.instanceMethod yX9_unit ∈ TB := tb_5 (i := 39) rfl rfl
set_option maxRecDepth 100000 in
theorem q_1000 : Cond.code yX9_unit prog_11_method_24_code 5 (Option.none : Option Jvm.ClassFile.FieldType) ∈ TB := tb_5 (i := 40) rfl rfl
set_option maxRecDepth 100000 in
theorem q_1001 : Cond.methodLink RX9 66 yX9_here ∈ TB := tb_5 (i := 41) rfl rfl
set_option maxRecDepth 100000 in
theorem q_1003 : Cond.instanceMethod yX9_here ∈ TB := tb_5 (i := 43) rfl rfl
set_option maxRecDepth 100000 in
theorem q_1004 : Cond.code yX9_here prog_11_method_13_code 1 (Option.some Jvm.ClassFile.FieldType.int) ∈ TB := tb_5 (i := 44) rfl rfl
set_option maxRecDepth 100000 in
theorem q_1005 : Cond.methodLink RX9 109 yX9_opens ∈ TB := tb_5 (i := 45) rfl rfl
set_option maxRecDepth 100000 in
theorem q_1007 : Cond.instanceMethod yX9_opens ∈ TB := tb_5 (i := 47) rfl rfl
set_option maxRecDepth 100000 in
theorem q_1008 : Cond.code yX9_opens prog_11_method_23_code 2 (Option.none : Option Jvm.ClassFile.FieldType) ∈ TB := tb_5 (i := 48) rfl rfl
set_option maxRecDepth 100000 in
theorem q_1009 : Cond.methodLink RX9 103 yX9_wrong ∈ TB := tb_5 (i := 49) rfl rfl
set_option maxRecDepth 100000 in
theorem q_1011 : Cond.instanceMethod yX9_wrong ∈ TB := tb_5 (i := 51) rfl rfl
set_option maxRecDepth 100000 in
theorem q_1012 : Cond.code yX9_wrong prog_11_method_14_code 1 (Option.none : Option Jvm.ClassFile.FieldType) ∈ TB := tb_5 (i := 52) rfl rfl
set_option maxRecDepth 100000 in
theorem q_1013 : Cond.methodLink RX9 84 yX9_lay ∈ TB := tb_5 (i := 53) rfl rfl
set_option maxRecDepth 100000 in
theorem q_1015 : Cond.instanceMethod yX9_lay ∈ TB := tb_5 (i := 55) rfl rfl
set_option maxRecDepth 100000 in
theorem q_1016 : Cond.code yX9_lay prog_11_method_17_code 2 (Option.none : Option Jvm.ClassFile.FieldType) ∈ TB := tb_5 (i := 56) rfl rfl
set_option maxRecDepth 100000 in
theorem q_1017 : Cond.methodLink RX9 80 yX9_takes ∈ TB := tb_5 (i := 57) rfl rfl
set_option maxRecDepth 100000 in
theorem q_1019 : Cond.instanceMethod yX9_takes ∈ TB := tb_5 (i := 59) rfl rfl
set_option maxRecDepth 100000 in
theorem q_1020 : Cond.code yX9_takes prog_11_method_15_code 2 (Option.some Jvm.ClassFile.FieldType.boolean) ∈ TB := tb_5 (i := 60) rfl rfl
set_option maxRecDepth 100000 in
theorem q_1021 : Cond.methodLink RX9 112 yX9_nameOf ∈ TB := tb_5 (i := 61) rfl rfl
set_option maxRecDepth 100000 in
theorem q_1023 : Cond.instanceMethod yX9_nameOf ∈ TB := tb_5 (i := 63) rfl rfl
set_option maxRecDepth 100000 in
theorem q_1024 : Cond.code yX9_nameOf prog_11_method_16_code 2 (Option.some Jvm.ClassFile.FieldType.int) ∈ TB := tb_5 (i := 64) rfl rfl
set_option maxRecDepth 100000 in
theorem q_1025 : Cond.constantLong RX9 116 48 ∈ TB := tb_5 (i := 65) rfl rfl
set_option maxRecDepth 100000 in
theorem q_1026 : Cond.constantLong RX9 118 57 ∈ TB := tb_5 (i := 66) rfl rfl
set_option maxRecDepth 100000 in
theorem q_1027 : Cond.methodLink RL 71 yX9_law ∈ TB := tb_5 (i := 67) rfl rfl
set_option maxRecDepth 100000 in
theorem q_1028 : Cond.instanceMethod yX9_law ∈ TB := tb_5 (i := 68) rfl rfl
set_option maxRecDepth 100000 in
theorem q_1029 : Cond.selects RX9 yX9_law yX9_law ∈ TB := tb_5 (i := 69) rfl rfl
set_option maxRecDepth 100000 in
theorem q_1030 : Cond.code yX9_law prog_11_method_31_code 5 (Option.some Jvm.ClassFile.FieldType.int) ∈ TB := tb_5 (i := 70) rfl rfl
set_option maxRecDepth 100000 in
theorem q_1031 : Cond.methodLink RX9 142 yX9_gives ∈ TB := tb_5 (i := 71) rfl rfl
set_option maxRecDepth 100000 in
theorem q_1033 : Cond.instanceMethod yX9_gives ∈ TB := tb_5 (i := 73) rfl rfl
set_option maxRecDepth 100000 in
theorem q_1034 : Cond.code yX9_gives prog_11_method_30_code 6 (Option.some Jvm.ClassFile.FieldType.int) ∈ TB := tb_5 (i := 74) rfl rfl
set_option maxRecDepth 100000 in
theorem q_1035 : Cond.methodLink RX9 135 yX9_worked ∈ TB := tb_5 (i := 75) rfl rfl
set_option maxRecDepth 100000 in
theorem q_1037 : Cond.instanceMethod yX9_worked ∈ TB := tb_5 (i := 77) rfl rfl
set_option maxRecDepth 100000 in
theorem q_1038 : Cond.code yX9_worked prog_11_method_27_code 6 (Option.some Jvm.ClassFile.FieldType.int) ∈ TB := tb_5 (i := 78) rfl rfl
set_option maxRecDepth 100000 in
theorem q_1039 : Cond.methodLink RX9 120 yX9_done ∈ TB := tb_5 (i := 79) rfl rfl
set_option maxRecDepth 100000 in
theorem q_1040 : Cond.static yX9_done ∈ TB := tb_5 (i := 80) rfl rfl
set_option maxRecDepth 100000 in
theorem q_1041 : Cond.code yX9_done prog_11_method_26_code 3 (Option.some Jvm.ClassFile.FieldType.int) ∈ TB := tb_5 (i := 81) rfl rfl
set_option maxRecDepth 100000 in
theorem q_1042 : Cond.methodLink RX9 139 yX9_held ∈ TB := tb_5 (i := 82) rfl rfl
set_option maxRecDepth 100000 in
theorem q_1043 : Cond.static yX9_held ∈ TB := tb_5 (i := 83) rfl rfl
set_option maxRecDepth 100000 in
theorem q_1044 : Cond.code yX9_held prog_11_method_5_code 3 (Option.some Jvm.ClassFile.FieldType.int) ∈ TB := tb_5 (i := 84) rfl rfl
set_option maxRecDepth 100000 in
theorem q_1045 : Cond.methodLink RL 17 yX9_current ∈ TB := tb_5 (i := 85) rfl rfl
set_option maxRecDepth 100000 in
theorem q_1046 : Cond.instanceMethod yX9_current ∈ TB := tb_5 (i := 86) rfl rfl
set_option maxRecDepth 100000 in
theorem q_1047 : Cond.selects RX9 yX9_current yX9_current ∈ TB := tb_5 (i := 87) rfl rfl
set_option maxRecDepth 100000 in
theorem q_1048 : Cond.code yX9_current prog_11_method_32_code 4 (Option.some Jvm.ClassFile.FieldType.int) ∈ TB := tb_5 (i := 88) rfl rfl
set_option maxRecDepth 100000 in
theorem q_1049 : Cond.methodLink RX9 146 yX9_isLane ∈ TB := tb_5 (i := 89) rfl rfl
set_option maxRecDepth 100000 in
theorem q_1050 : Cond.static yX9_isLane ∈ TB := tb_5 (i := 90) rfl rfl
set_option maxRecDepth 100000 in
theorem q_1051 : Cond.code yX9_isLane prog_11_method_9_code 1 (Option.some Jvm.ClassFile.FieldType.boolean) ∈ TB := tb_5 (i := 91) rfl rfl
set_option maxRecDepth 100000 in
theorem q_1052 : Cond.constantLong RX9 47 5 ∈ TB := tb_5 (i := 92) rfl rfl
set_option maxRecDepth 100000 in
theorem q_1053 : Cond.constantLong RX9 149 (-9) ∈ TB := tb_5 (i := 93) rfl rfl
set_option maxRecDepth 100000 in
theorem q_1054 : Cond.constantLong RX9 151 9 ∈ TB := tb_5 (i := 94) rfl rfl
set_option maxRecDepth 100000 in
theorem q_1055 : Cond.methodLink RL 21 yX9_set ∈ TB := tb_5 (i := 95) rfl rfl
set_option maxRecDepth 100000 in
theorem q_1056 : Cond.instanceMethod yX9_set ∈ TB := tb_5 (i := 96) rfl rfl
set_option maxRecDepth 100000 in
theorem q_1057 : Cond.selects RX9 yX9_set yX9_set ∈ TB := tb_5 (i := 97) rfl rfl
set_option maxRecDepth 100000 in
theorem q_1058 : Cond.code yX9_set prog_11_method_33_code 5 (Option.some Jvm.ClassFile.FieldType.int) ∈ TB := tb_5 (i := 98) rfl rfl
set_option maxRecDepth 100000 in
theorem q_1059 : Cond.constantLong RX9 153 (-3) ∈ TB := tb_5 (i := 99) rfl rfl
set_option maxRecDepth 100000 in
theorem q_1060 : Cond.constantLong RX9 155 3 ∈ TB := tb_5 (i := 100) rfl rfl
set_option maxRecDepth 100000 in
theorem q_1061 : Cond.constantLong RX9 157 200 ∈ TB := tb_5 (i := 101) rfl rfl
set_option maxRecDepth 100000 in
theorem q_1062 : Cond.constantLong RX9 159 1200 ∈ TB := tb_5 (i := 102) rfl rfl
set_option maxRecDepth 100000 in
theorem q_1063 : Cond.methodLink RL 26 yX9_flow ∈ TB := tb_5 (i := 103) rfl rfl
set_option maxRecDepth 100000 in
theorem q_1064 : Cond.instanceMethod yX9_flow ∈ TB := tb_5 (i := 104) rfl rfl
set_option maxRecDepth 100000 in
theorem q_1065 : Cond.selects RX9 yX9_flow yX9_flow ∈ TB := tb_5 (i := 105) rfl rfl
set_option maxRecDepth 100000 in
theorem q_1066 : Cond.code yX9_flow prog_11_method_35_code 2 (Option.some Jvm.ClassFile.FieldType.int) ∈ TB := tb_5 (i := 106) rfl rfl
set_option maxRecDepth 100000 in
theorem q_1067 : Cond.methodLink RX9 161 yX9_flowOf ∈ TB := tb_5 (i := 107) rfl rfl
set_option maxRecDepth 100000 in
theorem q_1069 : Cond.instanceMethod yX9_flowOf ∈ TB := tb_5 (i := 109) rfl rfl
set_option maxRecDepth 100000 in
theorem q_1070 : Cond.code yX9_flowOf prog_11_method_34_code 2 (Option.some Jvm.ClassFile.FieldType.int) ∈ TB := tb_5 (i := 110) rfl rfl
set_option maxRecDepth 100000 in
theorem q_1071 : Cond.methodLink RL 30 yX9_swimmer ∈ TB := tb_5 (i := 111) rfl rfl
set_option maxRecDepth 100000 in
theorem q_1072 : Cond.instanceMethod yX9_swimmer ∈ TB := tb_5 (i := 112) rfl rfl
set_option maxRecDepth 100000 in
theorem q_1073 : Cond.selects RX9 yX9_swimmer yX9_swimmer ∈ TB := tb_5 (i := 113) rfl rfl
set_option maxRecDepth 100000 in
theorem q_1074 : Cond.code yX9_swimmer prog_11_method_36_code 5 (Option.some Jvm.ClassFile.FieldType.int) ∈ TB := tb_5 (i := 114) rfl rfl
set_option maxRecDepth 100000 in
theorem q_1075 : Cond.constantLong RX9 164 69 ∈ TB := tb_5 (i := 115) rfl rfl
set_option maxRecDepth 100000 in
theorem q_1076 : Cond.methodLink RX9 166 yX9_becomes ∈ TB := tb_5 (i := 116) rfl rfl
set_option maxRecDepth 100000 in
theorem q_1078 : Cond.instanceMethod yX9_becomes ∈ TB := tb_5 (i := 118) rfl rfl
set_option maxRecDepth 100000 in
theorem q_1079 : Cond.code yX9_becomes prog_11_method_12_code 4 (Option.none : Option Jvm.ClassFile.FieldType) ∈ TB := tb_5 (i := 119) rfl rfl
set_option maxRecDepth 100000 in
theorem q_1080 : Cond.methodLink RL 34 yX9_ofSwimmer ∈ TB := tb_5 (i := 120) rfl rfl
set_option maxRecDepth 100000 in
theorem q_1081 : Cond.instanceMethod yX9_ofSwimmer ∈ TB := tb_5 (i := 121) rfl rfl
set_option maxRecDepth 100000 in
theorem q_1082 : Cond.selects RX9 yX9_ofSwimmer yX9_ofSwimmer ∈ TB := tb_5 (i := 122) rfl rfl
set_option maxRecDepth 100000 in
theorem q_1083 : Cond.code yX9_ofSwimmer prog_11_method_37_code 3 (Option.some Jvm.ClassFile.FieldType.int) ∈ TB := tb_5 (i := 123) rfl rfl
set_option maxRecDepth 100000 in
theorem q_1084 : Cond.methodLink RX9 169 yX9_isSwimmer ∈ TB := tb_5 (i := 124) rfl rfl
set_option maxRecDepth 100000 in
theorem q_1086 : Cond.instanceMethod yX9_isSwimmer ∈ TB := tb_5 (i := 126) rfl rfl
set_option maxRecDepth 100000 in
theorem q_1087 : Cond.code yX9_isSwimmer prog_11_method_10_code 2 (Option.some Jvm.ClassFile.FieldType.boolean) ∈ TB := tb_5 (i := 127) rfl rfl
set_option maxRecDepth 100000 in
theorem q_1088 : Cond.methodLink RX9 172 yX9_of ∈ TB := tb_5 (i := 128) rfl rfl
set_option maxRecDepth 100000 in
theorem q_1090 : Cond.instanceMethod yX9_of ∈ TB := tb_5 (i := 130) rfl rfl
set_option maxRecDepth 100000 in
theorem q_1091 : Cond.code yX9_of prog_11_method_11_code 3 (Option.some Jvm.ClassFile.FieldType.int) ∈ TB := tb_5 (i := 131) rfl rfl
set_option maxRecDepth 100000 in
theorem q_1092 : Cond.methodLink RL 38 yX9_train ∈ TB := tb_5 (i := 132) rfl rfl
set_option maxRecDepth 100000 in
theorem q_1093 : Cond.instanceMethod yX9_train ∈ TB := tb_5 (i := 133) rfl rfl
set_option maxRecDepth 100000 in
theorem q_1094 : Cond.selects RX9 yX9_train yX9_train ∈ TB := tb_5 (i := 134) rfl rfl
set_option maxRecDepth 100000 in
theorem q_1095 : Cond.code yX9_train prog_11_method_38_code 4 (Option.some Jvm.ClassFile.FieldType.int) ∈ TB := tb_5 (i := 135) rfl rfl
set_option maxRecDepth 100000 in
theorem q_1096 : Cond.constantLong RX9 175 30 ∈ TB := tb_5 (i := 136) rfl rfl
set_option maxRecDepth 100000 in
theorem q_1097 : Cond.methodLink RL 43 yX9_plan ∈ TB := tb_5 (i := 137) rfl rfl
set_option maxRecDepth 100000 in
theorem q_1098 : Cond.instanceMethod yX9_plan ∈ TB := tb_5 (i := 138) rfl rfl
set_option maxRecDepth 100000 in
theorem q_1099 : Cond.selects RX9 yX9_plan yX9_plan ∈ TB := tb_5 (i := 139) rfl rfl
set_option maxRecDepth 100000 in
theorem q_1100 : Cond.code yX9_plan prog_11_method_39_code 5 (Option.some Jvm.ClassFile.FieldType.int) ∈ TB := tb_5 (i := 140) rfl rfl
set_option maxRecDepth 100000 in
theorem q_1101 : Cond.methodLink RL 47 yX9_become ∈ TB := tb_5 (i := 141) rfl rfl
set_option maxRecDepth 100000 in
theorem q_1102 : Cond.instanceMethod yX9_become ∈ TB := tb_5 (i := 142) rfl rfl
set_option maxRecDepth 100000 in
theorem q_1103 : Cond.selects RX9 yX9_become yX9_become ∈ TB := tb_5 (i := 143) rfl rfl
set_option maxRecDepth 100000 in
theorem q_1104 : Cond.code yX9_become prog_11_method_40_code 4 (Option.some Jvm.ClassFile.FieldType.int) ∈ TB := tb_5 (i := 144) rfl rfl
set_option maxRecDepth 100000 in
theorem q_1105 : Cond.methodLink RL 51 yX9_as ∈ TB := tb_5 (i := 145) rfl rfl
set_option maxRecDepth 100000 in
theorem q_1106 : Cond.instanceMethod yX9_as ∈ TB := tb_5 (i := 146) rfl rfl
set_option maxRecDepth 100000 in
theorem q_1107 : Cond.selects RX9 yX9_as yX9_as ∈ TB := tb_5 (i := 147) rfl rfl
set_option maxRecDepth 100000 in
theorem q_1108 : Cond.code yX9_as prog_11_method_42_code 4 (Option.some Jvm.ClassFile.FieldType.int) ∈ TB := tb_5 (i := 148) rfl rfl
set_option maxRecDepth 100000 in
theorem q_1109 : Cond.constantLong RX9 177 6 ∈ TB := tb_5 (i := 149) rfl rfl
set_option maxRecDepth 100000 in
theorem q_1110 : Cond.methodLink RX9 179 yX9_above ∈ TB := tb_5 (i := 150) rfl rfl
set_option maxRecDepth 100000 in
theorem q_1111 : Cond.static yX9_above ∈ TB := tb_5 (i := 151) rfl rfl
set_option maxRecDepth 100000 in
theorem q_1112 : Cond.code yX9_above prog_11_method_41_code 1 (Option.some Jvm.ClassFile.FieldType.int) ∈ TB := tb_5 (i := 152) rfl rfl
set_option maxRecDepth 100000 in
theorem q_1113 : Cond.methodLink RL 55 yX9_pace ∈ TB := tb_5 (i := 153) rfl rfl
set_option maxRecDepth 100000 in
theorem q_1114 : Cond.instanceMethod yX9_pace ∈ TB := tb_5 (i := 154) rfl rfl
set_option maxRecDepth 100000 in
theorem q_1115 : Cond.selects RX9 yX9_pace yX9_pace ∈ TB := tb_5 (i := 155) rfl rfl
set_option maxRecDepth 100000 in
theorem q_1116 : Cond.code yX9_pace prog_11_method_44_code 3 (Option.some Jvm.ClassFile.FieldType.int) ∈ TB := tb_5 (i := 156) rfl rfl
set_option maxRecDepth 100000 in
theorem q_1117 : Cond.constantLong RX9 185 59 ∈ TB := tb_5 (i := 157) rfl rfl
set_option maxRecDepth 100000 in
theorem q_1118 : Cond.methodLink RX9 187 yX9_paceOf ∈ TB := tb_5 (i := 158) rfl rfl
set_option maxRecDepth 100000 in
theorem q_1120 : Cond.instanceMethod yX9_paceOf ∈ TB := tb_5 (i := 160) rfl rfl
set_option maxRecDepth 100000 in
theorem q_1121 : Cond.code yX9_paceOf prog_11_method_43_code 6 (Option.some Jvm.ClassFile.FieldType.int) ∈ TB := tb_5 (i := 161) rfl rfl
set_option maxRecDepth 100000 in
theorem q_1122 : Cond.methodLink RX9 182 yX9_greater ∈ TB := tb_5 (i := 162) rfl rfl
set_option maxRecDepth 100000 in
theorem q_1123 : Cond.static yX9_greater ∈ TB := tb_5 (i := 163) rfl rfl
set_option maxRecDepth 100000 in
theorem q_1124 : Cond.code yX9_greater prog_11_method_7_code 2 (Option.some Jvm.ClassFile.FieldType.int) ∈ TB := tb_5 (i := 164) rfl rfl
set_option maxRecDepth 100000 in
theorem q_1125 : Cond.methodLink RL 75 yX9_where ∈ TB := tb_5 (i := 165) rfl rfl
set_option maxRecDepth 100000 in
theorem q_1126 : Cond.instanceMethod yX9_where ∈ TB := tb_5 (i := 166) rfl rfl
set_option maxRecDepth 100000 in
theorem q_1127 : Cond.selects RX9 yX9_where yX9_where ∈ TB := tb_5 (i := 167) rfl rfl
set_option maxRecDepth 100000 in
theorem q_1128 : Cond.code yX9_where prog_11_method_47_code 5 (Option.some Jvm.ClassFile.FieldType.int) ∈ TB := tb_5 (i := 168) rfl rfl
set_option maxRecDepth 100000 in
theorem q_1129 : Cond.constantLong RX9 196 60 ∈ TB := tb_5 (i := 169) rfl rfl
set_option maxRecDepth 100000 in
theorem q_1130 : Cond.methodLink RX9 198 yX9_goes ∈ TB := tb_5 (i := 170) rfl rfl
set_option maxRecDepth 100000 in
theorem q_1132 : Cond.instanceMethod yX9_goes ∈ TB := tb_5 (i := 172) rfl rfl
set_option maxRecDepth 100000 in
theorem q_1133 : Cond.code yX9_goes prog_11_method_46_code 5 (Option.some Jvm.ClassFile.FieldType.int) ∈ TB := tb_5 (i := 173) rfl rfl
set_option maxRecDepth 100000 in
theorem q_1134 : Cond.methodLink RX9 193 yX9_laneOf ∈ TB := tb_5 (i := 174) rfl rfl
set_option maxRecDepth 100000 in
theorem q_1136 : Cond.instanceMethod yX9_laneOf ∈ TB := tb_5 (i := 176) rfl rfl
set_option maxRecDepth 100000 in
theorem q_1137 : Cond.code yX9_laneOf prog_11_method_45_code 3 (Option.some Jvm.ClassFile.FieldType.int) ∈ TB := tb_5 (i := 177) rfl rfl
set_option maxRecDepth 100000 in
theorem q_1138 : Cond.methodLink RX9 190 yX9_lesser ∈ TB := tb_5 (i := 178) rfl rfl
set_option maxRecDepth 100000 in
theorem q_1139 : Cond.static yX9_lesser ∈ TB := tb_5 (i := 179) rfl rfl
set_option maxRecDepth 100000 in
theorem q_1140 : Cond.code yX9_lesser prog_11_method_6_code 2 (Option.some Jvm.ClassFile.FieldType.int) ∈ TB := tb_5 (i := 180) rfl rfl
set_option maxRecDepth 100000 in
theorem q_1141 : Cond.methodLink RL 79 yX9_meet ∈ TB := tb_5 (i := 181) rfl rfl
set_option maxRecDepth 100000 in
theorem q_1142 : Cond.instanceMethod yX9_meet ∈ TB := tb_5 (i := 182) rfl rfl
set_option maxRecDepth 100000 in
theorem q_1143 : Cond.selects RX9 yX9_meet yX9_meet ∈ TB := tb_5 (i := 183) rfl rfl
set_option maxRecDepth 100000 in
theorem q_1144 : Cond.code yX9_meet prog_11_method_50_code 4 (Option.some Jvm.ClassFile.FieldType.int) ∈ TB := tb_5 (i := 184) rfl rfl
set_option maxRecDepth 100000 in
theorem q_1145 : Cond.methodLink RX9 207 yX9_areUnlike ∈ TB := tb_5 (i := 185) rfl rfl
set_option maxRecDepth 100000 in
theorem q_1147 : Cond.instanceMethod yX9_areUnlike ∈ TB := tb_5 (i := 187) rfl rfl
set_option maxRecDepth 100000 in
theorem q_1148 : Cond.code yX9_areUnlike prog_11_method_49_code 3 (Option.some Jvm.ClassFile.FieldType.boolean) ∈ TB := tb_5 (i := 188) rfl rfl
set_option maxRecDepth 100000 in
theorem q_1149 : Cond.constantLong RX9 211 2 ∈ TB := tb_5 (i := 189) rfl rfl
set_option maxRecDepth 100000 in
theorem q_1150 : Cond.methodLink RX9 213 yX9_swim ∈ TB := tb_5 (i := 190) rfl rfl
set_option maxRecDepth 100000 in
theorem q_1152 : Cond.instanceMethod yX9_swim ∈ TB := tb_5 (i := 192) rfl rfl
set_option maxRecDepth 100000 in
theorem q_1153 : Cond.code yX9_swim prog_11_method_48_code 8 (Option.some Jvm.ClassFile.FieldType.boolean) ∈ TB := tb_5 (i := 193) rfl rfl
set_option maxRecDepth 100000 in
theorem q_1154 : Cond.methodLink RL 83 yX9_year ∈ TB := tb_5 (i := 194) rfl rfl
set_option maxRecDepth 100000 in
theorem q_1155 : Cond.instanceMethod yX9_year ∈ TB := tb_5 (i := 195) rfl rfl
set_option maxRecDepth 100000 in
theorem q_1156 : Cond.selects RX9 yX9_year yX9_year ∈ TB := tb_5 (i := 196) rfl rfl
set_option maxRecDepth 100000 in
theorem q_1157 : Cond.code yX9_year prog_11_method_54_code 3 (Option.some Jvm.ClassFile.FieldType.int) ∈ TB := tb_5 (i := 197) rfl rfl
set_option maxRecDepth 100000 in
theorem q_1158 : Cond.methodLink RX9 225 yX9_aYear ∈ TB := tb_5 (i := 198) rfl rfl
set_option maxRecDepth 100000 in
theorem q_1160 : Cond.instanceMethod yX9_aYear ∈ TB := tb_5 (i := 200) rfl rfl
set_option maxRecDepth 100000 in
theorem q_1161 : Cond.code yX9_aYear prog_11_method_53_code 4 (Option.some Jvm.ClassFile.FieldType.int) ∈ TB := tb_5 (i := 201) rfl rfl
set_option maxRecDepth 100000 in
theorem q_1162 : Cond.methodLink RX9 218 yX9_drawn ∈ TB := tb_5 (i := 202) rfl rfl
set_option maxRecDepth 100000 in
theorem q_1164 : Cond.instanceMethod yX9_drawn ∈ TB := tb_5 (i := 204) rfl rfl
set_option maxRecDepth 100000 in
theorem q_1165 : Cond.code yX9_drawn prog_11_method_52_code 1 (Option.some Jvm.ClassFile.FieldType.int) ∈ TB := tb_5 (i := 205) rfl rfl
set_option maxRecDepth 100000 in
theorem q_1166 : Cond.constant RX9 217 1103515245 ∈ TB := tb_5 (i := 206) rfl rfl
set_option maxRecDepth 100000 in
theorem q_1167 : Cond.methodLink RX9 221 yX9_goesBy ∈ TB := tb_5 (i := 207) rfl rfl
set_option maxRecDepth 100000 in
theorem q_1169 : Cond.instanceMethod yX9_goesBy ∈ TB := tb_5 (i := 209) rfl rfl
set_option maxRecDepth 100000 in
theorem q_1170 : Cond.code yX9_goesBy prog_11_method_51_code 4 (Option.none : Option Jvm.ClassFile.FieldType) ∈ TB := tb_5 (i := 210) rfl rfl
set_option maxRecDepth 100000 in
theorem q_1171 : Cond.constant RX9 216 999999 ∈ TB := tb_5 (i := 211) rfl rfl
set_option maxRecDepth 100000 in
theorem q_1172 : Cond.methodLink RL 87 yX9_loose ∈ TB := tb_5 (i := 212) rfl rfl
set_option maxRecDepth 100000 in
theorem q_1173 : Cond.instanceMethod yX9_loose ∈ TB := tb_5 (i := 213) rfl rfl
set_option maxRecDepth 100000 in
theorem q_1174 : Cond.selects RX9 yX9_loose yX9_loose ∈ TB := tb_5 (i := 214) rfl rfl
set_option maxRecDepth 100000 in
theorem q_1175 : Cond.code yX9_loose prog_11_method_55_code 3 (Option.some Jvm.ClassFile.FieldType.int) ∈ TB := tb_5 (i := 215) rfl rfl
set_option maxRecDepth 100000 in
theorem q_1176 : Cond.methodLink RL 91 yX9_bestPlan ∈ TB := tb_5 (i := 216) rfl rfl
set_option maxRecDepth 100000 in
theorem q_1177 : Cond.instanceMethod yX9_bestPlan ∈ TB := tb_5 (i := 217) rfl rfl
set_option maxRecDepth 100000 in
theorem q_1178 : Cond.selects RX9 yX9_bestPlan yX9_bestPlan ∈ TB := tb_5 (i := 218) rfl rfl
set_option maxRecDepth 100000 in
theorem q_1179 : Cond.code yX9_bestPlan prog_11_method_59_code 7 (Option.some Jvm.ClassFile.FieldType.int) ∈ TB := tb_5 (i := 219) rfl rfl
set_option maxRecDepth 100000 in
theorem q_1180 : Cond.constantLong RX9 229 (-1) ∈ TB := tb_5 (i := 220) rfl rfl
set_option maxRecDepth 100000 in
theorem q_1181 : Cond.methodLink RX9 231 yX9_copies ∈ TB := tb_5 (i := 221) rfl rfl
set_option maxRecDepth 100000 in
theorem q_1182 : Cond.static yX9_copies ∈ TB := tb_5 (i := 222) rfl rfl
set_option maxRecDepth 100000 in
theorem q_1183 : Cond.code yX9_copies prog_11_method_8_code 3 (Option.none : Option Jvm.ClassFile.FieldType) ∈ TB := tb_5 (i := 223) rfl rfl
set_option maxRecDepth 100000 in
theorem q_1184 : Cond.methodLink RX9 235 yX9_laneIn ∈ TB := tb_5 (i := 224) rfl rfl
set_option maxRecDepth 100000 in
theorem q_1185 : Cond.static yX9_laneIn ∈ TB := tb_5 (i := 225) rfl rfl
set_option maxRecDepth 100000 in
theorem q_1186 : Cond.code yX9_laneIn prog_11_method_58_code 4 (Option.some Jvm.ClassFile.FieldType.int) ∈ TB := tb_5 (i := 226) rfl rfl
set_option maxRecDepth 100000 in
theorem q_1187 : Cond.methodLink RX9 238 yX9_plans ∈ TB := tb_5 (i := 227) rfl rfl
set_option maxRecDepth 100000 in
theorem q_1189 : Cond.instanceMethod yX9_plans ∈ TB := tb_5 (i := 229) rfl rfl
set_option maxRecDepth 100000 in
theorem q_1190 : Cond.code yX9_plans prog_11_method_57_code 6 (Option.none : Option Jvm.ClassFile.FieldType) ∈ TB := tb_5 (i := 230) rfl rfl
set_option maxRecDepth 100000 in
theorem q_1191 : Cond.methodLink RX9 242 yX9_isBetter ∈ TB := tb_5 (i := 231) rfl rfl
set_option maxRecDepth 100000 in
theorem q_1192 : Cond.static yX9_isBetter ∈ TB := tb_5 (i := 232) rfl rfl
set_option maxRecDepth 100000 in
theorem q_1193 : Cond.code yX9_isBetter prog_11_method_56_code 3 (Option.some Jvm.ClassFile.FieldType.boolean) ∈ TB := tb_5 (i := 233) rfl rfl
set_option maxRecDepth 100000 in
theorem q_1194 : Cond.methodLink RL 95 yX9_hold ∈ TB := tb_5 (i := 234) rfl rfl
set_option maxRecDepth 100000 in
theorem q_1195 : Cond.instanceMethod yX9_hold ∈ TB := tb_5 (i := 235) rfl rfl
set_option maxRecDepth 100000 in
theorem q_1196 : Cond.selects RX9 yX9_hold yX9_hold ∈ TB := tb_5 (i := 236) rfl rfl
set_option maxRecDepth 100000 in
theorem q_1197 : Cond.code yX9_hold prog_11_method_61_code 11 (Option.some Jvm.ClassFile.FieldType.int) ∈ TB := tb_5 (i := 237) rfl rfl
set_option maxRecDepth 100000 in
theorem q_1198 : Cond.methodLink RX9 246 yX9_endOf ∈ TB := tb_5 (i := 238) rfl rfl
set_option maxRecDepth 100000 in
theorem q_1200 : Cond.instanceMethod yX9_endOf ∈ TB := tb_6 (i := 0) rfl rfl
set_option maxRecDepth 100000 in
theorem q_1201 : Cond.code yX9_endOf prog_11_method_60_code 5 (Option.some Jvm.ClassFile.FieldType.int) ∈ TB := tb_6 (i := 1) rfl rfl
set_option maxRecDepth 100000 in
theorem q_1202 : Cond.methodLink RL 99 yX9_ask ∈ TB := tb_6 (i := 2) rfl rfl
set_option maxRecDepth 100000 in
theorem q_1203 : Cond.instanceMethod yX9_ask ∈ TB := tb_6 (i := 3) rfl rfl
set_option maxRecDepth 100000 in
theorem q_1204 : Cond.selects RX9 yX9_ask yX9_ask ∈ TB := tb_6 (i := 4) rfl rfl
set_option maxRecDepth 100000 in
theorem q_1205 : Cond.code yX9_ask prog_11_method_62_code 7 (Option.some Jvm.ClassFile.FieldType.int) ∈ TB := tb_6 (i := 5) rfl rfl
set_option maxRecDepth 100000 in
theorem q_1206 : Cond.methodLink RL 103 yX9_leastSight ∈ TB := tb_6 (i := 6) rfl rfl
set_option maxRecDepth 100000 in
theorem q_1207 : Cond.instanceMethod yX9_leastSight ∈ TB := tb_6 (i := 7) rfl rfl
set_option maxRecDepth 100000 in
theorem q_1208 : Cond.selects RX9 yX9_leastSight yX9_leastSight ∈ TB := tb_6 (i := 8) rfl rfl
set_option maxRecDepth 100000 in
theorem q_1209 : Cond.code yX9_leastSight prog_11_method_63_code 5 (Option.some Jvm.ClassFile.FieldType.int) ∈ TB := tb_6 (i := 9) rfl rfl
set_option maxRecDepth 100000 in
theorem q_1210 : Cond.methodLink RL 107 yX9_send ∈ TB := tb_6 (i := 10) rfl rfl
set_option maxRecDepth 100000 in
theorem q_1211 : Cond.instanceMethod yX9_send ∈ TB := tb_6 (i := 11) rfl rfl
set_option maxRecDepth 100000 in
theorem q_1212 : Cond.selects RX9 yX9_send yX9_send ∈ TB := tb_6 (i := 12) rfl rfl
set_option maxRecDepth 100000 in
theorem q_1213 : Cond.code yX9_send prog_11_method_64_code 5 (Option.some Jvm.ClassFile.FieldType.int) ∈ TB := tb_6 (i := 13) rfl rfl
set_option maxRecDepth 100000 in
theorem q_1214 : Cond.methodLink RL 112 yX9_diary ∈ TB := tb_6 (i := 14) rfl rfl
set_option maxRecDepth 100000 in
theorem q_1215 : Cond.instanceMethod yX9_diary ∈ TB := tb_6 (i := 15) rfl rfl
set_option maxRecDepth 100000 in
theorem q_1216 : Cond.selects RX9 yX9_diary yX9_diary ∈ TB := tb_6 (i := 16) rfl rfl
set_option maxRecDepth 100000 in
theorem q_1217 : Cond.code yX9_diary prog_11_method_65_code 9 (Option.some Jvm.ClassFile.FieldType.int) ∈ TB := tb_6 (i := 17) rfl rfl
set_option maxRecDepth 100000 in
theorem q_1218 : Cond.methodLink RL 116 yX9_training ∈ TB := tb_6 (i := 18) rfl rfl
set_option maxRecDepth 100000 in
theorem q_1219 : Cond.instanceMethod yX9_training ∈ TB := tb_6 (i := 19) rfl rfl
set_option maxRecDepth 100000 in
theorem q_1220 : Cond.selects RX9 yX9_training yX9_training ∈ TB := tb_6 (i := 20) rfl rfl
set_option maxRecDepth 100000 in
theorem q_1221 : Cond.code yX9_training prog_11_method_66_code 8 (Option.some Jvm.ClassFile.FieldType.int) ∈ TB := tb_6 (i := 21) rfl rfl
set_option maxRecDepth 100000 in
theorem q_1222 : Cond.methodLink RL 120 yX9_fair ∈ TB := tb_6 (i := 22) rfl rfl
set_option maxRecDepth 100000 in
theorem q_1223 : Cond.instanceMethod yX9_fair ∈ TB := tb_6 (i := 23) rfl rfl
set_option maxRecDepth 100000 in
theorem q_1224 : Cond.selects RX9 yX9_fair yX9_fair ∈ TB := tb_6 (i := 24) rfl rfl
set_option maxRecDepth 100000 in
theorem q_1225 : Cond.code yX9_fair prog_11_method_68_code 6 (Option.some Jvm.ClassFile.FieldType.int) ∈ TB := tb_6 (i := 25) rfl rfl
set_option maxRecDepth 100000 in
theorem q_1226 : Cond.methodLink RX9 249 yX9_changeSides ∈ TB := tb_6 (i := 26) rfl rfl
set_option maxRecDepth 100000 in
theorem q_1228 : Cond.instanceMethod yX9_changeSides ∈ TB := tb_6 (i := 28) rfl rfl
set_option maxRecDepth 100000 in
theorem q_1229 : Cond.code yX9_changeSides prog_11_method_67_code 3 (Option.none : Option Jvm.ClassFile.FieldType) ∈ TB := tb_6 (i := 29) rfl rfl
set_option maxRecDepth 100000 in
theorem q_1230 : Cond.methodLink RL 124 yX9_seed ∈ TB := tb_6 (i := 30) rfl rfl
set_option maxRecDepth 100000 in
theorem q_1231 : Cond.instanceMethod yX9_seed ∈ TB := tb_6 (i := 31) rfl rfl
set_option maxRecDepth 100000 in
theorem q_1232 : Cond.selects RX9 yX9_seed yX9_seed ∈ TB := tb_6 (i := 32) rfl rfl
set_option maxRecDepth 100000 in
theorem q_1233 : Cond.code yX9_seed prog_11_method_69_code 3 (Option.some Jvm.ClassFile.FieldType.int) ∈ TB := tb_6 (i := 33) rfl rfl
set_option maxRecDepth 100000 in
theorem q_1234 : Cond.methodLink RL 128 yX9_voice ∈ TB := tb_6 (i := 34) rfl rfl
set_option maxRecDepth 100000 in
theorem q_1235 : Cond.instanceMethod yX9_voice ∈ TB := tb_6 (i := 35) rfl rfl
set_option maxRecDepth 100000 in
theorem q_1236 : Cond.selects RX9 yX9_voice yX9_voice ∈ TB := tb_6 (i := 36) rfl rfl
set_option maxRecDepth 100000 in
theorem q_1237 : Cond.code yX9_voice prog_11_method_76_code 5 (Option.some Jvm.ClassFile.FieldType.int) ∈ TB := tb_6 (i := 37) rfl rfl
set_option maxRecDepth 100000 in
theorem q_1238 : Cond.methodLink RX9 264 yX9_own ∈ TB := tb_6 (i := 38) rfl rfl
set_option maxRecDepth 100000 in
theorem q_1240 : Cond.instanceMethod yX9_own ∈ TB := tb_6 (i := 40) rfl rfl
set_option maxRecDepth 100000 in
theorem q_1241 : Cond.code yX9_own prog_11_method_71_code 1 (Option.some Jvm.ClassFile.FieldType.int) ∈ TB := tb_6 (i := 41) rfl rfl
set_option maxRecDepth 100000 in
theorem q_1242 : Cond.methodLink RX9 261 yX9_swims ∈ TB := tb_6 (i := 42) rfl rfl
set_option maxRecDepth 100000 in
theorem q_1244 : Cond.instanceMethod yX9_swims ∈ TB := tb_6 (i := 44) rfl rfl
set_option maxRecDepth 100000 in
theorem q_1245 : Cond.code yX9_swims prog_11_method_72_code 3 (Option.some Jvm.ClassFile.FieldType.int) ∈ TB := tb_6 (i := 45) rfl rfl
set_option maxRecDepth 100000 in
theorem q_1246 : Cond.methodLink RX9 258 yX9_ran ∈ TB := tb_6 (i := 46) rfl rfl
set_option maxRecDepth 100000 in
theorem q_1248 : Cond.instanceMethod yX9_ran ∈ TB := tb_6 (i := 48) rfl rfl
set_option maxRecDepth 100000 in
theorem q_1249 : Cond.code yX9_ran prog_11_method_70_code 2 (Option.none : Option Jvm.ClassFile.FieldType) ∈ TB := tb_6 (i := 49) rfl rfl
set_option maxRecDepth 100000 in
theorem q_1250 : Cond.methodLink RX9 267 yX9_breathes ∈ TB := tb_6 (i := 50) rfl rfl
set_option maxRecDepth 100000 in
theorem q_1252 : Cond.instanceMethod yX9_breathes ∈ TB := tb_6 (i := 52) rfl rfl
set_option maxRecDepth 100000 in
theorem q_1253 : Cond.code yX9_breathes prog_11_method_73_code 4 (Option.some Jvm.ClassFile.FieldType.int) ∈ TB := tb_6 (i := 53) rfl rfl
set_option maxRecDepth 100000 in
theorem q_1254 : Cond.methodLink RX9 270 yX9_tires ∈ TB := tb_6 (i := 54) rfl rfl
set_option maxRecDepth 100000 in
theorem q_1256 : Cond.instanceMethod yX9_tires ∈ TB := tb_6 (i := 56) rfl rfl
set_option maxRecDepth 100000 in
theorem q_1257 : Cond.code yX9_tires prog_11_method_74_code 3 (Option.some Jvm.ClassFile.FieldType.int) ∈ TB := tb_6 (i := 57) rfl rfl
set_option maxRecDepth 100000 in
theorem q_1258 : Cond.methodLink RX9 273 yX9_tells ∈ TB := tb_6 (i := 58) rfl rfl
set_option maxRecDepth 100000 in
theorem q_1260 : Cond.instanceMethod yX9_tells ∈ TB := tb_6 (i := 60) rfl rfl
set_option maxRecDepth 100000 in
theorem q_1261 : Cond.code yX9_tells prog_11_method_75_code 4 (Option.some Jvm.ClassFile.FieldType.int) ∈ TB := tb_6 (i := 61) rfl rfl
set_option maxRecDepth 100000 in
theorem q_1262 : Cond.methodLink RL 132 yX9_trace ∈ TB := tb_6 (i := 62) rfl rfl
set_option maxRecDepth 100000 in
theorem q_1263 : Cond.instanceMethod yX9_trace ∈ TB := tb_6 (i := 63) rfl rfl
set_option maxRecDepth 100000 in
theorem q_1264 : Cond.selects RX9 yX9_trace yX9_trace ∈ TB := tb_6 (i := 64) rfl rfl
set_option maxRecDepth 100000 in
theorem q_1265 : Cond.code yX9_trace prog_11_method_77_code 2 (Option.some Jvm.ClassFile.FieldType.int) ∈ TB := tb_6 (i := 65) rfl rfl
set_option maxRecDepth 100000 in
theorem q_1266 : Cond.methodLink RL 136 yX9_sheet ∈ TB := tb_6 (i := 66) rfl rfl
set_option maxRecDepth 100000 in
theorem q_1267 : Cond.instanceMethod yX9_sheet ∈ TB := tb_6 (i := 67) rfl rfl
set_option maxRecDepth 100000 in
theorem q_1268 : Cond.selects RX9 yX9_sheet yX9_sheet ∈ TB := tb_6 (i := 68) rfl rfl
set_option maxRecDepth 100000 in
theorem q_1269 : Cond.code yX9_sheet prog_11_method_79_code 5 (Option.some Jvm.ClassFile.FieldType.int) ∈ TB := tb_6 (i := 69) rfl rfl
set_option maxRecDepth 100000 in
theorem q_1270 : Cond.methodLink RX9 276 yX9_isSheet ∈ TB := tb_6 (i := 70) rfl rfl
set_option maxRecDepth 100000 in
theorem q_1271 : Cond.static yX9_isSheet ∈ TB := tb_6 (i := 71) rfl rfl
set_option maxRecDepth 100000 in
theorem q_1272 : Cond.code yX9_isSheet prog_11_method_78_code 1 (Option.some Jvm.ClassFile.FieldType.boolean) ∈ TB := tb_6 (i := 72) rfl rfl
set_option maxRecDepth 100000 in
theorem q_1273 : Cond.methodLink RL 140 yX9_put ∈ TB := tb_6 (i := 73) rfl rfl
set_option maxRecDepth 100000 in
theorem q_1274 : Cond.instanceMethod yX9_put ∈ TB := tb_6 (i := 74) rfl rfl
set_option maxRecDepth 100000 in
theorem q_1275 : Cond.selects RX9 yX9_put yX9_put ∈ TB := tb_6 (i := 75) rfl rfl
set_option maxRecDepth 100000 in
theorem q_1276 : Cond.code yX9_put prog_11_method_80_code 4 (Option.some Jvm.ClassFile.FieldType.int) ∈ TB := tb_6 (i := 76) rfl rfl
set_option maxRecDepth 100000 in
theorem q_1277 : Cond.methodLink RL 144 yX9_move ∈ TB := tb_6 (i := 77) rfl rfl
set_option maxRecDepth 100000 in
theorem q_1278 : Cond.instanceMethod yX9_move ∈ TB := tb_6 (i := 78) rfl rfl
set_option maxRecDepth 100000 in
theorem q_1279 : Cond.selects RX9 yX9_move yX9_move ∈ TB := tb_6 (i := 79) rfl rfl
set_option maxRecDepth 100000 in
theorem q_1280 : Cond.code yX9_move prog_11_method_81_code 7 (Option.some Jvm.ClassFile.FieldType.int) ∈ TB := tb_6 (i := 80) rfl rfl
set_option maxRecDepth 100000 in
theorem q_1281 : Cond.methodLink RL 148 yX9_years ∈ TB := tb_6 (i := 81) rfl rfl
set_option maxRecDepth 100000 in
theorem q_1282 : Cond.instanceMethod yX9_years ∈ TB := tb_6 (i := 82) rfl rfl
set_option maxRecDepth 100000 in
theorem q_1283 : Cond.selects RX9 yX9_years yX9_years ∈ TB := tb_6 (i := 83) rfl rfl
set_option maxRecDepth 100000 in
theorem q_1284 : Cond.code yX9_years prog_11_method_82_code 4 (Option.some Jvm.ClassFile.FieldType.int) ∈ TB := tb_6 (i := 84) rfl rfl
set_option maxRecDepth 100000 in
theorem q_1285 : Cond.methodLink RL 152 yX9_judge ∈ TB := tb_6 (i := 85) rfl rfl
set_option maxRecDepth 100000 in
theorem q_1286 : Cond.instanceMethod yX9_judge ∈ TB := tb_6 (i := 86) rfl rfl
set_option maxRecDepth 100000 in
theorem q_1287 : Cond.selects RX9 yX9_judge yX9_judge ∈ TB := tb_6 (i := 87) rfl rfl
set_option maxRecDepth 100000 in
theorem q_1288 : Cond.code yX9_judge prog_11_method_83_code 5 (Option.some Jvm.ClassFile.FieldType.int) ∈ TB := tb_6 (i := 88) rfl rfl
set_option maxRecDepth 100000 in
theorem q_1289 : Cond.methodLink RL 157 yX9_image ∈ TB := tb_6 (i := 89) rfl rfl
set_option maxRecDepth 100000 in
theorem q_1290 : Cond.instanceMethod yX9_image ∈ TB := tb_6 (i := 90) rfl rfl
set_option maxRecDepth 100000 in
theorem q_1291 : Cond.selects RX9 yX9_image yX9_image ∈ TB := tb_6 (i := 91) rfl rfl
set_option maxRecDepth 100000 in
theorem q_1292 : Cond.code yX9_image prog_11_method_84_code 1 (Option.some Jvm.ClassFile.FieldType.int) ∈ TB := tb_6 (i := 92) rfl rfl
set_option maxRecDepth 100000 in
theorem q_1293 : Cond.methodLink RL 161 yX9_restore ∈ TB := tb_6 (i := 93) rfl rfl
set_option maxRecDepth 100000 in
theorem q_1294 : Cond.instanceMethod yX9_restore ∈ TB := tb_6 (i := 94) rfl rfl
set_option maxRecDepth 100000 in
theorem q_1295 : Cond.selects RX9 yX9_restore yX9_restore ∈ TB := tb_6 (i := 95) rfl rfl
set_option maxRecDepth 100000 in
theorem q_1296 : Cond.code yX9_restore prog_11_method_85_code 1 (Option.some Jvm.ClassFile.FieldType.int) ∈ TB := tb_6 (i := 96) rfl rfl
set_option maxRecDepth 100000 in
theorem q_1297 : Cond.methodLink RL 165 yX9_tell ∈ TB := tb_6 (i := 97) rfl rfl
set_option maxRecDepth 100000 in
theorem q_1298 : Cond.instanceMethod yX9_tell ∈ TB := tb_6 (i := 98) rfl rfl
set_option maxRecDepth 100000 in
theorem q_1299 : Cond.selects RX9 yX9_tell yX9_tell ∈ TB := tb_6 (i := 99) rfl rfl
set_option maxRecDepth 100000 in
theorem q_1300 : Cond.code yX9_tell prog_11_method_86_code 2 (Option.some Jvm.ClassFile.FieldType.int) ∈ TB := tb_6 (i := 100) rfl rfl
set_option maxRecDepth 100000 in
theorem q_1301 : Cond.methodLink RL 169 yX9_check ∈ TB := tb_6 (i := 101) rfl rfl
set_option maxRecDepth 100000 in
theorem q_1302 : Cond.instanceMethod yX9_check ∈ TB := tb_6 (i := 102) rfl rfl
set_option maxRecDepth 100000 in
theorem q_1303 : Cond.selects RX9 yX9_check yX9_check ∈ TB := tb_6 (i := 103) rfl rfl
set_option maxRecDepth 100000 in
theorem q_1304 : Cond.code yX9_check prog_11_method_87_code 6 (Option.some Jvm.ClassFile.FieldType.int) ∈ TB := tb_6 (i := 104) rfl rfl
set_option maxRecDepth 100000 in
theorem q_1305 : Cond.methodLink RL 173 yX9_count ∈ TB := tb_6 (i := 105) rfl rfl
set_option maxRecDepth 100000 in
theorem q_1306 : Cond.instanceMethod yX9_count ∈ TB := tb_6 (i := 106) rfl rfl
set_option maxRecDepth 100000 in
theorem q_1307 : Cond.selects RX9 yX9_count yX9_count ∈ TB := tb_6 (i := 107) rfl rfl
set_option maxRecDepth 100000 in
theorem q_1308 : Cond.code yX9_count prog_11_method_88_code 2 (Option.some Jvm.ClassFile.FieldType.int) ∈ TB := tb_6 (i := 108) rfl rfl
set_option maxRecDepth 100000 in
theorem q_1309 : Cond.methodLink RL 177 yX9_told ∈ TB := tb_6 (i := 109) rfl rfl
set_option maxRecDepth 100000 in
theorem q_1310 : Cond.instanceMethod yX9_told ∈ TB := tb_6 (i := 110) rfl rfl
set_option maxRecDepth 100000 in
theorem q_1311 : Cond.selects RX9 yX9_told yX9_told ∈ TB := tb_6 (i := 111) rfl rfl
set_option maxRecDepth 100000 in
theorem q_1312 : Cond.code yX9_told prog_11_method_89_code 2 (Option.some Jvm.ClassFile.FieldType.int) ∈ TB := tb_6 (i := 112) rfl rfl
set_option maxRecDepth 100000 in
theorem q_1313 : Cond.constantLong RL 56 4294967295 ∈ TB := tb_6 (i := 113) rfl rfl
set_option maxRecDepth 100000 in
theorem q_1314 : Cond.fieldLink RJ0 15 RJ0 "coder" "B" ∈ TB := tb_6 (i := 114) rfl rfl
set_option maxRecDepth 100000 in
theorem q_1315 : Cond.fieldLink RJ0 9 RJ0 "value" "[B" ∈ TB := tb_6 (i := 115) rfl rfl
set_option maxRecDepth 100000 in
theorem qs_0 : Cond.selects RX8 yX8_refuse yX8_refuse ∈ TB := tb_0 (i := 0) rfl rfl
set_option maxRecDepth 100000 in
theorem qs_1 : Cond.selects RX1 yX1_workOut yX1_workOut ∈ TB := tb_0 (i := 1) rfl rfl
set_option maxRecDepth 100000 in
theorem qs_2 : Cond.selects RX6 yX6_plainPace yX6_plainPace ∈ TB := tb_0 (i := 2) rfl rfl
set_option maxRecDepth 100000 in
theorem qs_3 : Cond.selects RX3 yX3_readAny yX3_readAny ∈ TB := tb_0 (i := 3) rfl rfl
set_option maxRecDepth 100000 in
theorem qs_4 : Cond.selects RX3 yX3_readAll yX3_readAll ∈ TB := tb_0 (i := 4) rfl rfl
set_option maxRecDepth 100000 in
theorem qs_5 : Cond.selects RX3 yX3_readComparison yX3_readComparison ∈ TB := tb_0 (i := 5) rfl rfl
set_option maxRecDepth 100000 in
theorem qs_6 : Cond.selects RX3 yX3_readSum yX3_readSum ∈ TB := tb_0 (i := 6) rfl rfl
set_option maxRecDepth 100000 in
theorem qs_7 : Cond.selects RX3 yX3_readProduct yX3_readProduct ∈ TB := tb_0 (i := 7) rfl rfl
set_option maxRecDepth 100000 in
theorem qs_8 : Cond.selects RX3 yX3_readPart yX3_readPart ∈ TB := tb_0 (i := 8) rfl rfl
set_option maxRecDepth 100000 in
theorem qs_9 : Cond.selects RX3 yX3_next yX3_next ∈ TB := tb_0 (i := 9) rfl rfl
set_option maxRecDepth 100000 in
theorem qs_10 : Cond.selects RX3 yX3_readNumber yX3_readNumber ∈ TB := tb_0 (i := 10) rfl rfl
set_option maxRecDepth 100000 in
theorem qs_11 : Cond.selects RX3 yX3_add yX3_add ∈ TB := tb_0 (i := 11) rfl rfl
set_option maxRecDepth 100000 in
theorem qs_12 : Cond.selects RX3 yX3_readNot yX3_readNot ∈ TB := tb_0 (i := 12) rfl rfl
set_option maxRecDepth 100000 in
theorem qs_13 : Cond.selects RX3 yX3_readBracket yX3_readBracket ∈ TB := tb_0 (i := 13) rfl rfl
set_option maxRecDepth 100000 in
theorem qs_14 : Cond.selects RX5 yX5_begin yX5_begin ∈ TB := tb_0 (i := 14) rfl rfl
set_option maxRecDepth 100000 in
theorem qs_15 : Cond.selects RX5 yX5_gap yX5_gap ∈ TB := tb_0 (i := 15) rfl rfl
set_option maxRecDepth 100000 in
theorem qs_16 : Cond.selects RX8 yX8_whyNoYear yX8_whyNoYear ∈ TB := tb_0 (i := 16) rfl rfl
set_option maxRecDepth 100000 in
theorem qs_17 : Cond.selects RX8 yX8_letYearGoBy yX8_letYearGoBy ∈ TB := tb_0 (i := 17) rfl rfl
set_option maxRecDepth 100000 in
theorem qs_18 : Cond.selects RX2 yX2_tryLanes yX2_tryLanes ∈ TB := tb_0 (i := 18) rfl rfl
set_option maxRecDepth 100000 in
theorem qs_19 : Cond.selects RX2 yX2_setLane yX2_setLane ∈ TB := tb_0 (i := 19) rfl rfl
set_option maxRecDepth 100000 in
theorem qs_20 : Cond.selects RX2 yX2_meetsAt yX2_meetsAt ∈ TB := tb_0 (i := 20) rfl rfl
set_option maxRecDepth 100000 in
theorem qs_21 : Cond.selects RX8 yX8_worstPlaceIn yX8_worstPlaceIn ∈ TB := tb_0 (i := 21) rfl rfl
set_option maxRecDepth 100000 in
theorem qs_22 : Cond.selects RX8 yX8_meetInLane yX8_meetInLane ∈ TB := tb_0 (i := 22) rfl rfl
set_option maxRecDepth 100000 in
theorem qs_23 : Cond.selects RX7 yX7_say yX7_say ∈ TB := tb_0 (i := 23) rfl rfl
set_option maxRecDepth 100000 in
theorem qs_24 : Cond.selects RX7 yX7_note yX7_note ∈ TB := tb_0 (i := 24) rfl rfl
set_option maxRecDepth 100000 in
theorem qs_25 : Cond.selects RX8 yX8_sheetAt yX8_sheetAt ∈ TB := tb_0 (i := 25) rfl rfl
set_option maxRecDepth 100000 in
theorem qs_26 : Cond.selects RX9 yX9_finds yX9_finds ∈ TB := tb_0 (i := 26) rfl rfl
set_option maxRecDepth 100000 in
theorem qs_27 : Cond.selects RX9 yX9_reads yX9_reads ∈ TB := tb_0 (i := 27) rfl rfl
set_option maxRecDepth 100000 in
theorem qs_28 : Cond.selects RX9 yX9_either yX9_either ∈ TB := tb_0 (i := 28) rfl rfl
set_option maxRecDepth 100000 in
theorem qs_29 : Cond.selects RX9 yX9_both yX9_both ∈ TB := tb_0 (i := 29) rfl rfl
set_option maxRecDepth 100000 in
theorem qs_30 : Cond.selects RX9 yX9_compared yX9_compared ∈ TB := tb_0 (i := 30) rfl rfl
set_option maxRecDepth 100000 in
theorem qs_31 : Cond.selects RX9 yX9_sum yX9_sum ∈ TB := tb_0 (i := 31) rfl rfl
set_option maxRecDepth 100000 in
theorem qs_32 : Cond.selects RX9 yX9_product yX9_product ∈ TB := tb_0 (i := 32) rfl rfl
set_option maxRecDepth 100000 in
theorem qs_33 : Cond.selects RX9 yX9_unit yX9_unit ∈ TB := tb_0 (i := 33) rfl rfl
set_option maxRecDepth 100000 in
theorem qs_34 : Cond.selects RX9 yX9_here yX9_here ∈ TB := tb_0 (i := 34) rfl rfl
set_option maxRecDepth 100000 in
theorem qs_35 : Cond.selects RX9 yX9_opens yX9_opens ∈ TB := tb_0 (i := 35) rfl rfl
set_option maxRecDepth 100000 in
theorem qs_36 : Cond.selects RX9 yX9_wrong yX9_wrong ∈ TB := tb_0 (i := 36) rfl rfl
set_option maxRecDepth 100000 in
theorem qs_37 : Cond.selects RX9 yX9_lay yX9_lay ∈ TB := tb_0 (i := 37) rfl rfl
set_option maxRecDepth 100000 in
theorem qs_38 : Cond.selects RX9 yX9_takes yX9_takes ∈ TB := tb_0 (i := 38) rfl rfl
set_option maxRecDepth 100000 in
theorem qs_39 : Cond.selects RX9 yX9_nameOf yX9_nameOf ∈ TB := tb_0 (i := 39) rfl rfl
set_option maxRecDepth 100000 in
theorem qs_40 : Cond.selects RX9 yX9_gives yX9_gives ∈ TB := tb_0 (i := 40) rfl rfl
set_option maxRecDepth 100000 in
theorem qs_41 : Cond.selects RX9 yX9_worked yX9_worked ∈ TB := tb_0 (i := 41) rfl rfl
set_option maxRecDepth 100000 in
theorem qs_42 : Cond.selects RX9 yX9_flowOf yX9_flowOf ∈ TB := tb_0 (i := 42) rfl rfl
set_option maxRecDepth 100000 in
theorem qs_43 : Cond.selects RX9 yX9_becomes yX9_becomes ∈ TB := tb_0 (i := 43) rfl rfl
set_option maxRecDepth 100000 in
theorem qs_44 : Cond.selects RX9 yX9_isSwimmer yX9_isSwimmer ∈ TB := tb_0 (i := 44) rfl rfl
set_option maxRecDepth 100000 in
theorem qs_45 : Cond.selects RX9 yX9_of yX9_of ∈ TB := tb_0 (i := 45) rfl rfl
set_option maxRecDepth 100000 in
theorem qs_46 : Cond.selects RX9 yX9_paceOf yX9_paceOf ∈ TB := tb_0 (i := 46) rfl rfl
set_option maxRecDepth 100000 in
theorem qs_47 : Cond.selects RX9 yX9_goes yX9_goes ∈ TB := tb_0 (i := 47) rfl rfl
set_option maxRecDepth 100000 in
theorem qs_48 : Cond.selects RX9 yX9_laneOf yX9_laneOf ∈ TB := tb_0 (i := 48) rfl rfl
set_option maxRecDepth 100000 in
theorem qs_49 : Cond.selects RX9 yX9_areUnlike yX9_areUnlike ∈ TB := tb_0 (i := 49) rfl rfl
set_option maxRecDepth 100000 in
theorem qs_50 : Cond.selects RX9 yX9_swim yX9_swim ∈ TB := tb_0 (i := 50) rfl rfl
set_option maxRecDepth 100000 in
theorem qs_51 : Cond.selects RX9 yX9_aYear yX9_aYear ∈ TB := tb_0 (i := 51) rfl rfl
set_option maxRecDepth 100000 in
theorem qs_52 : Cond.selects RX9 yX9_drawn yX9_drawn ∈ TB := tb_0 (i := 52) rfl rfl
set_option maxRecDepth 100000 in
theorem qs_53 : Cond.selects RX9 yX9_goesBy yX9_goesBy ∈ TB := tb_0 (i := 53) rfl rfl
set_option maxRecDepth 100000 in
theorem qs_54 : Cond.selects RX9 yX9_plans yX9_plans ∈ TB := tb_0 (i := 54) rfl rfl
set_option maxRecDepth 100000 in
theorem qs_55 : Cond.selects RX9 yX9_endOf yX9_endOf ∈ TB := tb_0 (i := 55) rfl rfl
set_option maxRecDepth 100000 in
theorem qs_56 : Cond.selects RX9 yX9_changeSides yX9_changeSides ∈ TB := tb_0 (i := 56) rfl rfl
set_option maxRecDepth 100000 in
theorem qs_57 : Cond.selects RX9 yX9_own yX9_own ∈ TB := tb_0 (i := 57) rfl rfl
set_option maxRecDepth 100000 in
theorem qs_58 : Cond.selects RX9 yX9_swims yX9_swims ∈ TB := tb_0 (i := 58) rfl rfl
set_option maxRecDepth 100000 in
theorem qs_59 : Cond.selects RX9 yX9_ran yX9_ran ∈ TB := tb_0 (i := 59) rfl rfl
set_option maxRecDepth 100000 in
theorem qs_60 : Cond.selects RX9 yX9_breathes yX9_breathes ∈ TB := tb_0 (i := 60) rfl rfl
set_option maxRecDepth 100000 in
theorem qs_61 : Cond.selects RX9 yX9_tires yX9_tires ∈ TB := tb_0 (i := 61) rfl rfl
set_option maxRecDepth 100000 in
theorem qs_62 : Cond.selects RX9 yX9_tells yX9_tells ∈ TB := tb_0 (i := 62) rfl rfl
set_option maxRecDepth 100000 in
theorem inX0 : ∀ w ∈ wsX00, w ∈ TB := tb_ws wsX00 [181, 183, 185, 187, 189, 191, 193, 195, 197, 199, 201, 203, 205, 207, 209, 211] (by decide +kernel) (by decide +kernel)
set_option maxRecDepth 100000 in
theorem inX1 : ∀ w ∈ wsX10, w ∈ TB := tb_ws wsX10 [107, 109, 111, 113] (by decide +kernel) (by decide +kernel)
set_option maxRecDepth 100000 in
theorem inX2 : ∀ w ∈ wsX20, w ∈ TB := tb_ws wsX20 [289, 291, 293, 295, 297, 299, 301, 303] (by decide +kernel) (by decide +kernel)
set_option maxRecDepth 100000 in
theorem inX3 : ∀ w ∈ wsX30, w ∈ TB := tb_ws wsX30 [229, 231, 233, 235, 237, 239] (by decide +kernel) (by decide +kernel)
set_option maxRecDepth 100000 in
theorem inX4 : ∀ w ∈ wsX40, w ∈ TB := tb_ws wsX40 [345, 347, 349] (by decide +kernel) (by decide +kernel)
set_option maxRecDepth 100000 in
theorem inX5 : ∀ w ∈ wsX50, w ∈ TB := tb_ws wsX50 [258, 260, 262, 264, 266, 268] (by decide +kernel) (by decide +kernel)
set_option maxRecDepth 100000 in
theorem inX6 : ∀ w ∈ wsX60, w ∈ TB := tb_ws wsX60 [139, 141, 143, 145, 147, 149] (by decide +kernel) (by decide +kernel)
set_option maxRecDepth 100000 in
theorem inX7 : ∀ w ∈ wsX70, w ∈ TB := tb_ws wsX70 [319, 321, 323, 325, 327] (by decide +kernel) (by decide +kernel)
set_option maxRecDepth 100000 in
theorem inX8 : ∀ w ∈ wsX80, w ∈ TB := tb_ws wsX80 [363, 365, 367, 369, 371, 373, 375, 377, 379, 381, 383] (by decide +kernel) (by decide +kernel)
set_option maxRecDepth 100000 in
theorem inX9 : ∀ w ∈ wsX90, w ∈ TB := tb_ws wsX90 [969, 971, 973, 975, 977, 979, 981, 983, 985, 987, 989, 991, 993, 995, 997, 999, 1001, 1003, 1005, 1007, 1009, 1011, 1013, 1015] (by decide +kernel) (by decide +kernel)
end
section
/-! The abstract store, the world that it stands for, and the judgement Sm: one row an instruction. -/
def K0L : List Nat := [8, 0, 20, 21, 1, 20, 20, 1, 20, 20, 20, 20, 6, 20, 6, 20, 6, 20, 6, 20, 6, 20, 6, 20, 6, 20, 6, 20, 0, 20, 21, 1, 20, 20, 1, 20, 20, 20, 20, 6, 20, 6, 20, 6, 20, 6, 20, 6, 20, 6, 20, 6, 20, 6, 20, 3, 20, 20, 5, 20, 2, 20, 6, 20, 20, 7, 20, 21, 20, 6, 20, 6, 20, 4, 20, 4, 20, 4, 20, 4, 20, 9, 20, 20, 20, 20, 20, 20, 20, 20, 20, 20, 20, 20]
def K0 (k : Nat) : Nat := K0L.getD k 99
def Ln0L : List Nat := [0, 0, 6, 8, 0, 50, 50, 0, 50, 50, 50, 20, 0, 4, 0, 4, 0, 4, 0, 4, 0, 4, 0, 4, 0, 4, 0, 4, 0, 6, 8, 0, 50, 50, 0, 50, 50, 50, 20, 0, 4, 0, 4, 0, 4, 0, 4, 0, 4, 0, 4, 0, 4, 0, 4, 0, 50, 50, 0, 6, 0, 4, 0, 4, 60, 0, 40, 4, 6, 0, 4, 0, 4, 0, 40, 0, 40, 0, 40, 0, 40, 0, 270, 270, 270, 6, 3, 60, 60, 40, 4, 4, 160, 40]
def Ln0 (k : Nat) : Nat := Ln0L.getD k 0
def R0L : List (List (Option Nat)) := [[some 1, some 28, some 55, some 58, some 60, some 65, some 67, some 68, some 69, some 71, none], [some 2, none, none, none, none, none, none, some 3, none, some 4, some 7, some 10, none, some 11, none, none], [], [some 12, some 14, some 16, some 18, some 20, some 22, some 24, some 26], [none, some 5, some 6, none], [], [], [none, some 8, some 9, none], [], [], [], [], [none, none, none, none, none, some 13], [], [none, none, none, none, none, some 15], [], [none, none, none, none, none, some 17], [], [none, none, none, none, none, some 19], [], [none, none, none, none, none, some 21], [], [none, none, none, none, none, some 23], [], [none, none, none, none, none, some 25], [], [none, none, none, none, none, some 27], [], [some 29, none, none, none, none, none, none, some 30, none, some 31, some 34, some 37, none, some 38, none, none], [], [some 39, some 41, some 43, some 45, some 47, some 49, some 51, some 53], [none, some 32, some 33, none], [], [], [none, some 35, some 36, none], [], [], [], [], [none, none, none, none, none, some 40], [], [none, none, none, none, none, some 42], [], [none, none, none, none, none, some 44], [], [none, none, none, none, none, some 46], [], [none, none, none, none, none, some 48], [], [none, none, none, none, none, some 50], [], [none, none, none, none, none, some 52], [], [none, none, none, none, none, some 54], [], [some 56, none, some 57, none, none, none], [], [], [some 59, none, none, none, none, none], [], [none, none, some 61, some 62, some 64, none, none, none], [], [none, none, none, none, none, some 63], [], [], [some 66, none, none, none, none], [], [some 73, some 75, some 77, some 79], [], [none, none, none, none, none, some 70], [], [none, none, none, none, none, some 72], [], [some 74, none, none], [], [some 76, none, none], [], [some 78, none, none], [], [some 80, none, none], [], [some 82, some 83, some 84, none, some 85, none, none, none, none, none, none, some 86, some 87, none, some 88, none, none, some 89, none, none, some 90, some 91, some 92, some 93], [], [], [], [], [], [], [], [], [], [], [], []]
def R0 (k j : Nat) : Option Nat := (R0L.getD k []).getD j none
def A0 (k j : Nat) : Nat := (R0 k j).getD 0
def FTL : List (List Nat) := [[1, 0, 0, 0, 0, 0, 0, 1, 0, 1, 1, 1, 0, 1, 0, 0], [0, 1, 1, 0], [0, 0, 1, 1, 1, 2, 2, 0], [1, 0, 1, 0, 0, 2], [1, 0, 0], [1, 0, 0, 0, 0, 0], [0, 0, 0, 0, 0, 1], [1, 0, 0, 0, 0], [1, 1, 1, 1, 1, 1, 1, 1, 1, 1, 0], [1, 1, 1, 0, 1, 0, 0, 0, 0, 0, 0, 1, 1, 0, 1, 0, 0, 1, 0, 0, 1, 1, 1, 1]]
def FT (c : Nat) : List Nat := FTL.getD c []
abbrev NC : Nat := 94
def abvL : List Int32 := [-1, 0, 0, 0, 1, 2, 3]
def abv (j : Nat) : Int32 := abvL.getD j 0
def bodL : List Int32 := [10, 11, 12, 13, 0, 20, 0, 0, 30, 0, 0, 0, 0, 0, 40, 0, 0, 50, 0, 0, 0, 0, 0, 60, 0, 0, 70, 71]
def bod (j : Nat) : Int32 := bodL.getD j 0
def sLen : List Nat := [0, 3, 3]
def sByt : List (List Int32) := [[], [99, 119, 108], [98, 121, 119]]
abbrev Sto : Type := (Nat → Nat → Int32) × (Nat → Nat → Option Nat)
def sI (σ : Sto) (k j : Nat) (v : Int32) : Sto := (fun a b => if a = k ∧ b = j then v else σ.1 a b, σ.2)
def sR (σ : Sto) (k j : Nat) (v : Option Nat) : Sto := (σ.1, fun a b => if a = k ∧ b = j then v else σ.2 a b)
def sW (σ : Sto) (k : Nat) (f : Nat → Int32) : Sto := (fun a b => if a = k then f b else σ.1 a b, σ.2)
/-- class tables, class ids of the arrays, addresses, the first address -/
abbrev GT : Type := va_G × (Nat → ClassId) × (Nat → Nat) × Nat
abbrev gD (G : GT) : va_G := G.1
abbrev gy (G : GT) : Nat → ClassId := G.2.1
abbrev gad (G : GT) : Nat → Nat := G.2.2.1
abbrev gb (G : GT) : Nat := G.2.2.2
def smA (G : GT) : Nat → Prop := fun q => gb G ≤ q
def tys (G : GT) : List (ClassId × FieldType) := [(gy G 0, .int), (gy G 1, .object "LakeSwimmers$Swimmer"), (gy G 2, .object "LakeSwimmers$Sheet")]
def fv (G : GT) (σ : Sto) (k j t : Nat) : Value := if t = 0 then .int (σ.1 k j) else if t = 1 then va_re (gad G) (R0 k j) else va_re (gad G) (σ.2 k j)
def fl (G : GT) (σ : Sto) (k c : Nat) : List Value := (FT c).mapIdx (fun j t => fv G σ k j t)
def ce (G : GT) (σ : Sto) (k : Nat) : va_E := if K0 k < 10 then .inr (K0 k, fl G σ k (K0 k)) else if K0 k = 20 then .inl (gy G 0, Ln0 k, .inl (σ.1 k)) else .inl (gy G (K0 k - 20), Ln0 k, .inr (.inr (.inr (.inr (fun j => (R0 k j).map (gad G))))))
def wl (G : GT) (σ : Sto) : va_W := (List.range NC).map (fun k => (gad G k, ce G σ k))
def NW : List Cond := [Cond.methodLinkNest RX0 70 yX6_init RX8, Cond.methodLinkNest RX8 21 yX3_init RX8, Cond.methodLinkNest RX8 28 yX5_init RX8, Cond.methodLinkNest RX8 35 yX2_init RX8, Cond.methodLinkNest RX2 25 yX6_init RX8, Cond.methodLinkNest RX8 42 yX7_init RX8, Cond.methodLinkNest RX8 59 yX6_init RX8, Cond.methodLinkNest RX8 71 yX4_init RX8, Cond.methodLinkNest RX0 71 yX8_isOutside RX8, Cond.methodLinkNest RX1 41 yX8_heldWithin RX8, Cond.methodLinkNest RX5 37 yX8_isOutside RX8, Cond.methodLinkNest RX5 56 yX8_heldWithin RX8, Cond.methodLinkNest RX2 43 yX8_isOutside RX8, Cond.methodLinkNest RX2 91 yX8_isBetter RX8, Cond.methodLinkNest RX7 44 yX8_isOutside RX8, Cond.fieldLinkNest RX7 51 RX8 "ABOVE" "[I" RX8, Cond.methodLinkNest RX4 22 yX8_heldWithin RX8, Cond.methodLinkNest RX4 26 yX8_isOutside RX8]
def sA : List (Nat × String) := [(28, ""), (46, "cwl"), (48, "byw")]
/-- what stays, of the machine's start: the nest mates' links, the static rows, the texts -/
def SF (G : GT) (U : State) : Prop :=
  (∀ w ∈ NW, va_Nw w U) ∧ va_AO "LakeSwimmers$Swimmer" U ∧ va_AO "LakeSwimmers$Sheet" U ∧
  va_Z "LakeSwimmers" "ABOVE" "[I" (.ref (gad G 1001)) (smA G) U U.heap ∧ va_T .int (gad G 1001) 7 (fun j => .int (abv j)) (smA G) U U.heap ∧
  va_Z "LakeSwimmers$Voices" "BODIES" "[I" (.ref (gad G 1002)) (smA G) U U.heap ∧ va_T .int (gad G 1002) 28 (fun j => .int (bod j)) (smA G) U U.heap ∧
  va_Z "java/lang/String" "COMPACT_STRINGS" "Z" (.int 1) (smA G) U U.heap ∧
  (∀ q ∈ sA.zipIdx, vk_R RX3 q.1.1 q.1.2 (gad G (1003 + q.2)) U) ∧ vk_S 3 sLen sByt (fun i => gad G (1003 + i)) (fun i => gad G (1006 + i)) (smA G) U U.heap
def Sz (G : GT) (ws : va_W) (H : Heap) : Prop := ws.length < NC → H.size = gb G + ws.length
def WV (G : GT) (ws : va_W) (U : State) : Prop := Sz G ws U.heap ∧ va_P (gD G) vwCl ws U.heap ∧ va_D (smA G) ws ∧ va_K (gD G) vwCl (tys G) U ∧ SF G U
theorem SF.to {G : GT} {s U : State} (h : SF G s) (hW : s.WarmedH U.vm) (hk : ∀ q : Nat, q < s.heap.size → ¬ smA G q → U.heap[q]? = s.heap[q]?) : SF G U := by
  obtain ⟨h1, h2, h3, h4, h5, h6, h7, h8, h9, h10⟩ := h
  have hvm := hW.alike
  refine ⟨fun w hw => ?_, h2.moved hvm, h3.moved hvm, (h4.moved hvm).kept hk, (h5.moved hvm).kept hk, (h6.moved hvm).kept hk, (h7.moved hvm).kept hk, (h8.moved hvm).kept hk, fun q hq => (h9 q hq).warm hW, (h10.moved hvm).kept hk⟩
  have h := h1 w hw
  simp only [NW, List.mem_cons, List.not_mem_nil, or_false] at hw
  rcases hw with rfl | rfl | rfl | rfl | rfl | rfl | rfl | rfl | rfl | rfl | rfl | rfl | rfl | rfl | rfl | rfl | rfl | rfl <;> first | exact va_Nw.warmM hW h | exact va_Nw.warmF hW h
theorem WV.blind {G : GT} {ws : va_W} (av : List Value) : FrameBlind (va_Pc av (WV G ws)) := by
  intro a U g mk q
  obtain ⟨q0, q1, q2, q3, q4, q5⟩ := q
  exact ⟨q0, q1, q2, q3, va_K.moved (u := U) (U := U.calling g mk a) (Vm.Alike.refl U.vm) q4, q5.to (State.WarmedH.refl U) (fun _ _ _ => rfl)⟩
theorem WV.base {G : GT} {ws : va_W} {U : State} (h : WV G ws U) : gb G ≤ U.heap.size := by
  obtain ⟨h1, h2, h3, -⟩ := h
  by_cases hl : ws.length < NC
  · have := h1 hl; omega
  · have hne : 0 < ws.length := by simp only [NC] at hl; omega
    have hc : ws[0]? = some ws[0] := by simp [hne]
    exact Nat.le_trans (h3.2 0 _ hc) (Nat.le_of_lt (h2 0 _ hc).lt)
/-- where a method's body stands -/
def Cx (p : Program) (s : State) (m : MethodId) (args : Array Value) (meth : Method) (c : Code) (cc : ByteArray) (nL : Nat) (own : String) (G : GT) : Prop :=
  p.tables.exec = Jvm.exec ∧ c.code = cc ∧ c.maxLocals = nL ∧ meth.locks = false ∧ (∀ w ∈ TB, w.before args s = true) ∧ s.vm.findClass own = some m.cls ∧ va_K (gD G) vwCl (tys G) s ∧ SF G s ∧ gb G ≤ s.heap.size
def Sm {α : Type} (p : Program) (l : Launch) (e : Env) (R : Room) (s : State) (m : MethodId) (args : Array Value) (below : List Frame) (meth : Method) (c : Code) (G : GT) (nL : Nat) (Q : α → State → Prop) (cells slots : Nat) (ws : va_W) (pc : Nat) (L : List (Nat × Value)) (st : List Value) (o : Option α) : Prop :=
  ∀ a, o = some a → ∀ (H : Heap) (locs : List Loc) (ls : Array Slot), Sz G ws H → va_P (gD G) vwCl ws H → va_D (smA G) ws → va_S (smA G) s.heap H locs → lv_has ls nL L → W p l e R s m args below meth c H locs cells slots (Q a) (F0 m pc ls st)
/-- a method's contract: from the world ws, by these values, it answers rv and leaves the world ws' -/
def MW (l : Launch) (G : GT) (fr lo mc ms : Nat) (y : MethodName) (cc : ByteArray) (nL : Nat) (ret : Option FieldType) (av : List Value) (ws : va_W) (rv : Option Value) (ws' : va_W) : Prop :=
  Met l y (Cond.code y cc nL ret :: TB) { frames := fr, cells := mc, slots := ms, locals := lo } (va_Pc av (WV G ws)) (fun _ st oc t => oc = .returned rv ∧ WV G ws' t ∧ va_F (smA G) st t) mc ms (smA G)
def Qm {α : Type} (below : List Frame) (args : Array Value) (s : State) (G : GT) (mc ms : Nat) (fin : α → Option Value × va_W) (a : α) : State → Prop :=
  MQ below (fun _ st oc t => oc = .returned (fin a).1 ∧ WV G (fin a).2 t ∧ va_F (smA G) st t) args s mc ms (smA G)
theorem mw_of {l : Launch} {G : GT} {fr lo mc ms : Nat} {y : MethodName} {cc : ByteArray} {nL : Nat} {ret : Option FieldType} {av : List Value} {ws ws' : va_W} {rv : Option Value} {α : Type} (own : String) (fin : α → Option Value × va_W) (L0 : List (Nat × Value)) (hy : plainName y.cls = true) (ho : y.cls = own) (hlen : (lg_sl av).length ≤ nL) (hL : lv_args 0 av = L0) {o : Option α} {a : α} (ha : o = some a) (hf : fin a = (rv, ws'))
    (body : ∀ (p : Program) (e : Env) (s : State) (m : MethodId) (args : Array Value) (below : List Frame) (meth : Method) (c : Code), Cx p s m args meth c cc nL own G → meth.sig.returnType = ret → meth.name = y.name → Sm p l e { frames := fr, cells := mc, slots := ms, locals := lo } s m args below meth c G nL (Qm below args s G mc ms fin) 0 0 ws 0 L0 [] o) : MW l G fr lo mc ms y cc nL ret av ws rv ws' := by
  refine Met.ofW (cc := cc) (maxL := nL) (ret := ret) hy rfl ?_
  intro p e s m args below meth c s₁ B hml hv
  obtain ⟨rfl, hsz, hP, hD, hK, hF⟩ := hv
  have hts := atoms_spec (ws := Cond.code y cc nL ret :: TB) B.pre
  have hown : s.vm.findClass own = some m.cls := ho ▸ findClass_of_methodNamed B.named
  have hl := lv_entry av (n := nL) hlen
  rw [lg_entry_eq]
  generalize (lg_sl av ++ List.replicate (nL - (lg_sl av).length) Slot.unset).toArray = ls at hl ⊢
  have hX : Cx p s m av.toArray meth c cc nL own G := ⟨B.exec, B.bytes, hml, B.notSynchronized, fun w hw => hts w (List.mem_cons_of_mem _ hw), hown, hK, hF, WV.base (G := G) ⟨hsz, hP, hD, hK, hF⟩⟩
  have h := body p e s m av.toArray below meth c hX B.returns (name_of_methodNamed B.named B.method).1 a ha s.heap [] ls hsz hP hD va_S.rf (hL ▸ hl)
  unfold Qm at h
  rw [hf] at h
  exact h
section SM
variable {p : Program} {l : Launch} {e : Env} {R : Room} {s : State} {m : MethodId} {args : Array Value} {below : List Frame} {meth : Method} {c : Code} {cells slots : Nat}
variable {cc : ByteArray} {nL : Nat} {own : String} {G : GT} {α β : Type} {Q : α → State → Prop} {ws ws' : va_W} {pc : Nat} {L : List (Nat × Value)} {st : List Value} {o : Option α}
theorem sm_none : Sm p l e R s m args below meth c G nL Q cells slots ws pc L st none := fun _ h => by cases h
theorem sm_bind {o1 : Option β} {k : β → Option α} (h : ∀ b, o1 = some b → Sm p l e R s m args below meth c G nL Q cells slots ws pc L st (k b)) : Sm p l e R s m args below meth c G nL Q cells slots ws pc L st (o1.bind k) := by
  intro a ha
  cases o1 with
  | none => cases ha
  | some b => exact h b rfl a ha
theorem sm_if {P : Prop} [Decidable P] {o1 o2 : Option α} (h1 : P → Sm p l e R s m args below meth c G nL Q cells slots ws pc L st o1) (h2 : ¬ P → Sm p l e R s m args below meth c G nL Q cells slots ws pc L st o2) : Sm p l e R s m args below meth c G nL Q cells slots ws pc L st (if P then o1 else o2) := by
  by_cases hp : P
  · rw [if_pos hp]; exact h1 hp
  · rw [if_neg hp]; exact h2 hp
theorem sm_guard {P : Prop} [Decidable P] {o1 : Option α} (h1 : P → Sm p l e R s m args below meth c G nL Q cells slots ws pc L st o1) : Sm p l e R s m args below meth c G nL Q cells slots ws pc L st (if P then o1 else none) := sm_if h1 (fun _ => sm_none)
theorem sm_sub (ks : List Nat) {L' : List (Nat × Value)} (hl : lv_pick L ks = L') (k : Sm p l e R s m args below meth c G nL Q cells slots ws pc L' st o) : Sm p l e R s m args below meth c G nL Q cells slots ws pc L st o :=
  fun a ha H locs ls h1 h2 h3 h4 h5 => k a ha H locs ls h1 h2 h3 h4 (lv_sub h5 ks hl)
theorem sm_eq {pc' : Nat} {o' : Option α} (hp : pc = pc') (ho : o = o') (k : Sm p l e R s m args below meth c G nL Q cells slots ws pc' L st o') : Sm p l e R s m args below meth c G nL Q cells slots ws pc L st o := by subst hp; subst ho; exact k

theorem sm_iconst (X : Cx p s m args meth c cc nL own G) (pc1 : Nat) {n : Int} (v : Int32) (hd : decode cc pc = .ok (.iconst n, 1)) (hp : pc + 1 = pc1) (hv : Int32.ofInt n = v) (k : Sm p l e R s m args below meth c G nL Q cells slots ws pc1 L (.int v :: st) o) : Sm p l e R s m args below meth c G nL Q cells slots ws pc L (st) o := by
  subst hp
  exact fun a ha H locs ls h1 h2 h3 h4 h5 => lv_iconst X.1 X.2.1 hd hv (k a ha H locs ls h1 h2 h3 h4 h5)
theorem sm_bipush (X : Cx p s m args meth c cc nL own G) (pc1 : Nat) {n : Int} (v : Int32) (hd : decode cc pc = .ok (.bipush n, 2)) (hp : pc + 2 = pc1) (hv : (Int8.ofInt n).toInt32 = v) (k : Sm p l e R s m args below meth c G nL Q cells slots ws pc1 L (.int v :: st) o) : Sm p l e R s m args below meth c G nL Q cells slots ws pc L (st) o := by
  subst hp
  exact fun a ha H locs ls h1 h2 h3 h4 h5 => lv_bipush X.1 X.2.1 hd hv (k a ha H locs ls h1 h2 h3 h4 h5)
theorem sm_sipush (X : Cx p s m args meth c cc nL own G) (pc1 : Nat) {n : Int} (v : Int32) (hd : decode cc pc = .ok (.sipush n, 3)) (hp : pc + 3 = pc1) (hv : (Int16.ofInt n).toInt32 = v) (k : Sm p l e R s m args below meth c G nL Q cells slots ws pc1 L (.int v :: st) o) : Sm p l e R s m args below meth c G nL Q cells slots ws pc L (st) o := by
  subst hp
  exact fun a ha H locs ls h1 h2 h3 h4 h5 => lv_sipush X.1 X.2.1 hd hv (k a ha H locs ls h1 h2 h3 h4 h5)
theorem sm_lconst (X : Cx p s m args meth c cc nL own G) (pc1 : Nat) {n : Fin 2} (v : Int64) (hd : decode cc pc = .ok (.lconst n, 1)) (hp : pc + 1 = pc1) (hv : Int64.ofNat (n : Nat) = v) (k : Sm p l e R s m args below meth c G nL Q cells slots ws pc1 L (.long v :: st) o) : Sm p l e R s m args below meth c G nL Q cells slots ws pc L (st) o := by
  subst hp
  exact fun a ha H locs ls h1 h2 h3 h4 h5 => lv_lconst X.1 X.2.1 hd hv (k a ha H locs ls h1 h2 h3 h4 h5)
theorem sm_null (X : Cx p s m args meth c cc nL own G) (pc1 : Nat)  (hd : decode cc pc = .ok (.aconst_null, 1)) (hp : pc + 1 = pc1) (k : Sm p l e R s m args below meth c G nL Q cells slots ws pc1 L (.null :: st) o) : Sm p l e R s m args below meth c G nL Q cells slots ws pc L (st) o := by
  subst hp
  exact fun a ha H locs ls h1 h2 h3 h4 h5 => lv_null X.1 X.2.1 hd  (k a ha H locs ls h1 h2 h3 h4 h5)
theorem sm_iload_n (X : Cx p s m args meth c cc nL own G) (pc1 : Nat) {j : Fin 4} {i : Nat} {x : Int32} (n : Nat) (hd : decode cc pc = .ok (.iload_n j, 1)) (hp : pc + 1 = pc1) (hi : (j : Nat) = i) (hl : L[n]? = some (i, .int x)) (k : Sm p l e R s m args below meth c G nL Q cells slots ws pc1 L (.int x :: st) o) : Sm p l e R s m args below meth c G nL Q cells slots ws pc L (st) o := by
  subst hp
  exact fun a ha H locs ls h1 h2 h3 h4 h5 => lv_iload_n X.1 X.2.1 hd hi (lv_at h5 n hl) (k a ha H locs ls h1 h2 h3 h4 h5)
theorem sm_iload (X : Cx p s m args meth c cc nL own G) (pc1 : Nat) {i : Nat} {x : Int32} (n : Nat) (hd : decode cc pc = .ok (.iload i, 2)) (hp : pc + 2 = pc1) (hl : L[n]? = some (i, .int x)) (k : Sm p l e R s m args below meth c G nL Q cells slots ws pc1 L (.int x :: st) o) : Sm p l e R s m args below meth c G nL Q cells slots ws pc L (st) o := by
  subst hp
  exact fun a ha H locs ls h1 h2 h3 h4 h5 => lv_iload X.1 X.2.1 hd (lv_at h5 n hl) (k a ha H locs ls h1 h2 h3 h4 h5)
theorem sm_lload_n (X : Cx p s m args meth c cc nL own G) (pc1 : Nat) {j : Fin 4} {i : Nat} {x : Int64} (n : Nat) (hd : decode cc pc = .ok (.lload_n j, 1)) (hp : pc + 1 = pc1) (hi : (j : Nat) = i) (hl : L[n]? = some (i, .long x)) (k : Sm p l e R s m args below meth c G nL Q cells slots ws pc1 L (.long x :: st) o) : Sm p l e R s m args below meth c G nL Q cells slots ws pc L (st) o := by
  subst hp
  exact fun a ha H locs ls h1 h2 h3 h4 h5 => lv_lload_n X.1 X.2.1 hd hi (lv_at h5 n hl) (k a ha H locs ls h1 h2 h3 h4 h5)
theorem sm_lload (X : Cx p s m args meth c cc nL own G) (pc1 : Nat) {i : Nat} {x : Int64} (n : Nat) (hd : decode cc pc = .ok (.lload i, 2)) (hp : pc + 2 = pc1) (hl : L[n]? = some (i, .long x)) (k : Sm p l e R s m args below meth c G nL Q cells slots ws pc1 L (.long x :: st) o) : Sm p l e R s m args below meth c G nL Q cells slots ws pc L (st) o := by
  subst hp
  exact fun a ha H locs ls h1 h2 h3 h4 h5 => lv_lload X.1 X.2.1 hd (lv_at h5 n hl) (k a ha H locs ls h1 h2 h3 h4 h5)
theorem sm_aload_n (X : Cx p s m args meth c cc nL own G) (pc1 : Nat) {j : Fin 4} {i : Nat} {x : Nat} (n : Nat) (hd : decode cc pc = .ok (.aload_n j, 1)) (hp : pc + 1 = pc1) (hi : (j : Nat) = i) (hl : L[n]? = some (i, .ref x)) (k : Sm p l e R s m args below meth c G nL Q cells slots ws pc1 L (.ref x :: st) o) : Sm p l e R s m args below meth c G nL Q cells slots ws pc L (st) o := by
  subst hp
  exact fun a ha H locs ls h1 h2 h3 h4 h5 => lv_aload_n X.1 X.2.1 hd hi (lv_at h5 n hl) (k a ha H locs ls h1 h2 h3 h4 h5)
theorem sm_aload (X : Cx p s m args meth c cc nL own G) (pc1 : Nat) {i : Nat} {x : Nat} (n : Nat) (hd : decode cc pc = .ok (.aload i, 2)) (hp : pc + 2 = pc1) (hl : L[n]? = some (i, .ref x)) (k : Sm p l e R s m args below meth c G nL Q cells slots ws pc1 L (.ref x :: st) o) : Sm p l e R s m args below meth c G nL Q cells slots ws pc L (st) o := by
  subst hp
  exact fun a ha H locs ls h1 h2 h3 h4 h5 => lv_aload X.1 X.2.1 hd (lv_at h5 n hl) (k a ha H locs ls h1 h2 h3 h4 h5)
theorem sm_aload_nq (X : Cx p s m args meth c cc nL own G) (pc1 : Nat) {j : Fin 4} {i : Nat} {r : Option Nat} (n : Nat) (hd : decode cc pc = .ok (.aload_n j, 1)) (hp : pc + 1 = pc1) (hi : (j : Nat) = i) (hl : L[n]? = some (i, va_re (gad G) r)) (k : Sm p l e R s m args below meth c G nL Q cells slots ws pc1 L (va_re (gad G) r :: st) o) : Sm p l e R s m args below meth c G nL Q cells slots ws pc L st o := by
  subst hp
  cases r with
  | none => exact fun a ha H locs ls h1 h2 h3 h4 h5 => lv_aload_nN X.1 X.2.1 hd hi (lv_at h5 n hl) (k a ha H locs ls h1 h2 h3 h4 h5)
  | some x => exact fun a ha H locs ls h1 h2 h3 h4 h5 => lv_aload_n X.1 X.2.1 hd hi (lv_at h5 n hl) (k a ha H locs ls h1 h2 h3 h4 h5)
theorem sm_aloadq (X : Cx p s m args meth c cc nL own G) (pc1 : Nat) {i : Nat} {r : Option Nat} (n : Nat) (hd : decode cc pc = .ok (.aload i, 2)) (hp : pc + 2 = pc1) (hl : L[n]? = some (i, va_re (gad G) r)) (k : Sm p l e R s m args below meth c G nL Q cells slots ws pc1 L (va_re (gad G) r :: st) o) : Sm p l e R s m args below meth c G nL Q cells slots ws pc L st o := by
  subst hp
  cases r with
  | none => exact fun a ha H locs ls h1 h2 h3 h4 h5 => lv_aloadN X.1 X.2.1 hd (lv_at h5 n hl) (k a ha H locs ls h1 h2 h3 h4 h5)
  | some x => exact fun a ha H locs ls h1 h2 h3 h4 h5 => lv_aload X.1 X.2.1 hd (lv_at h5 n hl) (k a ha H locs ls h1 h2 h3 h4 h5)
theorem sm_istore_n (X : Cx p s m args meth c cc nL own G) (pc1 : Nat) {j : Fin 4} {i : Nat} {x : Int32} (L' : List (Nat × Value)) (hd : decode cc pc = .ok (.istore_n j, 1)) (hp : pc + 1 = pc1) (hi : (j : Nat) = i) (hn : i < nL) (hl : (i, Value.int x) :: L.filter (fun q => !(q.1 == i) && !(q.1 + 1 == i && q.2.category == 2)) = L') (k : Sm p l e R s m args below meth c G nL Q cells slots ws pc1 L' st o) : Sm p l e R s m args below meth c G nL Q cells slots ws pc L (.int x :: st) o := by
  subst hp
  exact fun a ha H locs ls h1 h2 h3 h4 h5 => lv_istore_n X.1 X.2.1 hd hi h5 hn hl (fun ls h5 => k a ha H locs ls h1 h2 h3 h4 h5)
theorem sm_istore (X : Cx p s m args meth c cc nL own G) (pc1 : Nat) {i : Nat} {x : Int32} (L' : List (Nat × Value)) (hd : decode cc pc = .ok (.istore i, 2)) (hp : pc + 2 = pc1) (hn : i < nL) (hl : (i, Value.int x) :: L.filter (fun q => !(q.1 == i) && !(q.1 + 1 == i && q.2.category == 2)) = L') (k : Sm p l e R s m args below meth c G nL Q cells slots ws pc1 L' st o) : Sm p l e R s m args below meth c G nL Q cells slots ws pc L (.int x :: st) o := by
  subst hp
  exact fun a ha H locs ls h1 h2 h3 h4 h5 => lv_istore X.1 X.2.1 hd h5 hn hl (fun ls h5 => k a ha H locs ls h1 h2 h3 h4 h5)
theorem sm_astore_n (X : Cx p s m args meth c cc nL own G) (pc1 : Nat) {j : Fin 4} {i : Nat} {x : Nat} (L' : List (Nat × Value)) (hd : decode cc pc = .ok (.astore_n j, 1)) (hp : pc + 1 = pc1) (hi : (j : Nat) = i) (hn : i < nL) (hl : (i, Value.ref x) :: L.filter (fun q => !(q.1 == i) && !(q.1 + 1 == i && q.2.category == 2)) = L') (k : Sm p l e R s m args below meth c G nL Q cells slots ws pc1 L' st o) : Sm p l e R s m args below meth c G nL Q cells slots ws pc L (.ref x :: st) o := by
  subst hp
  exact fun a ha H locs ls h1 h2 h3 h4 h5 => lv_astore_n X.1 X.2.1 hd hi h5 hn hl (fun ls h5 => k a ha H locs ls h1 h2 h3 h4 h5)
theorem sm_astore (X : Cx p s m args meth c cc nL own G) (pc1 : Nat) {i : Nat} {x : Nat} (L' : List (Nat × Value)) (hd : decode cc pc = .ok (.astore i, 2)) (hp : pc + 2 = pc1) (hn : i < nL) (hl : (i, Value.ref x) :: L.filter (fun q => !(q.1 == i) && !(q.1 + 1 == i && q.2.category == 2)) = L') (k : Sm p l e R s m args below meth c G nL Q cells slots ws pc1 L' st o) : Sm p l e R s m args below meth c G nL Q cells slots ws pc L (.ref x :: st) o := by
  subst hp
  exact fun a ha H locs ls h1 h2 h3 h4 h5 => lv_astore X.1 X.2.1 hd h5 hn hl (fun ls h5 => k a ha H locs ls h1 h2 h3 h4 h5)
theorem sm_astore_nq (X : Cx p s m args meth c cc nL own G) (pc1 : Nat) {j : Fin 4} {i : Nat} {r : Option Nat} (L' : List (Nat × Value)) (hd : decode cc pc = .ok (.astore_n j, 1)) (hp : pc + 1 = pc1) (hi : (j : Nat) = i) (hn : i < nL) (hl : (i, va_re (gad G) r) :: L.filter (fun q => !(q.1 == i) && !(q.1 + 1 == i && q.2.category == 2)) = L') (k : Sm p l e R s m args below meth c G nL Q cells slots ws pc1 L' st o) : Sm p l e R s m args below meth c G nL Q cells slots ws pc L (va_re (gad G) r :: st) o := by
  subst hp
  cases r with
  | none => exact fun a ha H locs ls h1 h2 h3 h4 h5 => lv_astore_nN X.1 X.2.1 hd hi h5 hn hl (fun ls h5 => k a ha H locs ls h1 h2 h3 h4 h5)
  | some x => exact fun a ha H locs ls h1 h2 h3 h4 h5 => lv_astore_n X.1 X.2.1 hd hi h5 hn hl (fun ls h5 => k a ha H locs ls h1 h2 h3 h4 h5)
theorem sm_astoreq (X : Cx p s m args meth c cc nL own G) (pc1 : Nat) {i : Nat} {r : Option Nat} (L' : List (Nat × Value)) (hd : decode cc pc = .ok (.astore i, 2)) (hp : pc + 2 = pc1) (hn : i < nL) (hl : (i, va_re (gad G) r) :: L.filter (fun q => !(q.1 == i) && !(q.1 + 1 == i && q.2.category == 2)) = L') (k : Sm p l e R s m args below meth c G nL Q cells slots ws pc1 L' st o) : Sm p l e R s m args below meth c G nL Q cells slots ws pc L (va_re (gad G) r :: st) o := by
  subst hp
  cases r with
  | none => exact fun a ha H locs ls h1 h2 h3 h4 h5 => lv_astoreN X.1 X.2.1 hd h5 hn hl (fun ls h5 => k a ha H locs ls h1 h2 h3 h4 h5)
  | some x => exact fun a ha H locs ls h1 h2 h3 h4 h5 => lv_astore X.1 X.2.1 hd h5 hn hl (fun ls h5 => k a ha H locs ls h1 h2 h3 h4 h5)
theorem sm_iinc (X : Cx p s m args meth c cc nL own G) (pc1 : Nat) {i : Nat} {n : Int} {x : Int32} (n0 : Nat) (d : Int32) (L' : List (Nat × Value)) (hd : decode cc pc = .ok (.iinc i n, 3)) (hp : pc + 3 = pc1) (hk : L[n0]? = some (i, .int x)) (hv : Int32.ofInt n = d) (hn : i < nL) (hl : (i, Value.int (x + d)) :: L.filter (fun q => !(q.1 == i) && !(q.1 + 1 == i && q.2.category == 2)) = L') (k : Sm p l e R s m args below meth c G nL Q cells slots ws pc1 L' st o) : Sm p l e R s m args below meth c G nL Q cells slots ws pc L st o := by
  subst hp
  exact fun a ha H locs ls h1 h2 h3 h4 h5 => lv_iinc X.1 X.2.1 hd h5 hk (by rw [hv]) hn hl (fun ls h5 => k a ha H locs ls h1 h2 h3 h4 h5)
theorem sm_iadd (X : Cx p s m args meth c cc nL own G) (pc1 : Nat) {x y : Int32} (hd : decode cc pc = .ok (.iadd, 1)) (hp : pc + 1 = pc1) (k : Sm p l e R s m args below meth c G nL Q cells slots ws pc1 L (.int (x + y) :: st) o) : Sm p l e R s m args below meth c G nL Q cells slots ws pc L (.int y :: .int x :: st) o := by
  subst hp
  exact fun a ha H locs ls h1 h2 h3 h4 h5 => lv_iadd X.1 X.2.1 hd  (k a ha H locs ls h1 h2 h3 h4 h5)
theorem sm_isub (X : Cx p s m args meth c cc nL own G) (pc1 : Nat) {x y : Int32} (hd : decode cc pc = .ok (.isub, 1)) (hp : pc + 1 = pc1) (k : Sm p l e R s m args below meth c G nL Q cells slots ws pc1 L (.int (x - y) :: st) o) : Sm p l e R s m args below meth c G nL Q cells slots ws pc L (.int y :: .int x :: st) o := by
  subst hp
  exact fun a ha H locs ls h1 h2 h3 h4 h5 => lv_isub X.1 X.2.1 hd  (k a ha H locs ls h1 h2 h3 h4 h5)
theorem sm_imul (X : Cx p s m args meth c cc nL own G) (pc1 : Nat) {x y : Int32} (hd : decode cc pc = .ok (.imul, 1)) (hp : pc + 1 = pc1) (k : Sm p l e R s m args below meth c G nL Q cells slots ws pc1 L (.int (x * y) :: st) o) : Sm p l e R s m args below meth c G nL Q cells slots ws pc L (.int y :: .int x :: st) o := by
  subst hp
  exact fun a ha H locs ls h1 h2 h3 h4 h5 => lv_imul X.1 X.2.1 hd  (k a ha H locs ls h1 h2 h3 h4 h5)
theorem sm_iand (X : Cx p s m args meth c cc nL own G) (pc1 : Nat) {x y : Int32} (hd : decode cc pc = .ok (.iand, 1)) (hp : pc + 1 = pc1) (k : Sm p l e R s m args below meth c G nL Q cells slots ws pc1 L (.int (x &&& y) :: st) o) : Sm p l e R s m args below meth c G nL Q cells slots ws pc L (.int y :: .int x :: st) o := by
  subst hp
  exact fun a ha H locs ls h1 h2 h3 h4 h5 => lv_iand X.1 X.2.1 hd  (k a ha H locs ls h1 h2 h3 h4 h5)
theorem sm_ior (X : Cx p s m args meth c cc nL own G) (pc1 : Nat) {x y : Int32} (hd : decode cc pc = .ok (.ior, 1)) (hp : pc + 1 = pc1) (k : Sm p l e R s m args below meth c G nL Q cells slots ws pc1 L (.int (x ||| y) :: st) o) : Sm p l e R s m args below meth c G nL Q cells slots ws pc L (.int y :: .int x :: st) o := by
  subst hp
  exact fun a ha H locs ls h1 h2 h3 h4 h5 => lv_ior X.1 X.2.1 hd  (k a ha H locs ls h1 h2 h3 h4 h5)
theorem sm_ixor (X : Cx p s m args meth c cc nL own G) (pc1 : Nat) {x y : Int32} (hd : decode cc pc = .ok (.ixor, 1)) (hp : pc + 1 = pc1) (k : Sm p l e R s m args below meth c G nL Q cells slots ws pc1 L (.int (x ^^^ y) :: st) o) : Sm p l e R s m args below meth c G nL Q cells slots ws pc L (.int y :: .int x :: st) o := by
  subst hp
  exact fun a ha H locs ls h1 h2 h3 h4 h5 => lv_ixor X.1 X.2.1 hd  (k a ha H locs ls h1 h2 h3 h4 h5)
theorem sm_ishl (X : Cx p s m args meth c cc nL own G) (pc1 : Nat) {x y : Int32} (hd : decode cc pc = .ok (.ishl, 1)) (hp : pc + 1 = pc1) (k : Sm p l e R s m args below meth c G nL Q cells slots ws pc1 L (.int (x <<< (y &&& 31)) :: st) o) : Sm p l e R s m args below meth c G nL Q cells slots ws pc L (.int y :: .int x :: st) o := by
  subst hp
  exact fun a ha H locs ls h1 h2 h3 h4 h5 => lv_ishl X.1 X.2.1 hd  (k a ha H locs ls h1 h2 h3 h4 h5)
theorem sm_ishr (X : Cx p s m args meth c cc nL own G) (pc1 : Nat) {x y : Int32} (hd : decode cc pc = .ok (.ishr, 1)) (hp : pc + 1 = pc1) (k : Sm p l e R s m args below meth c G nL Q cells slots ws pc1 L (.int (x >>> (y &&& 31)) :: st) o) : Sm p l e R s m args below meth c G nL Q cells slots ws pc L (.int y :: .int x :: st) o := by
  subst hp
  exact fun a ha H locs ls h1 h2 h3 h4 h5 => lv_ishr X.1 X.2.1 hd  (k a ha H locs ls h1 h2 h3 h4 h5)
theorem sm_ineg (X : Cx p s m args meth c cc nL own G) (pc1 : Nat) {x : Int32} (hd : decode cc pc = .ok (.ineg, 1)) (hp : pc + 1 = pc1) (k : Sm p l e R s m args below meth c G nL Q cells slots ws pc1 L (.int (-x) :: st) o) : Sm p l e R s m args below meth c G nL Q cells slots ws pc L (.int x :: st) o := by
  subst hp
  exact fun a ha H locs ls h1 h2 h3 h4 h5 => lv_ineg X.1 X.2.1 hd  (k a ha H locs ls h1 h2 h3 h4 h5)
def irem (x y : Int32) : Int32 := x - x / y * y
theorem sm_idiv (X : Cx p s m args meth c cc nL own G) (pc1 : Nat) {x y : Int32} (hd : decode cc pc = .ok (.idiv, 1)) (hp : pc + 1 = pc1) (hne : ¬ y = 0) (k : Sm p l e R s m args below meth c G nL Q cells slots ws pc1 L (.int (x / y) :: st) o) : Sm p l e R s m args below meth c G nL Q cells slots ws pc L (.int y :: .int x :: st) o := by
  subst hp
  exact fun a ha H locs ls h1 h2 h3 h4 h5 => lv_idiv X.1 X.2.1 hd hne (k a ha H locs ls h1 h2 h3 h4 h5)
theorem sm_irem (X : Cx p s m args meth c cc nL own G) (pc1 : Nat) {x y : Int32} (hd : decode cc pc = .ok (.irem, 1)) (hp : pc + 1 = pc1) (hne : ¬ y = 0) (k : Sm p l e R s m args below meth c G nL Q cells slots ws pc1 L (.int (irem x y) :: st) o) : Sm p l e R s m args below meth c G nL Q cells slots ws pc L (.int y :: .int x :: st) o := by
  subst hp
  exact fun a ha H locs ls h1 h2 h3 h4 h5 => lv_irem X.1 X.2.1 hd hne (k a ha H locs ls h1 h2 h3 h4 h5)
def iushr (x y : Int32) : Int32 := (x.toUInt32 >>> (y.toUInt32 &&& Int32.toUInt32 31)).toInt32
theorem sm_iushr (X : Cx p s m args meth c cc nL own G) (pc1 : Nat) {x y : Int32} (hd : decode cc pc = .ok (.iushr, 1)) (hp : pc + 1 = pc1) (k : Sm p l e R s m args below meth c G nL Q cells slots ws pc1 L (.int (iushr x y) :: st) o) : Sm p l e R s m args below meth c G nL Q cells slots ws pc L (.int y :: .int x :: st) o := by
  subst hp
  exact fun a ha H locs ls h1 h2 h3 h4 h5 => lv_iushr X.1 X.2.1 hd rfl (k a ha H locs ls h1 h2 h3 h4 h5)
def i2b (x : Int32) : Int32 := x.toInt8.toInt32
def i2s (x : Int32) : Int32 := x.toInt16.toInt32
def i2c (x : Int32) : Int32 := (x.toUInt32 % 65536).toInt32
theorem sm_i2b (X : Cx p s m args meth c cc nL own G) (pc1 : Nat) {x : Int32} (hd : decode cc pc = .ok (.i2b, 1)) (hp : pc + 1 = pc1) (k : Sm p l e R s m args below meth c G nL Q cells slots ws pc1 L (.int (i2b x) :: st) o) : Sm p l e R s m args below meth c G nL Q cells slots ws pc L (.int x :: st) o := by
  subst hp
  exact fun a ha H locs ls h1 h2 h3 h4 h5 => lv_i2b X.1 X.2.1 hd rfl (k a ha H locs ls h1 h2 h3 h4 h5)
theorem sm_i2s (X : Cx p s m args meth c cc nL own G) (pc1 : Nat) {x : Int32} (hd : decode cc pc = .ok (.i2s, 1)) (hp : pc + 1 = pc1) (k : Sm p l e R s m args below meth c G nL Q cells slots ws pc1 L (.int (i2s x) :: st) o) : Sm p l e R s m args below meth c G nL Q cells slots ws pc L (.int x :: st) o := by
  subst hp
  exact fun a ha H locs ls h1 h2 h3 h4 h5 => lv_i2s X.1 X.2.1 hd rfl (k a ha H locs ls h1 h2 h3 h4 h5)
theorem sm_i2c (X : Cx p s m args meth c cc nL own G) (pc1 : Nat) {x : Int32} (hd : decode cc pc = .ok (.i2c, 1)) (hp : pc + 1 = pc1) (k : Sm p l e R s m args below meth c G nL Q cells slots ws pc1 L (.int (i2c x) :: st) o) : Sm p l e R s m args below meth c G nL Q cells slots ws pc L (.int x :: st) o := by
  subst hp
  exact fun a ha H locs ls h1 h2 h3 h4 h5 => lv_i2c X.1 X.2.1 hd rfl (k a ha H locs ls h1 h2 h3 h4 h5)
theorem sm_i2l (X : Cx p s m args meth c cc nL own G) (pc1 : Nat) {x : Int32} (hd : decode cc pc = .ok (.i2l, 1)) (hp : pc + 1 = pc1) (k : Sm p l e R s m args below meth c G nL Q cells slots ws pc1 L (.long x.toInt64 :: st) o) : Sm p l e R s m args below meth c G nL Q cells slots ws pc L (.int x :: st) o := by
  subst hp
  exact fun a ha H locs ls h1 h2 h3 h4 h5 => lv_i2l X.1 X.2.1 hd rfl (k a ha H locs ls h1 h2 h3 h4 h5)
theorem sm_l2i (X : Cx p s m args meth c cc nL own G) (pc1 : Nat) {x : Int64} (hd : decode cc pc = .ok (.l2i, 1)) (hp : pc + 1 = pc1) (k : Sm p l e R s m args below meth c G nL Q cells slots ws pc1 L (.int x.toInt32 :: st) o) : Sm p l e R s m args below meth c G nL Q cells slots ws pc L (.long x :: st) o := by
  subst hp
  exact fun a ha H locs ls h1 h2 h3 h4 h5 => lv_l2i X.1 X.2.1 hd rfl (k a ha H locs ls h1 h2 h3 h4 h5)
theorem sm_land (X : Cx p s m args meth c cc nL own G) (pc1 : Nat) {x y : Int64} (hd : decode cc pc = .ok (.land, 1)) (hp : pc + 1 = pc1) (k : Sm p l e R s m args below meth c G nL Q cells slots ws pc1 L (.long (x &&& y) :: st) o) : Sm p l e R s m args below meth c G nL Q cells slots ws pc L (.long y :: .long x :: st) o := by
  subst hp
  exact fun a ha H locs ls h1 h2 h3 h4 h5 => lv_land X.1 X.2.1 hd  (k a ha H locs ls h1 h2 h3 h4 h5)
theorem sm_lor (X : Cx p s m args meth c cc nL own G) (pc1 : Nat) {x y : Int64} (hd : decode cc pc = .ok (.lor, 1)) (hp : pc + 1 = pc1) (k : Sm p l e R s m args below meth c G nL Q cells slots ws pc1 L (.long (x ||| y) :: st) o) : Sm p l e R s m args below meth c G nL Q cells slots ws pc L (.long y :: .long x :: st) o := by
  subst hp
  exact fun a ha H locs ls h1 h2 h3 h4 h5 => lv_lor X.1 X.2.1 hd  (k a ha H locs ls h1 h2 h3 h4 h5)
def lshl (x : Int64) (y : Int32) : Int64 := x <<< (y.toInt64 &&& 63)
def lshr (x : Int64) (y : Int32) : Int64 := x >>> (y.toInt64 &&& 63)
def lushr (x : Int64) (y : Int32) : Int64 := (x.toUInt64 >>> (y.toInt64.toUInt64 &&& Int64.toUInt64 63)).toInt64
theorem sm_lshl (X : Cx p s m args meth c cc nL own G) (pc1 : Nat) {x : Int64} {y : Int32} (hd : decode cc pc = .ok (.lshl, 1)) (hp : pc + 1 = pc1) (k : Sm p l e R s m args below meth c G nL Q cells slots ws pc1 L (.long (lshl x y) :: st) o) : Sm p l e R s m args below meth c G nL Q cells slots ws pc L (.int y :: .long x :: st) o := by
  subst hp
  exact fun a ha H locs ls h1 h2 h3 h4 h5 => lv_lshl X.1 X.2.1 hd rfl (k a ha H locs ls h1 h2 h3 h4 h5)
theorem sm_lshr (X : Cx p s m args meth c cc nL own G) (pc1 : Nat) {x : Int64} {y : Int32} (hd : decode cc pc = .ok (.lshr, 1)) (hp : pc + 1 = pc1) (k : Sm p l e R s m args below meth c G nL Q cells slots ws pc1 L (.long (lshr x y) :: st) o) : Sm p l e R s m args below meth c G nL Q cells slots ws pc L (.int y :: .long x :: st) o := by
  subst hp
  exact fun a ha H locs ls h1 h2 h3 h4 h5 => lv_lshr X.1 X.2.1 hd rfl (k a ha H locs ls h1 h2 h3 h4 h5)
theorem sm_lushr (X : Cx p s m args meth c cc nL own G) (pc1 : Nat) {x : Int64} {y : Int32} (hd : decode cc pc = .ok (.lushr, 1)) (hp : pc + 1 = pc1) (k : Sm p l e R s m args below meth c G nL Q cells slots ws pc1 L (.long (lushr x y) :: st) o) : Sm p l e R s m args below meth c G nL Q cells slots ws pc L (.int y :: .long x :: st) o := by
  subst hp
  exact fun a ha H locs ls h1 h2 h3 h4 h5 => lv_lushr X.1 X.2.1 hd rfl (k a ha H locs ls h1 h2 h3 h4 h5)
theorem sm_lcmp (X : Cx p s m args meth c cc nL own G) (pc1 : Nat) {x y : Int64} (hd : decode cc pc = .ok (.lcmp, 1)) (hp : pc + 1 = pc1) (k : Sm p l e R s m args below meth c G nL Q cells slots ws pc1 L (.int (lg_cmp x y) :: st) o) : Sm p l e R s m args below meth c G nL Q cells slots ws pc L (.long y :: .long x :: st) o := by
  subst hp
  exact fun a ha H locs ls h1 h2 h3 h4 h5 => W.lcmp X.1 X.2.1 hd  (k a ha H locs ls h1 h2 h3 h4 h5)
theorem sm_dup (X : Cx p s m args meth c cc nL own G) (pc1 : Nat) {v : Value} (hd : decode cc pc = .ok (.dup, 1)) (hp : pc + 1 = pc1) (hc : v.category = 1) (k : Sm p l e R s m args below meth c G nL Q cells slots ws pc1 L (v :: v :: st) o) : Sm p l e R s m args below meth c G nL Q cells slots ws pc L (v :: st) o := by
  subst hp
  exact fun a ha H locs ls h1 h2 h3 h4 h5 => lv_dup X.1 X.2.1 hd hc (k a ha H locs ls h1 h2 h3 h4 h5)
theorem sm_pop (X : Cx p s m args meth c cc nL own G) (pc1 : Nat) {v : Value} (hd : decode cc pc = .ok (.pop, 1)) (hp : pc + 1 = pc1) (hc : v.category = 1) (k : Sm p l e R s m args below meth c G nL Q cells slots ws pc1 L (st) o) : Sm p l e R s m args below meth c G nL Q cells slots ws pc L (v :: st) o := by
  subst hp
  exact fun a ha H locs ls h1 h2 h3 h4 h5 => lv_pop X.1 X.2.1 hd hc (k a ha H locs ls h1 h2 h3 h4 h5)
theorem sm_dup2 (X : Cx p s m args meth c cc nL own G) (pc1 : Nat) {v w : Value} (hd : decode cc pc = .ok (.dup2, 1)) (hp : pc + 1 = pc1) (hc : v.category = 1) (hc2 : w.category = 1) (k : Sm p l e R s m args below meth c G nL Q cells slots ws pc1 L (v :: w :: v :: w :: st) o) : Sm p l e R s m args below meth c G nL Q cells slots ws pc L (v :: w :: st) o := by
  subst hp
  exact fun a ha H locs ls h1 h2 h3 h4 h5 => lv_dup2_11 X.1 X.2.1 hd hc hc2 (k a ha H locs ls h1 h2 h3 h4 h5)
theorem sm_goto (X : Cx p s m args meth c cc nL own G) {off : Int} (tgt : Nat) (hd : decode cc pc = .ok (.goto off, 3)) (ht : (pc : Int) + off = (tgt : Int)) (k : Sm p l e R s m args below meth c G nL Q cells slots ws tgt L st o) : Sm p l e R s m args below meth c G nL Q cells slots ws pc L st o :=
  fun a ha H locs ls h1 h2 h3 h4 h5 => lv_goto X.1 X.2.1 hd ht (k a ha H locs ls h1 h2 h3 h4 h5)
theorem sm_icmp_eq (X : Cx p s m args meth c cc nL own G) (pc1 : Nat) {x y : Int32} {off : Int} (tgt : Nat) {o1 o2 : Option α} (hd : decode cc pc = .ok (.if_icmp .eq off, 3)) (hp : pc + 3 = pc1) (ht : (pc : Int) + off = (tgt : Int)) 
    (k1 : x = y → Sm p l e R s m args below meth c G nL Q cells slots ws tgt L st o1) (k2 : ¬ x = y → Sm p l e R s m args below meth c G nL Q cells slots ws pc1 L st o2) : Sm p l e R s m args below meth c G nL Q cells slots ws pc L (.int y :: .int x :: st) (if x = y then o1 else o2) := by
  subst hp
  exact fun a ha H locs ls h1 h2 h3 h4 h5 => lv_icmp_eq X.1 X.2.1 hd ht (fun q => k1 q a (by rw [if_pos q] at ha; exact ha) H locs ls h1 h2 h3 h4 h5) (fun q => k2 q a (by rw [if_neg q] at ha; exact ha) H locs ls h1 h2 h3 h4 h5)
theorem sm_icmp_lt (X : Cx p s m args meth c cc nL own G) (pc1 : Nat) {x y : Int32} {off : Int} (tgt : Nat) {o1 o2 : Option α} (hd : decode cc pc = .ok (.if_icmp .lt off, 3)) (hp : pc + 3 = pc1) (ht : (pc : Int) + off = (tgt : Int)) 
    (k1 : x < y → Sm p l e R s m args below meth c G nL Q cells slots ws tgt L st o1) (k2 : ¬ x < y → Sm p l e R s m args below meth c G nL Q cells slots ws pc1 L st o2) : Sm p l e R s m args below meth c G nL Q cells slots ws pc L (.int y :: .int x :: st) (if x < y then o1 else o2) := by
  subst hp
  exact fun a ha H locs ls h1 h2 h3 h4 h5 => lv_icmp_lt X.1 X.2.1 hd ht (fun q => k1 q a (by rw [if_pos q] at ha; exact ha) H locs ls h1 h2 h3 h4 h5) (fun q => k2 q a (by rw [if_neg q] at ha; exact ha) H locs ls h1 h2 h3 h4 h5)
theorem sm_icmp_ge (X : Cx p s m args meth c cc nL own G) (pc1 : Nat) {x y : Int32} {off : Int} (tgt : Nat) {o1 o2 : Option α} (hd : decode cc pc = .ok (.if_icmp .ge off, 3)) (hp : pc + 3 = pc1) (ht : (pc : Int) + off = (tgt : Int)) 
    (k1 : y ≤ x → Sm p l e R s m args below meth c G nL Q cells slots ws tgt L st o1) (k2 : ¬ y ≤ x → Sm p l e R s m args below meth c G nL Q cells slots ws pc1 L st o2) : Sm p l e R s m args below meth c G nL Q cells slots ws pc L (.int y :: .int x :: st) (if y ≤ x then o1 else o2) := by
  subst hp
  exact fun a ha H locs ls h1 h2 h3 h4 h5 => lv_icmp_ge X.1 X.2.1 hd ht (fun q => k1 q a (by rw [if_pos q] at ha; exact ha) H locs ls h1 h2 h3 h4 h5) (fun q => k2 q a (by rw [if_neg q] at ha; exact ha) H locs ls h1 h2 h3 h4 h5)
theorem sm_icmp_gt (X : Cx p s m args meth c cc nL own G) (pc1 : Nat) {x y : Int32} {off : Int} (tgt : Nat) {o1 o2 : Option α} (hd : decode cc pc = .ok (.if_icmp .gt off, 3)) (hp : pc + 3 = pc1) (ht : (pc : Int) + off = (tgt : Int)) 
    (k1 : y < x → Sm p l e R s m args below meth c G nL Q cells slots ws tgt L st o1) (k2 : ¬ y < x → Sm p l e R s m args below meth c G nL Q cells slots ws pc1 L st o2) : Sm p l e R s m args below meth c G nL Q cells slots ws pc L (.int y :: .int x :: st) (if y < x then o1 else o2) := by
  subst hp
  exact fun a ha H locs ls h1 h2 h3 h4 h5 => lv_icmp_gt X.1 X.2.1 hd ht (fun q => k1 q a (by rw [if_pos q] at ha; exact ha) H locs ls h1 h2 h3 h4 h5) (fun q => k2 q a (by rw [if_neg q] at ha; exact ha) H locs ls h1 h2 h3 h4 h5)
theorem sm_icmp_le (X : Cx p s m args meth c cc nL own G) (pc1 : Nat) {x y : Int32} {off : Int} (tgt : Nat) {o1 o2 : Option α} (hd : decode cc pc = .ok (.if_icmp .le off, 3)) (hp : pc + 3 = pc1) (ht : (pc : Int) + off = (tgt : Int)) 
    (k1 : x ≤ y → Sm p l e R s m args below meth c G nL Q cells slots ws tgt L st o1) (k2 : ¬ x ≤ y → Sm p l e R s m args below meth c G nL Q cells slots ws pc1 L st o2) : Sm p l e R s m args below meth c G nL Q cells slots ws pc L (.int y :: .int x :: st) (if x ≤ y then o1 else o2) := by
  subst hp
  exact fun a ha H locs ls h1 h2 h3 h4 h5 => lv_icmp_le X.1 X.2.1 hd ht (fun q => k1 q a (by rw [if_pos q] at ha; exact ha) H locs ls h1 h2 h3 h4 h5) (fun q => k2 q a (by rw [if_neg q] at ha; exact ha) H locs ls h1 h2 h3 h4 h5)
theorem sm_icmp_ne (X : Cx p s m args meth c cc nL own G) (pc1 : Nat) {x y : Int32} {off : Int} (tgt : Nat) {o1 o2 : Option α} (hd : decode cc pc = .ok (.if_icmp .ne off, 3)) (hp : pc + 3 = pc1) (ht : (pc : Int) + off = (tgt : Int)) 
    (k1 : x = y → Sm p l e R s m args below meth c G nL Q cells slots ws pc1 L st o1) (k2 : ¬ x = y → Sm p l e R s m args below meth c G nL Q cells slots ws tgt L st o2) : Sm p l e R s m args below meth c G nL Q cells slots ws pc L (.int y :: .int x :: st) (if x = y then o1 else o2) := by
  subst hp
  exact fun a ha H locs ls h1 h2 h3 h4 h5 => lv_icmp_ne X.1 X.2.1 hd ht (fun q => k2 q a (by rw [if_neg q] at ha; exact ha) H locs ls h1 h2 h3 h4 h5) (fun q => k1 q a (by rw [if_pos q] at ha; exact ha) H locs ls h1 h2 h3 h4 h5)
theorem sm_if_eq (X : Cx p s m args meth c cc nL own G) (pc1 : Nat) {x : Int32} {off : Int} (tgt : Nat) {o1 o2 : Option α} (hd : decode cc pc = .ok (.ifCond .eq off, 3)) (hp : pc + 3 = pc1) (ht : (pc : Int) + off = (tgt : Int)) 
    (k1 : x = 0 → Sm p l e R s m args below meth c G nL Q cells slots ws tgt L st o1) (k2 : ¬ x = 0 → Sm p l e R s m args below meth c G nL Q cells slots ws pc1 L st o2) : Sm p l e R s m args below meth c G nL Q cells slots ws pc L (.int x :: st) (if x = 0 then o1 else o2) := by
  subst hp
  exact fun a ha H locs ls h1 h2 h3 h4 h5 => lv_if_eq X.1 X.2.1 hd ht (fun q => k1 q a (by rw [if_pos q] at ha; exact ha) H locs ls h1 h2 h3 h4 h5) (fun q => k2 q a (by rw [if_neg q] at ha; exact ha) H locs ls h1 h2 h3 h4 h5)
theorem sm_if_lt (X : Cx p s m args meth c cc nL own G) (pc1 : Nat) {x : Int32} {off : Int} (tgt : Nat) {o1 o2 : Option α} (hd : decode cc pc = .ok (.ifCond .lt off, 3)) (hp : pc + 3 = pc1) (ht : (pc : Int) + off = (tgt : Int)) 
    (k1 : x < 0 → Sm p l e R s m args below meth c G nL Q cells slots ws tgt L st o1) (k2 : ¬ x < 0 → Sm p l e R s m args below meth c G nL Q cells slots ws pc1 L st o2) : Sm p l e R s m args below meth c G nL Q cells slots ws pc L (.int x :: st) (if x < 0 then o1 else o2) := by
  subst hp
  exact fun a ha H locs ls h1 h2 h3 h4 h5 => lv_if_lt X.1 X.2.1 hd ht (fun q => k1 q a (by rw [if_pos q] at ha; exact ha) H locs ls h1 h2 h3 h4 h5) (fun q => k2 q a (by rw [if_neg q] at ha; exact ha) H locs ls h1 h2 h3 h4 h5)
theorem sm_if_ge (X : Cx p s m args meth c cc nL own G) (pc1 : Nat) {x : Int32} {off : Int} (tgt : Nat) {o1 o2 : Option α} (hd : decode cc pc = .ok (.ifCond .ge off, 3)) (hp : pc + 3 = pc1) (ht : (pc : Int) + off = (tgt : Int)) 
    (k1 : 0 ≤ x → Sm p l e R s m args below meth c G nL Q cells slots ws tgt L st o1) (k2 : ¬ 0 ≤ x → Sm p l e R s m args below meth c G nL Q cells slots ws pc1 L st o2) : Sm p l e R s m args below meth c G nL Q cells slots ws pc L (.int x :: st) (if 0 ≤ x then o1 else o2) := by
  subst hp
  exact fun a ha H locs ls h1 h2 h3 h4 h5 => lv_if_ge X.1 X.2.1 hd ht (fun q => k1 q a (by rw [if_pos q] at ha; exact ha) H locs ls h1 h2 h3 h4 h5) (fun q => k2 q a (by rw [if_neg q] at ha; exact ha) H locs ls h1 h2 h3 h4 h5)
theorem sm_if_gt (X : Cx p s m args meth c cc nL own G) (pc1 : Nat) {x : Int32} {off : Int} (tgt : Nat) {o1 o2 : Option α} (hd : decode cc pc = .ok (.ifCond .gt off, 3)) (hp : pc + 3 = pc1) (ht : (pc : Int) + off = (tgt : Int)) 
    (k1 : 0 < x → Sm p l e R s m args below meth c G nL Q cells slots ws tgt L st o1) (k2 : ¬ 0 < x → Sm p l e R s m args below meth c G nL Q cells slots ws pc1 L st o2) : Sm p l e R s m args below meth c G nL Q cells slots ws pc L (.int x :: st) (if 0 < x then o1 else o2) := by
  subst hp
  exact fun a ha H locs ls h1 h2 h3 h4 h5 => lv_if_gt X.1 X.2.1 hd ht (fun q => k1 q a (by rw [if_pos q] at ha; exact ha) H locs ls h1 h2 h3 h4 h5) (fun q => k2 q a (by rw [if_neg q] at ha; exact ha) H locs ls h1 h2 h3 h4 h5)
theorem sm_if_le (X : Cx p s m args meth c cc nL own G) (pc1 : Nat) {x : Int32} {off : Int} (tgt : Nat) {o1 o2 : Option α} (hd : decode cc pc = .ok (.ifCond .le off, 3)) (hp : pc + 3 = pc1) (ht : (pc : Int) + off = (tgt : Int)) 
    (k1 : x ≤ 0 → Sm p l e R s m args below meth c G nL Q cells slots ws tgt L st o1) (k2 : ¬ x ≤ 0 → Sm p l e R s m args below meth c G nL Q cells slots ws pc1 L st o2) : Sm p l e R s m args below meth c G nL Q cells slots ws pc L (.int x :: st) (if x ≤ 0 then o1 else o2) := by
  subst hp
  exact fun a ha H locs ls h1 h2 h3 h4 h5 => lv_if_le X.1 X.2.1 hd ht (fun q => k1 q a (by rw [if_pos q] at ha; exact ha) H locs ls h1 h2 h3 h4 h5) (fun q => k2 q a (by rw [if_neg q] at ha; exact ha) H locs ls h1 h2 h3 h4 h5)
theorem sm_if_ne (X : Cx p s m args meth c cc nL own G) (pc1 : Nat) {x : Int32} {off : Int} (tgt : Nat) {o1 o2 : Option α} (hd : decode cc pc = .ok (.ifCond .ne off, 3)) (hp : pc + 3 = pc1) (ht : (pc : Int) + off = (tgt : Int)) 
    (k1 : x = 0 → Sm p l e R s m args below meth c G nL Q cells slots ws pc1 L st o1) (k2 : ¬ x = 0 → Sm p l e R s m args below meth c G nL Q cells slots ws tgt L st o2) : Sm p l e R s m args below meth c G nL Q cells slots ws pc L (.int x :: st) (if x = 0 then o1 else o2) := by
  subst hp
  exact fun a ha H locs ls h1 h2 h3 h4 h5 => lv_if_ne X.1 X.2.1 hd ht (fun q => k2 q a (by rw [if_neg q] at ha; exact ha) H locs ls h1 h2 h3 h4 h5) (fun q => k1 q a (by rw [if_pos q] at ha; exact ha) H locs ls h1 h2 h3 h4 h5)
def b2i (b : Bool) : Int32 := cond b 1 0
theorem b2i_0 (b : Bool) : (b2i b = 0) ↔ ¬ b = true := by cases b <;> decide
theorem sm_ifz_eq (X : Cx p s m args meth c cc nL own G) (pc1 : Nat) {b : Bool} {off : Int} (tgt : Nat) {o1 o2 : Option α} (hd : decode cc pc = .ok (.ifCond .eq off, 3)) (hp : pc + 3 = pc1) (ht : (pc : Int) + off = (tgt : Int)) (k1 : b = true → Sm p l e R s m args below meth c G nL Q cells slots ws pc1 L st o1) (k2 : ¬ b = true → Sm p l e R s m args below meth c G nL Q cells slots ws tgt L st o2) : Sm p l e R s m args below meth c G nL Q cells slots ws pc L (.int (b2i b) :: st) (if b = true then o1 else o2) := by
  have h := sm_if_eq (ws := ws) (L := L) (st := st) X pc1 (x := b2i b) tgt (o1 := o2) (o2 := o1) hd hp ht (fun h => k2 ((b2i_0 b).mp h)) (fun h => k1 (Classical.byContradiction fun q => h ((b2i_0 b).mpr q)))
  have e : (if b = true then o1 else o2) = (if b2i b = 0 then o2 else o1) := by cases b <;> rfl
  rw [e]; exact h
theorem sm_ifz_ne (X : Cx p s m args meth c cc nL own G) (pc1 : Nat) {b : Bool} {off : Int} (tgt : Nat) {o1 o2 : Option α} (hd : decode cc pc = .ok (.ifCond .ne off, 3)) (hp : pc + 3 = pc1) (ht : (pc : Int) + off = (tgt : Int)) (k1 : b = true → Sm p l e R s m args below meth c G nL Q cells slots ws tgt L st o1) (k2 : ¬ b = true → Sm p l e R s m args below meth c G nL Q cells slots ws pc1 L st o2) : Sm p l e R s m args below meth c G nL Q cells slots ws pc L (.int (b2i b) :: st) (if b = true then o1 else o2) := by
  have h := sm_if_ne (ws := ws) (L := L) (st := st) X pc1 (x := b2i b) tgt (o1 := o2) (o2 := o1) hd hp ht (fun h => k2 ((b2i_0 b).mp h)) (fun h => k1 (Classical.byContradiction fun q => h ((b2i_0 b).mpr q)))
  have e : (if b = true then o1 else o2) = (if b2i b = 0 then o2 else o1) := by cases b <;> rfl
  rw [e]; exact h
def onN {γ : Type} (r : Option Nat) (a : γ) (b : Nat → γ) : γ := match r with
  | none => a
  | some k => b k
theorem sm_ifnull (X : Cx p s m args meth c cc nL own G) (pc1 : Nat) {r : Option Nat} {off : Int} (tgt : Nat) {o1 : Option α} {o2 : Nat → Option α} (hd : decode cc pc = .ok (.ifnull off, 3)) (hp : pc + 3 = pc1) (ht : (pc : Int) + off = (tgt : Int)) (k1 : r = none → Sm p l e R s m args below meth c G nL Q cells slots ws tgt L st o1) (k2 : ∀ k, r = some k → Sm p l e R s m args below meth c G nL Q cells slots ws pc1 L st (o2 k)) : Sm p l e R s m args below meth c G nL Q cells slots ws pc L (va_re (gad G) r :: st) (onN r o1 o2) := by
  subst hp
  cases r with
  | none => exact fun a ha H locs ls h1 h2 h3 h4 h5 => lv_ifnullN X.1 X.2.1 hd ht (k1 rfl a ha H locs ls h1 h2 h3 h4 h5)
  | some k => exact fun a ha H locs ls h1 h2 h3 h4 h5 => lv_ifnull X.1 X.2.1 hd (k2 k rfl a ha H locs ls h1 h2 h3 h4 h5)
theorem sm_ifnonnull (X : Cx p s m args meth c cc nL own G) (pc1 : Nat) {r : Option Nat} {off : Int} (tgt : Nat) {o1 : Option α} {o2 : Nat → Option α} (hd : decode cc pc = .ok (.ifnonnull off, 3)) (hp : pc + 3 = pc1) (ht : (pc : Int) + off = (tgt : Int)) (k1 : r = none → Sm p l e R s m args below meth c G nL Q cells slots ws pc1 L st o1) (k2 : ∀ k, r = some k → Sm p l e R s m args below meth c G nL Q cells slots ws tgt L st (o2 k)) : Sm p l e R s m args below meth c G nL Q cells slots ws pc L (va_re (gad G) r :: st) (onN r o1 o2) := by
  subst hp
  cases r with
  | none => exact fun a ha H locs ls h1 h2 h3 h4 h5 => lv_ifnonnullN X.1 X.2.1 hd (k1 rfl a ha H locs ls h1 h2 h3 h4 h5)
  | some k => exact fun a ha H locs ls h1 h2 h3 h4 h5 => lv_ifnonnull X.1 X.2.1 hd ht (k2 k rfl a ha H locs ls h1 h2 h3 h4 h5)
theorem sm_table (X : Cx p s m args meth c cc nL own G) {dflt lo hi : Int} {offs : Array Int} {len : Nat} {x : Int32} {off : Int} (tgt : Nat) (hd : decode cc pc = .ok (.tableswitch dflt lo hi offs, len)) (g1 : ¬ x.toInt < lo) (g2 : ¬ hi < x.toInt) (ho : offs[(x.toInt - lo).toNat]? = some off) (ht : (pc : Int) + off = (tgt : Int)) (k : Sm p l e R s m args below meth c G nL Q cells slots ws tgt L st o) : Sm p l e R s m args below meth c G nL Q cells slots ws pc L (.int x :: st) o :=
  fun a ha H locs ls h1 h2 h3 h4 h5 => lv_tableIn X.1 X.2.1 hd g1 g2 ho ht (k a ha H locs ls h1 h2 h3 h4 h5)
theorem sm_tableD (X : Cx p s m args meth c cc nL own G) {dflt lo hi : Int} {offs : Array Int} {len : Nat} {x : Int32} (tgt : Nat) (hd : decode cc pc = .ok (.tableswitch dflt lo hi offs, len)) (g : x.toInt < lo ∨ hi < x.toInt) (ht : (pc : Int) + dflt = (tgt : Int)) (k : Sm p l e R s m args below meth c G nL Q cells slots ws tgt L st o) : Sm p l e R s m args below meth c G nL Q cells slots ws pc L (.int x :: st) o :=
  fun a ha H locs ls h1 h2 h3 h4 h5 => lv_tableOut X.1 X.2.1 hd g ht (k a ha H locs ls h1 h2 h3 h4 h5)
theorem sm_lookup (X : Cx p s m args meth c cc nL own G) {dflt : Int} {ps : Array (Int × Int)} {len : Nat} {x : Int32} {off : Int} (tgt : Nat) (hd : decode cc pc = .ok (.lookupswitch dflt ps, len)) (hp : (ps.toList.zip (ps.toList.drop 1)).all (fun (a, next) => a.1 < next.1) = true) (ho : Op.lookupswitch.offset ps.toList dflt x.toInt = off) (ht : (pc : Int) + off = (tgt : Int)) (k : Sm p l e R s m args below meth c G nL Q cells slots ws tgt L st o) : Sm p l e R s m args below meth c G nL Q cells slots ws pc L (.int x :: st) o :=
  fun a ha H locs ls h1 h2 h3 h4 h5 => lv_lookup X.1 X.2.1 hd hp ho ht (k a ha H locs ls h1 h2 h3 h4 h5)
theorem ne_toInt {x k : Int32} (h : ¬ x = k) : ¬ x.toInt = k.toInt := fun q => h (Int32.toInt_inj.mp q)
theorem sm_ldc (X : Cx p s m args meth c cc nL own G) (pc1 : Nat) {index : Nat} (v : Int32) (hd : decode cc pc = .ok (.ldc index, 2)) (hp : pc + 2 = pc1) (hq : Cond.constant own index v ∈ TB) (k : Sm p l e R s m args below meth c G nL Q cells slots ws pc1 L (.int v :: st) o) : Sm p l e R s m args below meth c G nL Q cells slots ws pc L st o := by
  subst hp
  exact fun a ha H locs ls h1 h2 h3 h4 h5 => lv_ldc X.1 X.2.1 X.2.2.2.2.2.1 (X.2.2.2.2.1 _ hq) hd (k a ha H locs ls h1 h2 h3 h4 h5)
theorem sm_ldcw (X : Cx p s m args meth c cc nL own G) (pc1 : Nat) {index : Nat} (v : Int32) (hd : decode cc pc = .ok (.ldc_w index, 3)) (hp : pc + 3 = pc1) (hq : Cond.constant own index v ∈ TB) (k : Sm p l e R s m args below meth c G nL Q cells slots ws pc1 L (.int v :: st) o) : Sm p l e R s m args below meth c G nL Q cells slots ws pc L st o := by
  subst hp
  exact fun a ha H locs ls h1 h2 h3 h4 h5 => lv_ldcw X.1 X.2.1 X.2.2.2.2.2.1 (X.2.2.2.2.1 _ hq) hd (k a ha H locs ls h1 h2 h3 h4 h5)
theorem sm_ldc2 (X : Cx p s m args meth c cc nL own G) (pc1 : Nat) {index : Nat} (v : Int64) (hd : decode cc pc = .ok (.ldc2_w index, 3)) (hp : pc + 3 = pc1) (hq : Cond.constantLong own index v ∈ TB) (k : Sm p l e R s m args below meth c G nL Q cells slots ws pc1 L (.long v :: st) o) : Sm p l e R s m args below meth c G nL Q cells slots ws pc L st o := by
  subst hp
  exact fun a ha H locs ls h1 h2 h3 h4 h5 => lv_ldc2 X.1 X.2.1 X.2.2.2.2.2.1 (X.2.2.2.2.1 _ hq) hd (k a ha H locs ls h1 h2 h3 h4 h5)
theorem sm_ldcS (X : Cx p s m args meth c cc nL own G) (pc1 : Nat) {index : Nat} {tx : String} (i : Nat) (hd : decode cc pc = .ok (.ldc index, 2)) (hp : pc + 2 = pc1) (ho : own = RX3) (hq : ((index, tx), i) ∈ sA.zipIdx) (k : Sm p l e R s m args below meth c G nL Q cells slots ws pc1 L (.ref (gad G (1003 + i)) :: st) o) : Sm p l e R s m args below meth c G nL Q cells slots ws pc L st o := by
  subst hp
  subst ho
  exact fun a ha H locs ls h1 h2 h3 h4 h5 => va_ldcS X.1 X.2.1 X.2.2.2.2.2.1 (X.2.2.2.2.2.2.2.1.2.2.2.2.2.2.2.2.1 _ hq) hd (k a ha H locs ls h1 h2 h3 h4 h5)
end SM
end
section
section WLM
variable {G : GT} {σ : Sto}
theorem wl_len : (wl G σ).length = NC := by simp [wl]
theorem K0_lt {k ci : Nat} (hk : K0 k = ci) (hc : ci < 50) : k < NC := by
  by_cases h : k < NC
  · exact h
  · have : K0 k = 99 := by
      have hl : K0L.length ≤ k := Nat.le_trans (by decide) (Nat.not_lt.mp h)
      simp [K0, List.getD_eq_getElem?_getD, hl]
    omega
theorem wl_at {k : Nat} (hk : k < NC) : (wl G σ)[k]? = some (gad G k, ce G σ k) := by simp [wl, hk]
theorem wl_obj {k ci : Nat} (hk : K0 k = ci) (hc : ci < 10) : (wl G σ)[k]? = some (gad G k, .inr (ci, fl G σ k ci)) := by
  rw [wl_at (K0_lt hk (by omega))]; subst hk; simp [ce, hc]
theorem wl_arr {k : Nat} (hk : K0 k = 20) : (wl G σ)[k]? = some (gad G k, .inl (gy G 0, Ln0 k, .inl (σ.1 k))) := by
  rw [wl_at (K0_lt hk (by omega))]; simp [ce, hk]
theorem wl_arrS {k : Nat} (hk : K0 k = 21) : (wl G σ)[k]? = some (gad G k, .inl (gy G 1, Ln0 k, .inr (.inr (.inr (.inr (fun j => (R0 k j).map (gad G))))))) := by
  rw [wl_at (K0_lt hk (by omega))]; simp [ce, hk]
theorem wl_arrH {k : Nat} (hk : K0 k = 22) : (wl G σ)[k]? = some (gad G k, .inl (gy G 2, Ln0 k, .inr (.inr (.inr (.inr (fun j => (R0 k j).map (gad G))))))) := by
  rw [wl_at (K0_lt hk (by omega))]; simp [ce, hk]
theorem fl_at {k ci j t : Nat} (ht : (FT ci)[j]? = some t) : (fl G σ k ci)[j]? = some (fv G σ k j t) := by
  simp [fl, List.getElem?_mapIdx, ht]
theorem fl_len {k ci : Nat} : (fl G σ k ci).length = (FT ci).length := by simp [fl]
theorem fl_setI {k ci j : Nat} {v : Int32} (ht : (FT ci)[j]? = some 0) : (fl G σ k ci).set j (.int v) = fl G (sI σ k j v) k ci := by
  apply List.ext_getElem?
  intro i
  by_cases h : i = j
  · subst h
    have hl : i < (fl G σ k ci).length := by rw [fl_len]; exact (List.getElem?_eq_some_iff.mp ht).1
    rw [List.getElem?_set_self hl, fl_at ht]
    simp [fv, sI]
  · rw [List.getElem?_set_ne (Ne.symm h)]
    simp only [fl, List.getElem?_mapIdx]
    cases (FT ci)[i]? with
    | none => rfl
    | some t => simp [fv, sI, h]
theorem fl_setR {k ci j : Nat} {v : Option Nat} (ht : (FT ci)[j]? = some 2) : (fl G σ k ci).set j (va_re (gad G) v) = fl G (sR σ k j v) k ci := by
  apply List.ext_getElem?
  intro i
  by_cases h : i = j
  · subst h
    have hl : i < (fl G σ k ci).length := by rw [fl_len]; exact (List.getElem?_eq_some_iff.mp ht).1
    rw [List.getElem?_set_self hl, fl_at ht]
    simp [fv, sR]
  · rw [List.getElem?_set_ne (Ne.symm h)]
    simp only [fl, List.getElem?_mapIdx]
    cases (FT ci)[i]? with
    | none => rfl
    | some t => simp [fv, sR, h]
theorem fl_otherI {k ci k' j : Nat} {v : Int32} (h : ¬ k' = k) : fl G (sI σ k j v) k' ci = fl G σ k' ci := by
  simp only [fl]; congr 1; funext i t; simp [fv, sI, h]
theorem fl_otherR {k ci k' j : Nat} {v : Option Nat} (h : ¬ k' = k) : fl G (sR σ k j v) k' ci = fl G σ k' ci := by
  simp only [fl]; congr 1; funext i t; simp [fv, sR, h]
theorem fl_otherW {k ci k' : Nat} {f : Nat → Int32} (h : ¬ k' = k) : fl G (sW σ k f) k' ci = fl G σ k' ci := by
  simp only [fl]; congr 1; funext i t; simp [fv, sW, h]
theorem wl_setI {k ci j : Nat} {v : Int32} (hk : K0 k = ci) (hc : ci < 10) (ht : (FT ci)[j]? = some 0) : (wl G σ).set k (gad G k, .inr (ci, (fl G σ k ci).set j (.int v))) = wl G (sI σ k j v) := by
  have hlt := K0_lt hk (by omega)
  apply List.ext_getElem?
  intro i
  by_cases h : i = k
  · subst h
    rw [List.getElem?_set_self (by rw [wl_len]; exact hlt), fl_setI ht, wl_obj hk hc]
  · rw [List.getElem?_set_ne (Ne.symm h)]
    by_cases hi : i < NC
    · rw [wl_at hi, wl_at hi]
      have e : (sI σ k j v).1 i = σ.1 i := by funext b; simp [sI, h]
      simp only [ce, fl_otherI h, e]
    · rw [List.getElem?_eq_none (by rw [wl_len]; omega), List.getElem?_eq_none (by rw [wl_len]; omega)]
theorem wl_setR {k ci j : Nat} {v : Option Nat} (hk : K0 k = ci) (hc : ci < 10) (ht : (FT ci)[j]? = some 2) : (wl G σ).set k (gad G k, .inr (ci, (fl G σ k ci).set j (va_re (gad G) v))) = wl G (sR σ k j v) := by
  have hlt := K0_lt hk (by omega)
  apply List.ext_getElem?
  intro i
  by_cases h : i = k
  · subst h
    rw [List.getElem?_set_self (by rw [wl_len]; exact hlt), fl_setR ht, wl_obj hk hc]
  · rw [List.getElem?_set_ne (Ne.symm h)]
    by_cases hi : i < NC
    · rw [wl_at hi, wl_at hi]
      simp only [ce, fl_otherR h]
      rfl
    · rw [List.getElem?_eq_none (by rw [wl_len]; omega), List.getElem?_eq_none (by rw [wl_len]; omega)]
theorem wl_setW {k : Nat} {f : Nat → Int32} (hk : K0 k = 20) : (wl G σ).set k (gad G k, .inl (gy G 0, Ln0 k, .inl f)) = wl G (sW σ k f) := by
  have hlt := K0_lt hk (by omega)
  apply List.ext_getElem?
  intro i
  by_cases h : i = k
  · subst h
    rw [List.getElem?_set_self (by rw [wl_len]; exact hlt), wl_arr hk]
    have e : (sW σ i f).1 i = f := by funext b; simp [sW]
    rw [e]
  · rw [List.getElem?_set_ne (Ne.symm h)]
    by_cases hi : i < NC
    · rw [wl_at hi, wl_at hi]
      have e : (sW σ k f).1 i = σ.1 i := by funext b; simp [sW, h]
      simp only [ce, fl_otherW h, e]
    · rw [List.getElem?_eq_none (by rw [wl_len]; omega), List.getElem?_eq_none (by rw [wl_len]; omega)]
theorem sW_upd (σ : Sto) (k j : Nat) (v : Int32) : sW σ k (upd (σ.1 k) j v) = sI σ k j v := by
  simp only [sW, sI, upd]
  congr 1
  funext a b
  by_cases h : a = k
  · subst h; simp
  · simp [h]
end WLM
/-- a field of a class: its class's number, its place, what it holds (0 a number, 1 a reference that stays, 2 one that changes) -/
def Fld (ci j t : Nat) (C nm d : String) : Prop := ∃ (T : u_T) (N : Nat) (ty0 : Nat → FieldType), vwCl[ci]? = some (C, T, N) ∧ ci < 10 ∧ (∀ w ∈ u_ws C T N, w ∈ TB) ∧ j < N ∧ (FT ci).length = N ∧ (FT ci)[j]? = some t ∧ T j = (C, nm, d, decide (t = 1 ∨ ci = 1 ∧ j = 0)) ∧ (∀ k, k < N → parseFieldDescriptor (T k).2.2.1 = some (ty0 k)) ∧ (∀ a, a < N → ∀ b, b < N → a ≠ b → (T a).2.1 ≠ (T b).2.1)
section SM2
variable {p : Program} {l : Launch} {e : Env} {R : Room} {s : State} {m : MethodId} {args : Array Value} {below : List Frame} {meth : Method} {c : Code} {cells slots : Nat}
variable {cc : ByteArray} {nL : Nat} {own : String} {G : GT} {α β : Type} {Q : α → State → Prop} {ws ws' : va_W} {pc : Nat} {L : List (Nat × Value)} {st : List Value} {o : Option α} {σ : Sto}
theorem sm_get0 (X : Cx p s m args meth c cc nL own G) (pc1 : Nat) {k ci j t index : Nat} {C nm d : String} (hk : K0 k = ci) (hF : Fld ci j t C nm d) (hd : decode cc pc = .ok (.getfield index, 3)) (hp : pc + 3 = pc1) (hq : Cond.fieldLink own index C nm d ∈ TB) (kk : Sm p l e R s m args below meth c G nL Q cells slots (wl G σ) pc1 L (fv G σ k j t :: st) o) : Sm p l e R s m args below meth c G nL Q cells slots (wl G σ) pc L (.ref (gad G k) :: st) o := by
  subst hp
  obtain ⟨T, N, ty0, f1, f2, f3, f4, f5, f6, f7, f8, f9⟩ := hF
  intro a ha H locs ls h1 h2 h3 h4 h5
  refine va_get (C := C) (T := T) (N := N) (ref := C) X.1 X.2.1 X.2.2.2.2.1 f3 X.2.2.2.2.2.1 X.2.2.2.2.2.2.1 h2 k (wl_obj hk f2) f1 j f4 ?_ (fun x hx => ?_) (v := fv G σ k j t) (fl_at f6) hd (kk a ha H locs ls h1 h2 h3 h4 h5)
  · rw [f7]; exact X.2.2.2.2.1 _ hq
  · rw [f7] at hx ⊢; exact hx
theorem sm_geti (X : Cx p s m args meth c cc nL own G) (pc1 : Nat) {k ci j index : Nat} {C nm d : String} (hk : K0 k = ci) (hF : Fld ci j 0 C nm d) (hd : decode cc pc = .ok (.getfield index, 3)) (hp : pc + 3 = pc1) (hq : Cond.fieldLink own index C nm d ∈ TB) (kk : Sm p l e R s m args below meth c G nL Q cells slots (wl G σ) pc1 L (.int (σ.1 k j) :: st) o) : Sm p l e R s m args below meth c G nL Q cells slots (wl G σ) pc L (.ref (gad G k) :: st) o := sm_get0 X pc1 hk hF hd hp hq kk
theorem sm_getf (X : Cx p s m args meth c cc nL own G) (pc1 : Nat) {k ci j index : Nat} {C nm d : String} (x : Nat) (hk : K0 k = ci) (hF : Fld ci j 1 C nm d) (hx : R0 k j = some x) (hd : decode cc pc = .ok (.getfield index, 3)) (hp : pc + 3 = pc1) (hq : Cond.fieldLink own index C nm d ∈ TB) (kk : Sm p l e R s m args below meth c G nL Q cells slots (wl G σ) pc1 L (.ref (gad G x) :: st) o) : Sm p l e R s m args below meth c G nL Q cells slots (wl G σ) pc L (.ref (gad G k) :: st) o := by
  refine sm_get0 X pc1 hk hF hd hp hq ?_
  have e : fv G σ k j 1 = .ref (gad G x) := by simp [fv, hx, va_re, va_rf]
  rw [e]; exact kk
theorem sm_getr (X : Cx p s m args meth c cc nL own G) (pc1 : Nat) {k ci j index : Nat} {C nm d : String} (hk : K0 k = ci) (hF : Fld ci j 2 C nm d) (hd : decode cc pc = .ok (.getfield index, 3)) (hp : pc + 3 = pc1) (hq : Cond.fieldLink own index C nm d ∈ TB) (kk : Sm p l e R s m args below meth c G nL Q cells slots (wl G σ) pc1 L (va_re (gad G) (σ.2 k j) :: st) o) : Sm p l e R s m args below meth c G nL Q cells slots (wl G σ) pc L (.ref (gad G k) :: st) o := by
  refine sm_get0 X pc1 hk hF hd hp hq ?_
  have e : fv G σ k j 2 = va_re (gad G) (σ.2 k j) := by simp [fv]
  rw [e]; exact kk
/-- the name of a new store -/
def lp {γ : Type} (x : Sto) (f : Sto → γ) : γ := f x
theorem sm_puti (X : Cx p s m args meth c cc nL own G) (pc1 : Nat) {k ci j index : Nat} {C nm d : String} {v : Int32} {f : Sto → Option α} (ty : FieldType) (hk : K0 k = ci) (hF : Fld ci j 0 C nm d) (hfin : ¬ (ci = 1 ∧ j = 0)) (hty : parseFieldDescriptor d = some ty) (hn : narrow ty (.int v) = .int v) (hfit : fits ty (.int v) = true) (hd : decode cc pc = .ok (.putfield index, 3)) (hp : pc + 3 = pc1) (hq : Cond.fieldLink own index C nm d ∈ TB) (kk : ∀ σ', σ' = sI σ k j v → Sm p l e R s m args below meth c G nL Q cells slots (wl G σ') pc1 L st (f σ')) : Sm p l e R s m args below meth c G nL Q cells slots (wl G σ) pc L (.int v :: .ref (gad G k) :: st) (lp (sI σ k j v) f) := by
  subst hp
  obtain ⟨T, N, ty0, f1, f2, f3, f4, f5, f6, f7, f8, f9⟩ := hF
  intro a ha H locs ls h1 h2 h3 h4 h5
  refine va_put (C := C) (T := T) (N := N) (ref := C) (ci := ci) X.1 X.2.1 X.2.2.2.2.1 f3 ty0 f8 f9 X.2.2.2.2.2.1 X.2.2.2.2.2.2.1 h2 h3 h4 k (wl_obj hk f2) f1 j f4 ?_ (fun x hx => ?_) ?_ (ty := ty) ?_ hn hfit (by rw [fl_len, f5]; exact f4) hd (fun H1 locs1 g1 g2 g3 => ?_)
  · rw [f7]; exact X.2.2.2.2.1 _ hq
  · rw [f7] at hx ⊢; exact hx
  · rw [f7]; show decide (0 = 1 ∨ ci = 1 ∧ j = 0) = false; simp only [decide_eq_false_iff_not]; intro q; rcases q with q | q
    · cases q
    · exact hfin q
  · rw [f7]; exact hty
  · rw [wl_setI hk f2 f6] at g1 g2
    have hz : Sz G (wl G (sI σ k j v)) H1 := by
      exact fun q => absurd q (by rw [wl_len]; omega)
    exact kk _ rfl a ha H1 locs1 ls hz g1 g2 g3 h5
theorem sm_putr (X : Cx p s m args meth c cc nL own G) (pc1 : Nat) {k ci j index : Nat} {C nm d : String} {r : Option Nat} {f : Sto → Option α} (ty : FieldType) (hk : K0 k = ci) (hF : Fld ci j 2 C nm d) (hty : parseFieldDescriptor d = some ty) (hn : ∀ v : Option Nat, narrow ty (va_re (gad G) v) = va_re (gad G) v ∧ fits ty (va_re (gad G) v) = true) (hd : decode cc pc = .ok (.putfield index, 3)) (hp : pc + 3 = pc1) (hq : Cond.fieldLink own index C nm d ∈ TB) (kk : ∀ σ', σ' = sR σ k j r → Sm p l e R s m args below meth c G nL Q cells slots (wl G σ') pc1 L st (f σ')) : Sm p l e R s m args below meth c G nL Q cells slots (wl G σ) pc L (va_re (gad G) r :: .ref (gad G k) :: st) (lp (sR σ k j r) f) := by
  subst hp
  obtain ⟨T, N, ty0, f1, f2, f3, f4, f5, f6, f7, f8, f9⟩ := hF
  intro a ha H locs ls h1 h2 h3 h4 h5
  refine va_put (C := C) (T := T) (N := N) (ref := C) (ci := ci) X.1 X.2.1 X.2.2.2.2.1 f3 ty0 f8 f9 X.2.2.2.2.2.1 X.2.2.2.2.2.2.1 h2 h3 h4 k (wl_obj hk f2) f1 j f4 ?_ (fun x hx => ?_) ?_ (ty := ty) ?_ (hn r).1 (hn r).2 (by rw [fl_len, f5]; exact f4) hd (fun H1 locs1 g1 g2 g3 => ?_)
  · rw [f7]; exact X.2.2.2.2.1 _ hq
  · rw [f7] at hx ⊢; exact hx
  · rw [f7]; show decide (2 = 1 ∨ ci = 1 ∧ j = 0) = false; simp only [decide_eq_false_iff_not]; intro q; rcases q with q | q
    · cases q
    · rw [q.1, q.2] at f6; cases f6
  · rw [f7]; exact hty
  · rw [wl_setR hk f2 f6] at g1 g2
    exact kk _ rfl a ha H1 locs1 ls (fun q => absurd q (by rw [wl_len]; omega)) g1 g2 g3 h5
def inB (i : Int32) (n : Nat) : Bool := decide (¬ i < 0) && decide (i.toNatClampNeg < n)
theorem inB_vp {i : Int32} {n : Nat} (h : inB i n = true) : vp_in i n := by
  simp only [inB, Bool.and_eq_true, decide_eq_true_eq] at h
  intro q
  rcases q with q | q
  · exact h.1 q
  · omega
def rdA (σ : Sto) (k : Nat) (i : Int32) : Option Int32 := if inB i (Ln0 k) = true then some (σ.1 k i.toNatClampNeg) else none
def wrA (σ : Sto) (k : Nat) (i x : Int32) : Option Sto := if inB i (Ln0 k) = true then some (sI σ k i.toNatClampNeg x) else none
def rdC (f : Nat → Int32) (n : Nat) (i : Int32) : Option Int32 := if inB i n = true then some (f i.toNatClampNeg) else none
def rdR (k : Nat) (i : Int32) : Option (Option Nat) := if inB i (Ln0 k) = true then some (R0 k i.toNatClampNeg) else none
def cpA (σ : Sto) (a : Nat) (i : Int32) (b : Nat) (j n : Int32) : Option Sto := if ¬ i < 0 ∧ ¬ j < 0 ∧ ¬ n < 0 ∧ i.toNatClampNeg + n.toNatClampNeg ≤ Ln0 a ∧ j.toNatClampNeg + n.toNatClampNeg ≤ Ln0 b then some (sW σ b (va_cpy (σ.1 a) (σ.1 b) i.toNatClampNeg j.toNatClampNeg n.toNatClampNeg)) else none
theorem sm_iald (X : Cx p s m args meth c cc nL own G) (pc1 : Nat) {k : Nat} {i : Int32} {f : Int32 → Option α} (hk : K0 k = 20) (hd : decode cc pc = .ok (.iaload, 1)) (hp : pc + 1 = pc1) (kk : ∀ v, v = σ.1 k i.toNatClampNeg → Sm p l e R s m args below meth c G nL Q cells slots (wl G σ) pc1 L (.int v :: st) (f v)) : Sm p l e R s m args below meth c G nL Q cells slots (wl G σ) pc L (.int i :: .ref (gad G k) :: st) ((rdA σ k i).bind f) := by
  subst hp
  refine sm_bind fun v hv => ?_
  simp only [rdA] at hv
  split at hv
  · next hb =>
    cases hv
    exact fun a ha H locs ls h1 h2 h3 h4 h5 => va_iald X.1 X.2.1 X.2.2.2.2.2.2.1 h2 k 0 (wl_arr hk) rfl (inB_vp hb) hd (kk _ rfl a ha H locs ls h1 h2 h3 h4 h5)
  · cases hv
theorem sm_iast (X : Cx p s m args meth c cc nL own G) (pc1 : Nat) {k : Nat} {i x : Int32} {f : Sto → Option α} (hk : K0 k = 20) (hd : decode cc pc = .ok (.iastore, 1)) (hp : pc + 1 = pc1) (kk : ∀ σ', σ' = sI σ k i.toNatClampNeg x → Sm p l e R s m args below meth c G nL Q cells slots (wl G σ') pc1 L st (f σ')) : Sm p l e R s m args below meth c G nL Q cells slots (wl G σ) pc L (.int x :: .int i :: .ref (gad G k) :: st) ((wrA σ k i x).bind f) := by
  subst hp
  refine sm_bind fun σ' hv => ?_
  simp only [wrA] at hv
  split at hv
  · next hb =>
    cases hv
    refine fun a ha H locs ls h1 h2 h3 h4 h5 => va_iast X.1 X.2.1 X.2.2.2.2.2.2.1 h2 h3 h4 k 0 (wl_arr hk) rfl (inB_vp hb) hd (fun H1 locs1 g1 g2 g3 => ?_)
    rw [wl_setW hk, sW_upd] at g1 g2
    exact kk _ rfl a ha H1 locs1 ls (fun q => absurd q (by rw [wl_len]; omega)) g1 g2 g3 h5
  · cases hv
theorem sm_alen (X : Cx p s m args meth c cc nL own G) (pc1 : Nat) {k : Nat} (v : Int32) (hk : K0 k = 20 ∨ K0 k = 21 ∨ K0 k = 22) (hv : Int32.ofNat (Ln0 k) = v) (hd : decode cc pc = .ok (.arraylength, 1)) (hp : pc + 1 = pc1) (kk : Sm p l e R s m args below meth c G nL Q cells slots (wl G σ) pc1 L (.int v :: st) o) : Sm p l e R s m args below meth c G nL Q cells slots (wl G σ) pc L (.ref (gad G k) :: st) o := by
  subst hp
  rcases hk with hk | hk | hk
  · exact fun a ha H locs ls h1 h2 h3 h4 h5 => va_alen X.1 X.2.1 X.2.2.2.2.2.2.1 h2 k 0 (wl_arr hk) rfl hv hd (kk a ha H locs ls h1 h2 h3 h4 h5)
  · exact fun a ha H locs ls h1 h2 h3 h4 h5 => va_alen X.1 X.2.1 X.2.2.2.2.2.2.1 h2 k 1 (wl_arrS hk) rfl hv hd (kk a ha H locs ls h1 h2 h3 h4 h5)
  · exact fun a ha H locs ls h1 h2 h3 h4 h5 => va_alen X.1 X.2.1 X.2.2.2.2.2.2.1 h2 k 2 (wl_arrH hk) rfl hv hd (kk a ha H locs ls h1 h2 h3 h4 h5)
theorem sm_aald (X : Cx p s m args meth c cc nL own G) (pc1 : Nat) {k : Nat} {i : Int32} {f : Option Nat → Option α} (hk : K0 k = 21 ∨ K0 k = 22) (hd : decode cc pc = .ok (.aaload, 1)) (hp : pc + 1 = pc1) (kk : ∀ r, r = R0 k i.toNatClampNeg → Sm p l e R s m args below meth c G nL Q cells slots (wl G σ) pc1 L (va_re (gad G) r :: st) (f r)) : Sm p l e R s m args below meth c G nL Q cells slots (wl G σ) pc L (.int i :: .ref (gad G k) :: st) ((rdR k i).bind f) := by
  subst hp
  refine sm_bind fun v hv => ?_
  simp only [rdR] at hv
  split at hv
  · next hb =>
    cases hv
    rcases hk with hk | hk
    · exact fun a ha H locs ls h1 h2 h3 h4 h5 => va_aldq X.1 X.2.1 X.2.2.2.2.2.2.1 h2 k 1 (wl_arrS hk) rfl (inB_vp hb) hd (kk _ rfl a ha H locs ls h1 h2 h3 h4 h5)
    · exact fun a ha H locs ls h1 h2 h3 h4 h5 => va_aldq X.1 X.2.1 X.2.2.2.2.2.2.1 h2 k 2 (wl_arrH hk) rfl (inB_vp hb) hd (kk _ rfl a ha H locs ls h1 h2 h3 h4 h5)
  · cases hv
/-- arrays of the classes' own, that stay -/
theorem sm_getsA (X : Cx p s m args meth c cc nL own G) (pc1 : Nat) {index : Nat} {host : String} (hd : decode cc pc = .ok (.getstatic index, 3)) (hp : pc + 3 = pc1) (hq : Cond.fieldLinkNest own index "LakeSwimmers" "ABOVE" "[I" host ∈ NW ∨ Cond.fieldLink own index "LakeSwimmers" "ABOVE" "[I" ∈ TB) (kk : Sm p l e R s m args below meth c G nL Q cells slots ws pc1 L (.ref (gad G 1001) :: st) o) : Sm p l e R s m args below meth c G nL Q cells slots ws pc L st o := by
  subst hp
  rcases hq with hq | hq
  · exact fun a ha H locs ls h1 h2 h3 h4 h5 => va_getsN X.1 X.2.1 (X.2.2.2.2.2.2.2.1.2.2.2.1) h4 X.2.2.2.2.2.1 (va_Nw.use rfl (X.2.2.2.2.2.2.2.1.1 _ hq)) (fun _ h => h) hd (kk a ha H locs ls h1 h2 h3 h4 h5)
  · exact fun a ha H locs ls h1 h2 h3 h4 h5 => va_gets X.1 X.2.1 (X.2.2.2.2.2.2.2.1.2.2.2.1) h4 X.2.2.2.2.2.1 (X.2.2.2.2.1 _ hq) (fun _ h => h) hd (kk a ha H locs ls h1 h2 h3 h4 h5)
theorem sm_getsB (X : Cx p s m args meth c cc nL own G) (pc1 : Nat) {index : Nat} {host : String} (hd : decode cc pc = .ok (.getstatic index, 3)) (hp : pc + 3 = pc1) (hq : Cond.fieldLinkNest own index "LakeSwimmers$Voices" "BODIES" "[I" host ∈ NW ∨ Cond.fieldLink own index "LakeSwimmers$Voices" "BODIES" "[I" ∈ TB) (kk : Sm p l e R s m args below meth c G nL Q cells slots ws pc1 L (.ref (gad G 1002) :: st) o) : Sm p l e R s m args below meth c G nL Q cells slots ws pc L st o := by
  subst hp
  rcases hq with hq | hq
  · exact fun a ha H locs ls h1 h2 h3 h4 h5 => va_getsN X.1 X.2.1 (X.2.2.2.2.2.2.2.1.2.2.2.2.2.1) h4 X.2.2.2.2.2.1 (va_Nw.use rfl (X.2.2.2.2.2.2.2.1.1 _ hq)) (fun _ h => h) hd (kk a ha H locs ls h1 h2 h3 h4 h5)
  · exact fun a ha H locs ls h1 h2 h3 h4 h5 => va_gets X.1 X.2.1 (X.2.2.2.2.2.2.2.1.2.2.2.2.2.1) h4 X.2.2.2.2.2.1 (X.2.2.2.2.1 _ hq) (fun _ h => h) hd (kk a ha H locs ls h1 h2 h3 h4 h5)
theorem sm_ialdA (X : Cx p s m args meth c cc nL own G) (pc1 : Nat) {i : Int32} {f : Int32 → Option α} (hd : decode cc pc = .ok (.iaload, 1)) (hp : pc + 1 = pc1) (kk : ∀ v, v = abv i.toNatClampNeg → Sm p l e R s m args below meth c G nL Q cells slots ws pc1 L (.int v :: st) (f v)) : Sm p l e R s m args below meth c G nL Q cells slots ws pc L (.int i :: .ref (gad G 1001) :: st) ((rdC abv 7 i).bind f) := by
  subst hp
  refine sm_bind fun v hv => ?_
  simp only [rdC] at hv
  split at hv
  · next hb =>
    cases hv
    exact fun a ha H locs ls h1 h2 h3 h4 h5 => va_ti X.1 X.2.1 (X.2.2.2.2.2.2.2.1.2.2.2.2.1) h4 (inB_vp hb) rfl hd (kk _ rfl a ha H locs ls h1 h2 h3 h4 h5)
  · cases hv
theorem sm_ialdB (X : Cx p s m args meth c cc nL own G) (pc1 : Nat) {i : Int32} {f : Int32 → Option α} (hd : decode cc pc = .ok (.iaload, 1)) (hp : pc + 1 = pc1) (kk : ∀ v, v = bod i.toNatClampNeg → Sm p l e R s m args below meth c G nL Q cells slots ws pc1 L (.int v :: st) (f v)) : Sm p l e R s m args below meth c G nL Q cells slots ws pc L (.int i :: .ref (gad G 1002) :: st) ((rdC bod 28 i).bind f) := by
  subst hp
  refine sm_bind fun v hv => ?_
  simp only [rdC] at hv
  split at hv
  · next hb =>
    cases hv
    exact fun a ha H locs ls h1 h2 h3 h4 h5 => va_ti X.1 X.2.1 (X.2.2.2.2.2.2.2.1.2.2.2.2.2.2.1) h4 (inB_vp hb) rfl hd (kk _ rfl a ha H locs ls h1 h2 h3 h4 h5)
  · cases hv
theorem sm_alenB (X : Cx p s m args meth c cc nL own G) (pc1 : Nat) (hd : decode cc pc = .ok (.arraylength, 1)) (hp : pc + 1 = pc1) (kk : Sm p l e R s m args below meth c G nL Q cells slots ws pc1 L (.int 28 :: st) o) : Sm p l e R s m args below meth c G nL Q cells slots ws pc L (.ref (gad G 1002) :: st) o := by
  subst hp
  exact fun a ha H locs ls h1 h2 h3 h4 h5 => va_tlen X.1 X.2.1 (X.2.2.2.2.2.2.2.1.2.2.2.2.2.2.1) h4 rfl hd (kk a ha H locs ls h1 h2 h3 h4 h5)
def imax (x y : Int32) : Int32 := if x < y then y else x
def imin (x y : Int32) : Int32 := if y < x then y else x
theorem sm_mmax (X : Cx p s m args meth c cc nL own G) (pc1 : Nat) {index : Nat} {x y : Int32} (hd : decode cc pc = .ok (.invokestatic index, 3)) (hp : pc + 3 = pc1) (hlk : Cond.methodLink own index yJ9_max_7cf53 ∈ TB) (hst : Cond.static yJ9_max_7cf53 ∈ TB) (hco : Cond.code yJ9_max_7cf53 cJ9_max_7cf53 2 (some .int) ∈ TB) (hini : Cond.initialized "java/lang/Math" ∈ TB) (hR : 1 ≤ R.frames ∧ (st.map fun v => v.category).sum + 13 ≤ R.locals ∧ cells ≤ R.cells ∧ slots ≤ R.slots) (kk : Sm p l e R s m args below meth c G nL Q cells slots ws pc1 L (.int (imax x y) :: st) o) : Sm p l e R s m args below meth c G nL Q cells slots ws pc L (.int y :: .int x :: st) o := by
  subst hp
  exact fun a ha H locs ls h1 h2 h3 h4 h5 => va_mmax X.1 X.2.1 (X.2.2.1.trans h5.1.symm) X.2.2.2.2.2.1 (X.2.2.2.2.1 _ hlk) (X.2.2.2.2.1 _ hst) (X.2.2.2.2.1 _ hini) (X.2.2.2.2.1 _ hco) hR.1 hR.2.1 hR.2.2.1 hR.2.2.2 hd (kk a ha H locs ls h1 h2 h3 h4 h5)
theorem sm_mmin (X : Cx p s m args meth c cc nL own G) (pc1 : Nat) {index : Nat} {x y : Int32} (hd : decode cc pc = .ok (.invokestatic index, 3)) (hp : pc + 3 = pc1) (hlk : Cond.methodLink own index yJ9_min_7cf53 ∈ TB) (hst : Cond.static yJ9_min_7cf53 ∈ TB) (hco : Cond.code yJ9_min_7cf53 cJ9_min_7cf53 2 (some .int) ∈ TB) (hini : Cond.initialized "java/lang/Math" ∈ TB) (hR : 1 ≤ R.frames ∧ (st.map fun v => v.category).sum + 13 ≤ R.locals ∧ cells ≤ R.cells ∧ slots ≤ R.slots) (kk : Sm p l e R s m args below meth c G nL Q cells slots ws pc1 L (.int (imin x y) :: st) o) : Sm p l e R s m args below meth c G nL Q cells slots ws pc L (.int y :: .int x :: st) o := by
  subst hp
  exact fun a ha H locs ls h1 h2 h3 h4 h5 => va_mmin X.1 X.2.1 (X.2.2.1.trans h5.1.symm) X.2.2.2.2.2.1 (X.2.2.2.2.1 _ hlk) (X.2.2.2.2.1 _ hst) (X.2.2.2.2.1 _ hini) (X.2.2.2.2.1 _ hco) hR.1 hR.2.1 hR.2.2.1 hR.2.2.2 hd (kk a ha H locs ls h1 h2 h3 h4 h5)
theorem sm_copy (X : Cx p s m args meth c cc nL own G) (pc1 : Nat) {k1 k2 index : Nat} {i j n : Int32} {f : Sto → Option α} (hk1 : K0 k1 = 20) (hk2 : K0 k2 = 20) (hd : decode cc pc = .ok (.invokestatic index, 3)) (hp : pc + 3 = pc1) (hlk : Cond.methodLink own index arraycopyName ∈ TB) (hnat : Cond.native arraycopyName ∈ TB) (hst : Cond.static arraycopyName ∈ TB) (hini : Cond.initialized "java/lang/System" ∈ TB) (hR : 1 ≤ R.frames ∧ (st.map fun v => v.category).sum + (nativeFrameWords "java/lang/System" "arraycopy" 5 + 11) ≤ R.locals) (kk : ∀ σ', σ' = sW σ k2 (va_cpy (σ.1 k1) (σ.1 k2) i.toNatClampNeg j.toNatClampNeg n.toNatClampNeg) → Sm p l e R s m args below meth c G nL Q cells slots (wl G σ') pc1 L st (f σ')) : Sm p l e R s m args below meth c G nL Q cells slots (wl G σ) pc L (.int n :: .int j :: .ref (gad G k2) :: .int i :: .ref (gad G k1) :: st) ((cpA σ k1 i k2 j n).bind f) := by
  subst hp
  refine sm_bind fun σ' hv => ?_
  simp only [cpA] at hv
  split at hv
  · next hb =>
    cases hv
    refine fun a ha H locs ls h1 h2 h3 h4 h5 => va_copyi X.1 X.2.1 (X.2.2.1.trans h5.1.symm) X.2.2.2.2.2.1 (X.2.2.2.2.1 _ hlk) (X.2.2.2.2.1 _ hnat) (X.2.2.2.2.1 _ hst) (X.2.2.2.2.1 _ hini) X.2.2.2.2.2.2.1 h2 h3 h4 k1 k2 0 0 (wl_arr hk1) (wl_arr hk2) rfl rfl rfl hb.1 hb.2.1 hb.2.2.1 hb.2.2.2.1 hb.2.2.2.2 (fun _ _ => rfl) hR.1 hR.2 hd (fun H1 locs1 g1 g2 g3 => ?_)
    rw [wl_setW hk2] at g1 g2
    exact kk _ rfl a ha H1 locs1 ls (fun q => absurd q (by rw [wl_len]; omega)) g1 g2 g3 h5
  · cases hv
end SM2
section SM3
variable {p : Program} {l : Launch} {e : Env} {R : Room} {s : State} {m : MethodId} {args : Array Value} {below : List Frame} {meth : Method} {c : Code} {cells slots : Nat}
variable {cc : ByteArray} {nL : Nat} {own : String} {G : GT} {α β : Type} {Q : α → State → Prop} {ws ws' : va_W} {pc : Nat} {L : List (Nat × Value)} {st : List Value} {o : Option α} {σ : Sto}
def CalW (y : MethodName) (cy : ByteArray) (nLy : Nat) (ret : Option FieldType) (n : Nat) : Prop := Cond.code y cy nLy ret ∈ TB ∧ Cond.initialized y.cls ∈ TB ∧ (y.cls ≠ "java/lang/invoke/MethodHandle" ∧ y.cls ≠ "java/lang/invoke/VarHandle" ∧ (parseMethodDescriptor y.desc).map (fun d => d.parameters.length) = some n)
theorem WV.at {s U : State} {H : Heap} {locs : List Loc} (X : Cx p s m args meth c cc nL own G) (h1 : Sz G ws H) (h2 : va_P (gD G) vwCl ws H) (h3 : va_D (smA G) ws) (h4 : va_S (smA G) s.heap H locs) (hU : U.heap = H) (hW : s.WarmedH U.vm) : WV G ws U :=
  ⟨hU ▸ h1, hU ▸ h2, h3, X.2.2.2.2.2.2.1.moved hW.alike, X.2.2.2.2.2.2.2.1.to hW (fun q a b => by rw [hU]; exact h4.2.1 q a b)⟩
theorem sm_ran {y : MethodName} {H : Heap} {locs : List Loc} {ls : Array Slot} {st0 rest : List Value} {mc ms : Nat} {rv : Option Value} {Q' : State → Prop} (X : Cx p s m args meth c cc nL own G) (h4 : va_S (smA G) s.heap H locs)
    (hr : va_Run p l e R s m args below meth c H locs cells slots mc ms (F0 m pc ls st0) rest (fun st oc t => oc = .returned rv ∧ WV G ws' t ∧ va_F (smA G) st t) (smA G))
    (kk : ∀ (H1 : Heap) (locs1 : List Loc), Sz G ws' H1 → va_P (gD G) vwCl ws' H1 → va_D (smA G) ws' → va_S (smA G) s.heap H1 locs1 → W p l e R s m args below meth c H1 locs1 (cells + mc) (slots + ms) Q' (F0 m (pc + 3) ls (rv.toList ++ rest))) : W p l e R s m args below meth c H locs cells slots Q' (F0 m pc ls st0) := by
  intro T hT X0
  obtain ⟨v, st₀, t, T', L', h0, X', hL, e1, e2, ⟨hv, ⟨g1, g2, g3, -, -⟩, hz, hk⟩, st⟩ := hr T hT X0
  cases hv
  rw [h0] at hz hk
  obtain ⟨t2, a1, b1⟩ := kk T'.heap (locs ++ L') (e1 ▸ g1) (e1 ▸ g2) g3
    ⟨Nat.le_trans h4.1 (by rw [e1]; exact hz), fun q a b => by rw [e1, hk q (Nat.lt_of_lt_of_le a h4.1) b]; exact h4.2.1 q a b, fun q hq => by
      rcases List.mem_append.mp hq with h | h
      · exact h4.2.2 q h
      · exact hL q h⟩ T' rfl X'
  exact ⟨t2, st t2 a1, b1⟩
theorem sm_callV (X : Cx p s m args meth c cc nL own G) (pc1 : Nat) {y : MethodName} {cy : ByteArray} {nLy fr lo mc ms n ci b index : Nat} {ret : Option FieldType} {rv : Option Value} {fs : List Value} {qc : vw_C} (As : List Value) (rest : List Value) {st0 : List Value} (q0 : Nat)
    (hM : MW l G fr lo mc ms y cy nLy ret (.ref b :: As) ws rv ws') (hw : CalW y cy nLy ret n) (hin : Cond.instanceMethod y ∈ TB) (hsel : Cond.selects y.cls y y ∈ TB) (hlk : Cond.methodLink own index y ∈ TB) (hb : ws[q0]? = some (b, .inr (ci, fs))) (hc : vwCl[ci]? = some qc) (hcq : qc.1 = y.cls)
    (hn : As.length = n) (hst : st0 = As.reverse ++ .ref b :: rest) (hsum : (rest.map fun v => v.category).sum ≤ 8) (hR : fr + 1 ≤ R.frames ∧ 8 + (nLy + 11) + lo ≤ R.locals) (hf : cells + mc ≤ R.cells ∧ slots + ms ≤ R.slots) (hd : decode cc pc = .ok (.invokevirtual index, 3)) (hp : pc + 3 = pc1)
    (kk : Sm p l e R s m args below meth c G nL Q (cells + mc) (slots + ms) ws' pc1 L (rv.toList ++ rest) o) : Sm p l e R s m args below meth c G nL Q cells slots ws pc L st0 o := by
  subst hp
  subst hst
  intro a ha H locs ls h1 h2 h3 h4 h5
  have ht := X.2.2.2.2.1
  have hrun := va_runV (e := e) (below := below) (meth := meth) (As := As) (rest := rest) (C := y.cls) (g := F0 m pc ls (As.reverse ++ .ref b :: rest)) (cells := cells) (slots := slots) (locs := locs) (H := H) ⟨X.1, X.2.1, X.2.2.1, X.2.2.2.2.2.1, ht⟩ hM
    ⟨callB_of n ht (tb_GoodIn hw.1) rfl rfl rfl (ht _ hw.2.1) (ht _ hlk) hw.2.2 hR, ht _ hin, ht _ hsel⟩
    ⟨WV.blind _, hcq ▸ va_recv X.2.2.2.2.2.2.1 h2 hc hb, fun U hU hW => ⟨rfl, WV.at X h1 h2 h3 h4 hU hW⟩⟩ rfl hn h5.1 rfl (lv_room hsum) hd hf
  exact sm_ran (y := y) X h4 hrun (fun H1 locs1 g1 g2 g3 g4 => kk a ha H1 locs1 ls g1 g2 g3 g4 h5)
theorem sm_callS (X : Cx p s m args meth c cc nL own G) (pc1 : Nat) {y : MethodName} {cy : ByteArray} {nLy fr lo mc ms n index : Nat} {ret : Option FieldType} {rv : Option Value} (As : List Value) (rest : List Value) {st0 : List Value}
    (hM : MW l G fr lo mc ms y cy nLy ret As ws rv ws') (hw : CalW y cy nLy ret n) (hin : Cond.static y ∈ TB) (hlk : Cond.methodLink own index y ∈ TB)
    (hn : As.length = n) (hst : st0 = As.reverse ++ rest) (hsum : (rest.map fun v => v.category).sum ≤ 8) (hR : fr + 1 ≤ R.frames ∧ 8 + (nLy + 11) + lo ≤ R.locals) (hf : cells + mc ≤ R.cells ∧ slots + ms ≤ R.slots) (hd : decode cc pc = .ok (.invokestatic index, 3)) (hp : pc + 3 = pc1)
    (kk : Sm p l e R s m args below meth c G nL Q (cells + mc) (slots + ms) ws' pc1 L (rv.toList ++ rest) o) : Sm p l e R s m args below meth c G nL Q cells slots ws pc L st0 o := by
  subst hp
  subst hst
  intro a ha H locs ls h1 h2 h3 h4 h5
  have ht := X.2.2.2.2.1
  have hrun := va_runS (e := e) (below := below) (meth := meth) (As := As) (rest := rest) (g := F0 m pc ls (As.reverse ++ rest)) (cells := cells) (slots := slots) (locs := locs) (H := H) ⟨X.1, X.2.1, X.2.2.1, X.2.2.2.2.2.1, ht⟩ hM
    ⟨callB_of n ht (tb_GoodIn hw.1) rfl rfl rfl (ht _ hw.2.1) (ht _ hlk) hw.2.2 hR, ht _ hin⟩
    ⟨WV.blind _, fun U hU hW => ⟨rfl, WV.at X h1 h2 h3 h4 hU hW⟩⟩ rfl hn h5.1 rfl (lv_room hsum) hd hf
  exact sm_ran (y := y) X h4 hrun (fun H1 locs1 g1 g2 g3 g4 => kk a ha H1 locs1 ls g1 g2 g3 g4 h5)
theorem sm_callSN (X : Cx p s m args meth c cc nL own G) (pc1 : Nat) {y : MethodName} {cy : ByteArray} {nLy fr lo mc ms n index : Nat} {ret : Option FieldType} {rv : Option Value} {host : String} (As : List Value) (rest : List Value) {st0 : List Value}
    (hM : MW l G fr lo mc ms y cy nLy ret As ws rv ws') (hw : CalW y cy nLy ret n) (hin : Cond.static y ∈ TB) (hlk : Cond.methodLinkNest own index y host ∈ NW)
    (hn : As.length = n) (hst : st0 = As.reverse ++ rest) (hsum : (rest.map fun v => v.category).sum ≤ 8) (hR : fr + 1 ≤ R.frames ∧ 8 + (nLy + 11) + lo ≤ R.locals) (hf : cells + mc ≤ R.cells ∧ slots + ms ≤ R.slots) (hd : decode cc pc = .ok (.invokestatic index, 3)) (hp : pc + 3 = pc1)
    (kk : Sm p l e R s m args below meth c G nL Q (cells + mc) (slots + ms) ws' pc1 L (rv.toList ++ rest) o) : Sm p l e R s m args below meth c G nL Q cells slots ws pc L st0 o := by
  subst hp
  subst hst
  intro a ha H locs ls h1 h2 h3 h4 h5
  have ht := X.2.2.2.2.1
  have hrun := va_runSN (e := e) (below := below) (meth := meth) (As := As) (rest := rest) (host := host) (g := F0 m pc ls (As.reverse ++ rest)) (cells := cells) (slots := slots) (locs := locs) (H := H) ⟨X.1, X.2.1, X.2.2.1, X.2.2.2.2.2.1, ht⟩ hM
    ⟨va_cnB n ht (tb_GoodIn hw.1) rfl rfl rfl (X.2.2.2.2.2.2.2.1.1 _ hlk) (ht _ hw.2.1) hw.2.2 hR, ht _ hin, trivial⟩
    ⟨WV.blind _, fun U hU hW => ⟨rfl, WV.at X h1 h2 h3 h4 hU hW⟩⟩ rfl hn h5.1 rfl (lv_room hsum) hd hf
  exact sm_ran (y := y) X h4 hrun (fun H1 locs1 g1 g2 g3 g4 => kk a ha H1 locs1 ls g1 g2 g3 g4 h5)
theorem sm_callV0 (X : Cx p s m args meth c cc nL own G) (pc1 : Nat) {y : MethodName} {cy : ByteArray} {nLy fr lo n ci k index : Nat} {ret : Option FieldType} {rv : Option Value} {qc : vw_C} {σ' : Sto} (As : List Value) (rest : List Value) {st0 : List Value} (st1 : List Value)
    (hM : MW l G fr lo 0 0 y cy nLy ret (.ref (gad G k) :: As) (wl G σ) rv (wl G σ')) (hw : CalW y cy nLy ret n) (hin : Cond.instanceMethod y ∈ TB) (hsel : Cond.selects y.cls y y ∈ TB) (hlk : Cond.methodLink own index y ∈ TB) (hk : K0 k = ci) (hc10 : ci < 10) (hc : vwCl[ci]? = some qc) (hcq : qc.1 = y.cls)
    (hn : As.length = n) (hst : st0 = As.reverse ++ .ref (gad G k) :: rest) (hst1 : rv.toList ++ rest = st1) (hsum : (rest.map fun v => v.category).sum ≤ 8) (hR : fr + 1 ≤ R.frames ∧ 8 + (nLy + 11) + lo ≤ R.locals) (hf : cells ≤ R.cells ∧ slots ≤ R.slots) (hd : decode cc pc = .ok (.invokevirtual index, 3)) (hp : pc + 3 = pc1)
    (kk : Sm p l e R s m args below meth c G nL Q cells slots (wl G σ') pc1 L st1 o) : Sm p l e R s m args below meth c G nL Q cells slots (wl G σ) pc L st0 o :=
  sm_callV X pc1 As rest k hM hw hin hsel hlk (wl_obj hk hc10) hc hcq hn hst hsum hR hf hd hp (hst1 ▸ kk)
theorem sm_callS0 (X : Cx p s m args meth c cc nL own G) (pc1 : Nat) {y : MethodName} {cy : ByteArray} {nLy fr lo n index : Nat} {ret : Option FieldType} {rv : Option Value} {σ' : Sto} (As : List Value) (rest : List Value) {st0 : List Value} (st1 : List Value)
    (hM : MW l G fr lo 0 0 y cy nLy ret As (wl G σ) rv (wl G σ')) (hw : CalW y cy nLy ret n) (hin : Cond.static y ∈ TB) (hlk : Cond.methodLink own index y ∈ TB)
    (hn : As.length = n) (hst : st0 = As.reverse ++ rest) (hst1 : rv.toList ++ rest = st1) (hsum : (rest.map fun v => v.category).sum ≤ 8) (hR : fr + 1 ≤ R.frames ∧ 8 + (nLy + 11) + lo ≤ R.locals) (hf : cells ≤ R.cells ∧ slots ≤ R.slots) (hd : decode cc pc = .ok (.invokestatic index, 3)) (hp : pc + 3 = pc1)
    (kk : Sm p l e R s m args below meth c G nL Q cells slots (wl G σ') pc1 L st1 o) : Sm p l e R s m args below meth c G nL Q cells slots (wl G σ) pc L st0 o :=
  sm_callS X pc1 As rest hM hw hin hlk hn hst hsum hR hf hd hp (hst1 ▸ kk)
theorem sm_callSN0 (X : Cx p s m args meth c cc nL own G) (pc1 : Nat) {y : MethodName} {cy : ByteArray} {nLy fr lo n index : Nat} {ret : Option FieldType} {rv : Option Value} {σ' : Sto} {host : String} (As : List Value) (rest : List Value) {st0 : List Value} (st1 : List Value)
    (hM : MW l G fr lo 0 0 y cy nLy ret As (wl G σ) rv (wl G σ')) (hw : CalW y cy nLy ret n) (hin : Cond.static y ∈ TB) (hlk : Cond.methodLinkNest own index y host ∈ NW)
    (hn : As.length = n) (hst : st0 = As.reverse ++ rest) (hst1 : rv.toList ++ rest = st1) (hsum : (rest.map fun v => v.category).sum ≤ 8) (hR : fr + 1 ≤ R.frames ∧ 8 + (nLy + 11) + lo ≤ R.locals) (hf : cells ≤ R.cells ∧ slots ≤ R.slots) (hd : decode cc pc = .ok (.invokestatic index, 3)) (hp : pc + 3 = pc1)
    (kk : Sm p l e R s m args below meth c G nL Q cells slots (wl G σ') pc1 L st1 o) : Sm p l e R s m args below meth c G nL Q cells slots (wl G σ) pc L st0 o :=
  sm_callSN X pc1 As rest hM hw hin hlk hn hst hsum hR hf hd hp (hst1 ▸ kk)
/-- a reference that must be there, of a class -/
def deref {γ : Type} (C : Nat) (r : Option Nat) (f : Nat → Option γ) : Option γ := match r with
  | some k => if K0 k = C then f k else none
  | none => none
theorem sm_deref {C : Nat} {r : Option Nat} {f : Nat → Option α} (h : ∀ k, r = some k → K0 k = C → Sm p l e R s m args below meth c G nL Q cells slots ws pc L st (f k)) : Sm p l e R s m args below meth c G nL Q cells slots ws pc L st (deref C r f) := by
  cases r with
  | none => exact sm_none
  | some k => exact sm_guard (fun hk => h k rfl hk)
/-- a text that must be there -/
def derefS {γ : Type} (r : Option Nat) (f : Nat → Option γ) : Option γ := match r with
  | some k => if 1003 ≤ k ∧ k < 1006 then f (k - 1003) else none
  | none => none
theorem sm_derefS {r : Option Nat} {f : Nat → Option α} (h : ∀ i, i < 3 → r = some (1003 + i) → Sm p l e R s m args below meth c G nL Q cells slots ws pc L st (f i)) : Sm p l e R s m args below meth c G nL Q cells slots ws pc L st (derefS r f) := by
  cases r with
  | none => exact sm_none
  | some k => exact sm_guard (fun hk => h (k - 1003) (by omega) (congrArg some (Nat.add_sub_cancel' hk.1).symm))
/-- the name of a reference that was read -/
def nmR {γ : Type} (x : Option Nat) (f : Option Nat → γ) : γ := f x
theorem sm_getrN (X : Cx p s m args meth c cc nL own G) (pc1 : Nat) {k ci j index : Nat} {C nm d : String} {f : Option Nat → Option α} (hk : K0 k = ci) (hF : Fld ci j 2 C nm d) (hd : decode cc pc = .ok (.getfield index, 3)) (hp : pc + 3 = pc1) (hq : Cond.fieldLink own index C nm d ∈ TB) (kk : ∀ r, r = σ.2 k j → Sm p l e R s m args below meth c G nL Q cells slots (wl G σ) pc1 L (va_re (gad G) r :: st) (f r)) : Sm p l e R s m args below meth c G nL Q cells slots (wl G σ) pc L (.ref (gad G k) :: st) (nmR (σ.2 k j) f) :=
  sm_getr X pc1 hk hF hd hp hq (kk _ rfl)
theorem sm_callStr (X : Cx p s m args meth c cc nL own G) (pc1 : Nat) {y : MethodName} {cy : ByteArray} {nLy fr lo n i index : Nat} {ret : Option FieldType} {rv : Option Value} (As : List Value) (rest : List Value) {st0 : List Value} (st1 : List Value)
    (hM : MW l G fr lo 0 0 y cy nLy ret (.ref (gad G (1003 + i)) :: As) (wl G σ) rv (wl G σ)) (hi : i < 3) (hw : CalW y cy nLy ret n) (hin : Cond.instanceMethod y ∈ TB) (hsel : Cond.selects y.cls y y ∈ TB) (hlk : Cond.methodLink own index y ∈ TB) (hy : y.cls = "java/lang/String")
    (hn : As.length = n) (hst : st0 = As.reverse ++ .ref (gad G (1003 + i)) :: rest) (hst1 : rv.toList ++ rest = st1) (hsum : (rest.map fun v => v.category).sum ≤ 8) (hR : fr + 1 ≤ R.frames ∧ 8 + (nLy + 11) + lo ≤ R.locals) (hf : cells ≤ R.cells ∧ slots ≤ R.slots) (hd : decode cc pc = .ok (.invokevirtual index, 3)) (hp : pc + 3 = pc1)
    (kk : Sm p l e R s m args below meth c G nL Q cells slots (wl G σ) pc1 L st1 o) : Sm p l e R s m args below meth c G nL Q cells slots (wl G σ) pc L st0 o := by
  subst hp
  subst hst
  subst hst1
  intro a ha H locs ls h1 h2 h3 h4 h5
  have ht := X.2.2.2.2.1
  have hE := X.2.2.2.2.2.2.2.1.2.2.2.2.2.2.2.2.2
  have hrun := va_runV (e := e) (below := below) (meth := meth) (As := As) (rest := rest) (C := y.cls) (g := F0 m pc ls (As.reverse ++ .ref (gad G (1003 + i)) :: rest)) (cells := cells) (slots := slots) (locs := locs) (H := H) ⟨X.1, X.2.1, X.2.2.1, X.2.2.2.2.2.1, ht⟩ hM
    ⟨callB_of n ht (tb_GoodIn hw.1) rfl rfl rfl (ht _ hw.2.1) (ht _ hlk) hw.2.2 hR, ht _ hin, ht _ hsel⟩
    ⟨WV.blind _, by rw [hy]; exact vk_recv (adK := fun i => gad G (1003 + i)) (i := i) hE hi h4, fun U hU hW => ⟨rfl, WV.at X h1 h2 h3 h4 hU hW⟩⟩ rfl hn h5.1 rfl (lv_room hsum) hd hf
  exact sm_ran (y := y) X h4 hrun (fun H1 locs1 g1 g2 g3 g4 => kk a ha H1 locs1 ls g1 g2 g3 g4 h5)
end SM3
/-- how a result is told: (answer, world) -/
abbrev fiI (G : GT) : Int32 × Sto → Option Value × va_W := fun r => (some (.int r.1), wl G r.2)
abbrev fiZ (G : GT) : Bool × Sto → Option Value × va_W := fun r => (some (.int (b2i r.1)), wl G r.2)
abbrev fiV (G : GT) : Sto → Option Value × va_W := fun σ => (none, wl G σ)
abbrev fiR (G : GT) : Option Nat × Sto → Option Value × va_W := fun r => (some (va_re (gad G) r.1), wl G r.2)
abbrev fpI (G : GT) (σ : Sto) : Int32 → Option Value × va_W := fun r => (some (.int r), wl G σ)
abbrev fpZ (G : GT) (σ : Sto) : Bool → Option Value × va_W := fun r => (some (.int (b2i r)), wl G σ)
abbrev fpR (G : GT) (σ : Sto) : Option Nat → Option Value × va_W := fun r => (some (va_re (gad G) r), wl G σ)
section SM4
variable {p : Program} {l : Launch} {e : Env} {R : Room} {s : State} {m : MethodId} {args : Array Value} {below : List Frame} {meth : Method} {c : Code} {cells slots : Nat}
variable {cc : ByteArray} {nL : Nat} {own : String} {G : GT} {α : Type} {ws : va_W} {pc : Nat} {L : List (Nat × Value)} {fin : α → Option Value × va_W} {a : α}
theorem sm_iret {v : Int32} (X : Cx p s m args meth c cc nL own G) (hr : meth.sig.returnType = some .int) (hd : decode cc pc = .ok (.ireturn, 1)) (hf : fin a = (some (.int v), ws)) : Sm p l e R s m args below meth c G nL (Qm below args s G cells slots fin) cells slots ws pc L [.int v] (some a) := by
  intro a' ha H locs ls h1 h2 h3 h4 h5
  cases ha
  unfold Qm
  rw [hf]
  exact W.iret X.1 X.2.1 hr (fun t ht hW => ⟨rfl, WV.at X h1 h2 h3 h4 ht hW, h4.F ht⟩) h4.2.2 hd X.2.2.2.1
theorem sm_zret {v : Bool} (X : Cx p s m args meth c cc nL own G) (hr : meth.sig.returnType = some .boolean) (hd : decode cc pc = .ok (.ireturn, 1)) (hf : fin a = (some (.int (b2i v)), ws)) : Sm p l e R s m args below meth c G nL (Qm below args s G cells slots fin) cells slots ws pc L [.int (b2i v)] (some a) := by
  intro a' ha H locs ls h1 h2 h3 h4 h5
  cases ha
  unfold Qm
  rw [hf]
  exact W.zret X.1 X.2.1 hr (by cases v <;> rfl) (fun t ht hW => ⟨rfl, WV.at X h1 h2 h3 h4 ht hW, h4.F ht⟩) h4.2.2 hd X.2.2.2.1
theorem sm_vret (X : Cx p s m args meth c cc nL own G) (hr : meth.sig.returnType = none) (hd : decode cc pc = .ok (.return_, 1)) (hf : fin a = (none, ws)) : Sm p l e R s m args below meth c G nL (Qm below args s G cells slots fin) cells slots ws pc L [] (some a) := by
  intro a' ha H locs ls h1 h2 h3 h4 h5
  cases ha
  unfold Qm
  rw [hf]
  exact W.vret X.1 X.2.1 hr (fun t ht hW => ⟨rfl, WV.at X h1 h2 h3 h4 ht hW, h4.F ht⟩) h4.2.2 hd X.2.2.2.1
theorem sm_aret {r : Option Nat} {nm : String} (X : Cx p s m args meth c cc nL own G) (hr : meth.sig.returnType = some (.object nm)) (hd : decode cc pc = .ok (.areturn, 1)) (hf : fin a = (some (va_re (gad G) r), ws)) : Sm p l e R s m args below meth c G nL (Qm below args s G cells slots fin) cells slots ws pc L [va_re (gad G) r] (some a) := by
  intro a' ha H locs ls h1 h2 h3 h4 h5
  cases ha
  unfold Qm
  rw [hf]
  exact W.aret X.1 X.2.1 hr (Or.inl ⟨_, rfl⟩) (va_re_or _ _) (fun t ht hW => ⟨rfl, WV.at X h1 h2 h3 h4 ht hW, h4.F ht⟩) h4.2.2 hd X.2.2.2.1
end SM4
end
section
set_option maxRecDepth 100000 in
theorem fd_0_0 : Fld 0 0 1 "LakeSwimmers$Lake" "currents" "[I" := ⟨TX0, 16, tyX0, rfl, by decide, inX0, by decide, rfl, rfl, rfl, tyX0_ok, nmX0⟩
set_option maxRecDepth 100000 in
theorem fd_0_1 : Fld 0 1 0 "LakeSwimmers$Lake" "wind" "I" := ⟨TX0, 16, tyX0, rfl, by decide, inX0, by decide, rfl, rfl, rfl, tyX0_ok, nmX0⟩
set_option maxRecDepth 100000 in
theorem fd_0_2 : Fld 0 2 0 "LakeSwimmers$Lake" "sight" "I" := ⟨TX0, 16, tyX0, rfl, by decide, inX0, by decide, rfl, rfl, rfl, tyX0_ok, nmX0⟩
set_option maxRecDepth 100000 in
theorem fd_0_3 : Fld 0 3 0 "LakeSwimmers$Lake" "border" "I" := ⟨TX0, 16, tyX0, rfl, by decide, inX0, by decide, rfl, rfl, rfl, tyX0_ok, nmX0⟩
set_option maxRecDepth 100000 in
theorem fd_0_4 : Fld 0 4 0 "LakeSwimmers$Lake" "year" "I" := ⟨TX0, 16, tyX0, rfl, by decide, inX0, by decide, rfl, rfl, rfl, tyX0_ok, nmX0⟩
set_option maxRecDepth 100000 in
theorem fd_0_5 : Fld 0 5 0 "LakeSwimmers$Lake" "fish" "I" := ⟨TX0, 16, tyX0, rfl, by decide, inX0, by decide, rfl, rfl, rfl, tyX0_ok, nmX0⟩
set_option maxRecDepth 100000 in
theorem fd_0_6 : Fld 0 6 0 "LakeSwimmers$Lake" "otherFish" "I" := ⟨TX0, 16, tyX0, rfl, by decide, inX0, by decide, rfl, rfl, rfl, tyX0_ok, nmX0⟩
set_option maxRecDepth 100000 in
theorem fd_0_7 : Fld 0 7 1 "LakeSwimmers$Lake" "swimmers" "[LLakeSwimmers$Swimmer;" := ⟨TX0, 16, tyX0, rfl, by decide, inX0, by decide, rfl, rfl, rfl, tyX0_ok, nmX0⟩
set_option maxRecDepth 100000 in
theorem fd_0_8 : Fld 0 8 0 "LakeSwimmers$Lake" "swimmerCount" "I" := ⟨TX0, 16, tyX0, rfl, by decide, inX0, by decide, rfl, rfl, rfl, tyX0_ok, nmX0⟩
set_option maxRecDepth 100000 in
theorem fd_0_9 : Fld 0 9 1 "LakeSwimmers$Lake" "flows" "LLakeSwimmers$Law;" := ⟨TX0, 16, tyX0, rfl, by decide, inX0, by decide, rfl, rfl, rfl, tyX0_ok, nmX0⟩
set_option maxRecDepth 100000 in
theorem fd_0_10 : Fld 0 10 1 "LakeSwimmers$Lake" "catches" "LLakeSwimmers$Law;" := ⟨TX0, 16, tyX0, rfl, by decide, inX0, by decide, rfl, rfl, rfl, tyX0_ok, nmX0⟩
set_option maxRecDepth 100000 in
theorem fd_0_11 : Fld 0 11 1 "LakeSwimmers$Lake" "tape" "[I" := ⟨TX0, 16, tyX0, rfl, by decide, inX0, by decide, rfl, rfl, rfl, tyX0_ok, nmX0⟩
set_option maxRecDepth 100000 in
theorem fd_0_12 : Fld 0 12 0 "LakeSwimmers$Lake" "tapeLength" "I" := ⟨TX0, 16, tyX0, rfl, by decide, inX0, by decide, rfl, rfl, rfl, tyX0_ok, nmX0⟩
set_option maxRecDepth 100000 in
theorem fd_0_13 : Fld 0 13 1 "LakeSwimmers$Lake" "waiting" "[I" := ⟨TX0, 16, tyX0, rfl, by decide, inX0, by decide, rfl, rfl, rfl, tyX0_ok, nmX0⟩
set_option maxRecDepth 100000 in
theorem fd_0_14 : Fld 0 14 0 "LakeSwimmers$Lake" "waitingCount" "I" := ⟨TX0, 16, tyX0, rfl, by decide, inX0, by decide, rfl, rfl, rfl, tyX0_ok, nmX0⟩
set_option maxRecDepth 100000 in
theorem fd_0_15 : Fld 0 15 0 "LakeSwimmers$Lake" "z" "I" := ⟨TX0, 16, tyX0, rfl, by decide, inX0, by decide, rfl, rfl, rfl, tyX0_ok, nmX0⟩
set_option maxRecDepth 100000 in
theorem fd_1_0 : Fld 1 0 0 "LakeSwimmers$Law" "use" "I" := ⟨TX1, 4, tyX1, rfl, by decide, inX1, by decide, rfl, rfl, rfl, tyX1_ok, nmX1⟩
set_option maxRecDepth 100000 in
theorem fd_1_1 : Fld 1 1 1 "LakeSwimmers$Law" "row" "[I" := ⟨TX1, 4, tyX1, rfl, by decide, inX1, by decide, rfl, rfl, rfl, tyX1_ok, nmX1⟩
set_option maxRecDepth 100000 in
theorem fd_1_2 : Fld 1 2 1 "LakeSwimmers$Law" "stack" "[I" := ⟨TX1, 4, tyX1, rfl, by decide, inX1, by decide, rfl, rfl, rfl, tyX1_ok, nmX1⟩
set_option maxRecDepth 100000 in
theorem fd_1_3 : Fld 1 3 0 "LakeSwimmers$Law" "length" "I" := ⟨TX1, 4, tyX1, rfl, by decide, inX1, by decide, rfl, rfl, rfl, tyX1_ok, nmX1⟩
set_option maxRecDepth 100000 in
theorem fd_2_0 : Fld 2 0 0 "LakeSwimmers$PlanSearch" "found" "Z" := ⟨TX2, 8, tyX2, rfl, by decide, inX2, by decide, rfl, rfl, rfl, tyX2_ok, nmX2⟩
set_option maxRecDepth 100000 in
theorem fd_2_1 : Fld 2 1 0 "LakeSwimmers$PlanSearch" "place" "I" := ⟨TX2, 8, tyX2, rfl, by decide, inX2, by decide, rfl, rfl, rfl, tyX2_ok, nmX2⟩
set_option maxRecDepth 100000 in
theorem fd_2_2 : Fld 2 2 1 "LakeSwimmers$PlanSearch" "best" "[I" := ⟨TX2, 8, tyX2, rfl, by decide, inX2, by decide, rfl, rfl, rfl, tyX2_ok, nmX2⟩
set_option maxRecDepth 100000 in
theorem fd_2_3 : Fld 2 3 1 "LakeSwimmers$PlanSearch" "tried" "LLakeSwimmers$Swimmer;" := ⟨TX2, 8, tyX2, rfl, by decide, inX2, by decide, rfl, rfl, rfl, tyX2_ok, nmX2⟩
set_option maxRecDepth 100000 in
theorem fd_2_4 : Fld 2 4 1 "LakeSwimmers$PlanSearch" "otherPlaces" "[I" := ⟨TX2, 8, tyX2, rfl, by decide, inX2, by decide, rfl, rfl, rfl, tyX2_ok, nmX2⟩
set_option maxRecDepth 100000 in
theorem fd_2_5 : Fld 2 5 2 "LakeSwimmers$PlanSearch" "swim" "LLakeSwimmers$Swim;" := ⟨TX2, 8, tyX2, rfl, by decide, inX2, by decide, rfl, rfl, rfl, tyX2_ok, nmX2⟩
set_option maxRecDepth 100000 in
theorem fd_2_6 : Fld 2 6 2 "LakeSwimmers$PlanSearch" "other" "LLakeSwimmers$Swimmer;" := ⟨TX2, 8, tyX2, rfl, by decide, inX2, by decide, rfl, rfl, rfl, tyX2_ok, nmX2⟩
set_option maxRecDepth 100000 in
theorem fd_2_7 : Fld 2 7 0 "LakeSwimmers$PlanSearch" "sight" "I" := ⟨TX2, 8, tyX2, rfl, by decide, inX2, by decide, rfl, rfl, rfl, tyX2_ok, nmX2⟩
set_option maxRecDepth 100000 in
theorem fd_3_0 : Fld 3 0 1 "LakeSwimmers$Reader" "row" "[I" := ⟨TX3, 6, tyX3, rfl, by decide, inX3, by decide, rfl, rfl, rfl, tyX3_ok, nmX3⟩
set_option maxRecDepth 100000 in
theorem fd_3_1 : Fld 3 1 0 "LakeSwimmers$Reader" "rowLength" "I" := ⟨TX3, 6, tyX3, rfl, by decide, inX3, by decide, rfl, rfl, rfl, tyX3_ok, nmX3⟩
set_option maxRecDepth 100000 in
theorem fd_3_2 : Fld 3 2 1 "LakeSwimmers$Reader" "bytes" "[I" := ⟨TX3, 6, tyX3, rfl, by decide, inX3, by decide, rfl, rfl, rfl, tyX3_ok, nmX3⟩
set_option maxRecDepth 100000 in
theorem fd_3_3 : Fld 3 3 0 "LakeSwimmers$Reader" "length" "I" := ⟨TX3, 6, tyX3, rfl, by decide, inX3, by decide, rfl, rfl, rfl, tyX3_ok, nmX3⟩
set_option maxRecDepth 100000 in
theorem fd_3_4 : Fld 3 4 0 "LakeSwimmers$Reader" "place" "I" := ⟨TX3, 6, tyX3, rfl, by decide, inX3, by decide, rfl, rfl, rfl, tyX3_ok, nmX3⟩
set_option maxRecDepth 100000 in
theorem fd_3_5 : Fld 3 5 2 "LakeSwimmers$Reader" "names" "Ljava/lang/String;" := ⟨TX3, 6, tyX3, rfl, by decide, inX3, by decide, rfl, rfl, rfl, tyX3_ok, nmX3⟩
set_option maxRecDepth 100000 in
theorem fd_4_0 : Fld 4 0 1 "LakeSwimmers$Sheet" "numbers" "[I" := ⟨TX4, 3, tyX4, rfl, by decide, inX4, by decide, rfl, rfl, rfl, tyX4_ok, nmX4⟩
set_option maxRecDepth 100000 in
theorem fd_4_1 : Fld 4 1 0 "LakeSwimmers$Sheet" "length" "I" := ⟨TX4, 3, tyX4, rfl, by decide, inX4, by decide, rfl, rfl, rfl, tyX4_ok, nmX4⟩
set_option maxRecDepth 100000 in
theorem fd_4_2 : Fld 4 2 0 "LakeSwimmers$Sheet" "bits" "I" := ⟨TX4, 3, tyX4, rfl, by decide, inX4, by decide, rfl, rfl, rfl, tyX4_ok, nmX4⟩
set_option maxRecDepth 100000 in
theorem fd_5_0 : Fld 5 0 1 "LakeSwimmers$Swim" "flows" "[I" := ⟨TX5, 6, tyX5, rfl, by decide, inX5, by decide, rfl, rfl, rfl, tyX5_ok, nmX5⟩
set_option maxRecDepth 100000 in
theorem fd_5_1 : Fld 5 1 0 "LakeSwimmers$Swim" "minute" "I" := ⟨TX5, 6, tyX5, rfl, by decide, inX5, by decide, rfl, rfl, rfl, tyX5_ok, nmX5⟩
set_option maxRecDepth 100000 in
theorem fd_5_2 : Fld 5 2 0 "LakeSwimmers$Swim" "place" "I" := ⟨TX5, 6, tyX5, rfl, by decide, inX5, by decide, rfl, rfl, rfl, tyX5_ok, nmX5⟩
set_option maxRecDepth 100000 in
theorem fd_5_3 : Fld 5 3 0 "LakeSwimmers$Swim" "lane" "I" := ⟨TX5, 6, tyX5, rfl, by decide, inX5, by decide, rfl, rfl, rfl, tyX5_ok, nmX5⟩
set_option maxRecDepth 100000 in
theorem fd_5_4 : Fld 5 4 0 "LakeSwimmers$Swim" "oneAt" "I" := ⟨TX5, 6, tyX5, rfl, by decide, inX5, by decide, rfl, rfl, rfl, tyX5_ok, nmX5⟩
set_option maxRecDepth 100000 in
theorem fd_5_5 : Fld 5 5 0 "LakeSwimmers$Swim" "otherAt" "I" := ⟨TX5, 6, tyX5, rfl, by decide, inX5, by decide, rfl, rfl, rfl, tyX5_ok, nmX5⟩
set_option maxRecDepth 100000 in
theorem fd_6_0 : Fld 6 0 0 "LakeSwimmers$Swimmer" "kind" "I" := ⟨TX6, 6, tyX6, rfl, by decide, inX6, by decide, rfl, rfl, rfl, tyX6_ok, nmX6⟩
set_option maxRecDepth 100000 in
theorem fd_6_1 : Fld 6 1 0 "LakeSwimmers$Swimmer" "m" "I" := ⟨TX6, 6, tyX6, rfl, by decide, inX6, by decide, rfl, rfl, rfl, tyX6_ok, nmX6⟩
set_option maxRecDepth 100000 in
theorem fd_6_2 : Fld 6 2 0 "LakeSwimmers$Swimmer" "side" "I" := ⟨TX6, 6, tyX6, rfl, by decide, inX6, by decide, rfl, rfl, rfl, tyX6_ok, nmX6⟩
set_option maxRecDepth 100000 in
theorem fd_6_3 : Fld 6 3 0 "LakeSwimmers$Swimmer" "skill" "I" := ⟨TX6, 6, tyX6, rfl, by decide, inX6, by decide, rfl, rfl, rfl, tyX6_ok, nmX6⟩
set_option maxRecDepth 100000 in
theorem fd_6_4 : Fld 6 4 0 "LakeSwimmers$Swimmer" "met" "I" := ⟨TX6, 6, tyX6, rfl, by decide, inX6, by decide, rfl, rfl, rfl, tyX6_ok, nmX6⟩
set_option maxRecDepth 100000 in
theorem fd_6_5 : Fld 6 5 1 "LakeSwimmers$Swimmer" "lanes" "[I" := ⟨TX6, 6, tyX6, rfl, by decide, inX6, by decide, rfl, rfl, rfl, tyX6_ok, nmX6⟩
set_option maxRecDepth 100000 in
theorem fd_7_0 : Fld 7 0 1 "LakeSwimmers$Voices" "trace" "[I" := ⟨TX7, 5, tyX7, rfl, by decide, inX7, by decide, rfl, rfl, rfl, tyX7_ok, nmX7⟩
set_option maxRecDepth 100000 in
theorem fd_7_1 : Fld 7 1 0 "LakeSwimmers$Voices" "traceLength" "I" := ⟨TX7, 5, tyX7, rfl, by decide, inX7, by decide, rfl, rfl, rfl, tyX7_ok, nmX7⟩
set_option maxRecDepth 100000 in
theorem fd_7_2 : Fld 7 2 0 "LakeSwimmers$Voices" "kind" "I" := ⟨TX7, 5, tyX7, rfl, by decide, inX7, by decide, rfl, rfl, rfl, tyX7_ok, nmX7⟩
set_option maxRecDepth 100000 in
theorem fd_7_3 : Fld 7 3 0 "LakeSwimmers$Voices" "n" "I" := ⟨TX7, 5, tyX7, rfl, by decide, inX7, by decide, rfl, rfl, rfl, tyX7_ok, nmX7⟩
set_option maxRecDepth 100000 in
theorem fd_7_4 : Fld 7 4 0 "LakeSwimmers$Voices" "m" "I" := ⟨TX7, 5, tyX7, rfl, by decide, inX7, by decide, rfl, rfl, rfl, tyX7_ok, nmX7⟩
set_option maxRecDepth 100000 in
theorem fd_8_0 : Fld 8 0 1 "LakeSwimmers" "lake" "LLakeSwimmers$Lake;" := ⟨TX8, 11, tyX8, rfl, by decide, inX8, by decide, rfl, rfl, rfl, tyX8_ok, nmX8⟩
set_option maxRecDepth 100000 in
theorem fd_8_1 : Fld 8 1 1 "LakeSwimmers" "kept" "LLakeSwimmers$Lake;" := ⟨TX8, 11, tyX8, rfl, by decide, inX8, by decide, rfl, rfl, rfl, tyX8_ok, nmX8⟩
set_option maxRecDepth 100000 in
theorem fd_8_2 : Fld 8 2 1 "LakeSwimmers" "reader" "LLakeSwimmers$Reader;" := ⟨TX8, 11, tyX8, rfl, by decide, inX8, by decide, rfl, rfl, rfl, tyX8_ok, nmX8⟩
set_option maxRecDepth 100000 in
theorem fd_8_3 : Fld 8 3 1 "LakeSwimmers" "swim" "LLakeSwimmers$Swim;" := ⟨TX8, 11, tyX8, rfl, by decide, inX8, by decide, rfl, rfl, rfl, tyX8_ok, nmX8⟩
set_option maxRecDepth 100000 in
theorem fd_8_4 : Fld 8 4 1 "LakeSwimmers" "search" "LLakeSwimmers$PlanSearch;" := ⟨TX8, 11, tyX8, rfl, by decide, inX8, by decide, rfl, rfl, rfl, tyX8_ok, nmX8⟩
set_option maxRecDepth 100000 in
theorem fd_8_5 : Fld 8 5 1 "LakeSwimmers" "voices" "LLakeSwimmers$Voices;" := ⟨TX8, 11, tyX8, rfl, by decide, inX8, by decide, rfl, rfl, rfl, tyX8_ok, nmX8⟩
set_option maxRecDepth 100000 in
theorem fd_8_6 : Fld 8 6 1 "LakeSwimmers" "sheets" "[LLakeSwimmers$Sheet;" := ⟨TX8, 11, tyX8, rfl, by decide, inX8, by decide, rfl, rfl, rfl, tyX8_ok, nmX8⟩
set_option maxRecDepth 100000 in
theorem fd_8_7 : Fld 8 7 1 "LakeSwimmers" "errorCounts" "[I" := ⟨TX8, 11, tyX8, rfl, by decide, inX8, by decide, rfl, rfl, rfl, tyX8_ok, nmX8⟩
set_option maxRecDepth 100000 in
theorem fd_8_8 : Fld 8 8 1 "LakeSwimmers" "standIn" "LLakeSwimmers$Swimmer;" := ⟨TX8, 11, tyX8, rfl, by decide, inX8, by decide, rfl, rfl, rfl, tyX8_ok, nmX8⟩
set_option maxRecDepth 100000 in
theorem fd_8_9 : Fld 8 9 1 "LakeSwimmers" "otherStandIn" "LLakeSwimmers$Swimmer;" := ⟨TX8, 11, tyX8, rfl, by decide, inX8, by decide, rfl, rfl, rfl, tyX8_ok, nmX8⟩
set_option maxRecDepth 100000 in
theorem fd_8_10 : Fld 8 10 0 "LakeSwimmers" "imageCount" "I" := ⟨TX8, 11, tyX8, rfl, by decide, inX8, by decide, rfl, rfl, rfl, tyX8_ok, nmX8⟩
set_option maxRecDepth 100000 in
theorem fd_9_0 : Fld 9 0 1 "LakeSwimmersModel" "d" "[I" := ⟨TX9, 24, tyX9, rfl, by decide, inX9, by decide, rfl, rfl, rfl, tyX9_ok, nmX9⟩
set_option maxRecDepth 100000 in
theorem fd_9_1 : Fld 9 1 1 "LakeSwimmersModel" "e" "[I" := ⟨TX9, 24, tyX9, rfl, by decide, inX9, by decide, rfl, rfl, rfl, tyX9_ok, nmX9⟩
set_option maxRecDepth 100000 in
theorem fd_9_2 : Fld 9 2 1 "LakeSwimmersModel" "kept" "[I" := ⟨TX9, 24, tyX9, rfl, by decide, inX9, by decide, rfl, rfl, rfl, tyX9_ok, nmX9⟩
set_option maxRecDepth 100000 in
theorem fd_9_3 : Fld 9 3 0 "LakeSwimmersModel" "images" "I" := ⟨TX9, 24, tyX9, rfl, by decide, inX9, by decide, rfl, rfl, rfl, tyX9_ok, nmX9⟩
set_option maxRecDepth 100000 in
theorem fd_9_4 : Fld 9 4 1 "LakeSwimmersModel" "found" "[I" := ⟨TX9, 24, tyX9, rfl, by decide, inX9, by decide, rfl, rfl, rfl, tyX9_ok, nmX9⟩
set_option maxRecDepth 100000 in
theorem fd_9_5 : Fld 9 5 0 "LakeSwimmersModel" "base" "I" := ⟨TX9, 24, tyX9, rfl, by decide, inX9, by decide, rfl, rfl, rfl, tyX9_ok, nmX9⟩
set_option maxRecDepth 100000 in
theorem fd_9_6 : Fld 9 6 0 "LakeSwimmersModel" "at" "I" := ⟨TX9, 24, tyX9, rfl, by decide, inX9, by decide, rfl, rfl, rfl, tyX9_ok, nmX9⟩
set_option maxRecDepth 100000 in
theorem fd_9_7 : Fld 9 7 0 "LakeSwimmersModel" "size" "I" := ⟨TX9, 24, tyX9, rfl, by decide, inX9, by decide, rfl, rfl, rfl, tyX9_ok, nmX9⟩
set_option maxRecDepth 100000 in
theorem fd_9_8 : Fld 9 8 0 "LakeSwimmersModel" "fault" "I" := ⟨TX9, 24, tyX9, rfl, by decide, inX9, by decide, rfl, rfl, rfl, tyX9_ok, nmX9⟩
set_option maxRecDepth 100000 in
theorem fd_9_9 : Fld 9 9 0 "LakeSwimmersModel" "opened" "I" := ⟨TX9, 24, tyX9, rfl, by decide, inX9, by decide, rfl, rfl, rfl, tyX9_ok, nmX9⟩
set_option maxRecDepth 100000 in
theorem fd_9_10 : Fld 9 10 0 "LakeSwimmersModel" "isCatch" "Z" := ⟨TX9, 24, tyX9, rfl, by decide, inX9, by decide, rfl, rfl, rfl, tyX9_ok, nmX9⟩
set_option maxRecDepth 100000 in
theorem fd_9_11 : Fld 9 11 1 "LakeSwimmersModel" "names" "[I" := ⟨TX9, 24, tyX9, rfl, by decide, inX9, by decide, rfl, rfl, rfl, tyX9_ok, nmX9⟩
set_option maxRecDepth 100000 in
theorem fd_9_12 : Fld 9 12 1 "LakeSwimmersModel" "code" "[I" := ⟨TX9, 24, tyX9, rfl, by decide, inX9, by decide, rfl, rfl, rfl, tyX9_ok, nmX9⟩
set_option maxRecDepth 100000 in
theorem fd_9_13 : Fld 9 13 0 "LakeSwimmersModel" "coded" "I" := ⟨TX9, 24, tyX9, rfl, by decide, inX9, by decide, rfl, rfl, rfl, tyX9_ok, nmX9⟩
set_option maxRecDepth 100000 in
theorem fd_9_14 : Fld 9 14 1 "LakeSwimmersModel" "pile" "[I" := ⟨TX9, 24, tyX9, rfl, by decide, inX9, by decide, rfl, rfl, rfl, tyX9_ok, nmX9⟩
set_option maxRecDepth 100000 in
theorem fd_9_15 : Fld 9 15 0 "LakeSwimmersModel" "metIn" "I" := ⟨TX9, 24, tyX9, rfl, by decide, inX9, by decide, rfl, rfl, rfl, tyX9_ok, nmX9⟩
set_option maxRecDepth 100000 in
theorem fd_9_16 : Fld 9 16 0 "LakeSwimmersModel" "metAt" "I" := ⟨TX9, 24, tyX9, rfl, by decide, inX9, by decide, rfl, rfl, rfl, tyX9_ok, nmX9⟩
set_option maxRecDepth 100000 in
theorem fd_9_17 : Fld 9 17 1 "LakeSwimmersModel" "traced" "[I" := ⟨TX9, 24, tyX9, rfl, by decide, inX9, by decide, rfl, rfl, rfl, tyX9_ok, nmX9⟩
set_option maxRecDepth 100000 in
theorem fd_9_18 : Fld 9 18 0 "LakeSwimmersModel" "traceMany" "I" := ⟨TX9, 24, tyX9, rfl, by decide, inX9, by decide, rfl, rfl, rfl, tyX9_ok, nmX9⟩
set_option maxRecDepth 100000 in
theorem fd_9_19 : Fld 9 19 0 "LakeSwimmersModel" "who" "I" := ⟨TX9, 24, tyX9, rfl, by decide, inX9, by decide, rfl, rfl, rfl, tyX9_ok, nmX9⟩
set_option maxRecDepth 100000 in
theorem fd_9_20 : Fld 9 20 1 "LakeSwimmersModel" "bitsOf" "[I" := ⟨TX9, 24, tyX9, rfl, by decide, inX9, by decide, rfl, rfl, rfl, tyX9_ok, nmX9⟩
set_option maxRecDepth 100000 in
theorem fd_9_21 : Fld 9 21 1 "LakeSwimmersModel" "sizeOf" "[I" := ⟨TX9, 24, tyX9, rfl, by decide, inX9, by decide, rfl, rfl, rfl, tyX9_ok, nmX9⟩
set_option maxRecDepth 100000 in
theorem fd_9_22 : Fld 9 22 1 "LakeSwimmersModel" "number" "[I" := ⟨TX9, 24, tyX9, rfl, by decide, inX9, by decide, rfl, rfl, rfl, tyX9_ok, nmX9⟩
set_option maxRecDepth 100000 in
theorem fd_9_23 : Fld 9 23 1 "LakeSwimmersModel" "lifted" "[I" := ⟨TX9, 24, tyX9, rfl, by decide, inX9, by decide, rfl, rfl, rfl, tyX9_ok, nmX9⟩
set_option maxRecDepth 100000 in
theorem fr_0_0 {k : Nat} (hk : K0 k = 0) : R0 k 0 = some (A0 k 0) ∧ K0 (A0 k 0) = 20 ∧ Ln0 (A0 k 0) = 6 := (show ∀ k, k < NC → K0 k = 0 → R0 k 0 = some (A0 k 0) ∧ K0 (A0 k 0) = 20 ∧ Ln0 (A0 k 0) = 6 by decide +kernel) k (K0_lt hk (by decide)) hk
set_option maxRecDepth 100000 in
theorem fr_0_7 {k : Nat} (hk : K0 k = 0) : R0 k 7 = some (A0 k 7) ∧ K0 (A0 k 7) = 21 ∧ Ln0 (A0 k 7) = 8 := (show ∀ k, k < NC → K0 k = 0 → R0 k 7 = some (A0 k 7) ∧ K0 (A0 k 7) = 21 ∧ Ln0 (A0 k 7) = 8 by decide +kernel) k (K0_lt hk (by decide)) hk
set_option maxRecDepth 100000 in
theorem fr_0_9 {k : Nat} (hk : K0 k = 0) : R0 k 9 = some (A0 k 9) ∧ K0 (A0 k 9) = 1 ∧ Ln0 (A0 k 9) = 0 := (show ∀ k, k < NC → K0 k = 0 → R0 k 9 = some (A0 k 9) ∧ K0 (A0 k 9) = 1 ∧ Ln0 (A0 k 9) = 0 by decide +kernel) k (K0_lt hk (by decide)) hk
set_option maxRecDepth 100000 in
theorem fr_0_10 {k : Nat} (hk : K0 k = 0) : R0 k 10 = some (A0 k 10) ∧ K0 (A0 k 10) = 1 ∧ Ln0 (A0 k 10) = 0 := (show ∀ k, k < NC → K0 k = 0 → R0 k 10 = some (A0 k 10) ∧ K0 (A0 k 10) = 1 ∧ Ln0 (A0 k 10) = 0 by decide +kernel) k (K0_lt hk (by decide)) hk
set_option maxRecDepth 100000 in
theorem fr_0_11 {k : Nat} (hk : K0 k = 0) : R0 k 11 = some (A0 k 11) ∧ K0 (A0 k 11) = 20 ∧ Ln0 (A0 k 11) = 50 := (show ∀ k, k < NC → K0 k = 0 → R0 k 11 = some (A0 k 11) ∧ K0 (A0 k 11) = 20 ∧ Ln0 (A0 k 11) = 50 by decide +kernel) k (K0_lt hk (by decide)) hk
set_option maxRecDepth 100000 in
theorem fr_0_13 {k : Nat} (hk : K0 k = 0) : R0 k 13 = some (A0 k 13) ∧ K0 (A0 k 13) = 20 ∧ Ln0 (A0 k 13) = 20 := (show ∀ k, k < NC → K0 k = 0 → R0 k 13 = some (A0 k 13) ∧ K0 (A0 k 13) = 20 ∧ Ln0 (A0 k 13) = 20 by decide +kernel) k (K0_lt hk (by decide)) hk
set_option maxRecDepth 100000 in
theorem fr_1_1 {k : Nat} (hk : K0 k = 1) : R0 k 1 = some (A0 k 1) ∧ K0 (A0 k 1) = 20 ∧ Ln0 (A0 k 1) = 50 := (show ∀ k, k < NC → K0 k = 1 → R0 k 1 = some (A0 k 1) ∧ K0 (A0 k 1) = 20 ∧ Ln0 (A0 k 1) = 50 by decide +kernel) k (K0_lt hk (by decide)) hk
set_option maxRecDepth 100000 in
theorem fr_1_2 {k : Nat} (hk : K0 k = 1) : R0 k 2 = some (A0 k 2) ∧ K0 (A0 k 2) = 20 ∧ Ln0 (A0 k 2) = 50 := (show ∀ k, k < NC → K0 k = 1 → R0 k 2 = some (A0 k 2) ∧ K0 (A0 k 2) = 20 ∧ Ln0 (A0 k 2) = 50 by decide +kernel) k (K0_lt hk (by decide)) hk
set_option maxRecDepth 100000 in
theorem fr_2_2 {k : Nat} (hk : K0 k = 2) : R0 k 2 = some (A0 k 2) ∧ K0 (A0 k 2) = 20 ∧ Ln0 (A0 k 2) = 4 := (show ∀ k, k < NC → K0 k = 2 → R0 k 2 = some (A0 k 2) ∧ K0 (A0 k 2) = 20 ∧ Ln0 (A0 k 2) = 4 by decide +kernel) k (K0_lt hk (by decide)) hk
set_option maxRecDepth 100000 in
theorem fr_2_3 {k : Nat} (hk : K0 k = 2) : R0 k 3 = some (A0 k 3) ∧ K0 (A0 k 3) = 6 ∧ Ln0 (A0 k 3) = 0 := (show ∀ k, k < NC → K0 k = 2 → R0 k 3 = some (A0 k 3) ∧ K0 (A0 k 3) = 6 ∧ Ln0 (A0 k 3) = 0 by decide +kernel) k (K0_lt hk (by decide)) hk
set_option maxRecDepth 100000 in
theorem fr_2_4 {k : Nat} (hk : K0 k = 2) : R0 k 4 = some (A0 k 4) ∧ K0 (A0 k 4) = 20 ∧ Ln0 (A0 k 4) = 60 := (show ∀ k, k < NC → K0 k = 2 → R0 k 4 = some (A0 k 4) ∧ K0 (A0 k 4) = 20 ∧ Ln0 (A0 k 4) = 60 by decide +kernel) k (K0_lt hk (by decide)) hk
set_option maxRecDepth 100000 in
theorem fr_3_0 {k : Nat} (hk : K0 k = 3) : R0 k 0 = some (A0 k 0) ∧ K0 (A0 k 0) = 20 ∧ Ln0 (A0 k 0) = 50 := (show ∀ k, k < NC → K0 k = 3 → R0 k 0 = some (A0 k 0) ∧ K0 (A0 k 0) = 20 ∧ Ln0 (A0 k 0) = 50 by decide +kernel) k (K0_lt hk (by decide)) hk
set_option maxRecDepth 100000 in
theorem fr_3_2 {k : Nat} (hk : K0 k = 3) : R0 k 2 = some (A0 k 2) ∧ K0 (A0 k 2) = 20 ∧ Ln0 (A0 k 2) = 50 := (show ∀ k, k < NC → K0 k = 3 → R0 k 2 = some (A0 k 2) ∧ K0 (A0 k 2) = 20 ∧ Ln0 (A0 k 2) = 50 by decide +kernel) k (K0_lt hk (by decide)) hk
set_option maxRecDepth 100000 in
theorem fr_4_0 {k : Nat} (hk : K0 k = 4) : R0 k 0 = some (A0 k 0) ∧ K0 (A0 k 0) = 20 ∧ Ln0 (A0 k 0) = 40 := (show ∀ k, k < NC → K0 k = 4 → R0 k 0 = some (A0 k 0) ∧ K0 (A0 k 0) = 20 ∧ Ln0 (A0 k 0) = 40 by decide +kernel) k (K0_lt hk (by decide)) hk
set_option maxRecDepth 100000 in
theorem fr_5_0 {k : Nat} (hk : K0 k = 5) : R0 k 0 = some (A0 k 0) ∧ K0 (A0 k 0) = 20 ∧ Ln0 (A0 k 0) = 6 := (show ∀ k, k < NC → K0 k = 5 → R0 k 0 = some (A0 k 0) ∧ K0 (A0 k 0) = 20 ∧ Ln0 (A0 k 0) = 6 by decide +kernel) k (K0_lt hk (by decide)) hk
set_option maxRecDepth 100000 in
theorem fr_6_5 {k : Nat} (hk : K0 k = 6) : R0 k 5 = some (A0 k 5) ∧ K0 (A0 k 5) = 20 ∧ Ln0 (A0 k 5) = 4 := (show ∀ k, k < NC → K0 k = 6 → R0 k 5 = some (A0 k 5) ∧ K0 (A0 k 5) = 20 ∧ Ln0 (A0 k 5) = 4 by decide +kernel) k (K0_lt hk (by decide)) hk
set_option maxRecDepth 100000 in
theorem fr_7_0 {k : Nat} (hk : K0 k = 7) : R0 k 0 = some (A0 k 0) ∧ K0 (A0 k 0) = 20 ∧ Ln0 (A0 k 0) = 40 := (show ∀ k, k < NC → K0 k = 7 → R0 k 0 = some (A0 k 0) ∧ K0 (A0 k 0) = 20 ∧ Ln0 (A0 k 0) = 40 by decide +kernel) k (K0_lt hk (by decide)) hk
set_option maxRecDepth 100000 in
theorem fr_8_0 {k : Nat} (hk : K0 k = 8) : R0 k 0 = some (A0 k 0) ∧ K0 (A0 k 0) = 0 ∧ Ln0 (A0 k 0) = 0 := (show ∀ k, k < NC → K0 k = 8 → R0 k 0 = some (A0 k 0) ∧ K0 (A0 k 0) = 0 ∧ Ln0 (A0 k 0) = 0 by decide +kernel) k (K0_lt hk (by decide)) hk
set_option maxRecDepth 100000 in
theorem fr_8_1 {k : Nat} (hk : K0 k = 8) : R0 k 1 = some (A0 k 1) ∧ K0 (A0 k 1) = 0 ∧ Ln0 (A0 k 1) = 0 := (show ∀ k, k < NC → K0 k = 8 → R0 k 1 = some (A0 k 1) ∧ K0 (A0 k 1) = 0 ∧ Ln0 (A0 k 1) = 0 by decide +kernel) k (K0_lt hk (by decide)) hk
set_option maxRecDepth 100000 in
theorem fr_8_2 {k : Nat} (hk : K0 k = 8) : R0 k 2 = some (A0 k 2) ∧ K0 (A0 k 2) = 3 ∧ Ln0 (A0 k 2) = 0 := (show ∀ k, k < NC → K0 k = 8 → R0 k 2 = some (A0 k 2) ∧ K0 (A0 k 2) = 3 ∧ Ln0 (A0 k 2) = 0 by decide +kernel) k (K0_lt hk (by decide)) hk
set_option maxRecDepth 100000 in
theorem fr_8_3 {k : Nat} (hk : K0 k = 8) : R0 k 3 = some (A0 k 3) ∧ K0 (A0 k 3) = 5 ∧ Ln0 (A0 k 3) = 0 := (show ∀ k, k < NC → K0 k = 8 → R0 k 3 = some (A0 k 3) ∧ K0 (A0 k 3) = 5 ∧ Ln0 (A0 k 3) = 0 by decide +kernel) k (K0_lt hk (by decide)) hk
set_option maxRecDepth 100000 in
theorem fr_8_4 {k : Nat} (hk : K0 k = 8) : R0 k 4 = some (A0 k 4) ∧ K0 (A0 k 4) = 2 ∧ Ln0 (A0 k 4) = 0 := (show ∀ k, k < NC → K0 k = 8 → R0 k 4 = some (A0 k 4) ∧ K0 (A0 k 4) = 2 ∧ Ln0 (A0 k 4) = 0 by decide +kernel) k (K0_lt hk (by decide)) hk
set_option maxRecDepth 100000 in
theorem fr_8_5 {k : Nat} (hk : K0 k = 8) : R0 k 5 = some (A0 k 5) ∧ K0 (A0 k 5) = 7 ∧ Ln0 (A0 k 5) = 0 := (show ∀ k, k < NC → K0 k = 8 → R0 k 5 = some (A0 k 5) ∧ K0 (A0 k 5) = 7 ∧ Ln0 (A0 k 5) = 0 by decide +kernel) k (K0_lt hk (by decide)) hk
set_option maxRecDepth 100000 in
theorem fr_8_6 {k : Nat} (hk : K0 k = 8) : R0 k 6 = some (A0 k 6) ∧ K0 (A0 k 6) = 21 ∧ Ln0 (A0 k 6) = 4 := (show ∀ k, k < NC → K0 k = 8 → R0 k 6 = some (A0 k 6) ∧ K0 (A0 k 6) = 21 ∧ Ln0 (A0 k 6) = 4 by decide +kernel) k (K0_lt hk (by decide)) hk
set_option maxRecDepth 100000 in
theorem fr_8_7 {k : Nat} (hk : K0 k = 8) : R0 k 7 = some (A0 k 7) ∧ K0 (A0 k 7) = 20 ∧ Ln0 (A0 k 7) = 6 := (show ∀ k, k < NC → K0 k = 8 → R0 k 7 = some (A0 k 7) ∧ K0 (A0 k 7) = 20 ∧ Ln0 (A0 k 7) = 6 by decide +kernel) k (K0_lt hk (by decide)) hk
set_option maxRecDepth 100000 in
theorem fr_8_8 {k : Nat} (hk : K0 k = 8) : R0 k 8 = some (A0 k 8) ∧ K0 (A0 k 8) = 6 ∧ Ln0 (A0 k 8) = 0 := (show ∀ k, k < NC → K0 k = 8 → R0 k 8 = some (A0 k 8) ∧ K0 (A0 k 8) = 6 ∧ Ln0 (A0 k 8) = 0 by decide +kernel) k (K0_lt hk (by decide)) hk
set_option maxRecDepth 100000 in
theorem fr_8_9 {k : Nat} (hk : K0 k = 8) : R0 k 9 = some (A0 k 9) ∧ K0 (A0 k 9) = 6 ∧ Ln0 (A0 k 9) = 0 := (show ∀ k, k < NC → K0 k = 8 → R0 k 9 = some (A0 k 9) ∧ K0 (A0 k 9) = 6 ∧ Ln0 (A0 k 9) = 0 by decide +kernel) k (K0_lt hk (by decide)) hk
set_option maxRecDepth 100000 in
theorem fr_9_0 {k : Nat} (hk : K0 k = 9) : R0 k 0 = some (A0 k 0) ∧ K0 (A0 k 0) = 20 ∧ Ln0 (A0 k 0) = 270 := (show ∀ k, k < NC → K0 k = 9 → R0 k 0 = some (A0 k 0) ∧ K0 (A0 k 0) = 20 ∧ Ln0 (A0 k 0) = 270 by decide +kernel) k (K0_lt hk (by decide)) hk
set_option maxRecDepth 100000 in
theorem fr_9_1 {k : Nat} (hk : K0 k = 9) : R0 k 1 = some (A0 k 1) ∧ K0 (A0 k 1) = 20 ∧ Ln0 (A0 k 1) = 270 := (show ∀ k, k < NC → K0 k = 9 → R0 k 1 = some (A0 k 1) ∧ K0 (A0 k 1) = 20 ∧ Ln0 (A0 k 1) = 270 by decide +kernel) k (K0_lt hk (by decide)) hk
set_option maxRecDepth 100000 in
theorem fr_9_2 {k : Nat} (hk : K0 k = 9) : R0 k 2 = some (A0 k 2) ∧ K0 (A0 k 2) = 20 ∧ Ln0 (A0 k 2) = 270 := (show ∀ k, k < NC → K0 k = 9 → R0 k 2 = some (A0 k 2) ∧ K0 (A0 k 2) = 20 ∧ Ln0 (A0 k 2) = 270 by decide +kernel) k (K0_lt hk (by decide)) hk
set_option maxRecDepth 100000 in
theorem fr_9_4 {k : Nat} (hk : K0 k = 9) : R0 k 4 = some (A0 k 4) ∧ K0 (A0 k 4) = 20 ∧ Ln0 (A0 k 4) = 6 := (show ∀ k, k < NC → K0 k = 9 → R0 k 4 = some (A0 k 4) ∧ K0 (A0 k 4) = 20 ∧ Ln0 (A0 k 4) = 6 by decide +kernel) k (K0_lt hk (by decide)) hk
set_option maxRecDepth 100000 in
theorem fr_9_11 {k : Nat} (hk : K0 k = 9) : R0 k 11 = some (A0 k 11) ∧ K0 (A0 k 11) = 20 ∧ Ln0 (A0 k 11) = 3 := (show ∀ k, k < NC → K0 k = 9 → R0 k 11 = some (A0 k 11) ∧ K0 (A0 k 11) = 20 ∧ Ln0 (A0 k 11) = 3 by decide +kernel) k (K0_lt hk (by decide)) hk
set_option maxRecDepth 100000 in
theorem fr_9_12 {k : Nat} (hk : K0 k = 9) : R0 k 12 = some (A0 k 12) ∧ K0 (A0 k 12) = 20 ∧ Ln0 (A0 k 12) = 60 := (show ∀ k, k < NC → K0 k = 9 → R0 k 12 = some (A0 k 12) ∧ K0 (A0 k 12) = 20 ∧ Ln0 (A0 k 12) = 60 by decide +kernel) k (K0_lt hk (by decide)) hk
set_option maxRecDepth 100000 in
theorem fr_9_14 {k : Nat} (hk : K0 k = 9) : R0 k 14 = some (A0 k 14) ∧ K0 (A0 k 14) = 20 ∧ Ln0 (A0 k 14) = 60 := (show ∀ k, k < NC → K0 k = 9 → R0 k 14 = some (A0 k 14) ∧ K0 (A0 k 14) = 20 ∧ Ln0 (A0 k 14) = 60 by decide +kernel) k (K0_lt hk (by decide)) hk
set_option maxRecDepth 100000 in
theorem fr_9_17 {k : Nat} (hk : K0 k = 9) : R0 k 17 = some (A0 k 17) ∧ K0 (A0 k 17) = 20 ∧ Ln0 (A0 k 17) = 40 := (show ∀ k, k < NC → K0 k = 9 → R0 k 17 = some (A0 k 17) ∧ K0 (A0 k 17) = 20 ∧ Ln0 (A0 k 17) = 40 by decide +kernel) k (K0_lt hk (by decide)) hk
set_option maxRecDepth 100000 in
theorem fr_9_20 {k : Nat} (hk : K0 k = 9) : R0 k 20 = some (A0 k 20) ∧ K0 (A0 k 20) = 20 ∧ Ln0 (A0 k 20) = 4 := (show ∀ k, k < NC → K0 k = 9 → R0 k 20 = some (A0 k 20) ∧ K0 (A0 k 20) = 20 ∧ Ln0 (A0 k 20) = 4 by decide +kernel) k (K0_lt hk (by decide)) hk
set_option maxRecDepth 100000 in
theorem fr_9_21 {k : Nat} (hk : K0 k = 9) : R0 k 21 = some (A0 k 21) ∧ K0 (A0 k 21) = 20 ∧ Ln0 (A0 k 21) = 4 := (show ∀ k, k < NC → K0 k = 9 → R0 k 21 = some (A0 k 21) ∧ K0 (A0 k 21) = 20 ∧ Ln0 (A0 k 21) = 4 by decide +kernel) k (K0_lt hk (by decide)) hk
set_option maxRecDepth 100000 in
theorem fr_9_22 {k : Nat} (hk : K0 k = 9) : R0 k 22 = some (A0 k 22) ∧ K0 (A0 k 22) = 20 ∧ Ln0 (A0 k 22) = 160 := (show ∀ k, k < NC → K0 k = 9 → R0 k 22 = some (A0 k 22) ∧ K0 (A0 k 22) = 20 ∧ Ln0 (A0 k 22) = 160 by decide +kernel) k (K0_lt hk (by decide)) hk
set_option maxRecDepth 100000 in
theorem fr_9_23 {k : Nat} (hk : K0 k = 9) : R0 k 23 = some (A0 k 23) ∧ K0 (A0 k 23) = 20 ∧ Ln0 (A0 k 23) = 40 := (show ∀ k, k < NC → K0 k = 9 → R0 k 23 = some (A0 k 23) ∧ K0 (A0 k 23) = 20 ∧ Ln0 (A0 k 23) = 40 by decide +kernel) k (K0_lt hk (by decide)) hk
set_option maxRecDepth 100000 in
theorem cw_X0_addToTape : CalW yX0_addToTape cX0_addToTape 5 (Option.none : Option Jvm.ClassFile.FieldType) 2 := ⟨q_440, q_2, by decide +kernel⟩
set_option maxRecDepth 100000 in
theorem cw_X0_copy : CalW yX0_copy cX0_copy 5 (Option.none : Option Jvm.ClassFile.FieldType) 1 := ⟨q_848, q_2, by decide +kernel⟩
set_option maxRecDepth 100000 in
theorem cw_X0_draw : CalW yX0_draw cX0_draw 1 (Option.some Jvm.ClassFile.FieldType.int) 0 := ⟨q_675, q_2, by decide +kernel⟩
set_option maxRecDepth 100000 in
theorem cw_X0_flowOf : CalW yX0_flowOf cX0_flowOf 3 (Option.some Jvm.ClassFile.FieldType.int) 2 := ⟨q_346, q_2, by decide +kernel⟩
set_option maxRecDepth 100000 in
theorem cw_X0_init : CalW yX0_init cX0_init 2 (Option.none : Option Jvm.ClassFile.FieldType) 0 := ⟨q_30, q_2, by decide +kernel⟩
set_option maxRecDepth 100000 in
theorem cw_X0_lawOf : CalW yX0_lawOf cX0_lawOf 2 (Option.some (Jvm.ClassFile.FieldType.object RX1)) 1 := ⟨q_448, q_2, by decide +kernel⟩
set_option maxRecDepth 100000 in
theorem cw_X0_share : CalW yX0_share cX0_share 2 (Option.none : Option Jvm.ClassFile.FieldType) 0 := ⟨q_665, q_2, by decide +kernel⟩
set_option maxRecDepth 100000 in
theorem cw_X0_swimmerAt : CalW yX0_swimmerAt cX0_swimmerAt 2 (Option.some (Jvm.ClassFile.FieldType.object RX6)) 1 := ⟨q_378, q_2, by decide +kernel⟩
set_option maxRecDepth 100000 in
theorem cw_X1_copy : CalW yX1_copy cX1_copy 2 (Option.none : Option Jvm.ClassFile.FieldType) 1 := ⟨q_852, q_3, by decide +kernel⟩
set_option maxRecDepth 100000 in
theorem cw_X1_give : CalW yX1_give cX1_give 4 (Option.some Jvm.ClassFile.FieldType.int) 3 := ⟨q_351, q_3, by decide +kernel⟩
set_option maxRecDepth 100000 in
theorem cw_X1_init : CalW yX1_init cX1_init 2 (Option.none : Option Jvm.ClassFile.FieldType) 1 := ⟨q_38, q_3, by decide +kernel⟩
set_option maxRecDepth 100000 in
theorem cw_X1_joined : CalW yX1_joined cX1_joined 3 (Option.some Jvm.ClassFile.FieldType.int) 3 := ⟨q_361, q_3, by decide +kernel⟩
set_option maxRecDepth 100000 in
theorem cw_X1_take : CalW yX1_take cX1_take 2 (Option.none : Option Jvm.ClassFile.FieldType) 1 := ⟨q_591, q_3, by decide +kernel⟩
set_option maxRecDepth 100000 in
theorem cw_X1_valueOf : CalW yX1_valueOf cX1_valueOf 4 (Option.some Jvm.ClassFile.FieldType.int) 4 := ⟨q_358, q_3, by decide +kernel⟩
set_option maxRecDepth 100000 in
theorem cw_X1_workOut : CalW yX1_workOut cX1_workOut 7 (Option.some Jvm.ClassFile.FieldType.int) 3 := ⟨q_355, q_3, by decide +kernel⟩
set_option maxRecDepth 100000 in
theorem cw_X2_bestLane : CalW yX2_bestLane cX2_bestLane 2 (Option.some Jvm.ClassFile.FieldType.int) 1 := ⟨q_715, q_7, by decide +kernel⟩
set_option maxRecDepth 100000 in
theorem cw_X2_init : CalW yX2_init cX2_init 1 (Option.none : Option Jvm.ClassFile.FieldType) 0 := ⟨q_212, q_7, by decide +kernel⟩
set_option maxRecDepth 100000 in
theorem cw_X2_meetsAt : CalW yX2_meetsAt cX2_meetsAt 6 (Option.some Jvm.ClassFile.FieldType.boolean) 2 := ⟨q_706, q_7, by decide +kernel⟩
set_option maxRecDepth 100000 in
theorem cw_X2_seek : CalW yX2_seek cX2_seek 7 (Option.none : Option Jvm.ClassFile.FieldType) 4 := ⟨q_684, q_7, by decide +kernel⟩
set_option maxRecDepth 100000 in
theorem cw_X2_setLane : CalW yX2_setLane cX2_setLane 4 (Option.none : Option Jvm.ClassFile.FieldType) 2 := ⟨q_701, q_7, by decide +kernel⟩
set_option maxRecDepth 100000 in
theorem cw_X2_tryLanes : CalW yX2_tryLanes cX2_tryLanes 9 (Option.none : Option Jvm.ClassFile.FieldType) 2 := ⟨q_695, q_7, by decide +kernel⟩
set_option maxRecDepth 100000 in
theorem cw_X3_add : CalW yX3_add cX3_add 2 (Option.none : Option Jvm.ClassFile.FieldType) 1 := ⟨q_497, q_5, by decide +kernel⟩
set_option maxRecDepth 100000 in
theorem cw_X3_init : CalW yX3_init cX3_init 1 (Option.none : Option Jvm.ClassFile.FieldType) 0 := ⟨q_155, q_5, by decide +kernel⟩
set_option maxRecDepth 100000 in
theorem cw_X3_isDigit : CalW yX3_isDigit cX3_isDigit 1 (Option.some Jvm.ClassFile.FieldType.boolean) 1 := ⟨q_489, q_5, by decide +kernel⟩
set_option maxRecDepth 100000 in
theorem cw_X3_next : CalW yX3_next cX3_next 1 (Option.some Jvm.ClassFile.FieldType.int) 0 := ⟨q_486, q_5, by decide +kernel⟩
set_option maxRecDepth 100000 in
theorem cw_X3_read : CalW yX3_read cX3_read 4 (Option.some Jvm.ClassFile.FieldType.int) 3 := ⟨q_452, q_5, by decide +kernel⟩
set_option maxRecDepth 100000 in
theorem cw_X3_readAll : CalW yX3_readAll cX3_readAll 2 (Option.some Jvm.ClassFile.FieldType.boolean) 1 := ⟨q_466, q_5, by decide +kernel⟩
set_option maxRecDepth 100000 in
theorem cw_X3_readAny : CalW yX3_readAny cX3_readAny 2 (Option.some Jvm.ClassFile.FieldType.boolean) 1 := ⟨q_462, q_5, by decide +kernel⟩
set_option maxRecDepth 100000 in
theorem cw_X3_readBracket : CalW yX3_readBracket cX3_readBracket 2 (Option.some Jvm.ClassFile.FieldType.boolean) 1 := ⟨q_587, q_5, by decide +kernel⟩
set_option maxRecDepth 100000 in
theorem cw_X3_readComparison : CalW yX3_readComparison cX3_readComparison 3 (Option.some Jvm.ClassFile.FieldType.boolean) 1 := ⟨q_470, q_5, by decide +kernel⟩
set_option maxRecDepth 100000 in
theorem cw_X3_readNot : CalW yX3_readNot cX3_readNot 2 (Option.some Jvm.ClassFile.FieldType.boolean) 1 := ⟨q_583, q_5, by decide +kernel⟩
set_option maxRecDepth 100000 in
theorem cw_X3_readNumber : CalW yX3_readNumber cX3_readNumber 3 (Option.none : Option Jvm.ClassFile.FieldType) 0 := ⟨q_493, q_5, by decide +kernel⟩
set_option maxRecDepth 100000 in
theorem cw_X3_readPart : CalW yX3_readPart cX3_readPart 4 (Option.some Jvm.ClassFile.FieldType.boolean) 1 := ⟨q_482, q_5, by decide +kernel⟩
set_option maxRecDepth 100000 in
theorem cw_X3_readProduct : CalW yX3_readProduct cX3_readProduct 3 (Option.some Jvm.ClassFile.FieldType.boolean) 1 := ⟨q_478, q_5, by decide +kernel⟩
set_option maxRecDepth 100000 in
theorem cw_X3_readSum : CalW yX3_readSum cX3_readSum 3 (Option.some Jvm.ClassFile.FieldType.boolean) 1 := ⟨q_474, q_5, by decide +kernel⟩
set_option maxRecDepth 100000 in
theorem cw_X4_clear : CalW yX4_clear cX4_clear 4 (Option.none : Option Jvm.ClassFile.FieldType) 2 := ⟨q_803, q_9, by decide +kernel⟩
set_option maxRecDepth 100000 in
theorem cw_X4_holds : CalW yX4_holds cX4_holds 3 (Option.some Jvm.ClassFile.FieldType.boolean) 2 := ⟨q_825, q_9, by decide +kernel⟩
set_option maxRecDepth 100000 in
theorem cw_X4_init : CalW yX4_init cX4_init 1 (Option.none : Option Jvm.ClassFile.FieldType) 0 := ⟨q_274, q_9, by decide +kernel⟩
set_option maxRecDepth 100000 in
theorem cw_X4_isMissing : CalW yX4_isMissing cX4_isMissing 1 (Option.some Jvm.ClassFile.FieldType.boolean) 0 := ⟨q_812, q_9, by decide +kernel⟩
set_option maxRecDepth 100000 in
theorem cw_X4_read : CalW yX4_read cX4_read 2 (Option.some Jvm.ClassFile.FieldType.int) 1 := ⟨q_834, q_9, by decide +kernel⟩
set_option maxRecDepth 100000 in
theorem cw_X4_write : CalW yX4_write cX4_write 3 (Option.none : Option Jvm.ClassFile.FieldType) 2 := ⟨q_816, q_9, by decide +kernel⟩
set_option maxRecDepth 100000 in
theorem cw_X5_begin : CalW yX5_begin cX5_begin 3 (Option.none : Option Jvm.ClassFile.FieldType) 2 := ⟨q_645, q_6, by decide +kernel⟩
set_option maxRecDepth 100000 in
theorem cw_X5_feel : CalW yX5_feel cX5_feel 4 (Option.none : Option Jvm.ClassFile.FieldType) 2 := ⟨q_605, q_6, by decide +kernel⟩
set_option maxRecDepth 100000 in
theorem cw_X5_flowIn : CalW yX5_flowIn cX5_flowIn 2 (Option.some Jvm.ClassFile.FieldType.int) 1 := ⟨q_628, q_6, by decide +kernel⟩
set_option maxRecDepth 100000 in
theorem cw_X5_gap : CalW yX5_gap cX5_gap 2 (Option.some Jvm.ClassFile.FieldType.int) 1 := ⟨q_649, q_6, by decide +kernel⟩
set_option maxRecDepth 100000 in
theorem cw_X5_init : CalW yX5_init cX5_init 1 (Option.none : Option Jvm.ClassFile.FieldType) 0 := ⟨q_184, q_6, by decide +kernel⟩
set_option maxRecDepth 100000 in
theorem cw_X5_leastGap : CalW yX5_leastGap cX5_leastGap 5 (Option.some Jvm.ClassFile.FieldType.int) 2 := ⟨q_742, q_6, by decide +kernel⟩
set_option maxRecDepth 100000 in
theorem cw_X5_meets : CalW yX5_meets cX5_meets 5 (Option.some Jvm.ClassFile.FieldType.boolean) 3 := ⟨q_641, q_6, by decide +kernel⟩
set_option maxRecDepth 100000 in
theorem cw_X5_placeBehind : CalW yX5_placeBehind cX5_placeBehind 5 (Option.some Jvm.ClassFile.FieldType.int) 2 := ⟨q_610, q_6, by decide +kernel⟩
set_option maxRecDepth 100000 in
theorem cw_X5_placeNext : CalW yX5_placeNext cX5_placeNext 6 (Option.some Jvm.ClassFile.FieldType.int) 3 := ⟨q_618, q_6, by decide +kernel⟩
set_option maxRecDepth 100000 in
theorem cw_X6_begin : CalW yX6_begin cX6_begin 3 (Option.none : Option Jvm.ClassFile.FieldType) 2 := ⟨q_382, q_4, by decide +kernel⟩
set_option maxRecDepth 100000 in
theorem cw_X6_copy : CalW yX6_copy cX6_copy 2 (Option.none : Option Jvm.ClassFile.FieldType) 1 := ⟨q_688, q_4, by decide +kernel⟩
set_option maxRecDepth 100000 in
theorem cw_X6_init : CalW yX6_init cX6_init 1 (Option.none : Option Jvm.ClassFile.FieldType) 0 := ⟨q_57, q_4, by decide +kernel⟩
set_option maxRecDepth 100000 in
theorem cw_X6_keepTo : CalW yX6_keepTo cX6_keepTo 3 (Option.none : Option Jvm.ClassFile.FieldType) 1 := ⟨q_390, q_4, by decide +kernel⟩
set_option maxRecDepth 100000 in
theorem cw_X6_laneIn : CalW yX6_laneIn cX6_laneIn 3 (Option.some Jvm.ClassFile.FieldType.int) 1 := ⟨q_623, q_4, by decide +kernel⟩
set_option maxRecDepth 100000 in
theorem cw_X6_laneOf : CalW yX6_laneOf cX6_laneOf 2 (Option.some Jvm.ClassFile.FieldType.int) 1 := ⟨q_398, q_4, by decide +kernel⟩
set_option maxRecDepth 100000 in
theorem cw_X6_paceIn : CalW yX6_paceIn cX6_paceIn 4 (Option.some Jvm.ClassFile.FieldType.int) 1 := ⟨q_428, q_4, by decide +kernel⟩
set_option maxRecDepth 100000 in
theorem cw_X6_plainPace : CalW yX6_plainPace cX6_plainPace 3 (Option.some Jvm.ClassFile.FieldType.int) 1 := ⟨q_432, q_4, by decide +kernel⟩
set_option maxRecDepth 100000 in
theorem cw_X6_shore : CalW yX6_shore cX6_shore 1 (Option.some Jvm.ClassFile.FieldType.int) 0 := ⟨q_614, q_4, by decide +kernel⟩
set_option maxRecDepth 100000 in
theorem cw_X6_turnInto : CalW yX6_turnInto cX6_turnInto 2 (Option.none : Option Jvm.ClassFile.FieldType) 1 := ⟨q_386, q_4, by decide +kernel⟩
set_option maxRecDepth 100000 in
theorem cw_X7_bodyOf : CalW yX7_bodyOf cX7_bodyOf 5 (Option.some Jvm.ClassFile.FieldType.int) 2 := ⟨q_779, q_8, by decide +kernel⟩
set_option maxRecDepth 100000 in
theorem cw_X7_init : CalW yX7_init cX7_init 1 (Option.none : Option Jvm.ClassFile.FieldType) 0 := ⟨q_247, q_8, by decide +kernel⟩
set_option maxRecDepth 100000 in
theorem cw_X7_note : CalW yX7_note cX7_note 2 (Option.none : Option Jvm.ClassFile.FieldType) 1 := ⟨q_787, q_8, by decide +kernel⟩
set_option maxRecDepth 100000 in
theorem cw_X7_say : CalW yX7_say cX7_say 7 (Option.some Jvm.ClassFile.FieldType.int) 4 := ⟨q_776, q_8, by decide +kernel⟩
set_option maxRecDepth 100000 in
theorem cw_X7_speak : CalW yX7_speak cX7_speak 5 (Option.some Jvm.ClassFile.FieldType.int) 4 := ⟨q_772, q_8, by decide +kernel⟩
set_option maxRecDepth 100000 in
theorem cw_X8_areUnlike : CalW yX8_areUnlike cX8_areUnlike 2 (Option.some Jvm.ClassFile.FieldType.boolean) 2 := ⟨q_637, q_1, by decide +kernel⟩
set_option maxRecDepth 100000 in
theorem cw_X8_as : CalW yX8_as cX8_as 4 (Option.some Jvm.ClassFile.FieldType.int) 2 := ⟨q_415, q_1, by decide +kernel⟩
set_option maxRecDepth 100000 in
theorem cw_X8_ask : CalW yX8_ask cX8_ask 9 (Option.some Jvm.ClassFile.FieldType.int) 2 := ⟨q_734, q_1, by decide +kernel⟩
set_option maxRecDepth 100000 in
theorem cw_X8_become : CalW yX8_become cX8_become 5 (Option.some Jvm.ClassFile.FieldType.int) 2 := ⟨q_410, q_1, by decide +kernel⟩
set_option maxRecDepth 100000 in
theorem cw_X8_bestPlan : CalW yX8_bestPlan cX8_bestPlan 6 (Option.some Jvm.ClassFile.FieldType.int) 3 := ⟨q_680, q_1, by decide +kernel⟩
set_option maxRecDepth 100000 in
theorem cw_X8_check : CalW yX8_check cX8_check 9 (Option.some Jvm.ClassFile.FieldType.int) 2 := ⟨q_867, q_1, by decide +kernel⟩
set_option maxRecDepth 100000 in
theorem cw_X8_count : CalW yX8_count cX8_count 2 (Option.some Jvm.ClassFile.FieldType.int) 1 := ⟨q_871, q_1, by decide +kernel⟩
set_option maxRecDepth 100000 in
theorem cw_X8_current : CalW yX8_current cX8_current 4 (Option.some Jvm.ClassFile.FieldType.int) 2 := ⟨q_326, q_1, by decide +kernel⟩
set_option maxRecDepth 100000 in
theorem cw_X8_diary : CalW yX8_diary cX8_diary 11 (Option.some Jvm.ClassFile.FieldType.int) 5 := ⟨q_752, q_1, by decide +kernel⟩
set_option maxRecDepth 100000 in
theorem cw_X8_fair : CalW yX8_fair cX8_fair 6 (Option.some Jvm.ClassFile.FieldType.int) 2 := ⟨q_760, q_1, by decide +kernel⟩
set_option maxRecDepth 100000 in
theorem cw_X8_feed : CalW yX8_feed cX8_feed 4 (Option.some Jvm.ClassFile.FieldType.int) 2 := ⟨q_436, q_1, by decide +kernel⟩
set_option maxRecDepth 100000 in
theorem cw_X8_flow : CalW yX8_flow cX8_flow 2 (Option.some Jvm.ClassFile.FieldType.int) 1 := ⟨q_342, q_1, by decide +kernel⟩
set_option maxRecDepth 100000 in
theorem cw_X8_heldWithin : CalW yX8_heldWithin cX8_heldWithin 3 (Option.some Jvm.ClassFile.FieldType.int) 3 := ⟨q_364, q_1, by decide +kernel⟩
set_option maxRecDepth 100000 in
theorem cw_X8_hold : CalW yX8_hold cX8_hold 10 (Option.some Jvm.ClassFile.FieldType.int) 3 := ⟨q_719, q_1, by decide +kernel⟩
set_option maxRecDepth 100000 in
theorem cw_X8_image : CalW yX8_image cX8_image 1 (Option.some Jvm.ClassFile.FieldType.int) 0 := ⟨q_844, q_1, by decide +kernel⟩
set_option maxRecDepth 100000 in
theorem cw_X8_init : CalW yX8_init cX8_init 2 (Option.none : Option Jvm.ClassFile.FieldType) 0 := ⟨q_22, q_1, by decide +kernel⟩
set_option maxRecDepth 100000 in
theorem cw_X8_isBetter : CalW yX8_isBetter cX8_isBetter 3 (Option.some Jvm.ClassFile.FieldType.boolean) 3 := ⟨q_710, q_1, by decide +kernel⟩
set_option maxRecDepth 100000 in
theorem cw_X8_isOutside : CalW yX8_isOutside cX8_isOutside 3 (Option.some Jvm.ClassFile.FieldType.boolean) 3 := ⟨q_329, q_1, by decide +kernel⟩
set_option maxRecDepth 100000 in
theorem cw_X8_isUnder : CalW yX8_isUnder cX8_isUnder 4 (Option.some Jvm.ClassFile.FieldType.boolean) 2 := ⟨q_418, q_1, by decide +kernel⟩
set_option maxRecDepth 100000 in
theorem cw_X8_judge : CalW yX8_judge cX8_judge 7 (Option.some Jvm.ClassFile.FieldType.int) 2 := ⟨q_838, q_1, by decide +kernel⟩
set_option maxRecDepth 100000 in
theorem cw_X8_law : CalW yX8_law cX8_law 6 (Option.some Jvm.ClassFile.FieldType.int) 4 := ⟨q_596, q_1, by decide +kernel⟩
set_option maxRecDepth 100000 in
theorem cw_X8_leastSight : CalW yX8_leastSight cX8_leastSight 6 (Option.some Jvm.ClassFile.FieldType.int) 2 := ⟨q_738, q_1, by decide +kernel⟩
set_option maxRecDepth 100000 in
theorem cw_X8_letYearGoBy : CalW yX8_letYearGoBy cX8_letYearGoBy 5 (Option.none : Option Jvm.ClassFile.FieldType) 2 := ⟨q_661, q_1, by decide +kernel⟩
set_option maxRecDepth 100000 in
theorem cw_X8_loose : CalW yX8_loose cX8_loose 4 (Option.some Jvm.ClassFile.FieldType.int) 2 := ⟨q_671, q_1, by decide +kernel⟩
set_option maxRecDepth 100000 in
theorem cw_X8_meet : CalW yX8_meet cX8_meet 6 (Option.some Jvm.ClassFile.FieldType.int) 3 := ⟨q_634, q_1, by decide +kernel⟩
set_option maxRecDepth 100000 in
theorem cw_X8_meetInLane : CalW yX8_meetInLane cX8_meetInLane 4 (Option.some Jvm.ClassFile.FieldType.boolean) 3 := ⟨q_727, q_1, by decide +kernel⟩
set_option maxRecDepth 100000 in
theorem cw_X8_move : CalW yX8_move cX8_move 8 (Option.some Jvm.ClassFile.FieldType.int) 5 := ⟨q_821, q_1, by decide +kernel⟩
set_option maxRecDepth 100000 in
theorem cw_X8_ofSwimmer : CalW yX8_ofSwimmer cX8_ofSwimmer 4 (Option.some Jvm.ClassFile.FieldType.int) 2 := ⟨q_394, q_1, by decide +kernel⟩
set_option maxRecDepth 100000 in
theorem cw_X8_pace : CalW yX8_pace cX8_pace 4 (Option.some Jvm.ClassFile.FieldType.int) 2 := ⟨q_424, q_1, by decide +kernel⟩
set_option maxRecDepth 100000 in
theorem cw_X8_plan : CalW yX8_plan cX8_plan 6 (Option.some Jvm.ClassFile.FieldType.int) 3 := ⟨q_406, q_1, by decide +kernel⟩
set_option maxRecDepth 100000 in
theorem cw_X8_put : CalW yX8_put cX8_put 5 (Option.some Jvm.ClassFile.FieldType.int) 3 := ⟨q_808, q_1, by decide +kernel⟩
set_option maxRecDepth 100000 in
theorem cw_X8_refuse : CalW yX8_refuse cX8_refuse 2 (Option.some Jvm.ClassFile.FieldType.int) 1 := ⟨q_333, q_1, by decide +kernel⟩
set_option maxRecDepth 100000 in
theorem cw_X8_restore : CalW yX8_restore cX8_restore 1 (Option.some Jvm.ClassFile.FieldType.int) 0 := ⟨q_859, q_1, by decide +kernel⟩
set_option maxRecDepth 100000 in
theorem cw_X8_seed : CalW yX8_seed cX8_seed 3 (Option.some Jvm.ClassFile.FieldType.int) 1 := ⟨q_764, q_1, by decide +kernel⟩
set_option maxRecDepth 100000 in
theorem cw_X8_send : CalW yX8_send cX8_send 7 (Option.some Jvm.ClassFile.FieldType.int) 1 := ⟨q_748, q_1, by decide +kernel⟩
set_option maxRecDepth 100000 in
theorem cw_X8_set : CalW yX8_set cX8_set 4 (Option.some Jvm.ClassFile.FieldType.int) 2 := ⟨q_338, q_1, by decide +kernel⟩
set_option maxRecDepth 100000 in
theorem cw_X8_sheet : CalW yX8_sheet cX8_sheet 5 (Option.some Jvm.ClassFile.FieldType.int) 3 := ⟨q_795, q_1, by decide +kernel⟩
set_option maxRecDepth 100000 in
theorem cw_X8_sheetAt : CalW yX8_sheetAt cX8_sheetAt 2 (Option.some (Jvm.ClassFile.FieldType.object RX4)) 1 := ⟨q_799, q_1, by decide +kernel⟩
set_option maxRecDepth 100000 in
theorem cw_X8_swimmer : CalW yX8_swimmer cX8_swimmer 5 (Option.some Jvm.ClassFile.FieldType.int) 2 := ⟨q_374, q_1, by decide +kernel⟩
set_option maxRecDepth 100000 in
theorem cw_X8_tell : CalW yX8_tell cX8_tell 3 (Option.some Jvm.ClassFile.FieldType.int) 1 := ⟨q_863, q_1, by decide +kernel⟩
set_option maxRecDepth 100000 in
theorem cw_X8_text : CalW yX8_text cX8_text 4 (Option.some Jvm.ClassFile.FieldType.int) 1 := ⟨q_444, q_1, by decide +kernel⟩
set_option maxRecDepth 100000 in
theorem cw_X8_told : CalW yX8_told cX8_told 2 (Option.some Jvm.ClassFile.FieldType.int) 1 := ⟨q_875, q_1, by decide +kernel⟩
set_option maxRecDepth 100000 in
theorem cw_X8_trace : CalW yX8_trace cX8_trace 2 (Option.some Jvm.ClassFile.FieldType.int) 1 := ⟨q_791, q_1, by decide +kernel⟩
set_option maxRecDepth 100000 in
theorem cw_X8_train : CalW yX8_train cX8_train 5 (Option.some Jvm.ClassFile.FieldType.int) 2 := ⟨q_402, q_1, by decide +kernel⟩
set_option maxRecDepth 100000 in
theorem cw_X8_training : CalW yX8_training cX8_training 7 (Option.some Jvm.ClassFile.FieldType.int) 3 := ⟨q_756, q_1, by decide +kernel⟩
set_option maxRecDepth 100000 in
theorem cw_X8_voice : CalW yX8_voice cX8_voice 5 (Option.some Jvm.ClassFile.FieldType.int) 3 := ⟨q_768, q_1, by decide +kernel⟩
set_option maxRecDepth 100000 in
theorem cw_X8_where : CalW yX8_where cX8_where 4 (Option.some Jvm.ClassFile.FieldType.int) 2 := ⟨q_601, q_1, by decide +kernel⟩
set_option maxRecDepth 100000 in
theorem cw_X8_whyNoYear : CalW yX8_whyNoYear cX8_whyNoYear 3 (Option.some Jvm.ClassFile.FieldType.int) 2 := ⟨q_657, q_1, by decide +kernel⟩
set_option maxRecDepth 100000 in
theorem cw_X8_worstPlaceIn : CalW yX8_worstPlaceIn cX8_worstPlaceIn 5 (Option.some Jvm.ClassFile.FieldType.int) 3 := ⟨q_723, q_1, by decide +kernel⟩
set_option maxRecDepth 100000 in
theorem cw_X8_year : CalW yX8_year cX8_year 4 (Option.some Jvm.ClassFile.FieldType.int) 2 := ⟨q_653, q_1, by decide +kernel⟩
set_option maxRecDepth 100000 in
theorem cw_X8_years : CalW yX8_years cX8_years 7 (Option.some Jvm.ClassFile.FieldType.int) 1 := ⟨q_830, q_1, by decide +kernel⟩
set_option maxRecDepth 100000 in
theorem cw_X9_aYear : CalW yX9_aYear cX9_aYear 4 (Option.some Jvm.ClassFile.FieldType.int) 3 := ⟨q_1161, q_10, by decide +kernel⟩
set_option maxRecDepth 100000 in
theorem cw_X9_above : CalW yX9_above cX9_above 1 (Option.some Jvm.ClassFile.FieldType.int) 1 := ⟨q_1112, q_10, by decide +kernel⟩
set_option maxRecDepth 100000 in
theorem cw_X9_areUnlike : CalW yX9_areUnlike cX9_areUnlike 3 (Option.some Jvm.ClassFile.FieldType.boolean) 2 := ⟨q_1148, q_10, by decide +kernel⟩
set_option maxRecDepth 100000 in
theorem cw_X9_as : CalW yX9_as cX9_as 4 (Option.some Jvm.ClassFile.FieldType.int) 2 := ⟨q_1108, q_10, by decide +kernel⟩
set_option maxRecDepth 100000 in
theorem cw_X9_ask : CalW yX9_ask cX9_ask 7 (Option.some Jvm.ClassFile.FieldType.int) 2 := ⟨q_1205, q_10, by decide +kernel⟩
set_option maxRecDepth 100000 in
theorem cw_X9_become : CalW yX9_become cX9_become 4 (Option.some Jvm.ClassFile.FieldType.int) 2 := ⟨q_1104, q_10, by decide +kernel⟩
set_option maxRecDepth 100000 in
theorem cw_X9_becomes : CalW yX9_becomes cX9_becomes 4 (Option.none : Option Jvm.ClassFile.FieldType) 3 := ⟨q_1079, q_10, by decide +kernel⟩
set_option maxRecDepth 100000 in
theorem cw_X9_bestPlan : CalW yX9_bestPlan cX9_bestPlan 7 (Option.some Jvm.ClassFile.FieldType.int) 3 := ⟨q_1179, q_10, by decide +kernel⟩
set_option maxRecDepth 100000 in
theorem cw_X9_both : CalW yX9_both cX9_both 1 (Option.none : Option Jvm.ClassFile.FieldType) 0 := ⟨q_984, q_10, by decide +kernel⟩
set_option maxRecDepth 100000 in
theorem cw_X9_breathes : CalW yX9_breathes cX9_breathes 4 (Option.some Jvm.ClassFile.FieldType.int) 2 := ⟨q_1253, q_10, by decide +kernel⟩
set_option maxRecDepth 100000 in
theorem cw_X9_changeSides : CalW yX9_changeSides cX9_changeSides 3 (Option.none : Option Jvm.ClassFile.FieldType) 2 := ⟨q_1229, q_10, by decide +kernel⟩
set_option maxRecDepth 100000 in
theorem cw_X9_check : CalW yX9_check cX9_check 6 (Option.some Jvm.ClassFile.FieldType.int) 2 := ⟨q_1304, q_10, by decide +kernel⟩
set_option maxRecDepth 100000 in
theorem cw_X9_compared : CalW yX9_compared cX9_compared 2 (Option.none : Option Jvm.ClassFile.FieldType) 0 := ⟨q_988, q_10, by decide +kernel⟩
set_option maxRecDepth 100000 in
theorem cw_X9_copies : CalW yX9_copies cX9_copies 3 (Option.none : Option Jvm.ClassFile.FieldType) 2 := ⟨q_1183, q_10, by decide +kernel⟩
set_option maxRecDepth 100000 in
theorem cw_X9_count : CalW yX9_count cX9_count 2 (Option.some Jvm.ClassFile.FieldType.int) 1 := ⟨q_1308, q_10, by decide +kernel⟩
set_option maxRecDepth 100000 in
theorem cw_X9_current : CalW yX9_current cX9_current 4 (Option.some Jvm.ClassFile.FieldType.int) 2 := ⟨q_1048, q_10, by decide +kernel⟩
set_option maxRecDepth 100000 in
theorem cw_X9_diary : CalW yX9_diary cX9_diary 9 (Option.some Jvm.ClassFile.FieldType.int) 5 := ⟨q_1217, q_10, by decide +kernel⟩
set_option maxRecDepth 100000 in
theorem cw_X9_done : CalW yX9_done cX9_done 3 (Option.some Jvm.ClassFile.FieldType.int) 3 := ⟨q_1041, q_10, by decide +kernel⟩
set_option maxRecDepth 100000 in
theorem cw_X9_drawn : CalW yX9_drawn cX9_drawn 1 (Option.some Jvm.ClassFile.FieldType.int) 0 := ⟨q_1165, q_10, by decide +kernel⟩
set_option maxRecDepth 100000 in
theorem cw_X9_either : CalW yX9_either cX9_either 1 (Option.none : Option Jvm.ClassFile.FieldType) 0 := ⟨q_980, q_10, by decide +kernel⟩
set_option maxRecDepth 100000 in
theorem cw_X9_endOf : CalW yX9_endOf cX9_endOf 5 (Option.some Jvm.ClassFile.FieldType.int) 4 := ⟨q_1201, q_10, by decide +kernel⟩
set_option maxRecDepth 100000 in
theorem cw_X9_fair : CalW yX9_fair cX9_fair 6 (Option.some Jvm.ClassFile.FieldType.int) 2 := ⟨q_1225, q_10, by decide +kernel⟩
set_option maxRecDepth 100000 in
theorem cw_X9_feed : CalW yX9_feed cX9_feed 5 (Option.some Jvm.ClassFile.FieldType.int) 2 := ⟨q_958, q_10, by decide +kernel⟩
set_option maxRecDepth 100000 in
theorem cw_X9_finds : CalW yX9_finds cX9_finds 2 (Option.some Jvm.ClassFile.FieldType.int) 1 := ⟨q_966, q_10, by decide +kernel⟩
set_option maxRecDepth 100000 in
theorem cw_X9_flow : CalW yX9_flow cX9_flow 2 (Option.some Jvm.ClassFile.FieldType.int) 1 := ⟨q_1066, q_10, by decide +kernel⟩
set_option maxRecDepth 100000 in
theorem cw_X9_flowOf : CalW yX9_flowOf cX9_flowOf 2 (Option.some Jvm.ClassFile.FieldType.int) 1 := ⟨q_1070, q_10, by decide +kernel⟩
set_option maxRecDepth 100000 in
theorem cw_X9_gives : CalW yX9_gives cX9_gives 6 (Option.some Jvm.ClassFile.FieldType.int) 4 := ⟨q_1034, q_10, by decide +kernel⟩
set_option maxRecDepth 100000 in
theorem cw_X9_goes : CalW yX9_goes cX9_goes 5 (Option.some Jvm.ClassFile.FieldType.int) 3 := ⟨q_1133, q_10, by decide +kernel⟩
set_option maxRecDepth 100000 in
theorem cw_X9_goesBy : CalW yX9_goesBy cX9_goesBy 4 (Option.none : Option Jvm.ClassFile.FieldType) 2 := ⟨q_1170, q_10, by decide +kernel⟩
set_option maxRecDepth 100000 in
theorem cw_X9_greater : CalW yX9_greater cX9_greater 2 (Option.some Jvm.ClassFile.FieldType.int) 2 := ⟨q_1124, q_10, by decide +kernel⟩
set_option maxRecDepth 100000 in
theorem cw_X9_held : CalW yX9_held cX9_held 3 (Option.some Jvm.ClassFile.FieldType.int) 3 := ⟨q_1044, q_10, by decide +kernel⟩
set_option maxRecDepth 100000 in
theorem cw_X9_here : CalW yX9_here cX9_here 1 (Option.some Jvm.ClassFile.FieldType.int) 0 := ⟨q_1004, q_10, by decide +kernel⟩
set_option maxRecDepth 100000 in
theorem cw_X9_hold : CalW yX9_hold cX9_hold 11 (Option.some Jvm.ClassFile.FieldType.int) 3 := ⟨q_1197, q_10, by decide +kernel⟩
set_option maxRecDepth 100000 in
theorem cw_X9_image : CalW yX9_image cX9_image 1 (Option.some Jvm.ClassFile.FieldType.int) 0 := ⟨q_1292, q_10, by decide +kernel⟩
set_option maxRecDepth 100000 in
theorem cw_X9_in : CalW yX9_in cX9_in 6 (Option.some Jvm.ClassFile.FieldType.boolean) 3 := ⟨q_962, q_10, by decide +kernel⟩
set_option maxRecDepth 100000 in
theorem cw_X9_init : CalW yX9_init cX9_init 1 (Option.none : Option Jvm.ClassFile.FieldType) 0 := ⟨q_880, q_10, by decide +kernel⟩
set_option maxRecDepth 100000 in
theorem cw_X9_isBetter : CalW yX9_isBetter cX9_isBetter 3 (Option.some Jvm.ClassFile.FieldType.boolean) 3 := ⟨q_1193, q_10, by decide +kernel⟩
set_option maxRecDepth 100000 in
theorem cw_X9_isLane : CalW yX9_isLane cX9_isLane 1 (Option.some Jvm.ClassFile.FieldType.boolean) 1 := ⟨q_1051, q_10, by decide +kernel⟩
set_option maxRecDepth 100000 in
theorem cw_X9_isSheet : CalW yX9_isSheet cX9_isSheet 1 (Option.some Jvm.ClassFile.FieldType.boolean) 1 := ⟨q_1272, q_10, by decide +kernel⟩
set_option maxRecDepth 100000 in
theorem cw_X9_isSwimmer : CalW yX9_isSwimmer cX9_isSwimmer 2 (Option.some Jvm.ClassFile.FieldType.boolean) 1 := ⟨q_1087, q_10, by decide +kernel⟩
set_option maxRecDepth 100000 in
theorem cw_X9_judge : CalW yX9_judge cX9_judge 5 (Option.some Jvm.ClassFile.FieldType.int) 2 := ⟨q_1288, q_10, by decide +kernel⟩
set_option maxRecDepth 100000 in
theorem cw_X9_laneIn : CalW yX9_laneIn cX9_laneIn 4 (Option.some Jvm.ClassFile.FieldType.int) 2 := ⟨q_1186, q_10, by decide +kernel⟩
set_option maxRecDepth 100000 in
theorem cw_X9_laneOf : CalW yX9_laneOf cX9_laneOf 3 (Option.some Jvm.ClassFile.FieldType.int) 2 := ⟨q_1137, q_10, by decide +kernel⟩
set_option maxRecDepth 100000 in
theorem cw_X9_law : CalW yX9_law cX9_law 5 (Option.some Jvm.ClassFile.FieldType.int) 4 := ⟨q_1030, q_10, by decide +kernel⟩
set_option maxRecDepth 100000 in
theorem cw_X9_lay : CalW yX9_lay cX9_lay 2 (Option.none : Option Jvm.ClassFile.FieldType) 1 := ⟨q_1016, q_10, by decide +kernel⟩
set_option maxRecDepth 100000 in
theorem cw_X9_leastSight : CalW yX9_leastSight cX9_leastSight 5 (Option.some Jvm.ClassFile.FieldType.int) 2 := ⟨q_1209, q_10, by decide +kernel⟩
set_option maxRecDepth 100000 in
theorem cw_X9_lesser : CalW yX9_lesser cX9_lesser 2 (Option.some Jvm.ClassFile.FieldType.int) 2 := ⟨q_1140, q_10, by decide +kernel⟩
set_option maxRecDepth 100000 in
theorem cw_X9_loose : CalW yX9_loose cX9_loose 3 (Option.some Jvm.ClassFile.FieldType.int) 2 := ⟨q_1175, q_10, by decide +kernel⟩
set_option maxRecDepth 100000 in
theorem cw_X9_meet : CalW yX9_meet cX9_meet 4 (Option.some Jvm.ClassFile.FieldType.int) 3 := ⟨q_1144, q_10, by decide +kernel⟩
set_option maxRecDepth 100000 in
theorem cw_X9_move : CalW yX9_move cX9_move 7 (Option.some Jvm.ClassFile.FieldType.int) 5 := ⟨q_1280, q_10, by decide +kernel⟩
set_option maxRecDepth 100000 in
theorem cw_X9_nameOf : CalW yX9_nameOf cX9_nameOf 2 (Option.some Jvm.ClassFile.FieldType.int) 1 := ⟨q_1024, q_10, by decide +kernel⟩
set_option maxRecDepth 100000 in
theorem cw_X9_of : CalW yX9_of cX9_of 3 (Option.some Jvm.ClassFile.FieldType.int) 2 := ⟨q_1091, q_10, by decide +kernel⟩
set_option maxRecDepth 100000 in
theorem cw_X9_ofSwimmer : CalW yX9_ofSwimmer cX9_ofSwimmer 3 (Option.some Jvm.ClassFile.FieldType.int) 2 := ⟨q_1083, q_10, by decide +kernel⟩
set_option maxRecDepth 100000 in
theorem cw_X9_opens : CalW yX9_opens cX9_opens 2 (Option.none : Option Jvm.ClassFile.FieldType) 1 := ⟨q_1008, q_10, by decide +kernel⟩
set_option maxRecDepth 100000 in
theorem cw_X9_own : CalW yX9_own cX9_own 1 (Option.some Jvm.ClassFile.FieldType.int) 0 := ⟨q_1241, q_10, by decide +kernel⟩
set_option maxRecDepth 100000 in
theorem cw_X9_pace : CalW yX9_pace cX9_pace 3 (Option.some Jvm.ClassFile.FieldType.int) 2 := ⟨q_1116, q_10, by decide +kernel⟩
set_option maxRecDepth 100000 in
theorem cw_X9_paceOf : CalW yX9_paceOf cX9_paceOf 6 (Option.some Jvm.ClassFile.FieldType.int) 2 := ⟨q_1121, q_10, by decide +kernel⟩
set_option maxRecDepth 100000 in
theorem cw_X9_plan : CalW yX9_plan cX9_plan 5 (Option.some Jvm.ClassFile.FieldType.int) 3 := ⟨q_1100, q_10, by decide +kernel⟩
set_option maxRecDepth 100000 in
theorem cw_X9_plans : CalW yX9_plans cX9_plans 6 (Option.none : Option Jvm.ClassFile.FieldType) 5 := ⟨q_1190, q_10, by decide +kernel⟩
set_option maxRecDepth 100000 in
theorem cw_X9_product : CalW yX9_product cX9_product 2 (Option.none : Option Jvm.ClassFile.FieldType) 0 := ⟨q_996, q_10, by decide +kernel⟩
set_option maxRecDepth 100000 in
theorem cw_X9_put : CalW yX9_put cX9_put 4 (Option.some Jvm.ClassFile.FieldType.int) 3 := ⟨q_1276, q_10, by decide +kernel⟩
set_option maxRecDepth 100000 in
theorem cw_X9_ran : CalW yX9_ran cX9_ran 2 (Option.none : Option Jvm.ClassFile.FieldType) 1 := ⟨q_1249, q_10, by decide +kernel⟩
set_option maxRecDepth 100000 in
theorem cw_X9_reads : CalW yX9_reads cX9_reads 4 (Option.none : Option Jvm.ClassFile.FieldType) 3 := ⟨q_976, q_10, by decide +kernel⟩
set_option maxRecDepth 100000 in
theorem cw_X9_restore : CalW yX9_restore cX9_restore 1 (Option.some Jvm.ClassFile.FieldType.int) 0 := ⟨q_1296, q_10, by decide +kernel⟩
set_option maxRecDepth 100000 in
theorem cw_X9_seed : CalW yX9_seed cX9_seed 3 (Option.some Jvm.ClassFile.FieldType.int) 1 := ⟨q_1233, q_10, by decide +kernel⟩
set_option maxRecDepth 100000 in
theorem cw_X9_send : CalW yX9_send cX9_send 5 (Option.some Jvm.ClassFile.FieldType.int) 1 := ⟨q_1213, q_10, by decide +kernel⟩
set_option maxRecDepth 100000 in
theorem cw_X9_set : CalW yX9_set cX9_set 5 (Option.some Jvm.ClassFile.FieldType.int) 2 := ⟨q_1058, q_10, by decide +kernel⟩
set_option maxRecDepth 100000 in
theorem cw_X9_sheet : CalW yX9_sheet cX9_sheet 5 (Option.some Jvm.ClassFile.FieldType.int) 3 := ⟨q_1269, q_10, by decide +kernel⟩
set_option maxRecDepth 100000 in
theorem cw_X9_sum : CalW yX9_sum cX9_sum 2 (Option.none : Option Jvm.ClassFile.FieldType) 0 := ⟨q_992, q_10, by decide +kernel⟩
set_option maxRecDepth 100000 in
theorem cw_X9_swim : CalW yX9_swim cX9_swim 8 (Option.some Jvm.ClassFile.FieldType.boolean) 2 := ⟨q_1153, q_10, by decide +kernel⟩
set_option maxRecDepth 100000 in
theorem cw_X9_swimmer : CalW yX9_swimmer cX9_swimmer 5 (Option.some Jvm.ClassFile.FieldType.int) 2 := ⟨q_1074, q_10, by decide +kernel⟩
set_option maxRecDepth 100000 in
theorem cw_X9_swims : CalW yX9_swims cX9_swims 3 (Option.some Jvm.ClassFile.FieldType.int) 2 := ⟨q_1245, q_10, by decide +kernel⟩
set_option maxRecDepth 100000 in
theorem cw_X9_takes : CalW yX9_takes cX9_takes 2 (Option.some Jvm.ClassFile.FieldType.boolean) 1 := ⟨q_1020, q_10, by decide +kernel⟩
set_option maxRecDepth 100000 in
theorem cw_X9_tell : CalW yX9_tell cX9_tell 2 (Option.some Jvm.ClassFile.FieldType.int) 1 := ⟨q_1300, q_10, by decide +kernel⟩
set_option maxRecDepth 100000 in
theorem cw_X9_tells : CalW yX9_tells cX9_tells 4 (Option.some Jvm.ClassFile.FieldType.int) 2 := ⟨q_1261, q_10, by decide +kernel⟩
set_option maxRecDepth 100000 in
theorem cw_X9_text : CalW yX9_text cX9_text 4 (Option.some Jvm.ClassFile.FieldType.int) 1 := ⟨q_972, q_10, by decide +kernel⟩
set_option maxRecDepth 100000 in
theorem cw_X9_tires : CalW yX9_tires cX9_tires 3 (Option.some Jvm.ClassFile.FieldType.int) 2 := ⟨q_1257, q_10, by decide +kernel⟩
set_option maxRecDepth 100000 in
theorem cw_X9_told : CalW yX9_told cX9_told 2 (Option.some Jvm.ClassFile.FieldType.int) 1 := ⟨q_1312, q_10, by decide +kernel⟩
set_option maxRecDepth 100000 in
theorem cw_X9_trace : CalW yX9_trace cX9_trace 2 (Option.some Jvm.ClassFile.FieldType.int) 1 := ⟨q_1265, q_10, by decide +kernel⟩
set_option maxRecDepth 100000 in
theorem cw_X9_train : CalW yX9_train cX9_train 4 (Option.some Jvm.ClassFile.FieldType.int) 2 := ⟨q_1095, q_10, by decide +kernel⟩
set_option maxRecDepth 100000 in
theorem cw_X9_training : CalW yX9_training cX9_training 8 (Option.some Jvm.ClassFile.FieldType.int) 3 := ⟨q_1221, q_10, by decide +kernel⟩
set_option maxRecDepth 100000 in
theorem cw_X9_unit : CalW yX9_unit cX9_unit 5 (Option.none : Option Jvm.ClassFile.FieldType) 0 := ⟨q_1000, q_10, by decide +kernel⟩
set_option maxRecDepth 100000 in
theorem cw_X9_voice : CalW yX9_voice cX9_voice 5 (Option.some Jvm.ClassFile.FieldType.int) 3 := ⟨q_1237, q_10, by decide +kernel⟩
set_option maxRecDepth 100000 in
theorem cw_X9_where : CalW yX9_where cX9_where 5 (Option.some Jvm.ClassFile.FieldType.int) 2 := ⟨q_1128, q_10, by decide +kernel⟩
set_option maxRecDepth 100000 in
theorem cw_X9_worked : CalW yX9_worked cX9_worked 6 (Option.some Jvm.ClassFile.FieldType.int) 2 := ⟨q_1038, q_10, by decide +kernel⟩
set_option maxRecDepth 100000 in
theorem cw_X9_wrong : CalW yX9_wrong cX9_wrong 1 (Option.none : Option Jvm.ClassFile.FieldType) 0 := ⟨q_1012, q_10, by decide +kernel⟩
set_option maxRecDepth 100000 in
theorem cw_X9_year : CalW yX9_year cX9_year 3 (Option.some Jvm.ClassFile.FieldType.int) 2 := ⟨q_1157, q_10, by decide +kernel⟩
set_option maxRecDepth 100000 in
theorem cw_X9_years : CalW yX9_years cX9_years 4 (Option.some Jvm.ClassFile.FieldType.int) 1 := ⟨q_1284, q_10, by decide +kernel⟩
set_option maxRecDepth 100000 in
theorem sg_2 {k : Nat} (hk : K0 k = 2) : k = 60 := (show ∀ k, k < NC → K0 k = 2 → k = 60 by decide +kernel) k (K0_lt hk (by decide)) hk
set_option maxRecDepth 100000 in
theorem sg_3 {k : Nat} (hk : K0 k = 3) : k = 55 := (show ∀ k, k < NC → K0 k = 3 → k = 55 by decide +kernel) k (K0_lt hk (by decide)) hk
set_option maxRecDepth 100000 in
theorem sg_5 {k : Nat} (hk : K0 k = 5) : k = 58 := (show ∀ k, k < NC → K0 k = 5 → k = 58 by decide +kernel) k (K0_lt hk (by decide)) hk
set_option maxRecDepth 100000 in
theorem sg_7 {k : Nat} (hk : K0 k = 7) : k = 65 := (show ∀ k, k < NC → K0 k = 7 → k = 65 by decide +kernel) k (K0_lt hk (by decide)) hk
set_option maxRecDepth 100000 in
theorem sg_8 {k : Nat} (hk : K0 k = 8) : k = 0 := (show ∀ k, k < NC → K0 k = 8 → k = 0 by decide +kernel) k (K0_lt hk (by decide)) hk
set_option maxRecDepth 100000 in
theorem sg_9 {k : Nat} (hk : K0 k = 9) : k = 81 := (show ∀ k, k < NC → K0 k = 9 → k = 81 by decide +kernel) k (K0_lt hk (by decide)) hk
set_option maxRecDepth 100000 in
theorem retZ : ∀ (ad : Nat → Nat) (nm : String) (v : Option Nat), narrow (.object nm) (va_re ad v) = va_re ad v ∧ fits (.object nm) (va_re ad v) = true := fun ad nm v => by cases v <;> exact ⟨rfl, rfl⟩
end
section
def FU : Nat := 10000
def f_ixS (i : Nat) (ch : Int32) : Option Int32 := some (match (sByt.getD i []).idxOf? ch with | some j => Int32.ofNat j | none => -1)
set_option maxRecDepth 100000 in
def f_X8_isOutside_L10    : Option Bool := some true
set_option maxRecDepth 100000 in
def f_X8_isOutside (a0 : Int32) (a1 : Int32) (a2 : Int32) : Option Bool := if a0 < a1 then f_X8_isOutside_L10 else if a0 ≤ a2 then (some false) else f_X8_isOutside_L10  
set_option maxRecDepth 100000 in
def f_X0_swimmerAt (σ : Sto) (k0 : Nat) (a1 : Int32) : Option (Option Nat) := (f_X8_isOutside a1 (0 : Int32) ((σ.1 k0 8) - (1 : Int32))).bind (fun r8 => if r8 = true then (some none) else if a1 < (8 : Int32) then ((rdR (A0 k0 7) a1).bind (fun r30 => some r30)) else some none)
set_option maxRecDepth 100000 in
def f_X0_lawOf (σ : Sto) (k0 : Nat) (a1 : Int32) : Option (Option Nat) := if a1 = 0 then (some (some (A0 k0 9))) else if a1 = (1 : Int32) then (some (some (A0 k0 10))) else some none
set_option maxRecDepth 100000 in
def f_X1_valueOf (a0 : Int32) (a1 : Int32) (a2 : Int32) (a3 : Int32) : Option Int32 := if a0 = (-3 : Int32) then (some a3) else if a0 = (-2 : Int32) then (some a2) else if a0 = (-1 : Int32) then (some a1) else some a0
set_option maxRecDepth 100000 in
def f_X1_joined_L92    : Option Int32 := some (1 : Int32)
set_option maxRecDepth 100000 in
def f_X1_joined (a0 : Int32) (a1 : Int32) (a2 : Int32) : Option Int32 := if a0 = (-124 : Int32) then (if a1 = 0 then (if a2 = 0 then (some (0 : Int32)) else f_X1_joined_L92) else f_X1_joined_L92) else if a0 = (-62 : Int32) then (if a1 ≤ a2 then (some (0 : Int32)) else some (1 : Int32)) else if a0 = (-61 : Int32) then (if a1 = a2 then (some (1 : Int32)) else some (0 : Int32)) else if a0 = (-60 : Int32) then (if a2 ≤ a1 then (some (0 : Int32)) else some (1 : Int32)) else if a0 = (-47 : Int32) then (if a2 = 0 then (some (0 : Int32)) else some (a1 / a2)) else if a0 = (-45 : Int32) then (some (a1 - a2)) else if a0 = (-43 : Int32) then (some (a1 + a2)) else if a0 = (-42 : Int32) then (some (a1 * a2)) else if a0 = (-38 : Int32) then (if a1 = 0 then (some (0 : Int32)) else if a2 = 0 then (some (0 : Int32)) else some (1 : Int32)) else if a2 = 0 then (some (0 : Int32)) else some (irem a1 a2)
set_option maxRecDepth 100000 in
def f_X1_workOut_L153 (K6 : Int32 → Int32 → Sto → Option (Int32 × Sto)) (k0 : Nat) (v1 : Int32) (v2 : Int32) (v3 : Int32) (v4 : Int32) (v5 : Int32) (σ : Sto) : Option (Int32 × Sto) := K6 v4 (v5 + (1 : Int32)) σ
set_option maxRecDepth 100000 in
def f_X1_workOut_L110 (K6 : Int32 → Int32 → Sto → Option (Int32 × Sto)) (k0 : Nat) (v1 : Int32) (v2 : Int32) (v3 : Int32) (v4 : Int32) (v5 : Int32) (vs0 : Bool) (vs1 : Int32) (ks2 : Nat) (σ : Sto) : Option (Int32 × Sto) := (wrA σ ks2 vs1 (b2i vs0)).bind (fun σ110 => f_X1_workOut_L153 K6 k0 v1 v2 v3 v4 v5 σ110)
set_option maxRecDepth 100000 in
def f_X1_workOut_L6  (k0 : Nat) (v1 : Int32) (v2 : Int32) (v3 : Int32) : Nat → Int32 → Int32 → Sto → Option (Int32 × Sto)
  | 0, _, _, _ => none
  | n + 1, v4, v5, σ => if (σ.1 k0 3) ≤ v5 then ((rdA σ (A0 k0 2) (0 : Int32)).bind (fun r164 => some (r164, σ))) else if (50 : Int32) ≤ v5 then ((rdA σ (A0 k0 2) (0 : Int32)).bind (fun r164 => some (r164, σ))) else (rdA σ (A0 k0 1) v5).bind (fun r31 => if r31 ≤ (-33 : Int32) then (if r31 = (-33 : Int32) then (if v4 < (1 : Int32) then (f_X1_workOut_L153 (f_X1_workOut_L6  k0 v1 v2 v3 n) k0 v1 v2 v3 v4 v5 σ) else (rdA σ (A0 k0 2) (v4 - (1 : Int32))).bind (fun r101 => if r101 = 0 then (f_X1_workOut_L110 (f_X1_workOut_L6  k0 v1 v2 v3 n) k0 v1 v2 v3 v4 v5 true (v4 - (1 : Int32)) (A0 k0 2) σ) else f_X1_workOut_L110 (f_X1_workOut_L6  k0 v1 v2 v3 n) k0 v1 v2 v3 v4 v5 false (v4 - (1 : Int32)) (A0 k0 2) σ)) else if v4 < (2 : Int32) then (f_X1_workOut_L153 (f_X1_workOut_L6  k0 v1 v2 v3 n) k0 v1 v2 v3 v4 v5 σ) else (rdA σ (A0 k0 2) ((v4 + (-1 : Int32)) - (1 : Int32))).bind (fun r141 => (rdA σ (A0 k0 2) (v4 + (-1 : Int32))).bind (fun r148 => (f_X1_joined r31 r141 r148).bind (fun r149 => (wrA σ (A0 k0 2) ((v4 + (-1 : Int32)) - (1 : Int32)) r149).bind (fun σ152 => f_X1_workOut_L153 (f_X1_workOut_L6  k0 v1 v2 v3 n) k0 v1 v2 v3 (v4 + (-1 : Int32)) v5 σ152))))) else if (50 : Int32) ≤ v4 then (f_X1_workOut_L153 (f_X1_workOut_L6  k0 v1 v2 v3 n) k0 v1 v2 v3 v4 v5 σ) else (f_X1_valueOf r31 v1 v2 v3).bind (fun r62 => (wrA σ (A0 k0 2) v4 r62).bind (fun σ65 => f_X1_workOut_L153 (f_X1_workOut_L6  k0 v1 v2 v3 n) k0 v1 v2 v3 (v4 + (1 : Int32)) v5 σ65)))
set_option maxRecDepth 100000 in
def f_X1_workOut (σ : Sto) (k0 : Nat) (a1 : Int32) (a2 : Int32) (a3 : Int32) : Option (Int32 × Sto) := f_X1_workOut_L6  k0 a1 a2 a3 FU (0 : Int32) (0 : Int32) σ
set_option maxRecDepth 100000 in
def f_X8_heldWithin (a0 : Int32) (a1 : Int32) (a2 : Int32) : Option Int32 := some (imax a1 (imin a2 a0))
set_option maxRecDepth 100000 in
def f_X1_give (σ : Sto) (k0 : Nat) (a1 : Int32) (a2 : Int32) (a3 : Int32) : Option (Int32 × Sto) := if (σ.1 k0 0) = 0 then (if (σ.1 k0 3) ≤ 0 then ((f_X8_heldWithin (a1 + ((2 : Int32) * a2)) (-30 : Int32) (30 : Int32)).bind (fun r33 => some (r33, σ))) else (f_X1_workOut σ k0 a1 a2 a3).bind (fun r18 => (f_X8_heldWithin r18.1 (-30 : Int32) (30 : Int32)).bind (fun r33 => some (r33, r18.2)))) else if (σ.1 k0 3) ≤ 0 then ((f_X8_heldWithin (a1 / (12 : Int32)) (0 : Int32) (100 : Int32)).bind (fun r61 => some (r61, σ))) else (f_X1_workOut σ k0 a1 a2 a3).bind (fun r48 => (f_X8_heldWithin r48.1 (0 : Int32) (100 : Int32)).bind (fun r61 => some (r61, r48.2)))
set_option maxRecDepth 100000 in
def f_X0_flowOf (σ : Sto) (k0 : Nat) (a1 : Int32) (a2 : Int32) : Option (Int32 × Sto) := (f_X8_isOutside a1 (0 : Int32) (5 : Int32)).bind (fun r3 => if r3 = true then (some ((0 : Int32), σ)) else (rdA σ (A0 k0 0) a1).bind (fun r20 => (f_X1_give σ (A0 k0 9) r20 a2 a1).bind (fun r23 => some (r23.1, r23.2))))
set_option maxRecDepth 100000 in
def f_X0_addToTape_L3  (k0 : Nat) (v1 : Int64) (v3 : Int32) : Nat → Int32 → Sto → Option Sto
  | 0, _, _ => none
  | n + 1, v4, σ => if v3 ≤ v4 then (some σ) else if (50 : Int32) ≤ (σ.1 k0 12) then (some σ) else (wrA σ (A0 k0 11) (σ.1 k0 12) ((Int64.toInt32 (lushr v1 ((8 : Int32) * v4))) &&& (255 : Int32))).bind (fun σ41 => lp (sI σ41 k0 12 ((σ41.1 k0 12) + (1 : Int32))) (fun σ49 => (f_X0_addToTape_L3  k0 v1 v3 n) (v4 + (1 : Int32)) σ49))
set_option maxRecDepth 100000 in
def f_X0_addToTape (σ : Sto) (k0 : Nat) (a1 : Int64) (a3 : Int32) : Option Sto := f_X0_addToTape_L3  k0 a1 a3 FU (0 : Int32) σ
set_option maxRecDepth 100000 in
def f_X0_draw (σ : Sto) (k0 : Nat) : Option (Int32 × Sto) := lp (sI σ k0 15 (((σ.1 k0 15) * (1103515245 : Int32)) + (12345 : Int32))) (fun σ12 => some ((iushr (σ12.1 k0 15) (8 : Int32)), σ12))
set_option maxRecDepth 100000 in
def f_X0_share (σ : Sto) (k0 : Nat) : Option Sto := (f_X1_give σ (A0 k0 10) (σ.1 k0 3) (σ.1 k0 4) (σ.1 k0 1)).bind (fun r16 => lp (sI r16.2 k0 5 (imin (999999 : Int32) ((r16.2.1 k0 5) + r16.1))) (fun σ32 => lp (sI σ32 k0 6 (imin (999999 : Int32) (((σ32.1 k0 6) + (100 : Int32)) - r16.1))) (fun σ50 => some σ50)))
set_option maxRecDepth 100000 in
def f_X1_copy (σ : Sto) (k0 : Nat) (a1 : Nat) : Option Sto := lp (sI σ k0 3 (σ.1 a1 3)) (fun σ5 => (cpA σ5 (A0 a1 1) (0 : Int32) (A0 k0 1) (0 : Int32) (50 : Int32)).bind (fun σ20 => some σ20))
set_option maxRecDepth 100000 in
def f_X6_copy (σ : Sto) (k0 : Nat) (a1 : Nat) : Option Sto := lp (sI σ k0 0 (σ.1 a1 0)) (fun σ5 => lp (sI σ5 k0 1 (σ5.1 a1 1)) (fun σ13 => lp (sI σ13 k0 2 (σ13.1 a1 2)) (fun σ21 => lp (sI σ21 k0 3 (σ21.1 a1 3)) (fun σ29 => lp (sI σ29 k0 4 (σ29.1 a1 4)) (fun σ37 => (cpA σ37 (A0 a1 5) (0 : Int32) (A0 k0 5) (0 : Int32) (4 : Int32)).bind (fun σ51 => some σ51))))))
set_option maxRecDepth 100000 in
def f_X0_copy_L185 (K149 : Int32 → Sto → Option Sto) (k0 : Nat) (k1 : Nat) (v2 : Int32) (σ : Sto) : Option Sto := K149 (v2 + (1 : Int32)) σ
set_option maxRecDepth 100000 in
def f_X0_copy_L149  (k0 : Nat) (k1 : Nat) : Nat → Int32 → Sto → Option Sto
  | 0, _, _ => none
  | n + 1, v2, σ => if (σ.1 k0 8) ≤ v2 then (some σ) else (f_X0_swimmerAt σ k0 v2).bind (fun r159 => (f_X0_swimmerAt σ k1 v2).bind (fun r165 => onN r159 (f_X0_copy_L185 (f_X0_copy_L149  k0 k1 n) k0 k1 v2 σ) (fun k171 => onN r165 (f_X0_copy_L185 (f_X0_copy_L149  k0 k1 n) k0 k1 v2 σ) (fun k176 => if K0 k171 = 6 then (if K0 k176 = 6 then ((f_X6_copy σ k171 k176).bind (fun r182 => f_X0_copy_L185 (f_X0_copy_L149  k0 k1 n) k0 k1 v2 r182)) else none) else none))))
set_option maxRecDepth 100000 in
def f_X0_copy (σ : Sto) (k0 : Nat) (a1 : Nat) : Option Sto := lp (sI σ k0 1 (σ.1 a1 1)) (fun σ5 => lp (sI σ5 k0 2 (σ5.1 a1 2)) (fun σ13 => lp (sI σ13 k0 3 (σ13.1 a1 3)) (fun σ21 => lp (sI σ21 k0 4 (σ21.1 a1 4)) (fun σ29 => lp (sI σ29 k0 5 (σ29.1 a1 5)) (fun σ37 => lp (sI σ37 k0 6 (σ37.1 a1 6)) (fun σ45 => lp (sI σ45 k0 8 (σ45.1 a1 8)) (fun σ53 => lp (sI σ53 k0 12 (σ53.1 a1 12)) (fun σ61 => lp (sI σ61 k0 14 (σ61.1 a1 14)) (fun σ69 => lp (sI σ69 k0 15 (σ69.1 a1 15)) (fun σ77 => (f_X1_copy σ77 (A0 k0 9) (A0 a1 9)).bind (fun r88 => (f_X1_copy r88 (A0 k0 10) (A0 a1 10)).bind (fun r99 => (cpA r99 (A0 a1 0) (0 : Int32) (A0 k0 0) (0 : Int32) (6 : Int32)).bind (fun σ114 => (cpA σ114 (A0 a1 11) (0 : Int32) (A0 k0 11) (0 : Int32) (50 : Int32)).bind (fun σ129 => (cpA σ129 (A0 a1 13) (0 : Int32) (A0 k0 13) (0 : Int32) (20 : Int32)).bind (fun σ144 => f_X0_copy_L149  k0 a1 FU (0 : Int32) σ144)))))))))))))))
set_option maxRecDepth 100000 in
def f_X1_take (σ : Sto) (k0 : Nat) : Option Sto := lp (sI σ k0 3 (σ.1 55 1)) (fun σ5 => (cpA σ5 56 (0 : Int32) (A0 k0 1) (0 : Int32) (50 : Int32)).bind (fun σ20 => some σ20))
set_option maxRecDepth 100000 in
def f_X2_bestLane (σ : Sto) (a1 : Int32) : Option Int32 := (f_X8_isOutside a1 (0 : Int32) ((4 : Int32) - (1 : Int32))).bind (fun r9 => if r9 = true then (some (0 : Int32)) else (rdA σ 61 a1).bind (fun r24 => some r24))
set_option maxRecDepth 100000 in
def f_X6_shore (σ : Sto) (k0 : Nat) : Option Int32 := if (σ.1 k0 2) = 0 then (some (0 : Int32)) else some (1200 : Int32)
set_option maxRecDepth 100000 in
def f_X6_plainPace (σ : Sto) (k0 : Nat) (a1 : Int32) : Option Int32 := if (5 : Int32) ≤ (((20 : Int32) + (σ.1 k0 3)) - (a1 / (4 : Int32))) then (some (((20 : Int32) + (σ.1 k0 3)) - (a1 / (4 : Int32)))) else some (5 : Int32)
set_option maxRecDepth 100000 in
def f_X6_paceIn_L24 (σ : Sto)  (k0 : Nat) (v1 : Int32) (v2 : Int32) (vs0 : Int32)  : Option Int32 := if (σ.1 k0 0) = (1 : Int32) then (some vs0) else if (σ.1 k0 0) = (2 : Int32) then (some (v2 + (σ.1 k0 1))) else if (σ.1 k0 0) = (3 : Int32) then (some (5 : Int32)) else if (σ.1 k0 0) = (4 : Int32) then (if (3 : Int32) < v1 then (some vs0) else some (0 : Int32)) else if (σ.1 k0 0) = (5 : Int32) then ((f_X6_plainPace σ k0 (0 : Int32)).bind (fun r92 => some (r92 + (σ.1 k0 1)))) else if (σ.1 k0 0) = (6 : Int32) then (if (irem v1 (10 : Int32)) = (σ.1 k0 1) then (some (0 : Int32)) else some (5 : Int32)) else some v2
set_option maxRecDepth 100000 in
def f_X6_paceIn (σ : Sto) (k0 : Nat) (a1 : Int32) : Option Int32 := (f_X6_plainPace σ k0 a1).bind (fun r2 => if (σ.1 k0 1) ≤ a1 then (f_X6_paceIn_L24 σ  k0 a1 r2 (r2 / (2 : Int32))) else f_X6_paceIn_L24 σ  k0 a1 r2 (r2 + (20 : Int32)))
set_option maxRecDepth 100000 in
def f_X6_laneOf_L13 (σ : Sto)    : Option Int32 := some (0 : Int32)
set_option maxRecDepth 100000 in
def f_X6_laneOf (σ : Sto) (k0 : Nat) (a1 : Int32) : Option Int32 := if a1 < 0 then (f_X6_laneOf_L13 σ) else if a1 < (4 : Int32) then ((rdA σ (A0 k0 5) a1).bind (fun r22 => some r22)) else f_X6_laneOf_L13 σ  
set_option maxRecDepth 100000 in
def f_X6_laneIn (σ : Sto) (k0 : Nat) (a1 : Int32) : Option Int32 := if (4 : Int32) ≤ (a1 / (10 : Int32)) then ((f_X6_laneOf σ k0 (3 : Int32)).bind (fun r16 => some r16)) else (f_X6_laneOf σ k0 (a1 / (10 : Int32))).bind (fun r16 => some r16)
set_option maxRecDepth 100000 in
def f_X5_flowIn (σ : Sto) (a1 : Int32) : Option Int32 := (f_X8_isOutside a1 (0 : Int32) ((6 : Int32) - (1 : Int32))).bind (fun r9 => if r9 = true then (some (0 : Int32)) else (rdA σ 59 a1).bind (fun r24 => some r24))
set_option maxRecDepth 100000 in
def f_X5_placeNext_L22 (σ : Sto)  (k1 : Nat) (v2 : Int32) (v3 : Int32) (vs0 : Int32)  : Option Int32 := (f_X6_laneIn σ k1 v3).bind (fun r31 => (f_X5_flowIn σ r31).bind (fun r34 => (f_X8_heldWithin ((v2 + vs0) + r34) (0 : Int32) (1200 : Int32)).bind (fun r42 => some r42)))
set_option maxRecDepth 100000 in
def f_X5_placeNext (σ : Sto) (a1 : Nat) (a2 : Int32) (a3 : Int32) : Option Int32 := (f_X6_paceIn σ a1 a3).bind (fun r2 => if (σ.1 a1 2) = 0 then (f_X5_placeNext_L22 σ  a1 a2 a3 r2) else f_X5_placeNext_L22 σ  a1 a2 a3 (-r2))
set_option maxRecDepth 100000 in
def f_X2_setLane_L29 (K6 : Int32 → Sto → Option Sto) (v1 : Int32) (v2 : Int32) (v3 : Int32) (vs0 : Int32) (vs1 : Int32) (σ : Sto) : Option Sto := (wrA σ 63 vs1 vs0).bind (fun σ29 => K6 (v3 + (1 : Int32)) σ29)
set_option maxRecDepth 100000 in
def f_X2_setLane_L6  (v1 : Int32) (v2 : Int32) : Nat → Int32 → Sto → Option Sto
  | 0, _, _ => none
  | n + 1, v3, σ => if (4 : Int32) ≤ v3 then (some σ) else if v3 = v1 then (f_X2_setLane_L29 (f_X2_setLane_L6  v1 v2 n) v1 v2 v3 v2 v3 σ) else f_X2_setLane_L29 (f_X2_setLane_L6  v1 v2 n) v1 v2 v3 (0 : Int32) v3 σ
set_option maxRecDepth 100000 in
def f_X2_setLane (σ : Sto) (a1 : Int32) (a2 : Int32) : Option Sto := f_X2_setLane_L6  a1 a2 FU (imax (0 : Int32) a1) σ
set_option maxRecDepth 100000 in
def f_X8_isBetter (a0 : Int32) (a1 : Int32) (a2 : Int32) : Option Bool := if a0 = 0 then (if a1 ≤ a2 then (some false) else some true) else if a2 ≤ a1 then (some false) else some true
set_option maxRecDepth 100000 in
def f_X2_meetsAt_L115  (v5 : Int32) (σ : Sto) : Option (Bool × Sto) := lp (sI σ 60 0 (1 : Int32)) (fun σ117 => lp (sI σ117 60 1 v5) (fun σ123 => (cpA σ123 63 (0 : Int32) 61 (0 : Int32) (4 : Int32)).bind (fun σ140 => some (true, σ140))))
set_option maxRecDepth 100000 in
def f_X2_meetsAt_L69  (v1 : Int32) (v3 : Int32) (vs0 : Int32) (σ : Sto) : Option (Bool × Sto) := if vs0 ≤ (σ.1 60 7) then (if (σ.1 60 0) = 0 then (f_X2_meetsAt_L115  ((v1 + v3) / (2 : Int32)) σ) else (f_X8_isBetter (σ.1 62 2) ((v1 + v3) / (2 : Int32)) (σ.1 60 1)).bind (fun r109 => if r109 = true then (f_X2_meetsAt_L115  ((v1 + v3) / (2 : Int32)) σ) else some (true, σ))) else some (false, σ)
set_option maxRecDepth 100000 in
def f_X2_meetsAt (σ : Sto) (a1 : Int32) (a2 : Int32) : Option (Bool × Sto) := nmR (σ.2 60 6) (fun r1 => onN r1 (some (false, σ)) (fun k4 => (f_X8_isOutside a2 (0 : Int32) ((60 : Int32) - (1 : Int32))).bind (fun r16 => if r16 = true then (some (false, σ)) else (f_X6_laneIn σ 62 a2).bind (fun r27 => nmR (σ.2 60 6) (fun r31 => deref 6 r31 (fun k35 => (f_X6_laneIn σ k35 a2).bind (fun r35 => if r27 = r35 then ((rdA σ 64 a2).bind (fun r48 => if (σ.1 62 2) = 0 then (f_X2_meetsAt_L69  a1 r48 (r48 - a1) σ) else f_X2_meetsAt_L69  a1 r48 (a1 - r48) σ)) else some (false, σ))))))))
set_option maxRecDepth 100000 in
def f_X2_tryLanes_L164 (rec : Nat → Int32 → Int32 → Sto → Option Sto) (K38 : Int32 → Sto → Option Sto) (v1 : Int32) (v2 : Int32) (v3 : Bool) (v4 : Int32) (σ : Sto) : Option Sto := K38 (v4 + (1 : Int32)) σ
set_option maxRecDepth 100000 in
def f_X2_tryLanes_L146 (rec : Nat → Int32 → Int32 → Sto → Option Sto) (K38 : Int32 → Sto → Option Sto) (v1 : Int32) (v2 : Int32) (v3 : Bool) (v4 : Int32) (v5 : Int32) (v6 : Bool) (σ : Sto) : Option Sto := if v6 = true then (f_X2_tryLanes_L164 rec K38 v1 v2 v3 v4 σ) else if v3 = true then (f_X2_tryLanes_L164 rec K38 v1 v2 v3 v4 σ) else (rec 0 (v1 + (1 : Int32)) v5 σ).bind (fun r161 => f_X2_tryLanes_L164 rec K38 v1 v2 v3 v4 r161)
set_option maxRecDepth 100000 in
def f_X2_tryLanes_L101 (rec : Nat → Int32 → Int32 → Sto → Option Sto) (K38 : Int32 → Sto → Option Sto) (v1 : Int32) (v2 : Int32) (v3 : Bool) (v4 : Int32) (v7 : Int32) : Nat → Int32 → Bool → Int32 → Sto → Option Sto
  | 0, _, _, _, _ => none
  | n + 1, v5, v6, v8, σ => if v7 ≤ v8 then (f_X2_tryLanes_L146 rec K38 v1 v2 v3 v4 v5 v6 σ) else if v6 = true then (f_X2_tryLanes_L146 rec K38 v1 v2 v3 v4 v5 v6 σ) else nmR (σ.2 60 5) (fun r114 => deref 5 r114 (fun k125 => (f_X5_placeNext σ 62 v5 v8).bind (fun r125 => (f_X2_meetsAt σ r125 v8).bind (fun r135 => (f_X2_tryLanes_L101 rec K38 v1 v2 v3 v4 v7 n) r125 r135.1 (v8 + (1 : Int32)) r135.2))))
set_option maxRecDepth 100000 in
def f_X2_tryLanes_L93 (rec : Nat → Int32 → Int32 → Sto → Option Sto) (K38 : Int32 → Sto → Option Sto) (v1 : Int32) (v2 : Int32) (v3 : Bool) (v4 : Int32) (v5 : Int32) (v6 : Bool) (vs0 : Int32) (σ : Sto) : Option Sto := f_X2_tryLanes_L101 rec K38 v1 v2 v3 v4 vs0 FU v5 v6 (v1 * (10 : Int32)) σ
set_option maxRecDepth 100000 in
def f_X2_tryLanes_L65 (rec : Nat → Int32 → Int32 → Sto → Option Sto) (K38 : Int32 → Sto → Option Sto) (v1 : Int32) (v2 : Int32) (v3 : Bool) (v4 : Int32) (σ : Sto) : Option Sto := (f_X2_setLane σ v1 v4).bind (fun r69 => if v3 = true then (f_X2_tryLanes_L93 rec K38 v1 v2 v3 v4 v2 false (60 : Int32) r69) else f_X2_tryLanes_L93 rec K38 v1 v2 v3 v4 v2 false ((v1 + (1 : Int32)) * (10 : Int32)) r69)
set_option maxRecDepth 100000 in
def f_X2_tryLanes_L38 (rec : Nat → Int32 → Int32 → Sto → Option Sto)  (v1 : Int32) (v2 : Int32) (v3 : Bool) : Nat → Int32 → Sto → Option Sto
  | 0, _, _ => none
  | n + 1, v4, σ => if (6 : Int32) ≤ v4 then (some σ) else if v3 = true then (nmR (σ.2 60 6) (fun r52 => deref 6 r52 (fun k56 => (f_X6_laneOf σ k56 v1).bind (fun r56 => if v4 = r56 then (f_X2_tryLanes_L65 rec (f_X2_tryLanes_L38 rec  v1 v2 v3 n) v1 v2 v3 v4 σ) else f_X2_tryLanes_L164 rec (f_X2_tryLanes_L38 rec  v1 v2 v3 n) v1 v2 v3 v4 σ)))) else f_X2_tryLanes_L65 rec (f_X2_tryLanes_L38 rec  v1 v2 v3 n) v1 v2 v3 v4 σ
set_option maxRecDepth 100000 in
def f_X2_tryLanes_L34 (rec : Nat → Int32 → Int32 → Sto → Option Sto)  (v1 : Int32) (v2 : Int32) (vs0 : Bool) (σ : Sto) : Option Sto := f_X2_tryLanes_L38 rec  v1 v2 vs0 FU (0 : Int32) σ
set_option maxRecDepth 100000 in
def b_X2_tryLanes (rec : Nat → Int32 → Int32 → Sto → Option Sto) (σ : Sto) (a1 : Int32) (a2 : Int32) : Option Sto := (f_X8_isOutside a1 (0 : Int32) (3 : Int32)).bind (fun r3 => if r3 = true then (some σ) else nmR (σ.2 60 5) (fun r10 => onN r10 (some σ) (fun k13 => nmR (σ.2 60 6) (fun r17 => onN r17 (some σ) (fun k20 => if a1 = (3 : Int32) then (f_X2_tryLanes_L34 rec  a1 a2 true σ) else f_X2_tryLanes_L34 rec  a1 a2 false σ)))))
set_option maxRecDepth 100000 in
def g_X2_tryLanes : Nat → Nat → Int32 → Int32 → Sto → Option Sto
  | 0, _, _, _, _ => none
  | d + 1, _, x0, x1, σ => b_X2_tryLanes (g_X2_tryLanes d) σ x0 x1

set_option maxRecDepth 100000 in
def f_X2_seek_L43  (k3 : Nat) : Nat → Int32 → Int32 → Sto → Option Sto
  | 0, _, _, _ => none
  | n + 1, v5, v6, σ => if (60 : Int32) ≤ v6 then ((f_X6_shore σ 62).bind (fun r85 => (g_X2_tryLanes 8 0 (0 : Int32) r85 σ).bind (fun r88 => some r88))) else (f_X5_placeNext σ k3 v5 v6).bind (fun r59 => (wrA σ 64 v6 r59).bind (fun σ72 => (f_X2_seek_L43  k3 n) r59 (v6 + (1 : Int32)) σ72))
set_option maxRecDepth 100000 in
def f_X2_seek (σ : Sto) (a2 : Nat) (a3 : Nat) (a4 : Int32) : Option Sto := lp (sR σ 60 5 (some 58)) (fun σ2 => lp (sR σ2 60 6 (some a3)) (fun σ7 => lp (sI σ7 60 7 a4) (fun σ13 => lp (sI σ13 60 0 (0 : Int32)) (fun σ18 => lp (sI σ18 60 1 (0 : Int32)) (fun σ23 => (f_X6_copy σ23 62 a2).bind (fun r31 => (f_X6_shore r31 a3).bind (fun r35 => f_X2_seek_L43  a3 FU r35 (0 : Int32) r31)))))))
set_option maxRecDepth 100000 in
def f_X3_next_L30 (σ : Sto)    : Option Int32 := some (-1 : Int32)
set_option maxRecDepth 100000 in
def f_X3_next (σ : Sto)  : Option Int32 := if (σ.1 55 4) < 0 then (f_X3_next_L30 σ) else if (σ.1 55 3) ≤ (σ.1 55 4) then (f_X3_next_L30 σ) else if (σ.1 55 4) < (50 : Int32) then ((rdA σ 57 (σ.1 55 4)).bind (fun r42 => some r42)) else f_X3_next_L30 σ  
set_option maxRecDepth 100000 in
def f_X3_isDigit (a0 : Int32) : Option Bool := if a0 < (48 : Int32) then (some false) else if (57 : Int32) < a0 then (some false) else some true
set_option maxRecDepth 100000 in
def f_X3_add (σ : Sto) (a1 : Int32) : Option Sto := if (50 : Int32) ≤ (σ.1 55 1) then (some σ) else (wrA σ 56 (σ.1 55 1) a1).bind (fun σ21 => lp (sI σ21 55 1 ((σ21.1 55 1) + (1 : Int32))) (fun σ29 => some σ29))
set_option maxRecDepth 100000 in
def f_X3_readNumber_L4   : Nat → Int32 → Int32 → Sto → Option Sto
  | 0, _, _, _ => none
  | n + 1, v1, v2, σ => if (4 : Int32) ≤ v2 then ((f_X3_add σ v1).bind (fun r50 => some r50)) else (f_X3_next σ).bind (fun r10 => (f_X3_isDigit r10).bind (fun r13 => if r13 = true then ((f_X3_next σ).bind (fun r24 => lp (sI σ 55 4 ((σ.1 55 4) + (1 : Int32))) (fun σ39 => (f_X3_readNumber_L4   n) (((v1 * (10 : Int32)) + r24) - (48 : Int32)) (v2 + (1 : Int32)) σ39))) else (f_X3_add σ v1).bind (fun r50 => some r50)))
set_option maxRecDepth 100000 in
def f_X3_readNumber (σ : Sto)  : Option Sto := f_X3_readNumber_L4   FU (0 : Int32) (0 : Int32) σ
set_option maxRecDepth 100000 in
def f_X3_readAll_L10 (rec : Nat → Int32 → Sto → Option (Bool × Sto))  (v1 : Int32) : Nat → Sto → Option (Bool × Sto)
  | 0, _ => none
  | n + 1, σ => if (σ.1 55 3) ≤ (σ.1 55 4) then (some (true, σ)) else (f_X3_next σ).bind (fun r22 => if r22 = (38 : Int32) then (lp (sI σ 55 4 ((σ.1 55 4) + (1 : Int32))) (fun σ37 => (rec 3 v1 σ37).bind (fun r42 => if r42.1 = true then ((f_X3_add r42.2 (-38 : Int32)).bind (fun r53 => (f_X3_readAll_L10 rec  v1 n) r53)) else some (false, r42.2)))) else some (true, σ))
set_option maxRecDepth 100000 in
def b_X3_readAll (rec : Nat → Int32 → Sto → Option (Bool × Sto)) (σ : Sto) (a1 : Int32) : Option (Bool × Sto) := (rec 3 a1 σ).bind (fun r2 => if r2.1 = true then (f_X3_readAll_L10 rec  a1 FU r2.2) else some (false, r2.2))
set_option maxRecDepth 100000 in
def f_X3_readAny_L10 (rec : Nat → Int32 → Sto → Option (Bool × Sto))  (v1 : Int32) : Nat → Sto → Option (Bool × Sto)
  | 0, _ => none
  | n + 1, σ => if (σ.1 55 3) ≤ (σ.1 55 4) then (some (true, σ)) else (f_X3_next σ).bind (fun r22 => if r22 = (124 : Int32) then (lp (sI σ 55 4 ((σ.1 55 4) + (1 : Int32))) (fun σ37 => (rec 0 v1 σ37).bind (fun r42 => if r42.1 = true then ((f_X3_add r42.2 (-124 : Int32)).bind (fun r53 => (f_X3_readAny_L10 rec  v1 n) r53)) else some (false, r42.2)))) else some (true, σ))
set_option maxRecDepth 100000 in
def b_X3_readAny (rec : Nat → Int32 → Sto → Option (Bool × Sto)) (σ : Sto) (a1 : Int32) : Option (Bool × Sto) := (rec 0 a1 σ).bind (fun r2 => if r2.1 = true then (f_X3_readAny_L10 rec  a1 FU r2.2) else some (false, r2.2))
set_option maxRecDepth 100000 in
def b_X3_readBracket (rec : Nat → Int32 → Sto → Option (Bool × Sto)) (σ : Sto) (a1 : Int32) : Option (Bool × Sto) := (rec 1 a1 σ).bind (fun r2 => if r2.1 = true then ((f_X3_next r2.2).bind (fun r9 => if r9 = (41 : Int32) then (lp (sI r2.2 55 4 ((r2.2.1 55 4) + (1 : Int32))) (fun σ26 => some (true, σ26))) else some (false, r2.2))) else some (false, r2.2))
set_option maxRecDepth 100000 in
def f_X3_readComparison_L33 (rec : Nat → Int32 → Sto → Option (Bool × Sto))  (v1 : Int32) (v2 : Int32) (σ : Sto) : Option (Bool × Sto) := lp (sI σ 55 4 ((σ.1 55 4) + (1 : Int32))) (fun σ40 => (rec 7 v1 σ40).bind (fun r45 => if r45.1 = true then ((f_X3_add r45.2 (-v2)).bind (fun r56 => some (true, r56))) else some (false, r45.2)))
set_option maxRecDepth 100000 in
def b_X3_readComparison (rec : Nat → Int32 → Sto → Option (Bool × Sto)) (σ : Sto) (a1 : Int32) : Option (Bool × Sto) := (rec 7 a1 σ).bind (fun r2 => if r2.1 = true then ((f_X3_next r2.2).bind (fun r11 => if r11 = (60 : Int32) then (f_X3_readComparison_L33 rec  a1 r11 r2.2) else if r11 = (61 : Int32) then (f_X3_readComparison_L33 rec  a1 r11 r2.2) else if r11 = (62 : Int32) then (f_X3_readComparison_L33 rec  a1 r11 r2.2) else some (true, r2.2))) else some (false, r2.2))
set_option maxRecDepth 100000 in
def b_X3_readNot (rec : Nat → Int32 → Sto → Option (Bool × Sto)) (σ : Sto) (a1 : Int32) : Option (Bool × Sto) := (rec 5 a1 σ).bind (fun r2 => if r2.1 = true then ((f_X3_add r2.2 (-33 : Int32)).bind (fun r13 => some (true, r13))) else some (false, r2.2))
set_option maxRecDepth 100000 in
def f_X3_readPart_L78 (rec : Nat → Int32 → Sto → Option (Bool × Sto))  (v1 : Int32) (v2 : Int32) (σ : Sto) : Option (Bool × Sto) := lp (sI σ 55 4 ((σ.1 55 4) + (1 : Int32))) (fun σ85 => if v2 = (33 : Int32) then ((rec 4 (v1 + (1 : Int32)) σ85).bind (fun r98 => some (r98.1, r98.2))) else (rec 2 (v1 + (1 : Int32)) σ85).bind (fun r106 => some (r106.1, r106.2)))
set_option maxRecDepth 100000 in
def f_X3_readPart_L35 (rec : Nat → Int32 → Sto → Option (Bool × Sto))  (v1 : Int32) (v2 : Int32) (vs0 : Int32) (σ : Sto) : Option (Bool × Sto) := if vs0 < 0 then (if (5 : Int32) ≤ v1 then (some (false, σ)) else if v2 = (33 : Int32) then (f_X3_readPart_L78 rec  v1 v2 σ) else if v2 = (40 : Int32) then (f_X3_readPart_L78 rec  v1 v2 σ) else some (false, σ)) else lp (sI σ 55 4 ((σ.1 55 4) + (1 : Int32))) (fun σ47 => (f_X3_add σ47 ((-1 : Int32) - vs0)).bind (fun r54 => some (true, r54)))
set_option maxRecDepth 100000 in
def b_X3_readPart (rec : Nat → Int32 → Sto → Option (Bool × Sto)) (σ : Sto) (a1 : Int32) : Option (Bool × Sto) := (f_X3_next σ).bind (fun r1 => (f_X3_isDigit r1).bind (fun r6 => if r6 = true then ((f_X3_readNumber σ).bind (fun r13 => some (true, r13))) else if 0 ≤ r1 then (nmR (σ.2 55 5) (fun r27 => derefS r27 (fun i32 => (f_ixS i32 (i2c r1)).bind (fun r32 => f_X3_readPart_L35 rec  a1 r1 r32 σ)))) else f_X3_readPart_L35 rec  a1 r1 (-1 : Int32) σ))
set_option maxRecDepth 100000 in
def f_X3_readProduct_L48 (rec : Nat → Int32 → Sto → Option (Bool × Sto)) (K10 : Sto → Option (Bool × Sto)) (v1 : Int32) (σ : Sto) : Option (Bool × Sto) := (f_X3_next σ).bind (fun r49 => lp (sI σ 55 4 ((σ.1 55 4) + (1 : Int32))) (fun σ60 => (rec 5 v1 σ60).bind (fun r65 => if r65.1 = true then ((f_X3_add r65.2 (-r49)).bind (fun r76 => K10 r76)) else some (false, r65.2))))
set_option maxRecDepth 100000 in
def f_X3_readProduct_L10 (rec : Nat → Int32 → Sto → Option (Bool × Sto))  (v1 : Int32) : Nat → Sto → Option (Bool × Sto)
  | 0, _ => none
  | n + 1, σ => if (σ.1 55 3) ≤ (σ.1 55 4) then (some (true, σ)) else (f_X3_next σ).bind (fun r22 => if r22 = (42 : Int32) then (f_X3_readProduct_L48 rec (f_X3_readProduct_L10 rec  v1 n) v1 σ) else (f_X3_next σ).bind (fun r31 => if r31 = (47 : Int32) then (f_X3_readProduct_L48 rec (f_X3_readProduct_L10 rec  v1 n) v1 σ) else (f_X3_next σ).bind (fun r40 => if r40 = (37 : Int32) then (f_X3_readProduct_L48 rec (f_X3_readProduct_L10 rec  v1 n) v1 σ) else some (true, σ))))
set_option maxRecDepth 100000 in
def b_X3_readProduct (rec : Nat → Int32 → Sto → Option (Bool × Sto)) (σ : Sto) (a1 : Int32) : Option (Bool × Sto) := (rec 5 a1 σ).bind (fun r2 => if r2.1 = true then (f_X3_readProduct_L10 rec  a1 FU r2.2) else some (false, r2.2))
set_option maxRecDepth 100000 in
def f_X3_readSum_L39 (rec : Nat → Int32 → Sto → Option (Bool × Sto)) (K10 : Sto → Option (Bool × Sto)) (v1 : Int32) (σ : Sto) : Option (Bool × Sto) := (f_X3_next σ).bind (fun r40 => lp (sI σ 55 4 ((σ.1 55 4) + (1 : Int32))) (fun σ51 => (rec 6 v1 σ51).bind (fun r56 => if r56.1 = true then ((f_X3_add r56.2 (-r40)).bind (fun r67 => K10 r67)) else some (false, r56.2))))
set_option maxRecDepth 100000 in
def f_X3_readSum_L10 (rec : Nat → Int32 → Sto → Option (Bool × Sto))  (v1 : Int32) : Nat → Sto → Option (Bool × Sto)
  | 0, _ => none
  | n + 1, σ => if (σ.1 55 3) ≤ (σ.1 55 4) then (some (true, σ)) else (f_X3_next σ).bind (fun r22 => if r22 = (43 : Int32) then (f_X3_readSum_L39 rec (f_X3_readSum_L10 rec  v1 n) v1 σ) else (f_X3_next σ).bind (fun r31 => if r31 = (45 : Int32) then (f_X3_readSum_L39 rec (f_X3_readSum_L10 rec  v1 n) v1 σ) else some (true, σ)))
set_option maxRecDepth 100000 in
def b_X3_readSum (rec : Nat → Int32 → Sto → Option (Bool × Sto)) (σ : Sto) (a1 : Int32) : Option (Bool × Sto) := (rec 6 a1 σ).bind (fun r2 => if r2.1 = true then (f_X3_readSum_L10 rec  a1 FU r2.2) else some (false, r2.2))
set_option maxRecDepth 100000 in
def g_X3_readAll : Nat → Nat → Int32 → Sto → Option (Bool × Sto)
  | 0, _, _, _ => none
  | d + 1, 0, x0, σ => b_X3_readAll (g_X3_readAll d) σ x0
  | d + 1, 1, x0, σ => b_X3_readAny (g_X3_readAll d) σ x0
  | d + 1, 2, x0, σ => b_X3_readBracket (g_X3_readAll d) σ x0
  | d + 1, 3, x0, σ => b_X3_readComparison (g_X3_readAll d) σ x0
  | d + 1, 4, x0, σ => b_X3_readNot (g_X3_readAll d) σ x0
  | d + 1, 5, x0, σ => b_X3_readPart (g_X3_readAll d) σ x0
  | d + 1, 6, x0, σ => b_X3_readProduct (g_X3_readAll d) σ x0
  | d + 1, _, x0, σ => b_X3_readSum (g_X3_readAll d) σ x0

set_option maxRecDepth 100000 in
def f_X3_read_L41  (rs0 : Option Nat) (σ : Sto) : Option (Int32 × Sto) := lp (sR σ 55 5 rs0) (fun σ41 => lp (sI σ41 55 4 (0 : Int32)) (fun σ46 => lp (sI σ46 55 1 (0 : Int32)) (fun σ51 => (g_X3_readAll 64 1 (0 : Int32) σ51).bind (fun r56 => if r56.1 = true then (if (r56.2.1 55 4) = (r56.2.1 55 3) then (some ((-1 : Int32), r56.2)) else some ((r56.2.1 55 4), r56.2)) else some ((r56.2.1 55 4), r56.2)))))
set_option maxRecDepth 100000 in
def f_X3_read (σ : Sto) (a1 : Nat) (a2 : Int32) (a3 : Int32) : Option (Int32 × Sto) := lp (sI σ 55 3 (imin (imin a2 (Int32.ofNat (Ln0 a1))) (50 : Int32))) (fun σ12 => (cpA σ12 a1 (0 : Int32) 57 (0 : Int32) (σ12.1 55 3)).bind (fun σ26 => if a3 = 0 then (f_X3_read_L41  (some 1004) σ26) else f_X3_read_L41  (some 1005) σ26))
set_option maxRecDepth 100000 in
def f_X4_clear_L18  (k0 : Nat) : Nat → Int32 → Sto → Option Sto
  | 0, _, _ => none
  | n + 1, v3, σ => if (40 : Int32) ≤ v3 then (some σ) else (wrA σ (A0 k0 0) v3 (0 : Int32)).bind (fun σ33 => (f_X4_clear_L18  k0 n) (v3 + (1 : Int32)) σ33)
set_option maxRecDepth 100000 in
def f_X4_clear (σ : Sto) (k0 : Nat) (a1 : Int32) (a2 : Int32) : Option Sto := lp (sI σ k0 2 a1) (fun σ2 => (f_X8_heldWithin a2 (0 : Int32) (40 : Int32)).bind (fun r10 => lp (sI σ2 k0 1 r10) (fun σ13 => f_X4_clear_L18  k0 FU (0 : Int32) σ13)))
set_option maxRecDepth 100000 in
def f_X4_isMissing (σ : Sto) (k0 : Nat) : Option Bool := if (σ.1 k0 2) = 0 then (some true) else some false
set_option maxRecDepth 100000 in
def f_X4_read (σ : Sto) (k0 : Nat) (a1 : Int32) : Option Int32 := (f_X8_isOutside a1 (0 : Int32) ((40 : Int32) - (1 : Int32))).bind (fun r9 => if r9 = true then (some (0 : Int32)) else (rdA σ (A0 k0 0) a1).bind (fun r24 => some r24))
set_option maxRecDepth 100000 in
def f_X4_write (σ : Sto) (k0 : Nat) (a1 : Int32) (a2 : Int32) : Option Sto := (f_X8_isOutside a1 (0 : Int32) ((40 : Int32) - (1 : Int32))).bind (fun r9 => if r9 = true then (some σ) else if (σ.1 k0 2) = (8 : Int32) then ((wrA σ (A0 k0 0) a1 (i2b a2)).bind (fun σ32 => some σ32)) else if (σ.1 k0 2) = (16 : Int32) then ((wrA σ (A0 k0 0) a1 (i2s a2)).bind (fun σ52 => some σ52)) else (wrA σ (A0 k0 0) a1 a2).bind (fun σ62 => some σ62))
set_option maxRecDepth 100000 in
def f_X4_holds (σ : Sto) (k0 : Nat) (a1 : Int32) (a2 : Int32) : Option Bool := if a1 < 0 then (some false) else if a2 < 0 then (some false) else if (σ.1 k0 1) < a1 then (some false) else if ((σ.1 k0 1) - a1) < a2 then (some false) else some true
set_option maxRecDepth 100000 in
def f_X5_feel_L2  (k1 : Nat) (v2 : Int32) : Nat → Int32 → Sto → Option Sto
  | 0, _, _ => none
  | n + 1, v3, σ => if (6 : Int32) ≤ v3 then (some σ) else (f_X0_flowOf σ k1 v3 v2).bind (fun r19 => (wrA r19.2 59 v3 r19.1).bind (fun σ22 => (f_X5_feel_L2  k1 v2 n) (v3 + (1 : Int32)) σ22))
set_option maxRecDepth 100000 in
def f_X5_feel (σ : Sto) (a1 : Nat) (a2 : Int32) : Option Sto := f_X5_feel_L2  a1 a2 FU (0 : Int32) σ
set_option maxRecDepth 100000 in
def f_X5_placeBehind_L8 (σ : Sto)  (k1 : Nat) (v2 : Int32) : Nat → Int32 → Int32 → Option Int32
  | 0, _, _ => none
  | n + 1, v3, v4 => if v2 ≤ v4 then (some v3) else (f_X5_placeNext σ k1 v3 v4).bind (fun r19 => (f_X5_placeBehind_L8 σ  k1 v2 n) r19 (v4 + (1 : Int32)))
set_option maxRecDepth 100000 in
def f_X5_placeBehind (σ : Sto) (a1 : Nat) (a2 : Int32) : Option Int32 := (f_X6_shore σ a1).bind (fun r1 => f_X5_placeBehind_L8 σ  a1 a2 FU r1 (0 : Int32))
set_option maxRecDepth 100000 in
def f_X5_begin (σ : Sto) (a1 : Nat) (a2 : Nat) : Option Sto := (f_X6_shore σ a1).bind (fun r2 => lp (sI σ 58 4 r2) (fun σ5 => (f_X6_shore σ5 a2).bind (fun r10 => lp (sI σ5 58 5 r10) (fun σ13 => some σ13))))
set_option maxRecDepth 100000 in
def f_X5_gap (σ : Sto) (a1 : Nat) : Option Int32 := if (σ.1 a1 2) = 0 then (some ((σ.1 58 5) - (σ.1 58 4))) else some ((σ.1 58 4) - (σ.1 58 5))
set_option maxRecDepth 100000 in
def f_X5_meets_L103 (K9 : Int32 → Sto → Option (Bool × Sto)) (k1 : Nat) (k2 : Nat) (v3 : Int32) (v4 : Int32) (σ : Sto) : Option (Bool × Sto) := K9 (v4 + (1 : Int32)) σ
set_option maxRecDepth 100000 in
def f_X5_meets_L9  (k1 : Nat) (k2 : Nat) (v3 : Int32) : Nat → Int32 → Sto → Option (Bool × Sto)
  | 0, _, _ => none
  | n + 1, v4, σ => if (60 : Int32) ≤ v4 then (some (false, σ)) else (f_X5_placeNext σ k1 (σ.1 58 4) v4).bind (fun r25 => lp (sI σ 58 4 r25) (fun σ28 => (f_X5_placeNext σ28 k2 (σ28.1 58 5) v4).bind (fun r40 => lp (sI σ28 58 5 r40) (fun σ43 => (f_X6_laneIn σ43 k1 v4).bind (fun r49 => (f_X6_laneIn σ43 k2 v4).bind (fun r55 => if r49 = r55 then ((f_X5_gap σ43 k1).bind (fun r63 => if v3 < r63 then (f_X5_meets_L103 (f_X5_meets_L9  k1 k2 v3 n) k1 k2 v3 v4 σ43) else lp (sI σ43 58 1 v4) (fun σ73 => lp (sI σ73 58 2 (((σ73.1 58 4) + (σ73.1 58 5)) / (2 : Int32))) (fun σ88 => (f_X6_laneIn σ88 k1 v4).bind (fun r95 => lp (sI σ88 58 3 r95) (fun σ98 => some (true, σ98))))))) else f_X5_meets_L103 (f_X5_meets_L9  k1 k2 v3 n) k1 k2 v3 v4 σ43))))))
set_option maxRecDepth 100000 in
def f_X5_meets (σ : Sto) (a1 : Nat) (a2 : Nat) (a3 : Int32) : Option (Bool × Sto) := (f_X5_begin σ a1 a2).bind (fun r3 => f_X5_meets_L9  a1 a2 a3 FU (0 : Int32) r3)
set_option maxRecDepth 100000 in
def f_X5_leastGap_L79 (K13 : Int32 → Int32 → Sto → Option (Int32 × Sto)) (k1 : Nat) (k2 : Nat) (v3 : Int32) (v4 : Int32) (σ : Sto) : Option (Int32 × Sto) := K13 v3 (v4 + (1 : Int32)) σ
set_option maxRecDepth 100000 in
def f_X5_leastGap_L13  (k1 : Nat) (k2 : Nat) : Nat → Int32 → Int32 → Sto → Option (Int32 × Sto)
  | 0, _, _, _ => none
  | n + 1, v3, v4, σ => if (60 : Int32) ≤ v4 then (some (v3, σ)) else (f_X5_placeNext σ k1 (σ.1 58 4) v4).bind (fun r29 => lp (sI σ 58 4 r29) (fun σ32 => (f_X5_placeNext σ32 k2 (σ32.1 58 5) v4).bind (fun r44 => lp (sI σ32 58 5 r44) (fun σ47 => (f_X6_laneIn σ47 k1 v4).bind (fun r53 => (f_X6_laneIn σ47 k2 v4).bind (fun r59 => if r53 = r59 then ((f_X5_gap σ47 k1).bind (fun r69 => f_X5_leastGap_L79 (f_X5_leastGap_L13  k1 k2 n) k1 k2 (imin v3 (imax (0 : Int32) r69)) v4 σ47)) else f_X5_leastGap_L79 (f_X5_leastGap_L13  k1 k2 n) k1 k2 v3 v4 σ47))))))
set_option maxRecDepth 100000 in
def f_X5_leastGap (σ : Sto) (a1 : Nat) (a2 : Nat) : Option (Int32 × Sto) := (f_X5_begin σ a1 a2).bind (fun r7 => f_X5_leastGap_L13  a1 a2 FU (1200 : Int32) (0 : Int32) r7)
set_option maxRecDepth 100000 in
def f_X6_turnInto (σ : Sto) (k0 : Nat) (a1 : Int32) : Option Sto := lp (sI σ k0 0 (a1 / (10 : Int32))) (fun σ5 => lp (sI σ5 k0 1 (irem a1 (10 : Int32))) (fun σ13 => some σ13))
set_option maxRecDepth 100000 in
def f_X6_keepTo_L2  (k0 : Nat) (v1 : Int32) : Nat → Int32 → Sto → Option Sto
  | 0, _, _ => none
  | n + 1, v2, σ => if (4 : Int32) ≤ v2 then (some σ) else (wrA σ (A0 k0 5) v2 v1).bind (fun σ17 => (f_X6_keepTo_L2  k0 v1 n) (v2 + (1 : Int32)) σ17)
set_option maxRecDepth 100000 in
def f_X6_keepTo (σ : Sto) (k0 : Nat) (a1 : Int32) : Option Sto := f_X6_keepTo_L2  k0 a1 FU (0 : Int32) σ
set_option maxRecDepth 100000 in
def f_X6_begin (σ : Sto) (k0 : Nat) (a1 : Int32) (a2 : Int32) : Option Sto := (f_X6_turnInto σ k0 a1).bind (fun r2 => lp (sI r2 k0 2 a2) (fun σ7 => lp (sI σ7 k0 3 (10 : Int32)) (fun σ13 => lp (sI σ13 k0 4 (0 : Int32)) (fun σ18 => (f_X6_keepTo σ18 k0 (0 : Int32)).bind (fun r23 => some r23)))))
set_option maxRecDepth 100000 in
def f_X7_bodyOf_L58 (σ : Sto) (K4 : Int32 → Int32 → Option Int32) (v1 : Int32) (v2 : Int32) (v3 : Int32)  : Option Int32 := (rdC abv 7 v2).bind (fun r62 => K4 r62 (v3 + (1 : Int32)))
set_option maxRecDepth 100000 in
def f_X7_bodyOf_L4 (σ : Sto)  (v1 : Int32) : Nat → Int32 → Int32 → Option Int32
  | 0, _, _ => none
  | n + 1, v2, v3 => if (7 : Int32) ≤ v3 then (some (0 : Int32)) else (f_X8_isOutside v2 (0 : Int32) (6 : Int32)).bind (fun r14 => if r14 = true then (some (0 : Int32)) else (f_X8_isOutside ((v2 * (4 : Int32)) + v1) (0 : Int32) ((28 : Int32) - (1 : Int32))).bind (fun r36 => if r36 = true then (f_X7_bodyOf_L58 σ (f_X7_bodyOf_L4 σ  v1 n) v1 v2 v3) else (rdC bod 28 ((v2 * (4 : Int32)) + v1)).bind (fun r47 => if r47 = 0 then (f_X7_bodyOf_L58 σ (f_X7_bodyOf_L4 σ  v1 n) v1 v2 v3) else (rdC bod 28 ((v2 * (4 : Int32)) + v1)).bind (fun r56 => some r56))))
set_option maxRecDepth 100000 in
def f_X7_bodyOf (σ : Sto) (a0 : Int32) (a1 : Int32) : Option Int32 := f_X7_bodyOf_L4 σ  a1 FU a0 (0 : Int32)
set_option maxRecDepth 100000 in
def f_X7_note (σ : Sto) (a1 : Int32) : Option Sto := if (40 : Int32) ≤ (σ.1 65 1) then (some σ) else (wrA σ 66 (σ.1 65 1) a1).bind (fun σ21 => lp (sI σ21 65 1 ((σ21.1 65 1) + (1 : Int32))) (fun σ29 => some σ29))
set_option maxRecDepth 100000 in
def b_X7_say (rec : Nat → Int32 → Int32 → Int32 → Int32 → Sto → Option (Int32 × Sto)) (σ : Sto) (a1 : Int32) (a2 : Int32) (a3 : Int32) (a4 : Int32) : Option (Int32 × Sto) := if a4 ≤ (40 : Int32) then ((f_X7_bodyOf σ a1 a2).bind (fun r11 => (f_X7_note σ r11).bind (fun r19 => if r11 = (10 : Int32) then (some ((a3 + (r19.1 65 3)), r19)) else if r11 = (11 : Int32) then ((rec 0 (r19.1 65 2) (0 : Int32) a3 (a4 + (1 : Int32)) r19).bind (fun r144 => some ((r144.1 * (2 : Int32)), r144.2))) else if r11 = (12 : Int32) then (some ((a3 - (r19.1 65 4)), r19)) else if r11 = (13 : Int32) then ((rec 0 (r19.1 65 2) (1 : Int32) a3 (a4 + (1 : Int32)) r19).bind (fun r166 => (rec 0 (r166.2.1 65 2) (2 : Int32) a3 (a4 + (1 : Int32)) r166.2).bind (fun r178 => some ((r166.1 ^^^ r178.1), r178.2)))) else if r11 = (20 : Int32) then ((rec 0 (0 : Int32) (1 : Int32) a3 (a4 + (1 : Int32)) r19).bind (fun r189 => (rec 0 (r189.2.1 65 2) (2 : Int32) (1 : Int32) (a4 + (1 : Int32)) r189.2).bind (fun r201 => some ((r189.1 - r201.1), r201.2)))) else if r11 = (30 : Int32) then ((rec 0 (0 : Int32) (0 : Int32) a3 (a4 + (1 : Int32)) r19).bind (fun r212 => some ((r212.1 * (3 : Int32)), r212.2))) else if r11 = (40 : Int32) then ((rec 0 (0 : Int32) (2 : Int32) a3 (a4 + (1 : Int32)) r19).bind (fun r224 => some ((-r224.1), r224.2))) else if r11 = (50 : Int32) then ((rec 0 (1 : Int32) (1 : Int32) (a3 + (1 : Int32)) (a4 + (1 : Int32)) r19).bind (fun r237 => some (r237.1, r237.2))) else if r11 = (60 : Int32) then ((rec 0 (2 : Int32) (3 : Int32) a3 (a4 + (1 : Int32)) r19).bind (fun r247 => (rec 0 (r247.2.1 65 2) (0 : Int32) (2 : Int32) (a4 + (1 : Int32)) r247.2).bind (fun r259 => some ((r247.1 - r259.1), r259.2)))) else if r11 = (70 : Int32) then ((rec 0 (3 : Int32) (2 : Int32) a3 (a4 + (1 : Int32)) r19).bind (fun r270 => some ((r270.1 ^^^ (r270.2.1 65 3)), r270.2))) else if r11 = (71 : Int32) then ((rec 0 (r19.1 65 2) (1 : Int32) a3 (a4 + (1 : Int32)) r19).bind (fun r288 => (rec 0 (3 : Int32) (3 : Int32) a3 (a4 + (1 : Int32)) r288.2).bind (fun r297 => some ((r288.1 - r297.1), r297.2)))) else some ((0 : Int32), r19)))) else some ((0 : Int32), σ)
set_option maxRecDepth 100000 in
def g_X7_say : Nat → Nat → Int32 → Int32 → Int32 → Int32 → Sto → Option (Int32 × Sto)
  | 0, _, _, _, _, _, _ => none
  | d + 1, _, x0, x1, x2, x3, σ => b_X7_say (g_X7_say d) σ x0 x1 x2 x3

set_option maxRecDepth 100000 in
def f_X7_speak (σ : Sto) (a1 : Nat) (a2 : Int32) (a3 : Int32) (a4 : Int32) : Option (Int32 × Sto) := lp (sI σ 65 2 (σ.1 a1 0)) (fun σ5 => lp (sI σ5 65 4 (σ5.1 a1 1)) (fun σ13 => lp (sI σ13 65 3 a2) (fun σ18 => lp (sI σ18 65 1 (0 : Int32)) (fun σ23 => (g_X7_say 44 0 (σ23.1 65 2) a3 a4 (0 : Int32) σ23).bind (fun r35 => some (r35.1, r35.2))))))
set_option maxRecDepth 100000 in
def f_X8_refuse (σ : Sto) (a1 : Int32) : Option (Int32 × Sto) := (f_X8_isOutside a1 (1 : Int32) (5 : Int32)).bind (fun r3 => if r3 = true then (some (((-1000000000 : Int32) - a1), σ)) else (rdA σ 68 a1).bind (fun r15 => (wrA σ 68 a1 (r15 + (1 : Int32))).bind (fun σ18 => some (((-1000000000 : Int32) - a1), σ18))))
set_option maxRecDepth 100000 in
def f_X8_current (σ : Sto) (a1 : Int32) (a2 : Int32) : Option (Int32 × Sto) := (f_X8_isOutside a1 (0 : Int32) (5 : Int32)).bind (fun r3 => if r3 = true then ((f_X8_refuse σ (1 : Int32)).bind (fun r22 => some (r22.1, r22.2))) else (f_X8_isOutside a2 (-9 : Int32) (9 : Int32)).bind (fun r14 => if r14 = true then ((f_X8_refuse σ (1 : Int32)).bind (fun r22 => some (r22.1, r22.2))) else (rdA σ 2 a1).bind (fun r34 => (wrA σ 2 a1 a2).bind (fun σ45 => some (r34, σ45)))))
set_option maxRecDepth 100000 in
def f_X8_set_L103   (σ : Sto) : Option (Int32 × Sto) := (f_X8_refuse σ (1 : Int32)).bind (fun r105 => some (r105.1, r105.2))
set_option maxRecDepth 100000 in
def f_X8_set_L68  (v1 : Int32) (v2 : Int32) (σ : Sto) : Option (Int32 × Sto) := if v1 = (2 : Int32) then ((f_X8_isOutside v2 (0 : Int32) (1200 : Int32)).bind (fun r78 => if r78 = true then (f_X8_set_L103  σ) else lp (sI σ 1 3 v2) (fun σ97 => some ((σ.1 1 3), σ97)))) else f_X8_set_L103  σ
set_option maxRecDepth 100000 in
def f_X8_set_L33  (v1 : Int32) (v2 : Int32) (σ : Sto) : Option (Int32 × Sto) := if v1 = (1 : Int32) then ((f_X8_isOutside v2 (0 : Int32) (200 : Int32)).bind (fun r43 => if r43 = true then (f_X8_set_L68  v1 v2 σ) else lp (sI σ 1 2 v2) (fun σ62 => some ((σ.1 1 2), σ62)))) else f_X8_set_L68  v1 v2 σ
set_option maxRecDepth 100000 in
def f_X8_set (σ : Sto) (a1 : Int32) (a2 : Int32) : Option (Int32 × Sto) := if a1 = 0 then ((f_X8_isOutside a2 (-3 : Int32) (3 : Int32)).bind (fun r8 => if r8 = true then (f_X8_set_L33  a1 a2 σ) else lp (sI σ 1 1 a2) (fun σ27 => some ((σ.1 1 1), σ27)))) else f_X8_set_L33  a1 a2 σ
set_option maxRecDepth 100000 in
def f_X8_flow (σ : Sto) (a1 : Int32) : Option (Int32 × Sto) := (f_X8_isOutside a1 (0 : Int32) (5 : Int32)).bind (fun r3 => if r3 = true then ((f_X8_refuse σ (1 : Int32)).bind (fun r11 => some (r11.1, r11.2))) else (f_X0_flowOf σ 1 a1 (σ.1 1 1)).bind (fun r27 => some (r27.1, r27.2)))
set_option maxRecDepth 100000 in
def f_X8_swimmer (σ : Sto) (a1 : Int32) (a2 : Int32) : Option (Int32 × Sto) := (f_X8_isOutside a1 (0 : Int32) (69 : Int32)).bind (fun r4 => if r4 = true then ((f_X8_refuse σ (1 : Int32)).bind (fun r21 => some (r21.1, r21.2))) else (f_X8_isOutside a2 (0 : Int32) (1 : Int32)).bind (fun r13 => if r13 = true then ((f_X8_refuse σ (1 : Int32)).bind (fun r21 => some (r21.1, r21.2))) else if (σ.1 1 8) < (8 : Int32) then (lp (sI σ 1 8 ((σ.1 1 8) + (1 : Int32))) (fun σ52 => (f_X0_swimmerAt σ52 1 (σ.1 1 8)).bind (fun r60 => onN r60 (some ((σ.1 1 8), σ52)) (fun k67 => if K0 k67 = 6 then ((f_X6_begin σ52 k67 a1 a2).bind (fun r74 => some ((σ.1 1 8), r74))) else none)))) else (f_X8_refuse σ (4 : Int32)).bind (fun r41 => some (r41.1, r41.2))))
set_option maxRecDepth 100000 in
def f_X8_ofSwimmer (σ : Sto) (a1 : Int32) (a2 : Int32) : Option (Int32 × Sto) := (f_X0_swimmerAt σ 1 a1).bind (fun r5 => onN r5 ((f_X8_refuse σ (1 : Int32)).bind (fun r25 => some (r25.1, r25.2))) (fun k10 => (f_X8_isOutside a2 (0 : Int32) (8 : Int32)).bind (fun r17 => if r17 = true then ((f_X8_refuse σ (1 : Int32)).bind (fun r25 => some (r25.1, r25.2))) else if a2 = (0 : Int32) then (if K0 k10 = 6 then (some ((σ.1 k10 0), σ)) else none) else if a2 = (1 : Int32) then (if K0 k10 = 6 then (some ((σ.1 k10 1), σ)) else none) else if a2 = (2 : Int32) then (if K0 k10 = 6 then (some ((σ.1 k10 2), σ)) else none) else if a2 = (3 : Int32) then (if K0 k10 = 6 then (some ((σ.1 k10 3), σ)) else none) else if a2 = (4 : Int32) then (if K0 k10 = 6 then (some ((σ.1 k10 4), σ)) else none) else if K0 k10 = 6 then ((f_X6_laneOf σ k10 (a2 - (5 : Int32))).bind (fun r93 => some (r93, σ))) else none)))
set_option maxRecDepth 100000 in
def f_X8_train (σ : Sto) (a1 : Int32) (a2 : Int32) : Option (Int32 × Sto) := (f_X0_swimmerAt σ 1 a1).bind (fun r5 => onN r5 ((f_X8_refuse σ (1 : Int32)).bind (fun r25 => some (r25.1, r25.2))) (fun k10 => (f_X8_isOutside a2 (0 : Int32) (30 : Int32)).bind (fun r17 => if r17 = true then ((f_X8_refuse σ (1 : Int32)).bind (fun r25 => some (r25.1, r25.2))) else if K0 k10 = 6 then (lp (sI σ k10 3 a2) (fun σ37 => some ((σ.1 k10 3), σ37))) else none)))
set_option maxRecDepth 100000 in
def f_X8_plan (σ : Sto) (a1 : Int32) (a2 : Int32) (a3 : Int32) : Option (Int32 × Sto) := (f_X0_swimmerAt σ 1 a1).bind (fun r5 => onN r5 ((f_X8_refuse σ (1 : Int32)).bind (fun r35 => some (r35.1, r35.2))) (fun k12 => (f_X8_isOutside a2 (0 : Int32) (3 : Int32)).bind (fun r18 => if r18 = true then ((f_X8_refuse σ (1 : Int32)).bind (fun r35 => some (r35.1, r35.2))) else (f_X8_isOutside a3 (0 : Int32) (5 : Int32)).bind (fun r27 => if r27 = true then ((f_X8_refuse σ (1 : Int32)).bind (fun r35 => some (r35.1, r35.2))) else if K0 k12 = 6 then ((rdA σ (A0 k12 5) a2).bind (fun r45 => (wrA σ (A0 k12 5) a2 a3).bind (fun σ55 => some (r45, σ55)))) else none))))
set_option maxRecDepth 100000 in
def f_X8_become (σ : Sto) (a1 : Int32) (a2 : Int32) : Option (Int32 × Sto) := (f_X0_swimmerAt σ 1 a1).bind (fun r5 => onN r5 ((f_X8_refuse σ (1 : Int32)).bind (fun r25 => some (r25.1, r25.2))) (fun k10 => (f_X8_isOutside a2 (0 : Int32) (69 : Int32)).bind (fun r17 => if r17 = true then ((f_X8_refuse σ (1 : Int32)).bind (fun r25 => some (r25.1, r25.2))) else if K0 k10 = 6 then ((f_X6_turnInto σ k10 a2).bind (fun r37 => some ((σ.1 k10 0), r37))) else none)))
set_option maxRecDepth 100000 in
def f_X8_isUnder_L4 (σ : Sto)  (v1 : Int32) : Nat → Int32 → Int32 → Option Bool
  | 0, _, _ => none
  | n + 1, v2, v3 => if (7 : Int32) ≤ v3 then (some false) else (f_X8_isOutside v2 (0 : Int32) (6 : Int32)).bind (fun r14 => if r14 = true then (some false) else if v2 = v1 then (some true) else (rdC abv 7 v2).bind (fun r31 => (f_X8_isUnder_L4 σ  v1 n) r31 (v3 + (1 : Int32))))
set_option maxRecDepth 100000 in
def f_X8_isUnder (σ : Sto) (a0 : Int32) (a1 : Int32) : Option Bool := f_X8_isUnder_L4 σ  a1 FU a0 (0 : Int32)
set_option maxRecDepth 100000 in
def f_X8_as (σ : Sto) (a1 : Int32) (a2 : Int32) : Option (Int32 × Sto) := (f_X0_swimmerAt σ 1 a1).bind (fun r5 => onN r5 ((f_X8_refuse σ (1 : Int32)).bind (fun r25 => some (r25.1, r25.2))) (fun k10 => (f_X8_isOutside a2 (0 : Int32) (6 : Int32)).bind (fun r17 => if r17 = true then ((f_X8_refuse σ (1 : Int32)).bind (fun r25 => some (r25.1, r25.2))) else if K0 k10 = 6 then ((f_X8_isUnder σ (σ.1 k10 0) a2).bind (fun r34 => if r34 = true then (some ((σ.1 k10 1), σ)) else (f_X8_refuse σ (5 : Int32)).bind (fun r49 => some (r49.1, r49.2)))) else none)))
set_option maxRecDepth 100000 in
def f_X8_pace (σ : Sto) (a1 : Int32) (a2 : Int32) : Option (Int32 × Sto) := (f_X0_swimmerAt σ 1 a1).bind (fun r5 => onN r5 ((f_X8_refuse σ (1 : Int32)).bind (fun r25 => some (r25.1, r25.2))) (fun k10 => (f_X8_isOutside a2 (0 : Int32) (59 : Int32)).bind (fun r17 => if r17 = true then ((f_X8_refuse σ (1 : Int32)).bind (fun r25 => some (r25.1, r25.2))) else if K0 k10 = 6 then ((f_X6_paceIn σ k10 a2).bind (fun r31 => some (r31, σ))) else none)))
set_option maxRecDepth 100000 in
def f_X8_feed (σ : Sto) (a1 : Int64) (a3 : Int32) : Option (Int32 × Sto) := (f_X8_isOutside a3 (1 : Int32) (8 : Int32)).bind (fun r4 => if r4 = true then ((f_X8_refuse σ (1 : Int32)).bind (fun r12 => some (r12.1, r12.2))) else if ((σ.1 1 12) + a3) ≤ (50 : Int32) then ((f_X0_addToTape σ 1 a1 a3).bind (fun r42 => some ((r42.1 1 12), r42))) else (f_X8_refuse σ (4 : Int32)).bind (fun r32 => some (r32.1, r32.2)))
set_option maxRecDepth 100000 in
def f_X8_text (σ : Sto) (a1 : Int32) : Option (Int32 × Sto) := (f_X0_lawOf σ 1 a1).bind (fun r5 => onN r5 ((f_X8_refuse σ (1 : Int32)).bind (fun r15 => some (r15.1, r15.2))) (fun k10 => (f_X3_read σ 10 (σ.1 1 12) a1).bind (fun r38 => lp (sI r38.2 1 12 (0 : Int32)) (fun σ47 => if r38.1 < 0 then (if K0 k10 = 1 then ((f_X1_take σ47 k10).bind (fun r64 => some ((1 : Int32), r64))) else none) else some (((-10 : Int32) - r38.1), σ47)))))
set_option maxRecDepth 100000 in
def f_X8_law (σ : Sto) (a1 : Int32) (a2 : Int32) (a3 : Int32) (a4 : Int32) : Option (Int32 × Sto) := (f_X0_lawOf σ 1 a1).bind (fun r5 => onN r5 ((f_X8_refuse σ (1 : Int32)).bind (fun r17 => some (r17.1, r17.2))) (fun k12 => if K0 k12 = 1 then ((f_X1_give σ k12 a2 a3 a4).bind (fun r29 => some (r29.1, r29.2))) else none))
set_option maxRecDepth 100000 in
def f_X8_where (σ : Sto) (a1 : Int32) (a2 : Int32) : Option (Int32 × Sto) := (f_X0_swimmerAt σ 1 a1).bind (fun r5 => onN r5 ((f_X8_refuse σ (1 : Int32)).bind (fun r25 => some (r25.1, r25.2))) (fun k10 => (f_X8_isOutside a2 (0 : Int32) (60 : Int32)).bind (fun r17 => if r17 = true then ((f_X8_refuse σ (1 : Int32)).bind (fun r25 => some (r25.1, r25.2))) else (f_X5_feel σ 1 (σ.1 1 1)).bind (fun r44 => if K0 k10 = 6 then ((f_X5_placeBehind r44 k10 a2).bind (fun r53 => some (r53, r44))) else none))))
set_option maxRecDepth 100000 in
def f_X8_areUnlike (σ : Sto) (a0 : Option Nat) (a1 : Option Nat) : Option Bool := onN a0 (some false) (fun k1 => onN a1 (some false) (fun k5 => if K0 k1 = 6 then (if K0 k5 = 6 then (if (σ.1 k1 2) = (σ.1 k5 2) then (some false) else some true) else none) else none))
set_option maxRecDepth 100000 in
def f_X8_meet (σ : Sto) (a1 : Int32) (a2 : Int32) (a3 : Int32) : Option (Int32 × Sto) := (f_X0_swimmerAt σ 1 a1).bind (fun r5 => (f_X0_swimmerAt σ 1 a2).bind (fun r15 => (f_X8_areUnlike σ r5 r15).bind (fun r24 => if r24 = true then ((f_X8_isOutside a3 (0 : Int32) (2 : Int32)).bind (fun r33 => if r33 = true then ((f_X8_refuse σ (1 : Int32)).bind (fun r41 => some (r41.1, r41.2))) else (f_X5_feel σ 1 (σ.1 1 1)).bind (fun r60 => deref 6 r5 (fun k78 => deref 6 r15 (fun k78' => (f_X5_meets r60 k78 k78' (r60.1 1 2)).bind (fun r78 => if r78.1 = true then (if a3 = (0 : Int32) then (some ((r78.2.1 58 1), r78.2)) else if a3 = (1 : Int32) then (some ((r78.2.1 58 2), r78.2)) else some ((r78.2.1 58 3), r78.2)) else (f_X8_refuse r78.2 (2 : Int32)).bind (fun r86 => some (r86.1, r86.2)))))))) else (f_X8_refuse σ (1 : Int32)).bind (fun r41 => some (r41.1, r41.2)))))
set_option maxRecDepth 100000 in
def f_X8_whyNoYear (σ : Sto) (a1 : Int32) (a2 : Int32) : Option Int32 := (f_X0_swimmerAt σ 1 a1).bind (fun r5 => (f_X0_swimmerAt σ 1 a2).bind (fun r13 => (f_X8_areUnlike σ r5 r13).bind (fun r16 => if r16 = true then (if (σ.1 1 4) < (9999 : Int32) then (some (0 : Int32)) else some (3 : Int32)) else some (1 : Int32))))
set_option maxRecDepth 100000 in
def f_X8_letYearGoBy_L115   (σ : Sto) : Option Sto := (f_X0_share σ 1).bind (fun r119 => lp (sI r119 1 4 ((r119.1 1 4) + (1 : Int32))) (fun σ132 => some σ132))
set_option maxRecDepth 100000 in
def f_X8_letYearGoBy (σ : Sto) (a1 : Int32) (a2 : Int32) : Option Sto := (f_X0_swimmerAt σ 1 a1).bind (fun r5 => (f_X0_swimmerAt σ 1 a2).bind (fun r14 => (f_X8_areUnlike σ r5 r14).bind (fun r22 => if r22 = true then ((f_X5_feel σ 1 (σ.1 1 1)).bind (fun r44 => deref 6 r5 (fun k61 => deref 6 r14 (fun k61' => (f_X5_meets r44 k61 k61' (r44.1 1 2)).bind (fun r61 => if r61.1 = true then (lp (sI r61.2 1 3 (r61.2.1 58 2)) (fun σ78 => lp (sI σ78 k61 4 (imin (9999 : Int32) ((σ78.1 k61 4) + (1 : Int32)))) (fun σ94 => lp (sI σ94 k61' 4 (imin (9999 : Int32) ((σ94.1 k61' 4) + (1 : Int32)))) (fun σ112 => f_X8_letYearGoBy_L115  σ112)))) else f_X8_letYearGoBy_L115  r61.2))))) else some σ)))
set_option maxRecDepth 100000 in
def f_X8_year (σ : Sto) (a1 : Int32) (a2 : Int32) : Option (Int32 × Sto) := (f_X8_whyNoYear σ a1 a2).bind (fun r3 => if r3 = 0 then ((f_X8_letYearGoBy σ a1 a2).bind (fun r20 => some ((r20.1 1 3), r20))) else (f_X8_refuse σ r3).bind (fun r13 => some (r13.1, r13.2)))
set_option maxRecDepth 100000 in
def f_X8_loose (σ : Sto) (a1 : Int32) (a2 : Int32) : Option (Int32 × Sto) := (f_X8_whyNoYear σ a1 a2).bind (fun r3 => if r3 = 0 then ((f_X0_draw σ 1).bind (fun r25 => lp (sI r25.2 1 1 ((irem r25.1 (7 : Int32)) - (3 : Int32))) (fun σ33 => (f_X8_letYearGoBy σ33 a1 a2).bind (fun r39 => some ((r39.1 1 3), r39))))) else (f_X8_refuse σ r3).bind (fun r13 => some (r13.1, r13.2)))
set_option maxRecDepth 100000 in
def f_X8_bestPlan (σ : Sto) (a1 : Int32) (a2 : Int32) (a3 : Int32) : Option (Int32 × Sto) := (f_X0_swimmerAt σ 1 a1).bind (fun r5 => (f_X0_swimmerAt σ 1 a2).bind (fun r15 => (f_X8_areUnlike σ r5 r15).bind (fun r24 => if r24 = true then ((f_X8_isOutside a3 (-1 : Int32) (3 : Int32)).bind (fun r33 => if r33 = true then ((f_X8_refuse σ (1 : Int32)).bind (fun r41 => some (r41.1, r41.2))) else (f_X5_feel σ 1 (σ.1 1 1)).bind (fun r60 => deref 6 r5 (fun k82 => deref 6 r15 (fun k82' => (f_X2_seek r60 k82 k82' (r60.1 1 2)).bind (fun r82 => if (r82.1 60 0) = 0 then ((f_X8_refuse r82 (2 : Int32)).bind (fun r97 => some (r97.1, r97.2))) else if 0 ≤ a3 then ((f_X2_bestLane r82 a3).bind (fun r120 => some (r120, r82))) else some ((r82.1 60 1), r82))))))) else (f_X8_refuse σ (1 : Int32)).bind (fun r41 => some (r41.1, r41.2)))))
set_option maxRecDepth 100000 in
def f_X8_meetInLane (σ : Sto) (a1 : Int32) (a2 : Nat) (a3 : Nat) : Option (Bool × Sto) := (f_X6_copy σ 69 a2).bind (fun r5 => (f_X6_keepTo r5 69 a1).bind (fun r13 => (f_X6_copy r13 71 a3).bind (fun r21 => (f_X6_keepTo r21 71 a1).bind (fun r29 => (f_X5_meets r29 69 71 (r29.1 1 2)).bind (fun r51 => some (r51.1, r51.2))))))
set_option maxRecDepth 100000 in
def f_X8_worstPlaceIn (σ : Sto) (a1 : Int32) (a2 : Nat) (a3 : Nat) : Option (Int32 × Sto) := (f_X8_meetInLane σ a1 a2 a3).bind (fun r13 => if r13.1 = true then ((f_X8_isBetter (r13.2.1 a2 2) (σ.1 1 3) (r13.2.1 58 2)).bind (fun r32 => if r32 = true then (some ((r13.2.1 58 2), r13.2)) else some ((σ.1 1 3), r13.2))) else some ((σ.1 1 3), r13.2))
set_option maxRecDepth 100000 in
def f_X8_hold_L122 (K80 : Int32 → Int32 → Int32 → Sto → Option (Int32 × Sto)) (v3 : Int32) (k4 : Nat) (k5 : Nat) (v6 : Int32) (v7 : Int32) (v8 : Int32) (σ : Sto) : Option (Int32 × Sto) := K80 v6 v7 (v8 + (1 : Int32)) σ
set_option maxRecDepth 100000 in
def f_X8_hold_L80  (v3 : Int32) (k4 : Nat) (k5 : Nat) : Nat → Int32 → Int32 → Int32 → Sto → Option (Int32 × Sto)
  | 0, _, _, _, _ => none
  | n + 1, v6, v7, v8, σ => if (6 : Int32) ≤ v8 then (if v3 = 0 then (some (v6, σ)) else some (v7, σ)) else (f_X8_worstPlaceIn σ v8 k4 k5).bind (fun r94 => (f_X8_isBetter (r94.2.1 k4 2) r94.1 v7).bind (fun r108 => if r108 = true then (f_X8_hold_L122 (f_X8_hold_L80  v3 k4 k5 n) v3 k4 k5 v8 r94.1 v8 r94.2) else f_X8_hold_L122 (f_X8_hold_L80  v3 k4 k5 n) v3 k4 k5 v6 v7 v8 r94.2))
set_option maxRecDepth 100000 in
def f_X8_hold (σ : Sto) (a1 : Int32) (a2 : Int32) (a3 : Int32) : Option (Int32 × Sto) := (f_X0_swimmerAt σ 1 a1).bind (fun r5 => (f_X0_swimmerAt σ 1 a2).bind (fun r15 => (f_X8_areUnlike σ r5 r15).bind (fun r24 => if r24 = true then ((f_X8_isOutside a3 (0 : Int32) (1 : Int32)).bind (fun r33 => if r33 = true then ((f_X8_refuse σ (1 : Int32)).bind (fun r41 => some (r41.1, r41.2))) else (f_X5_feel σ 1 (σ.1 1 1)).bind (fun r60 => deref 6 r5 (fun k72 => deref 6 r15 (fun k72' => (f_X8_worstPlaceIn r60 (0 : Int32) k72 k72').bind (fun r72 => f_X8_hold_L80  a3 k72 k72' FU (0 : Int32) r72.1 (1 : Int32) r72.2)))))) else (f_X8_refuse σ (1 : Int32)).bind (fun r41 => some (r41.1, r41.2)))))
set_option maxRecDepth 100000 in
def f_X8_ask_L126 (K47 : Bool → Int32 → Int32 → Int32 → Sto → Option (Int32 × Sto)) (k3 : Nat) (k4 : Nat) (v5 : Bool) (v6 : Int32) (v7 : Int32) (v8 : Int32) (σ : Sto) : Option (Int32 × Sto) := K47 v5 v6 v7 (v8 + (1 : Int32)) σ
set_option maxRecDepth 100000 in
def f_X8_ask_L110 (K47 : Bool → Int32 → Int32 → Int32 → Sto → Option (Int32 × Sto)) (k3 : Nat) (k4 : Nat) (v8 : Int32) (σ : Sto) : Option (Int32 × Sto) := f_X8_ask_L126 K47 k3 k4 true v8 (σ.1 58 2) v8 σ
set_option maxRecDepth 100000 in
def f_X8_ask_L47  (r3 : Option Nat) (r4 : Option Nat) : Nat → Bool → Int32 → Int32 → Int32 → Sto → Option (Int32 × Sto)
  | 0, _, _, _, _, _ => none
  | n + 1, v5, v6, v7, v8, σ => if (3 : Int32) < v8 then (if v5 = true then (some (v6, σ)) else (f_X8_refuse σ (2 : Int32)).bind (fun r144 => some (r144.1, r144.2))) else (f_X5_feel σ 1 v8).bind (fun r63 => deref 6 r3 (fun k80 => deref 6 r4 (fun k80' => (f_X5_meets r63 k80 k80' (r63.1 1 2)).bind (fun r80 => if r80.1 = true then (if v5 = true then ((f_X8_isBetter (r80.2.1 k80 2) (r80.2.1 58 2) v7).bind (fun r104 => if r104 = true then (f_X8_ask_L110 (f_X8_ask_L47  r3 r4 n) k80 k80' v8 r80.2) else f_X8_ask_L126 (f_X8_ask_L47  r3 r4 n) k80 k80' v5 v6 v7 v8 r80.2)) else f_X8_ask_L110 (f_X8_ask_L47  r3 r4 n) k80 k80' v8 r80.2) else f_X8_ask_L126 (f_X8_ask_L47  r3 r4 n) k80 k80' v5 v6 v7 v8 r80.2))))
set_option maxRecDepth 100000 in
def f_X8_ask (σ : Sto) (a1 : Int32) (a2 : Int32) : Option (Int32 × Sto) := (f_X0_swimmerAt σ 1 a1).bind (fun r5 => (f_X0_swimmerAt σ 1 a2).bind (fun r14 => (f_X8_areUnlike σ r5 r14).bind (fun r22 => if r22 = true then (f_X8_ask_L47  r5 r14 FU false (0 : Int32) (0 : Int32) (-3 : Int32) σ) else (f_X8_refuse σ (1 : Int32)).bind (fun r30 => some (r30.1, r30.2)))))
set_option maxRecDepth 100000 in
def f_X8_leastSight (σ : Sto) (a1 : Int32) (a2 : Int32) : Option (Int32 × Sto) := (f_X0_swimmerAt σ 1 a1).bind (fun r5 => (f_X0_swimmerAt σ 1 a2).bind (fun r14 => (f_X8_areUnlike σ r5 r14).bind (fun r22 => if r22 = true then ((f_X5_feel σ 1 (σ.1 1 1)).bind (fun r49 => deref 6 r5 (fun k59 => deref 6 r14 (fun k59' => (f_X5_leastGap r49 k59 k59').bind (fun r59 => if r59.1 ≤ (200 : Int32) then (some (r59.1, r59.2)) else (f_X8_refuse r59.2 (2 : Int32)).bind (fun r74 => some (r74.1, r74.2))))))) else (f_X8_refuse σ (1 : Int32)).bind (fun r30 => some (r30.1, r30.2)))))
set_option maxRecDepth 100000 in
def f_X8_send_L128 (K45 : Int32 → Int32 → Int32 → Sto → Option (Int32 × Sto)) (r2 : Option Nat) (v3 : Int32) (v4 : Int32) (v5 : Int32) (σ : Sto) : Option (Int32 × Sto) := K45 v3 v4 (v5 + (1 : Int32)) σ
set_option maxRecDepth 100000 in
def f_X8_send_L116 (K45 : Int32 → Int32 → Int32 → Sto → Option (Int32 × Sto)) (k2 : Nat) (v5 : Int32) (σ : Sto) : Option (Int32 × Sto) := f_X8_send_L128 K45 (some k2) v5 (σ.1 58 2) v5 σ
set_option maxRecDepth 100000 in
def f_X8_send_L45  (r2 : Option Nat) : Nat → Int32 → Int32 → Int32 → Sto → Option (Int32 × Sto)
  | 0, _, _, _, _ => none
  | n + 1, v3, v4, v5, σ => if (8 : Int32) ≤ v5 then (if 0 ≤ v3 then (some (v3, σ)) else (f_X8_refuse σ (2 : Int32)).bind (fun r140 => some (r140.1, r140.2))) else (f_X0_swimmerAt σ 1 v5).bind (fun r58 => (f_X8_areUnlike σ r58 r2).bind (fun r66 => if r66 = true then (deref 6 r58 (fun k86 => deref 6 r2 (fun k86' => (f_X5_meets σ k86 k86' (σ.1 1 2)).bind (fun r86 => if r86.1 = true then (if v3 < 0 then (f_X8_send_L116 (f_X8_send_L45  r2 n) k86' v5 r86.2) else (f_X8_isBetter (r86.2.1 k86 2) (r86.2.1 58 2) v4).bind (fun r110 => if r110 = true then (f_X8_send_L116 (f_X8_send_L45  r2 n) k86' v5 r86.2) else f_X8_send_L128 (f_X8_send_L45  r2 n) (some k86') v3 v4 v5 r86.2)) else f_X8_send_L128 (f_X8_send_L45  r2 n) (some k86') v3 v4 v5 r86.2)))) else f_X8_send_L128 (f_X8_send_L45  r2 n) r2 v3 v4 v5 σ))
set_option maxRecDepth 100000 in
def f_X8_send (σ : Sto) (a1 : Int32) : Option (Int32 × Sto) := (f_X0_swimmerAt σ 1 a1).bind (fun r5 => onN r5 ((f_X8_refuse σ (1 : Int32)).bind (fun r15 => some (r15.1, r15.2))) (fun k10 => (f_X5_feel σ 1 (σ.1 1 1)).bind (fun r34 => f_X8_send_L45  (some k10) FU (-1 : Int32) (0 : Int32) (0 : Int32) r34)))
set_option maxRecDepth 100000 in
def f_X8_diary_L161 (K95 : Int32 → Int32 → Int32 → Sto → Option (Int32 × Sto)) (v3 : Int32) (v4 : Int32) (v5 : Int32) (k6 : Nat) (k7 : Nat) (v8 : Int32) (v9 : Int32) (v10 : Int32) (σ : Sto) : Option (Int32 × Sto) := K95 v8 v9 (v10 + (1 : Int32)) σ
set_option maxRecDepth 100000 in
def f_X8_diary_L156 (K95 : Int32 → Int32 → Int32 → Sto → Option (Int32 × Sto)) (v3 : Int32) (v4 : Int32) (v5 : Int32) (k6 : Nat) (k7 : Nat) (v8 : Int32) (v10 : Int32) (vs0 : Int32) (σ : Sto) : Option (Int32 × Sto) := f_X8_diary_L161 K95 v3 v4 v5 k6 k7 (v8 + (1 : Int32)) vs0 v10 σ
set_option maxRecDepth 100000 in
def f_X8_diary_L95  (v3 : Int32) (v4 : Int32) (v5 : Int32) (r6 : Option Nat) (r7 : Option Nat) : Nat → Int32 → Int32 → Int32 → Sto → Option (Int32 × Sto)
  | 0, _, _, _, _ => none
  | n + 1, v8, v9, v10, σ => if (6 : Int32) ≤ v10 then (if v5 = 0 then (some (v8, σ)) else if v8 = 0 then ((f_X8_refuse σ (2 : Int32)).bind (fun r182 => some (r182.1, r182.2))) else some (v9, σ)) else deref 6 r6 (fun k109 => deref 6 r7 (fun k109' => (f_X8_meetInLane σ v10 k109 k109').bind (fun r109 => if r109.1 = true then (if (r109.2.1 58 1) = v3 then (if (r109.2.1 58 2) = v4 then (if v8 = 0 then (f_X8_diary_L156 (f_X8_diary_L95  v3 v4 v5 r6 r7 n) v3 v4 v5 k109 k109' v8 v10 (((10 : Int32) * v10) + v10) r109.2) else f_X8_diary_L156 (f_X8_diary_L95  v3 v4 v5 r6 r7 n) v3 v4 v5 k109 k109' v8 v10 v9 r109.2) else f_X8_diary_L161 (f_X8_diary_L95  v3 v4 v5 r6 r7 n) v3 v4 v5 k109 k109' v8 v9 v10 r109.2) else f_X8_diary_L161 (f_X8_diary_L95  v3 v4 v5 r6 r7 n) v3 v4 v5 k109 k109' v8 v9 v10 r109.2) else f_X8_diary_L161 (f_X8_diary_L95  v3 v4 v5 r6 r7 n) v3 v4 v5 k109 k109' v8 v9 v10 r109.2)))
set_option maxRecDepth 100000 in
def f_X8_diary (σ : Sto) (a1 : Int32) (a2 : Int32) (a3 : Int32) (a4 : Int32) (a5 : Int32) : Option (Int32 × Sto) := (f_X0_swimmerAt σ 1 a1).bind (fun r5 => (f_X0_swimmerAt σ 1 a2).bind (fun r15 => (f_X8_areUnlike σ r5 r15).bind (fun r24 => if r24 = true then ((f_X8_isOutside a3 (0 : Int32) (59 : Int32)).bind (fun r34 => if r34 = true then ((f_X8_refuse σ (1 : Int32)).bind (fun r64 => some (r64.1, r64.2))) else (f_X8_isOutside a4 (0 : Int32) (1200 : Int32)).bind (fun r46 => if r46 = true then ((f_X8_refuse σ (1 : Int32)).bind (fun r64 => some (r64.1, r64.2))) else (f_X8_isOutside a5 (0 : Int32) (1 : Int32)).bind (fun r56 => if r56 = true then ((f_X8_refuse σ (1 : Int32)).bind (fun r64 => some (r64.1, r64.2))) else (f_X5_feel σ 1 (σ.1 1 1)).bind (fun r83 => f_X8_diary_L95  a3 a4 a5 r5 r15 FU (0 : Int32) (0 : Int32) (0 : Int32) r83))))) else (f_X8_refuse σ (1 : Int32)).bind (fun r64 => some (r64.1, r64.2)))))
set_option maxRecDepth 100000 in
def f_X8_training_L138 (K77 : Int32 → Sto → Option (Int32 × Sto)) (v3 : Int32) (k4 : Nat) (k5 : Nat) (v6 : Int32) (σ : Sto) : Option (Int32 × Sto) := K77 (v6 + (1 : Int32)) σ
set_option maxRecDepth 100000 in
def f_X8_training_L77  (v3 : Int32) (k4 : Nat) (r5 : Option Nat) : Nat → Int32 → Sto → Option (Int32 × Sto)
  | 0, _, _ => none
  | n + 1, v6, σ => if (30 : Int32) < v6 then ((f_X8_refuse σ (2 : Int32)).bind (fun r146 => some (r146.1, r146.2))) else lp (sI σ 69 3 v6) (fun σ90 => deref 6 r5 (fun k110 => (f_X5_meets σ90 69 k110 (σ90.1 1 2)).bind (fun r110 => if r110.1 = true then ((f_X8_isBetter (r110.2.1 k4 2) v3 (r110.2.1 58 2)).bind (fun r129 => if r129 = true then (f_X8_training_L138 (f_X8_training_L77  v3 k4 r5 n) v3 k4 k110 v6 r110.2) else some (v6, r110.2))) else f_X8_training_L138 (f_X8_training_L77  v3 k4 r5 n) v3 k4 k110 v6 r110.2)))
set_option maxRecDepth 100000 in
def f_X8_training (σ : Sto) (a1 : Int32) (a2 : Int32) (a3 : Int32) : Option (Int32 × Sto) := (f_X0_swimmerAt σ 1 a1).bind (fun r5 => (f_X0_swimmerAt σ 1 a2).bind (fun r15 => (f_X8_areUnlike σ r5 r15).bind (fun r24 => if r24 = true then ((f_X8_isOutside a3 (0 : Int32) (1200 : Int32)).bind (fun r35 => if r35 = true then ((f_X8_refuse σ (1 : Int32)).bind (fun r43 => some (r43.1, r43.2))) else (f_X5_feel σ 1 (σ.1 1 1)).bind (fun r62 => deref 6 r5 (fun k71 => (f_X6_copy r62 69 k71).bind (fun r71 => f_X8_training_L77  a3 k71 r15 FU (0 : Int32) r71))))) else (f_X8_refuse σ (1 : Int32)).bind (fun r43 => some (r43.1, r43.2)))))
set_option maxRecDepth 100000 in
def f_X8_fair (σ : Sto) (a1 : Int32) (a2 : Int32) : Option (Int32 × Sto) := (f_X0_swimmerAt σ 1 a1).bind (fun r5 => (f_X0_swimmerAt σ 1 a2).bind (fun r14 => (f_X8_areUnlike σ r5 r14).bind (fun r22 => if r22 = true then ((f_X5_feel σ 1 (σ.1 1 1)).bind (fun r49 => deref 6 r5 (fun k66 => deref 6 r14 (fun k66' => (f_X5_meets r49 k66 k66' (r49.1 1 2)).bind (fun r66 => if r66.1 = true then ((f_X6_copy r66.2 69 k66).bind (fun r92 => lp (sI r92 69 2 (r92.1 k66' 2)) (fun σ104 => (f_X6_copy σ104 71 k66').bind (fun r113 => lp (sI r113 71 2 (r113.1 k66 2)) (fun σ124 => (f_X5_meets σ124 69 71 (σ124.1 1 2)).bind (fun r146 => if r146.1 = true then (some ((((r66.2.1 58 2) + (r146.2.1 58 2)) - (1200 : Int32)), r146.2)) else (f_X8_refuse r146.2 (2 : Int32)).bind (fun r154 => some (r154.1, r154.2)))))))) else (f_X8_refuse r66.2 (2 : Int32)).bind (fun r74 => some (r74.1, r74.2))))))) else (f_X8_refuse σ (1 : Int32)).bind (fun r30 => some (r30.1, r30.2)))))
set_option maxRecDepth 100000 in
def f_X8_seed (σ : Sto) (a1 : Int32) : Option (Int32 × Sto) := lp (sI σ 1 15 a1) (fun σ13 => some ((σ.1 1 15), σ13))
set_option maxRecDepth 100000 in
def f_X8_voice (σ : Sto) (a1 : Int32) (a2 : Int32) (a3 : Int32) : Option (Int32 × Sto) := (f_X0_swimmerAt σ 1 a1).bind (fun r5 => onN r5 ((f_X8_refuse σ (1 : Int32)).bind (fun r26 => some (r26.1, r26.2))) (fun k12 => (f_X8_isOutside a2 (0 : Int32) (3 : Int32)).bind (fun r18 => if r18 = true then ((f_X8_refuse σ (1 : Int32)).bind (fun r26 => some (r26.1, r26.2))) else if K0 k12 = 6 then ((f_X7_speak σ k12 a1 a2 a3).bind (fun r39 => some (r39.1, r39.2))) else none)))
set_option maxRecDepth 100000 in
def f_X8_trace (σ : Sto) (a1 : Int32) : Option (Int32 × Sto) := (f_X8_isOutside a1 (0 : Int32) ((σ.1 65 1) - (1 : Int32))).bind (fun r11 => if r11 = true then ((f_X8_refuse σ (2 : Int32)).bind (fun r31 => some (r31.1, r31.2))) else if a1 < (40 : Int32) then ((rdA σ 66 a1).bind (fun r43 => some (r43, σ))) else (f_X8_refuse σ (2 : Int32)).bind (fun r31 => some (r31.1, r31.2)))
set_option maxRecDepth 100000 in
def f_X8_sheetAt (σ : Sto) (a1 : Int32) : Option (Option Nat) := (f_X8_isOutside a1 (0 : Int32) (3 : Int32)).bind (fun r3 => if r3 = true then (some none) else (rdR 67 a1).bind (fun r18 => some r18))
set_option maxRecDepth 100000 in
def f_X8_sheet_L40  (v2 : Int32) (v3 : Int32) (r4 : Option Nat) (σ : Sto) : Option (Int32 × Sto) := if v2 = 0 then (deref 4 r4 (fun k48 => (f_X4_clear σ k48 (0 : Int32) (0 : Int32)).bind (fun r48 => some ((1 : Int32), r48)))) else if 0 ≤ v3 then (if v3 ≤ (40 : Int32) then (deref 4 r4 (fun k79 => (f_X4_clear σ k79 v2 v3).bind (fun r79 => some ((1 : Int32), r79)))) else (f_X8_refuse σ (1 : Int32)).bind (fun r71 => some (r71.1, r71.2))) else (f_X8_refuse σ (3 : Int32)).bind (fun r59 => some (r59.1, r59.2))
set_option maxRecDepth 100000 in
def f_X8_sheet (σ : Sto) (a1 : Int32) (a2 : Int32) (a3 : Int32) : Option (Int32 × Sto) := (f_X8_sheetAt σ a1).bind (fun r2 => onN r2 ((f_X8_refuse σ (1 : Int32)).bind (fun r36 => some (r36.1, r36.2))) (fun k9 => if a2 = 0 then (f_X8_sheet_L40  a2 a3 (some k9) σ) else if a2 = (8 : Int32) then (f_X8_sheet_L40  a2 a3 (some k9) σ) else if a2 = (16 : Int32) then (f_X8_sheet_L40  a2 a3 (some k9) σ) else if a2 = (32 : Int32) then (f_X8_sheet_L40  a2 a3 (some k9) σ) else (f_X8_refuse σ (1 : Int32)).bind (fun r36 => some (r36.1, r36.2))))
set_option maxRecDepth 100000 in
def f_X8_put (σ : Sto) (a1 : Int32) (a2 : Int32) (a3 : Int32) : Option (Int32 × Sto) := (f_X8_sheetAt σ a1).bind (fun r2 => onN r2 ((f_X8_refuse σ (1 : Int32)).bind (fun r14 => some (r14.1, r14.2))) (fun k9 => if K0 k9 = 4 then ((f_X4_isMissing σ k9).bind (fun r20 => if r20 = true then ((f_X8_refuse σ (2 : Int32)).bind (fun r28 => some (r28.1, r28.2))) else (f_X8_isOutside a2 (0 : Int32) ((σ.1 k9 1) - (1 : Int32))).bind (fun r41 => if r41 = true then ((f_X8_refuse σ (1 : Int32)).bind (fun r49 => some (r49.1, r49.2))) else (f_X4_write σ k9 a2 a3).bind (fun r57 => some ((1 : Int32), r57))))) else none))
set_option maxRecDepth 100000 in
def f_X8_move (σ : Sto) (a1 : Int32) (a2 : Int32) (a3 : Int32) (a4 : Int32) (a5 : Int32) : Option (Int32 × Sto) := (f_X8_sheetAt σ a1).bind (fun r2 => (f_X8_sheetAt σ a3).bind (fun r9 => onN r2 ((f_X8_refuse σ (1 : Int32)).bind (fun r26 => some (r26.1, r26.2))) (fun k16 => onN r9 ((f_X8_refuse σ (1 : Int32)).bind (fun r26 => some (r26.1, r26.2))) (fun k21 => if K0 k16 = 4 then ((f_X4_isMissing σ k16).bind (fun r32 => if r32 = true then ((f_X8_refuse σ (2 : Int32)).bind (fun r48 => some (r48.1, r48.2))) else if K0 k21 = 4 then ((f_X4_isMissing σ k21).bind (fun r40 => if r40 = true then ((f_X8_refuse σ (2 : Int32)).bind (fun r48 => some (r48.1, r48.2))) else if (σ.1 k16 2) = (σ.1 k21 2) then ((f_X4_holds σ k16 a2 a5).bind (fun r76 => if r76 = true then ((f_X4_holds σ k21 a4 a5).bind (fun r88 => if r88 = true then ((cpA σ (A0 k16 0) a2 (A0 k21 0) a4 a5).bind (fun σ115 => some (a5, σ115))) else (f_X8_refuse σ (1 : Int32)).bind (fun r96 => some (r96.1, r96.2)))) else (f_X8_refuse σ (1 : Int32)).bind (fun r96 => some (r96.1, r96.2)))) else (f_X8_refuse σ (5 : Int32)).bind (fun r67 => some (r67.1, r67.2)))) else none)) else none))))
set_option maxRecDepth 100000 in
def f_X8_years_L34  (k2 : Nat) : Nat → Int32 → Int32 → Sto → Option (Int32 × Sto)
  | 0, _, _, _ => none
  | n + 1, v3, v4, σ => if (σ.1 k2 1) ≤ (v4 + (1 : Int32)) then (some (v3, σ)) else (f_X4_read σ k2 v4).bind (fun r48 => (f_X4_read σ k2 (v4 + (1 : Int32))).bind (fun r58 => (f_X8_whyNoYear σ r48 r58).bind (fun r68 => if r68 = 0 then ((f_X8_letYearGoBy σ r48 r58).bind (fun r82 => (f_X8_years_L34  k2 n) (v3 + (1 : Int32)) (v4 + (2 : Int32)) r82)) else some (v3, σ))))
set_option maxRecDepth 100000 in
def f_X8_years (σ : Sto) (a1 : Int32) : Option (Int32 × Sto) := (f_X8_sheetAt σ a1).bind (fun r2 => onN r2 ((f_X8_refuse σ (1 : Int32)).bind (fun r12 => some (r12.1, r12.2))) (fun k7 => if K0 k7 = 4 then ((f_X4_isMissing σ k7).bind (fun r17 => if r17 = true then ((f_X8_refuse σ (2 : Int32)).bind (fun r25 => some (r25.1, r25.2))) else f_X8_years_L34  k7 FU (0 : Int32) (0 : Int32) σ)) else none))
set_option maxRecDepth 100000 in
def f_X8_judge_L72  (k3 : Nat) (k4 : Nat) : Nat → Int32 → Int32 → Sto → Option (Int32 × Sto)
  | 0, _, _, _ => none
  | n + 1, v5, v6, σ => if (σ.1 k3 1) ≤ v6 then (some ((σ.1 k3 1), σ)) else (f_X4_read σ k3 v6).bind (fun r84 => if r84 = v5 then ((f_X5_placeNext σ k4 v5 v6).bind (fun r105 => (f_X8_judge_L72  k3 k4 n) r105 (v6 + (1 : Int32)) σ)) else some (v6, σ))
set_option maxRecDepth 100000 in
def f_X8_judge (σ : Sto) (a1 : Int32) (a2 : Int32) : Option (Int32 × Sto) := (f_X8_sheetAt σ a1).bind (fun r2 => (f_X0_swimmerAt σ 1 a2).bind (fun r11 => onN r2 ((f_X8_refuse σ (1 : Int32)).bind (fun r27 => some (r27.1, r27.2))) (fun k17 => onN r11 ((f_X8_refuse σ (1 : Int32)).bind (fun r27 => some (r27.1, r27.2))) (fun k22 => if K0 k17 = 4 then ((f_X4_isMissing σ k17).bind (fun r32 => if r32 = true then ((f_X8_refuse σ (2 : Int32)).bind (fun r40 => some (r40.1, r40.2))) else (f_X5_feel σ 1 (σ.1 1 1)).bind (fun r59 => if K0 k22 = 6 then ((f_X6_shore r59 k22).bind (fun r64 => f_X8_judge_L72  k17 k22 FU r64 (0 : Int32) r59)) else none))) else none))))
set_option maxRecDepth 100000 in
def f_X8_image (σ : Sto)  : Option (Int32 × Sto) := (f_X0_copy σ 28 1).bind (fun r8 => lp (sI r8 0 10 ((r8.1 0 10) + (1 : Int32))) (fun σ18 => some ((σ18.1 0 10), σ18)))
set_option maxRecDepth 100000 in
def f_X8_restore (σ : Sto)  : Option (Int32 × Sto) := if (σ.1 0 10) = 0 then ((f_X8_refuse σ (2 : Int32)).bind (fun r9 => some (r9.1, r9.2))) else (f_X0_copy σ 1 28).bind (fun r21 => some ((r21.1 1 4), r21))
set_option maxRecDepth 100000 in
def f_X8_tell (σ : Sto) (a1 : Int32) : Option (Int32 × Sto) := (f_X8_isOutside (σ.1 1 14) (0 : Int32) (19 : Int32)).bind (fun r12 => if r12 = true then ((f_X8_refuse σ (4 : Int32)).bind (fun r20 => some (r20.1, r20.2))) else (wrA σ 11 (σ.1 1 14) a1).bind (fun σ33 => lp (sI σ33 1 14 ((σ.1 1 14) + (1 : Int32))) (fun σ41 => some ((σ41.1 1 14), σ41))))
set_option maxRecDepth 100000 in
def f_X8_check_L147 (K113 : Int32 → Sto → Option (Int32 × Sto)) (v3 : Int32) (v6 : Int32) (v7 : Int32) (vs0 : Bool) (σ : Sto) : Option (Int32 × Sto) := if vs0 = true then ((rdA σ 11 v7).bind (fun r163 => if r163 = v6 then (K113 (v7 + (1 : Int32)) σ) else some (((1 : Int32) + v7), σ))) else some (((1 : Int32) + v7), σ)
set_option maxRecDepth 100000 in
def f_X8_check_L113  (v3 : Int32) (v6 : Int32) : Nat → Int32 → Sto → Option (Int32 × Sto)
  | 0, _, _ => none
  | n + 1, v7, σ => if v3 ≤ v7 then (some ((0 : Int32), σ)) else if (20 : Int32) ≤ v7 then (some ((0 : Int32), σ)) else if (9999 : Int32) ≤ ((σ.1 1 4) + v7) then (f_X8_check_L147 (f_X8_check_L113  v3 v6 n) v3 v6 v7 false σ) else f_X8_check_L147 (f_X8_check_L113  v3 v6 n) v3 v6 v7 true σ
set_option maxRecDepth 100000 in
def f_X8_check_L108  (v3 : Int32) (vs0 : Int32) (σ : Sto) : Option (Int32 × Sto) := f_X8_check_L113  v3 vs0 FU (0 : Int32) σ
set_option maxRecDepth 100000 in
def f_X8_check (σ : Sto) (a1 : Int32) (a2 : Int32) : Option (Int32 × Sto) := lp (sI σ 1 14 (0 : Int32)) (fun σ13 => (f_X0_swimmerAt σ13 1 a1).bind (fun r21 => (f_X0_swimmerAt σ13 1 a2).bind (fun r31 => (f_X8_areUnlike σ13 r21 r31).bind (fun r40 => if r40 = true then ((f_X5_feel σ13 1 (σ13.1 1 1)).bind (fun r67 => deref 6 r21 (fun k85 => deref 6 r31 (fun k85' => (f_X5_meets r67 k85 k85' (r67.1 1 2)).bind (fun r85 => if r85.1 = true then (f_X8_check_L108  (σ.1 1 14) (r85.2.1 58 2) r85.2) else f_X8_check_L108  (σ.1 1 14) (r85.2.1 1 3) r85.2))))) else (f_X8_refuse σ13 (1 : Int32)).bind (fun r48 => some (r48.1, r48.2))))))
set_option maxRecDepth 100000 in
def f_X8_count (σ : Sto) (a1 : Int32) : Option (Int32 × Sto) := if a1 = (0 : Int32) then (some ((σ.1 1 4), σ)) else if a1 = (1 : Int32) then (some ((σ.1 1 8), σ)) else if a1 = (2 : Int32) then (some ((σ.1 1 3), σ)) else if a1 = (3 : Int32) then (some ((σ.1 1 5), σ)) else if a1 = (4 : Int32) then (some ((σ.1 1 6), σ)) else if a1 = (5 : Int32) then (some ((σ.1 1 1), σ)) else if a1 = (6 : Int32) then (some ((σ.1 1 2), σ)) else if a1 = (7 : Int32) then (some ((σ.1 1 12), σ)) else if a1 = (8 : Int32) then (some ((σ.1 1 14), σ)) else if a1 = (9 : Int32) then (some ((σ.1 65 1), σ)) else if a1 = (10 : Int32) then (some ((σ.1 1 15), σ)) else (f_X8_refuse σ (1 : Int32)).bind (fun r150 => some (r150.1, r150.2))
set_option maxRecDepth 100000 in
def f_X8_told (σ : Sto) (a1 : Int32) : Option (Int32 × Sto) := (f_X8_isOutside a1 (1 : Int32) (5 : Int32)).bind (fun r3 => if r3 = true then ((f_X8_refuse σ (1 : Int32)).bind (fun r11 => some (r11.1, r11.2))) else (rdA σ 68 a1).bind (fun r20 => some (r20, σ)))
set_option maxRecDepth 100000 in
def f_X9_finds (σ : Sto) (a1 : Int32) : Option (Int32 × Sto) := (rdA σ 85 a1).bind (fun r6 => (wrA σ 85 a1 (r6 + (1 : Int32))).bind (fun σ9 => some (((-1000000000 : Int32) - a1), σ9)))
set_option maxRecDepth 100000 in
def f_X9_in (a0 : Int64) (a2 : Int64) (a4 : Int64) : Option Bool := if (lg_cmp a0 a2) < 0 then (some false) else if 0 < (lg_cmp a0 a4) then (some false) else some true
set_option maxRecDepth 100000 in
def f_X9_held (a0 : Int32) (a1 : Int32) (a2 : Int32) : Option Int32 := if a1 ≤ a0 then (if a0 ≤ a2 then (some a0) else some a2) else some a1
set_option maxRecDepth 100000 in
def f_X9_lesser (a0 : Int32) (a1 : Int32) : Option Int32 := if a1 ≤ a0 then (some a1) else some a0
set_option maxRecDepth 100000 in
def f_X9_greater (a0 : Int32) (a1 : Int32) : Option Int32 := if a0 ≤ a1 then (some a1) else some a0
set_option maxRecDepth 100000 in
def f_X9_copies_L2  (k0 : Nat) (k1 : Nat) : Nat → Int32 → Sto → Option Sto
  | 0, _, _ => none
  | n + 1, v2, σ => if (270 : Int32) ≤ v2 then (some σ) else (rdA σ k0 v2).bind (fun r13 => (wrA σ k1 v2 r13).bind (fun σ14 => (f_X9_copies_L2  k0 k1 n) (v2 + (1 : Int32)) σ14))
set_option maxRecDepth 100000 in
def f_X9_copies (σ : Sto) (a0 : Nat) (a1 : Nat) : Option Sto := f_X9_copies_L2  a0 a1 FU (0 : Int32) σ
set_option maxRecDepth 100000 in
def f_X9_isLane (a0 : Int32) : Option Bool := (f_X9_in (Int32.toInt64 a0) (0 : Int64) (5 : Int64)).bind (fun r6 => some r6)
set_option maxRecDepth 100000 in
def f_X9_isSwimmer (σ : Sto) (a1 : Int32) : Option Bool := (rdA σ 82 (12 : Int32)).bind (fun r9 => (f_X9_in (Int32.toInt64 a1) (0 : Int64) (Int32.toInt64 (r9 - (1 : Int32)))).bind (fun r13 => some r13))
set_option maxRecDepth 100000 in
def f_X9_of (σ : Sto) (a1 : Int32) (a2 : Int32) : Option Int32 := (rdA σ 82 (((16 : Int32) + ((9 : Int32) * a1)) + a2)).bind (fun r13 => some r13)
set_option maxRecDepth 100000 in
def f_X9_becomes (σ : Sto) (a1 : Int32) (a2 : Int32) (a3 : Int32) : Option Sto := (wrA σ 82 (((16 : Int32) + ((9 : Int32) * a1)) + a2) a3).bind (fun σ14 => some σ14)
set_option maxRecDepth 100000 in
def f_X9_here (σ : Sto)  : Option Int32 := if (σ.1 81 7) ≤ (σ.1 81 6) then (some (-1 : Int32)) else if 0 ≤ (σ.1 81 8) then (some (-1 : Int32)) else (rdA σ 82 ((σ.1 81 5) + (σ.1 81 6))).bind (fun r31 => some r31)
set_option maxRecDepth 100000 in
def f_X9_wrong_L19  (vs0 : Int32) (σ : Sto) : Option Sto := lp (sI σ 81 8 vs0) (fun σ19 => some σ19)
set_option maxRecDepth 100000 in
def f_X9_wrong (σ : Sto)  : Option Sto := if 0 ≤ (σ.1 81 8) then (f_X9_wrong_L19  (σ.1 81 8) σ) else f_X9_wrong_L19  (σ.1 81 6) σ
set_option maxRecDepth 100000 in
def f_X9_takes (σ : Sto) (a1 : Int32) : Option (Bool × Sto) := (f_X9_here σ).bind (fun r1 => if r1 = a1 then (lp (sI σ 81 6 ((σ.1 81 6) + (1 : Int32))) (fun σ17 => some (true, σ17))) else some (false, σ))
set_option maxRecDepth 100000 in
def f_X9_nameOf (σ : Sto) (a1 : Int32) : Option Int32 := if (σ.1 81 10) = 0 then (if a1 = (99 : Int32) then (some (0 : Int32)) else if a1 = (119 : Int32) then (some (1 : Int32)) else if a1 = (108 : Int32) then (some (2 : Int32)) else some (-1 : Int32)) else if a1 = (98 : Int32) then (some (0 : Int32)) else if a1 = (121 : Int32) then (some (1 : Int32)) else if a1 = (119 : Int32) then (some (2 : Int32)) else some (-1 : Int32)
set_option maxRecDepth 100000 in
def f_X9_lay (σ : Sto) (a1 : Int32) : Option Sto := if 0 ≤ (σ.1 81 8) then (some σ) else (wrA σ 87 (σ.1 81 13) a1).bind (fun σ16 => lp (sI σ16 81 13 ((σ16.1 81 13) + (1 : Int32))) (fun σ24 => some σ24))
set_option maxRecDepth 100000 in
def f_X9_both_L4 (rec : Nat → Int32 → Sto → Option Sto)   : Nat → Sto → Option Sto
  | 0, _ => none
  | n + 1, σ => (f_X9_takes σ (38 : Int32)).bind (fun r7 => if r7.1 = true then ((rec 1 (0 : Int32) r7.2).bind (fun r14 => (f_X9_lay r14 (20038 : Int32)).bind (fun r21 => (f_X9_both_L4 rec   n) r21))) else some r7.2)
set_option maxRecDepth 100000 in
def b_X9_both (rec : Nat → Int32 → Sto → Option Sto) (σ : Sto)  : Option Sto := (rec 1 (0 : Int32) σ).bind (fun r1 => f_X9_both_L4 rec   FU r1)
set_option maxRecDepth 100000 in
def f_X9_compared_L27 (rec : Nat → Int32 → Sto → Option Sto)  (v1 : Int32) (σ : Sto) : Option Sto := lp (sI σ 81 6 ((σ.1 81 6) + (1 : Int32))) (fun σ34 => (rec 5 (0 : Int32) σ34).bind (fun r38 => (f_X9_lay r38 ((20000 : Int32) + v1)).bind (fun r47 => some r47)))
set_option maxRecDepth 100000 in
def b_X9_compared (rec : Nat → Int32 → Sto → Option Sto) (σ : Sto)  : Option Sto := (rec 5 (0 : Int32) σ).bind (fun r1 => (f_X9_here r1).bind (fun r5 => if r5 = (60 : Int32) then (f_X9_compared_L27 rec  r5 r1) else if r5 = (61 : Int32) then (f_X9_compared_L27 rec  r5 r1) else if r5 = (62 : Int32) then (f_X9_compared_L27 rec  r5 r1) else some r1))
set_option maxRecDepth 100000 in
def f_X9_either_L4 (rec : Nat → Int32 → Sto → Option Sto)   : Nat → Sto → Option Sto
  | 0, _ => none
  | n + 1, σ => (f_X9_takes σ (124 : Int32)).bind (fun r7 => if r7.1 = true then ((rec 0 (0 : Int32) r7.2).bind (fun r14 => (f_X9_lay r14 (20124 : Int32)).bind (fun r21 => (f_X9_either_L4 rec   n) r21))) else some r7.2)
set_option maxRecDepth 100000 in
def b_X9_either (rec : Nat → Int32 → Sto → Option Sto) (σ : Sto)  : Option Sto := (rec 0 (0 : Int32) σ).bind (fun r1 => f_X9_either_L4 rec   FU r1)
set_option maxRecDepth 100000 in
def f_X9_opens_L70 (rec : Nat → Int32 → Sto → Option Sto)   (σ : Sto) : Option Sto := lp (sI σ 81 9 ((σ.1 81 9) - (1 : Int32))) (fun σ77 => some σ77)
set_option maxRecDepth 100000 in
def b_X9_opens (rec : Nat → Int32 → Sto → Option Sto) (σ : Sto) (a1 : Int32) : Option Sto := if (σ.1 81 9) = (5 : Int32) then ((f_X9_wrong σ).bind (fun r9 => some r9)) else lp (sI σ 81 9 ((σ.1 81 9) + (1 : Int32))) (fun σ20 => lp (sI σ20 81 6 ((σ20.1 81 6) + (1 : Int32))) (fun σ30 => if a1 = (33 : Int32) then ((rec 6 (0 : Int32) σ30).bind (fun r40 => (f_X9_lay r40 (20033 : Int32)).bind (fun r47 => f_X9_opens_L70 rec  r47))) else (rec 2 (0 : Int32) σ30).bind (fun r54 => (f_X9_takes r54 (41 : Int32)).bind (fun r60 => if r60.1 = true then (f_X9_opens_L70 rec  r60.2) else (f_X9_wrong r60.2).bind (fun r67 => f_X9_opens_L70 rec  r67)))))
set_option maxRecDepth 100000 in
def f_X9_product_L31 (rec : Nat → Int32 → Sto → Option Sto) (K4 : Sto → Option Sto)  (σ : Sto) : Option Sto := (f_X9_here σ).bind (fun r32 => lp (sI σ 81 6 ((σ.1 81 6) + (1 : Int32))) (fun σ43 => (rec 6 (0 : Int32) σ43).bind (fun r47 => (f_X9_lay r47 ((20000 : Int32) + r32)).bind (fun r56 => K4 r56))))
set_option maxRecDepth 100000 in
def f_X9_product_L4 (rec : Nat → Int32 → Sto → Option Sto)   : Nat → Sto → Option Sto
  | 0, _ => none
  | n + 1, σ => (f_X9_here σ).bind (fun r5 => if r5 = (42 : Int32) then (f_X9_product_L31 rec (f_X9_product_L4 rec   n) σ) else (f_X9_here σ).bind (fun r14 => if r14 = (47 : Int32) then (f_X9_product_L31 rec (f_X9_product_L4 rec   n) σ) else (f_X9_here σ).bind (fun r23 => if r23 = (37 : Int32) then (f_X9_product_L31 rec (f_X9_product_L4 rec   n) σ) else some σ)))
set_option maxRecDepth 100000 in
def b_X9_product (rec : Nat → Int32 → Sto → Option Sto) (σ : Sto)  : Option Sto := (rec 6 (0 : Int32) σ).bind (fun r1 => f_X9_product_L4 rec   FU r1)
set_option maxRecDepth 100000 in
def f_X9_sum_L22 (rec : Nat → Int32 → Sto → Option Sto) (K4 : Sto → Option Sto)  (σ : Sto) : Option Sto := (f_X9_here σ).bind (fun r23 => lp (sI σ 81 6 ((σ.1 81 6) + (1 : Int32))) (fun σ34 => (rec 4 (0 : Int32) σ34).bind (fun r38 => (f_X9_lay r38 ((20000 : Int32) + r23)).bind (fun r47 => K4 r47))))
set_option maxRecDepth 100000 in
def f_X9_sum_L4 (rec : Nat → Int32 → Sto → Option Sto)   : Nat → Sto → Option Sto
  | 0, _ => none
  | n + 1, σ => (f_X9_here σ).bind (fun r5 => if r5 = (43 : Int32) then (f_X9_sum_L22 rec (f_X9_sum_L4 rec   n) σ) else (f_X9_here σ).bind (fun r14 => if r14 = (45 : Int32) then (f_X9_sum_L22 rec (f_X9_sum_L4 rec   n) σ) else some σ))
set_option maxRecDepth 100000 in
def b_X9_sum (rec : Nat → Int32 → Sto → Option Sto) (σ : Sto)  : Option Sto := (rec 4 (0 : Int32) σ).bind (fun r1 => f_X9_sum_L4 rec   FU r1)
set_option maxRecDepth 100000 in
def f_X9_unit_L110 (rec : Nat → Int32 → Sto → Option Sto)  (v3 : Int32) (v4 : Int32) (σ : Sto) : Option Sto := if v4 = 0 then ((f_X9_wrong σ).bind (fun r116 => (f_X9_lay r116 v3).bind (fun r121 => some r121))) else (f_X9_lay σ v3).bind (fun r121 => some r121)
set_option maxRecDepth 100000 in
def f_X9_unit_L58 (rec : Nat → Int32 → Sto → Option Sto)   : Nat → Int32 → Int32 → Sto → Option Sto
  | 0, _, _, _ => none
  | n + 1, v3, v4, σ => if (4 : Int32) ≤ v4 then (f_X9_unit_L110 rec  v3 v4 σ) else (f_X9_here σ).bind (fun r65 => (f_X9_in (Int32.toInt64 r65) (48 : Int64) (57 : Int64)).bind (fun r75 => if r75 = true then ((f_X9_here σ).bind (fun r86 => lp (sI σ 81 6 ((σ.1 81 6) + (1 : Int32))) (fun σ101 => (f_X9_unit_L58 rec   n) ((((10 : Int32) * v3) + r86) - (48 : Int32)) (v4 + (1 : Int32)) σ101))) else f_X9_unit_L110 rec  v3 v4 σ))
set_option maxRecDepth 100000 in
def b_X9_unit (rec : Nat → Int32 → Sto → Option Sto) (σ : Sto)  : Option Sto := (f_X9_here σ).bind (fun r1 => if r1 = (33 : Int32) then ((rec 3 r1 σ).bind (fun r19 => some r19)) else if r1 = (40 : Int32) then ((rec 3 r1 σ).bind (fun r19 => some r19)) else (f_X9_nameOf σ r1).bind (fun r25 => if r25 < 0 then (f_X9_unit_L58 rec   FU (0 : Int32) (0 : Int32) σ) else lp (sI σ 81 6 ((σ.1 81 6) + (1 : Int32))) (fun σ40 => (f_X9_lay σ40 ((10000 : Int32) + r25)).bind (fun r49 => some r49))))
set_option maxRecDepth 100000 in
def g_X9_both : Nat → Nat → Int32 → Sto → Option Sto
  | 0, _, _, _ => none
  | d + 1, 0, x0, σ => b_X9_both (g_X9_both d) σ 
  | d + 1, 1, x0, σ => b_X9_compared (g_X9_both d) σ 
  | d + 1, 2, x0, σ => b_X9_either (g_X9_both d) σ 
  | d + 1, 3, x0, σ => b_X9_opens (g_X9_both d) σ x0
  | d + 1, 4, x0, σ => b_X9_product (g_X9_both d) σ 
  | d + 1, 5, x0, σ => b_X9_sum (g_X9_both d) σ 
  | d + 1, _, x0, σ => b_X9_unit (g_X9_both d) σ 

set_option maxRecDepth 100000 in
def f_X9_reads_L41  (vs0 : Bool) (σ : Sto) : Option Sto := lp (sI σ 81 10 (b2i vs0)) (fun σ41 => (g_X9_both 64 2 (0 : Int32) σ41).bind (fun r45 => if 0 ≤ (r45.1 81 8) then (some r45) else if (r45.1 81 7) ≤ (r45.1 81 6) then (some r45) else (f_X9_wrong r45).bind (fun r67 => some r67)))
set_option maxRecDepth 100000 in
def f_X9_reads (σ : Sto) (a1 : Int32) (a2 : Int32) (a3 : Int32) : Option Sto := lp (sI σ 81 5 a1) (fun σ2 => lp (sI σ2 81 6 (0 : Int32)) (fun σ7 => lp (sI σ7 81 7 a2) (fun σ12 => lp (sI σ12 81 8 (-1 : Int32)) (fun σ17 => lp (sI σ17 81 9 (0 : Int32)) (fun σ22 => lp (sI σ22 81 13 (0 : Int32)) (fun σ27 => if a3 = (1 : Int32) then (f_X9_reads_L41  true σ27) else f_X9_reads_L41  false σ27))))))
set_option maxRecDepth 100000 in
def f_X9_done_L92    : Option Int32 := some (1 : Int32)
set_option maxRecDepth 100000 in
def f_X9_done (a0 : Int32) (a1 : Int32) (a2 : Int32) : Option Int32 := if a0 = (38 : Int32) then (if a1 = 0 then (some (0 : Int32)) else if a2 = 0 then (some (0 : Int32)) else some (1 : Int32)) else if a0 = (42 : Int32) then (some (a1 * a2)) else if a0 = (43 : Int32) then (some (a1 + a2)) else if a0 = (45 : Int32) then (some (a1 - a2)) else if a0 = (47 : Int32) then (if a2 = 0 then (some (0 : Int32)) else some (a1 / a2)) else if a0 = (60 : Int32) then (if a2 ≤ a1 then (some (0 : Int32)) else some (1 : Int32)) else if a0 = (61 : Int32) then (if a1 = a2 then (some (1 : Int32)) else some (0 : Int32)) else if a0 = (62 : Int32) then (if a1 ≤ a2 then (some (0 : Int32)) else some (1 : Int32)) else if a0 = (124 : Int32) then (if a1 = 0 then (if a2 = 0 then (some (0 : Int32)) else f_X9_done_L92) else f_X9_done_L92) else if a2 = 0 then (some (0 : Int32)) else some (irem a1 a2)
set_option maxRecDepth 100000 in
def f_X9_worked_L135 (K5 : Int32 → Int32 → Sto → Option (Int32 × Sto)) (v1 : Int32) (v2 : Int32) (v3 : Int32) (v4 : Int32) (σ : Sto) : Option (Int32 × Sto) := K5 v3 (v4 + (1 : Int32)) σ
set_option maxRecDepth 100000 in
def f_X9_worked_L59 (K5 : Int32 → Int32 → Sto → Option (Int32 × Sto)) (v1 : Int32) (v2 : Int32) (v3 : Int32) (v4 : Int32) (vs0 : Int32) (vs1 : Int32) (σ : Sto) : Option (Int32 × Sto) := (wrA σ 88 vs1 vs0).bind (fun σ59 => f_X9_worked_L135 K5 v1 v2 (v3 + (1 : Int32)) v4 σ59)
set_option maxRecDepth 100000 in
def f_X9_worked_L97 (K5 : Int32 → Int32 → Sto → Option (Int32 × Sto)) (v1 : Int32) (v2 : Int32) (v3 : Int32) (v4 : Int32) (vs0 : Bool) (vs1 : Int32) (σ : Sto) : Option (Int32 × Sto) := (wrA σ 88 vs1 (b2i vs0)).bind (fun σ97 => f_X9_worked_L135 K5 v1 v2 v3 v4 σ97)
set_option maxRecDepth 100000 in
def f_X9_worked_L5  (v1 : Int32) (v2 : Int32) : Nat → Int32 → Int32 → Sto → Option (Int32 × Sto)
  | 0, _, _, _ => none
  | n + 1, v3, v4, σ => if (v1 + v2) ≤ v4 then ((rdA σ 88 (0 : Int32)).bind (fun r146 => some (r146, σ))) else (rdA σ 82 v4).bind (fun r19 => if (20000 : Int32) ≤ r19 then (if r19 = (20033 : Int32) then ((rdA σ 88 (v3 - (1 : Int32))).bind (fun r88 => if r88 = 0 then (f_X9_worked_L97 (f_X9_worked_L5  v1 v2 n) v1 v2 v3 v4 true (v3 - (1 : Int32)) σ) else f_X9_worked_L97 (f_X9_worked_L5  v1 v2 n) v1 v2 v3 v4 false (v3 - (1 : Int32)) σ)) else (rdA σ 88 ((v3 + (-1 : Int32)) - (1 : Int32))).bind (fun r124 => (rdA σ 88 (v3 + (-1 : Int32))).bind (fun r130 => (f_X9_done (r19 - (20000 : Int32)) r124 r130).bind (fun r131 => (wrA σ 88 ((v3 + (-1 : Int32)) - (1 : Int32)) r131).bind (fun σ134 => f_X9_worked_L135 (f_X9_worked_L5  v1 v2 n) v1 v2 (v3 + (-1 : Int32)) v4 σ134))))) else if (10000 : Int32) ≤ r19 then ((rdA σ 86 (r19 - (10000 : Int32))).bind (fun r58 => f_X9_worked_L59 (f_X9_worked_L5  v1 v2 n) v1 v2 v3 v4 r58 v3 σ)) else f_X9_worked_L59 (f_X9_worked_L5  v1 v2 n) v1 v2 v3 v4 r19 v3 σ)
set_option maxRecDepth 100000 in
def f_X9_worked (σ : Sto) (a1 : Int32) (a2 : Int32) : Option (Int32 × Sto) := f_X9_worked_L5  a1 a2 FU (0 : Int32) a1 σ
set_option maxRecDepth 100000 in
def f_X9_feed_L41  (v1 : Int64) (v3 : Int32) : Nat → Int32 → Sto → Option (Int32 × Sto)
  | 0, _, _ => none
  | n + 1, v4, σ => if v3 ≤ v4 then ((rdA σ 82 (14 : Int32)).bind (fun r98 => some (r98, σ))) else (rdA σ 82 (14 : Int32)).bind (fun r60 => (wrA σ 82 ((210 : Int32) + r60) (Int64.toInt32 ((lshr v1 ((8 : Int32) * v4)) &&& (255 : Int64)))).bind (fun σ74 => (rdA σ74 82 (14 : Int32)).bind (fun r82 => (wrA σ74 82 (14 : Int32) (r82 + (1 : Int32))).bind (fun σ85 => (f_X9_feed_L41  v1 v3 n) (v4 + (1 : Int32)) σ85))))
set_option maxRecDepth 100000 in
def f_X9_feed (σ : Sto) (a1 : Int64) (a3 : Int32) : Option (Int32 × Sto) := (f_X9_in (Int32.toInt64 a3) (1 : Int64) (8 : Int64)).bind (fun r6 => if r6 = true then ((rdA σ 82 (14 : Int32)).bind (fun r24 => if (r24 + a3) ≤ (50 : Int32) then (f_X9_feed_L41  a1 a3 FU (0 : Int32) σ) else (f_X9_finds σ (4 : Int32)).bind (fun r34 => some (r34.1, r34.2)))) else (f_X9_finds σ (1 : Int32)).bind (fun r14 => some (r14.1, r14.2)))
set_option maxRecDepth 100000 in
def f_X9_text_L71  (v1 : Int32) : Nat → Int32 → Sto → Option (Int32 × Sto)
  | 0, _, _ => none
  | n + 1, v3, σ => if (σ.1 81 13) ≤ v3 then (some ((1 : Int32), σ)) else (rdA σ 87 v3).bind (fun r97 => (wrA σ 82 (((110 : Int32) + ((50 : Int32) * v1)) + v3) r97).bind (fun σ98 => (f_X9_text_L71  v1 n) (v3 + (1 : Int32)) σ98))
set_option maxRecDepth 100000 in
def f_X9_text (σ : Sto) (a1 : Int32) : Option (Int32 × Sto) := (f_X9_in (Int32.toInt64 a1) (0 : Int64) (1 : Int64)).bind (fun r4 => if r4 = true then ((rdA σ 82 (14 : Int32)).bind (fun r22 => (wrA σ 82 (14 : Int32) (0 : Int32)).bind (fun σ31 => (f_X9_reads σ31 (210 : Int32) r22 a1).bind (fun r38 => if (r38.1 81 8) < 0 then ((wrA r38 82 ((88 : Int32) + a1) (r38.1 81 13)).bind (fun σ68 => f_X9_text_L71  a1 FU (0 : Int32) σ68)) else some (((-10 : Int32) - (r38.1 81 8)), r38))))) else (f_X9_finds σ (1 : Int32)).bind (fun r12 => some (r12.1, r12.2)))
set_option maxRecDepth 100000 in
def f_X9_gives_L74  (v1 : Int32) (v5 : Int32) (σ : Sto) : Option (Int32 × Sto) := if v1 = 0 then ((f_X9_held v5 (-30 : Int32) (30 : Int32)).bind (fun r84 => some (r84, σ))) else (f_X9_held v5 (0 : Int32) (100 : Int32)).bind (fun r95 => some (r95, σ))
set_option maxRecDepth 100000 in
def f_X9_gives_L16  (v1 : Int32) (v2 : Int32) (v3 : Int32) (v4 : Int32) (vs0 : Int32) (σ : Sto) : Option (Int32 × Sto) := (rdA σ 82 ((88 : Int32) + v1)).bind (fun r26 => if r26 ≤ 0 then (f_X9_gives_L74  v1 vs0 σ) else (wrA σ 86 (0 : Int32) v2).bind (fun σ36 => (wrA σ36 86 (1 : Int32) v3).bind (fun σ43 => (wrA σ43 86 (2 : Int32) v4).bind (fun σ51 => (rdA σ51 82 ((88 : Int32) + v1)).bind (fun r68 => (f_X9_worked σ51 ((110 : Int32) + ((50 : Int32) * v1)) r68).bind (fun r69 => f_X9_gives_L74  v1 r69.1 r69.2))))))
set_option maxRecDepth 100000 in
def f_X9_gives (σ : Sto) (a1 : Int32) (a2 : Int32) (a3 : Int32) (a4 : Int32) : Option (Int32 × Sto) := if a1 = 0 then (f_X9_gives_L16  a1 a2 a3 a4 (a2 + ((2 : Int32) * a3)) σ) else f_X9_gives_L16  a1 a2 a3 a4 (a2 / (12 : Int32)) σ
set_option maxRecDepth 100000 in
def f_X9_law (σ : Sto) (a1 : Int32) (a2 : Int32) (a3 : Int32) (a4 : Int32) : Option (Int32 × Sto) := (f_X9_in (Int32.toInt64 a1) (0 : Int64) (1 : Int64)).bind (fun r4 => if r4 = true then ((f_X9_gives σ a1 a2 a3 a4).bind (fun r16 => some (r16.1, r16.2))) else (f_X9_finds σ (1 : Int32)).bind (fun r24 => some (r24.1, r24.2)))
set_option maxRecDepth 100000 in
def f_X9_current (σ : Sto) (a1 : Int32) (a2 : Int32) : Option (Int32 × Sto) := (f_X9_isLane a1).bind (fun r1 => if r1 = true then ((f_X9_in (Int32.toInt64 a2) (-9 : Int64) (9 : Int64)).bind (fun r15 => if r15 = true then ((rdA σ 82 ((0 : Int32) + a1)).bind (fun r34 => (wrA σ 82 ((0 : Int32) + a1) a2).bind (fun σ44 => some (r34, σ44)))) else (f_X9_finds σ (1 : Int32)).bind (fun r23 => some (r23.1, r23.2)))) else (f_X9_finds σ (1 : Int32)).bind (fun r23 => some (r23.1, r23.2)))
set_option maxRecDepth 100000 in
def f_X9_set_L57  (v1 : Int32) (v2 : Int32) (vs0 : Bool) (σ : Sto) : Option (Int32 × Sto) := if vs0 = true then ((rdA σ 82 ((6 : Int32) + v1)).bind (fun r76 => (wrA σ 82 ((6 : Int32) + v1) v2).bind (fun σ88 => some (r76, σ88)))) else (f_X9_finds σ (1 : Int32)).bind (fun r64 => some (r64.1, r64.2))
set_option maxRecDepth 100000 in
def f_X9_set_L56  (v1 : Int32) (v2 : Int32) (σ : Sto) : Option (Int32 × Sto) := f_X9_set_L57  v1 v2 false σ
set_option maxRecDepth 100000 in
def f_X9_set (σ : Sto) (a1 : Int32) (a2 : Int32) : Option (Int32 × Sto) := if a1 = 0 then ((f_X9_in (Int32.toInt64 a2) (-3 : Int64) (3 : Int64)).bind (fun r12 => f_X9_set_L57  a1 a2 r12 σ)) else if a1 = (1 : Int32) then ((f_X9_in (Int32.toInt64 a2) (0 : Int64) (200 : Int64)).bind (fun r29 => f_X9_set_L57  a1 a2 r29 σ)) else if a1 = (2 : Int32) then ((f_X9_in (Int32.toInt64 a2) (0 : Int64) (1200 : Int64)).bind (fun r46 => if r46 = true then (f_X9_set_L57  a1 a2 true σ) else f_X9_set_L56  a1 a2 σ)) else f_X9_set_L56  a1 a2 σ
set_option maxRecDepth 100000 in
def f_X9_flowOf (σ : Sto) (a1 : Int32) : Option (Int32 × Sto) := (rdA σ 82 ((0 : Int32) + a1)).bind (fun r9 => (rdA σ 82 (6 : Int32)).bind (fun r16 => (f_X9_gives σ (0 : Int32) r9 r16 a1).bind (fun r18 => some (r18.1, r18.2))))
set_option maxRecDepth 100000 in
def f_X9_flow (σ : Sto) (a1 : Int32) : Option (Int32 × Sto) := (f_X9_isLane a1).bind (fun r1 => if r1 = true then ((f_X9_flowOf σ a1).bind (fun r9 => some (r9.1, r9.2))) else (f_X9_finds σ (1 : Int32)).bind (fun r17 => some (r17.1, r17.2)))
set_option maxRecDepth 100000 in
def f_X9_swimmer_L99  (v3 : Int32) : Nat → Int32 → Sto → Option (Int32 × Sto)
  | 0, _, _ => none
  | n + 1, v4, σ => if (4 : Int32) ≤ v4 then ((rdA σ 82 (12 : Int32)).bind (fun r128 => (wrA σ 82 (12 : Int32) (r128 + (1 : Int32))).bind (fun σ131 => some (v3, σ131)))) else (f_X9_becomes σ v3 ((5 : Int32) + v4) (0 : Int32)).bind (fun r112 => (f_X9_swimmer_L99  v3 n) (v4 + (1 : Int32)) r112)
set_option maxRecDepth 100000 in
def f_X9_swimmer (σ : Sto) (a1 : Int32) (a2 : Int32) : Option (Int32 × Sto) := (f_X9_in (Int32.toInt64 a1) (0 : Int64) (69 : Int64)).bind (fun r6 => if r6 = true then ((f_X9_in (Int32.toInt64 a2) (0 : Int64) (1 : Int64)).bind (fun r16 => if r16 = true then ((rdA σ 82 (12 : Int32)).bind (fun r34 => if r34 = (8 : Int32) then ((f_X9_finds σ (4 : Int32)).bind (fun r42 => some (r42.1, r42.2))) else (rdA σ 82 (12 : Int32)).bind (fun r52 => (f_X9_becomes σ r52 (0 : Int32) (a1 / (10 : Int32))).bind (fun r61 => (f_X9_becomes r61 r52 (1 : Int32) (irem a1 (10 : Int32))).bind (fun r71 => (f_X9_becomes r71 r52 (2 : Int32) a2).bind (fun r78 => (f_X9_becomes r78 r52 (3 : Int32) (10 : Int32)).bind (fun r86 => (f_X9_becomes r86 r52 (4 : Int32) (0 : Int32)).bind (fun r93 => f_X9_swimmer_L99  r52 FU (0 : Int32) r93)))))))) else (f_X9_finds σ (1 : Int32)).bind (fun r24 => some (r24.1, r24.2)))) else (f_X9_finds σ (1 : Int32)).bind (fun r24 => some (r24.1, r24.2)))
set_option maxRecDepth 100000 in
def f_X9_ofSwimmer (σ : Sto) (a1 : Int32) (a2 : Int32) : Option (Int32 × Sto) := (f_X9_isSwimmer σ a1).bind (fun r2 => if r2 = true then ((f_X9_in (Int32.toInt64 a2) (0 : Int64) (8 : Int64)).bind (fun r14 => if r14 = true then ((f_X9_of σ a1 a2).bind (fun r23 => some (r23, σ))) else (f_X9_finds σ (1 : Int32)).bind (fun r31 => some (r31.1, r31.2)))) else (f_X9_finds σ (1 : Int32)).bind (fun r31 => some (r31.1, r31.2)))
set_option maxRecDepth 100000 in
def f_X9_train (σ : Sto) (a1 : Int32) (a2 : Int32) : Option (Int32 × Sto) := (f_X9_isSwimmer σ a1).bind (fun r2 => if r2 = true then ((f_X9_in (Int32.toInt64 a2) (0 : Int64) (30 : Int64)).bind (fun r14 => if r14 = true then ((f_X9_of σ a1 (3 : Int32)).bind (fun r29 => (f_X9_becomes σ a1 (3 : Int32) a2).bind (fun r37 => some (r29, r37)))) else (f_X9_finds σ (1 : Int32)).bind (fun r22 => some (r22.1, r22.2)))) else (f_X9_finds σ (1 : Int32)).bind (fun r22 => some (r22.1, r22.2)))
set_option maxRecDepth 100000 in
def f_X9_plan (σ : Sto) (a1 : Int32) (a2 : Int32) (a3 : Int32) : Option (Int32 × Sto) := (f_X9_isSwimmer σ a1).bind (fun r2 => if r2 = true then ((f_X9_in (Int32.toInt64 a2) (0 : Int64) (3 : Int64)).bind (fun r14 => if r14 = true then ((f_X9_isLane a3).bind (fun r21 => if r21 = true then ((f_X9_of σ a1 ((5 : Int32) + a2)).bind (fun r38 => (f_X9_becomes σ a1 ((5 : Int32) + a2) a3).bind (fun r49 => some (r38, r49)))) else (f_X9_finds σ (1 : Int32)).bind (fun r29 => some (r29.1, r29.2)))) else (f_X9_finds σ (1 : Int32)).bind (fun r29 => some (r29.1, r29.2)))) else (f_X9_finds σ (1 : Int32)).bind (fun r29 => some (r29.1, r29.2)))
set_option maxRecDepth 100000 in
def f_X9_become (σ : Sto) (a1 : Int32) (a2 : Int32) : Option (Int32 × Sto) := (f_X9_isSwimmer σ a1).bind (fun r2 => if r2 = true then ((f_X9_in (Int32.toInt64 a2) (0 : Int64) (69 : Int64)).bind (fun r14 => if r14 = true then ((f_X9_of σ a1 (0 : Int32)).bind (fun r29 => (f_X9_becomes σ a1 (0 : Int32) (a2 / (10 : Int32))).bind (fun r40 => (f_X9_becomes r40 a1 (1 : Int32) (irem a2 (10 : Int32))).bind (fun r50 => some (r29, r50))))) else (f_X9_finds σ (1 : Int32)).bind (fun r22 => some (r22.1, r22.2)))) else (f_X9_finds σ (1 : Int32)).bind (fun r22 => some (r22.1, r22.2)))
set_option maxRecDepth 100000 in
def f_X9_above (a0 : Int32) : Option Int32 := if (4 : Int32) ≤ a0 then (some (a0 - (3 : Int32))) else some (0 : Int32)
set_option maxRecDepth 100000 in
def f_X9_as_L50  (v1 : Int32) (σ : Sto) : Option (Int32 × Sto) := (f_X9_of σ v1 (1 : Int32)).bind (fun r53 => some (r53, σ))
set_option maxRecDepth 100000 in
def f_X9_as (σ : Sto) (a1 : Int32) (a2 : Int32) : Option (Int32 × Sto) := (f_X9_isSwimmer σ a1).bind (fun r2 => if r2 = true then ((f_X9_in (Int32.toInt64 a2) (0 : Int64) (6 : Int64)).bind (fun r14 => if r14 = true then ((f_X9_of σ a1 (0 : Int32)).bind (fun r29 => if a2 = 0 then (f_X9_as_L50  a1 σ) else if a2 = r29 then (f_X9_as_L50  a1 σ) else (f_X9_above r29).bind (fun r44 => if a2 = r44 then (f_X9_as_L50  a1 σ) else (f_X9_finds σ (5 : Int32)).bind (fun r61 => some (r61.1, r61.2))))) else (f_X9_finds σ (1 : Int32)).bind (fun r22 => some (r22.1, r22.2)))) else (f_X9_finds σ (1 : Int32)).bind (fun r22 => some (r22.1, r22.2)))
set_option maxRecDepth 100000 in
def f_X9_paceOf_L43 (σ : Sto)  (v1 : Int32) (v2 : Int32) (v3 : Int32) (v4 : Int32) (vs0 : Int32)  : Option Int32 := (f_X9_of σ v1 (0 : Int32)).bind (fun r48 => if r48 = (1 : Int32) then (some vs0) else if r48 = (2 : Int32) then (some (v4 + v3)) else if r48 = (3 : Int32) then (some (5 : Int32)) else if r48 = (4 : Int32) then (if (3 : Int32) < v2 then (some vs0) else some (0 : Int32)) else if r48 = (5 : Int32) then ((f_X9_of σ v1 (3 : Int32)).bind (fun r115 => some (((20 : Int32) + r115) + v3))) else if r48 = (6 : Int32) then (if (irem v2 (10 : Int32)) = v3 then (some (0 : Int32)) else some (5 : Int32)) else some v4)
set_option maxRecDepth 100000 in
def f_X9_paceOf (σ : Sto) (a1 : Int32) (a2 : Int32) : Option Int32 := (f_X9_of σ a1 (1 : Int32)).bind (fun r3 => (f_X9_of σ a1 (3 : Int32)).bind (fun r13 => (f_X9_greater (5 : Int32) (((20 : Int32) + r13) - (a2 / (4 : Int32)))).bind (fun r21 => if r3 ≤ a2 then (f_X9_paceOf_L43 σ  a1 a2 r3 r21 (r21 / (2 : Int32))) else f_X9_paceOf_L43 σ  a1 a2 r3 r21 (r21 + (20 : Int32)))))
set_option maxRecDepth 100000 in
def f_X9_pace (σ : Sto) (a1 : Int32) (a2 : Int32) : Option (Int32 × Sto) := (f_X9_isSwimmer σ a1).bind (fun r2 => if r2 = true then ((f_X9_in (Int32.toInt64 a2) (0 : Int64) (59 : Int64)).bind (fun r14 => if r14 = true then ((f_X9_paceOf σ a1 a2).bind (fun r23 => some (r23, σ))) else (f_X9_finds σ (1 : Int32)).bind (fun r31 => some (r31.1, r31.2)))) else (f_X9_finds σ (1 : Int32)).bind (fun r31 => some (r31.1, r31.2)))
set_option maxRecDepth 100000 in
def f_X9_laneOf (σ : Sto) (a1 : Int32) (a2 : Int32) : Option Int32 := (f_X9_lesser (3 : Int32) (a2 / (10 : Int32))).bind (fun r8 => (f_X9_of σ a1 ((5 : Int32) + r8)).bind (fun r12 => some r12))
set_option maxRecDepth 100000 in
def f_X9_goes_L26  (v1 : Int32) (v3 : Int32) (vs0 : Int32) (vs1 : Int32) (σ : Sto) : Option (Int32 × Sto) := (f_X9_laneOf σ v1 v3).bind (fun r31 => (f_X9_flowOf σ r31).bind (fun r34 => (f_X9_held ((vs1 + vs0) + r34.1) (0 : Int32) (1200 : Int32)).bind (fun r42 => some (r42, r34.2))))
set_option maxRecDepth 100000 in
def f_X9_goes (σ : Sto) (a1 : Int32) (a2 : Int32) (a3 : Int32) : Option (Int32 × Sto) := (f_X9_paceOf σ a1 a3).bind (fun r3 => (f_X9_of σ a1 (2 : Int32)).bind (fun r12 => if r12 = 0 then (f_X9_goes_L26  a1 a3 r3 a2 σ) else f_X9_goes_L26  a1 a3 (-r3) a2 σ))
set_option maxRecDepth 100000 in
def f_X9_where_L46  (v1 : Int32) (v2 : Int32) : Nat → Int32 → Int32 → Sto → Option (Int32 × Sto)
  | 0, _, _, _ => none
  | n + 1, v3, v4, σ => if v2 ≤ v4 then (some (v3, σ)) else (f_X9_goes σ v1 v3 v4).bind (fun r57 => (f_X9_where_L46  v1 v2 n) r57.1 (v4 + (1 : Int32)) r57.2)
set_option maxRecDepth 100000 in
def f_X9_where_L42  (v1 : Int32) (v2 : Int32) (vs0 : Int32) (σ : Sto) : Option (Int32 × Sto) := f_X9_where_L46  v1 v2 FU vs0 (0 : Int32) σ
set_option maxRecDepth 100000 in
def f_X9_where (σ : Sto) (a1 : Int32) (a2 : Int32) : Option (Int32 × Sto) := (f_X9_isSwimmer σ a1).bind (fun r2 => if r2 = true then ((f_X9_in (Int32.toInt64 a2) (0 : Int64) (60 : Int64)).bind (fun r14 => if r14 = true then ((f_X9_of σ a1 (2 : Int32)).bind (fun r29 => if r29 = 0 then (f_X9_where_L42  a1 a2 (0 : Int32) σ) else f_X9_where_L42  a1 a2 (1200 : Int32) σ)) else (f_X9_finds σ (1 : Int32)).bind (fun r22 => some (r22.1, r22.2)))) else (f_X9_finds σ (1 : Int32)).bind (fun r22 => some (r22.1, r22.2)))
set_option maxRecDepth 100000 in
def f_X9_swim_L120 (K38 : Int32 → Int32 → Int32 → Sto → Option (Bool × Sto)) (v3 : Int32) (v4 : Int32) (v5 : Int32) (v6 : Int32) (v7 : Int32) (σ : Sto) : Option (Bool × Sto) := K38 v5 v6 (v7 + (1 : Int32)) σ
set_option maxRecDepth 100000 in
def f_X9_swim_L38  (v3 : Int32) (v4 : Int32) : Nat → Int32 → Int32 → Int32 → Sto → Option (Bool × Sto)
  | 0, _, _, _, _ => none
  | n + 1, v5, v6, v7, σ => if (60 : Int32) ≤ v7 then (some (false, σ)) else (f_X9_goes σ v3 v5 v7).bind (fun r51 => (f_X9_goes r51.2 v4 v6 v7).bind (fun r63 => (f_X9_laneOf r63.2 v3 v7).bind (fun r72 => (f_X9_laneOf r63.2 v4 v7).bind (fun r80 => if r72 = r80 then ((rdA r63.2 82 (7 : Int32)).bind (fun r97 => if r97 < (r63.1 - r51.1) then (f_X9_swim_L120 (f_X9_swim_L38  v3 v4 n) v3 v4 r51.1 r63.1 v7 r63.2) else lp (sI r63.2 81 15 v7) (fun σ104 => lp (sI σ104 81 16 ((r51.1 + r63.1) / (2 : Int32))) (fun σ115 => some (true, σ115))))) else f_X9_swim_L120 (f_X9_swim_L38  v3 v4 n) v3 v4 r51.1 r63.1 v7 r63.2))))
set_option maxRecDepth 100000 in
def f_X9_swim_L14  (v1 : Int32) (v2 : Int32) (vs0 : Int32) (σ : Sto) : Option (Bool × Sto) := lp (sI σ 81 15 (-1 : Int32)) (fun σ32 => f_X9_swim_L38  vs0 ((v1 + v2) - vs0) FU (0 : Int32) (1200 : Int32) (0 : Int32) σ32)
set_option maxRecDepth 100000 in
def f_X9_swim (σ : Sto) (a1 : Int32) (a2 : Int32) : Option (Bool × Sto) := (f_X9_of σ a1 (2 : Int32)).bind (fun r3 => if r3 = 0 then (f_X9_swim_L14  a1 a2 a1 σ) else f_X9_swim_L14  a1 a2 a2 σ)
set_option maxRecDepth 100000 in
def f_X9_areUnlike (σ : Sto) (a1 : Int32) (a2 : Int32) : Option Bool := (f_X9_isSwimmer σ a1).bind (fun r2 => if r2 = true then ((f_X9_isSwimmer σ a2).bind (fun r10 => if r10 = true then ((f_X9_of σ a1 (2 : Int32)).bind (fun r19 => (f_X9_of σ a2 (2 : Int32)).bind (fun r25 => if r19 = r25 then (some false) else some true))) else some false)) else some false)
set_option maxRecDepth 100000 in
def f_X9_meet (σ : Sto) (a1 : Int32) (a2 : Int32) (a3 : Int32) : Option (Int32 × Sto) := (f_X9_areUnlike σ a1 a2).bind (fun r3 => if r3 = true then ((f_X9_in (Int32.toInt64 a3) (0 : Int64) (2 : Int64)).bind (fun r15 => if r15 = true then ((f_X9_swim σ a1 a2).bind (fun r30 => if r30.1 = true then (if a3 = 0 then (some ((r30.2.1 81 15), r30.2)) else if a3 = (1 : Int32) then (some ((r30.2.1 81 16), r30.2)) else (f_X9_laneOf r30.2 a1 (r30.2.1 81 15)).bind (fun r71 => some (r71, r30.2))) else (f_X9_finds r30.2 (2 : Int32)).bind (fun r38 => some (r38.1, r38.2)))) else (f_X9_finds σ (1 : Int32)).bind (fun r23 => some (r23.1, r23.2)))) else (f_X9_finds σ (1 : Int32)).bind (fun r23 => some (r23.1, r23.2)))
set_option maxRecDepth 100000 in
def f_X9_goesBy_L60   (σ : Sto) : Option Sto := (rdA σ 82 (8 : Int32)).bind (fun r68 => (rdA σ 82 (11 : Int32)).bind (fun r75 => (rdA σ 82 (6 : Int32)).bind (fun r82 => (f_X9_gives σ (1 : Int32) r68 r75 r82).bind (fun r83 => (rdA r83.2 82 (9 : Int32)).bind (fun r101 => (f_X9_lesser (999999 : Int32) (r101 + r83.1)).bind (fun r104 => (wrA r83.2 82 (9 : Int32) r104).bind (fun σ107 => (rdA σ107 82 (10 : Int32)).bind (fun r122 => (f_X9_lesser (999999 : Int32) ((r122 + (100 : Int32)) - r83.1)).bind (fun r128 => (wrA σ107 82 (10 : Int32) r128).bind (fun σ131 => (rdA σ131 82 (11 : Int32)).bind (fun r139 => (wrA σ131 82 (11 : Int32) (r139 + (1 : Int32))).bind (fun σ142 => some σ142))))))))))))
set_option maxRecDepth 100000 in
def f_X9_goesBy (σ : Sto) (a1 : Int32) (a2 : Int32) : Option Sto := (f_X9_swim σ a1 a2).bind (fun r3 => if r3.1 = true then ((wrA r3.2 82 (8 : Int32) (r3.2.1 81 16)).bind (fun σ19 => (f_X9_of σ19 a1 (4 : Int32)).bind (fun r29 => (f_X9_lesser (9999 : Int32) (r29 + (1 : Int32))).bind (fun r34 => (f_X9_becomes σ19 a1 (4 : Int32) r34).bind (fun r37 => (f_X9_of r37 a2 (4 : Int32)).bind (fun r49 => (f_X9_lesser (9999 : Int32) (r49 + (1 : Int32))).bind (fun r54 => (f_X9_becomes r37 a2 (4 : Int32) r54).bind (fun r57 => f_X9_goesBy_L60  r57)))))))) else f_X9_goesBy_L60  r3.2)
set_option maxRecDepth 100000 in
def f_X9_drawn (σ : Sto)  : Option (Int32 × Sto) := (rdA σ 82 (13 : Int32)).bind (fun r12 => (wrA σ 82 (13 : Int32) ((r12 * (1103515245 : Int32)) + (12345 : Int32))).bind (fun σ20 => (rdA σ20 82 (13 : Int32)).bind (fun r27 => some ((iushr r27 (8 : Int32)), σ20))))
set_option maxRecDepth 100000 in
def f_X9_aYear_L63  (v1 : Int32) (v2 : Int32) (vs0 : Int32) (vs1 : Int32) (σ : Sto) : Option (Int32 × Sto) := (wrA σ 82 vs1 vs0).bind (fun σ63 => (f_X9_goesBy σ63 v1 v2).bind (fun r67 => (rdA r67 82 (8 : Int32)).bind (fun r76 => some (r76, r67))))
set_option maxRecDepth 100000 in
def f_X9_aYear (σ : Sto) (a1 : Int32) (a2 : Int32) (a3 : Bool) : Option (Int32 × Sto) := (f_X9_areUnlike σ a1 a2).bind (fun r3 => if r3 = true then ((rdA σ 82 (11 : Int32)).bind (fun r21 => if r21 = (9999 : Int32) then ((f_X9_finds σ (3 : Int32)).bind (fun r30 => some (r30.1, r30.2))) else if a3 = true then ((f_X9_drawn σ).bind (fun r45 => f_X9_aYear_L63  a1 a2 ((irem r45.1 (7 : Int32)) - (3 : Int32)) (6 : Int32) r45.2)) else (rdA σ 82 (6 : Int32)).bind (fun r62 => f_X9_aYear_L63  a1 a2 r62 (6 : Int32) σ))) else (f_X9_finds σ (1 : Int32)).bind (fun r11 => some (r11.1, r11.2)))
set_option maxRecDepth 100000 in
def f_X9_year (σ : Sto) (a1 : Int32) (a2 : Int32) : Option (Int32 × Sto) := (f_X9_aYear σ a1 a2 false).bind (fun r4 => some (r4.1, r4.2))
set_option maxRecDepth 100000 in
def f_X9_loose (σ : Sto) (a1 : Int32) (a2 : Int32) : Option (Int32 × Sto) := (f_X9_aYear σ a1 a2 true).bind (fun r4 => some (r4.1, r4.2))
set_option maxRecDepth 100000 in
def f_X9_isBetter (a0 : Int32) (a1 : Int32) (a2 : Int32) : Option Bool := if a0 = 0 then (if a1 ≤ a2 then (some false) else some true) else if a2 ≤ a1 then (some false) else some true
set_option maxRecDepth 100000 in
def f_X9_plans (σ : Sto) (a1 : Int32) (a2 : Int32) (a3 : Int32) (a4 : Int32) (a5 : Int32) : Option Sto := (f_X9_becomes σ a1 (5 : Int32) a2).bind (fun r4 => (f_X9_becomes r4 a1 (6 : Int32) a3).bind (fun r12 => (f_X9_becomes r12 a1 (7 : Int32) a4).bind (fun r21 => (f_X9_becomes r21 a1 (8 : Int32) a5).bind (fun r30 => some r30))))
set_option maxRecDepth 100000 in
def f_X9_laneIn_L4  (v1 : Int32) : Nat → Int32 → Int32 → Option Int32
  | 0, _, _ => none
  | n + 1, v2, v3 => if v3 ≤ v1 then (some (irem v2 (6 : Int32))) else (f_X9_laneIn_L4  v1 n) (v2 / (6 : Int32)) (v3 + (-1 : Int32))
set_option maxRecDepth 100000 in
def f_X9_laneIn (a0 : Int32) (a1 : Int32) : Option Int32 := f_X9_laneIn_L4  a1 FU a0 (3 : Int32)
set_option maxRecDepth 100000 in
def f_X9_bestPlan_L128 (K49 : Int32 → Int32 → Int32 → Sto → Option (Int32 × Sto)) (v1 : Int32) (v2 : Int32) (v3 : Int32) (v4 : Int32) (v5 : Int32) (v6 : Int32) (σ : Sto) : Option (Int32 × Sto) := K49 v4 v5 (v6 + (1 : Int32)) σ
set_option maxRecDepth 100000 in
def f_X9_bestPlan_L118 (K49 : Int32 → Int32 → Int32 → Sto → Option (Int32 × Sto)) (v1 : Int32) (v2 : Int32) (v3 : Int32) (v6 : Int32) (σ : Sto) : Option (Int32 × Sto) := f_X9_bestPlan_L128 K49 v1 v2 v3 v6 (σ.1 81 16) v6 σ
set_option maxRecDepth 100000 in
def f_X9_bestPlan_L49  (v1 : Int32) (v2 : Int32) (v3 : Int32) : Nat → Int32 → Int32 → Int32 → Sto → Option (Int32 × Sto)
  | 0, _, _, _, _ => none
  | n + 1, v4, v5, v6, σ => if (1296 : Int32) ≤ v6 then ((f_X9_copies σ 83 82).bind (fun r142 => if 0 ≤ v4 then (if 0 ≤ v3 then ((f_X9_laneIn v4 v3).bind (fun r170 => some (r170, r142))) else some (v5, r142)) else (f_X9_finds r142 (2 : Int32)).bind (fun r152 => some (r152.1, r152.2)))) else (f_X9_laneIn v6 (0 : Int32)).bind (fun r62 => (f_X9_laneIn v6 (1 : Int32)).bind (fun r68 => (f_X9_laneIn v6 (2 : Int32)).bind (fun r74 => (f_X9_laneIn v6 (3 : Int32)).bind (fun r80 => (f_X9_plans σ v1 r62 r68 r74 r80).bind (fun r83 => (f_X9_swim r83 v1 v2).bind (fun r89 => if r89.1 = true then (if v4 < 0 then (f_X9_bestPlan_L118 (f_X9_bestPlan_L49  v1 v2 v3 n) v1 v2 v3 v6 r89.2) else (f_X9_of r89.2 v1 (2 : Int32)).bind (fun r103 => (f_X9_isBetter r103 (r89.2.1 81 16) v5).bind (fun r112 => if r112 = true then (f_X9_bestPlan_L118 (f_X9_bestPlan_L49  v1 v2 v3 n) v1 v2 v3 v6 r89.2) else f_X9_bestPlan_L128 (f_X9_bestPlan_L49  v1 v2 v3 n) v1 v2 v3 v4 v5 v6 r89.2))) else f_X9_bestPlan_L128 (f_X9_bestPlan_L49  v1 v2 v3 n) v1 v2 v3 v4 v5 v6 r89.2))))))
set_option maxRecDepth 100000 in
def f_X9_bestPlan (σ : Sto) (a1 : Int32) (a2 : Int32) (a3 : Int32) : Option (Int32 × Sto) := (f_X9_areUnlike σ a1 a2).bind (fun r3 => if r3 = true then ((f_X9_in (Int32.toInt64 a3) (-1 : Int64) (3 : Int64)).bind (fun r17 => if r17 = true then ((f_X9_copies σ 82 83).bind (fun r37 => f_X9_bestPlan_L49  a1 a2 a3 FU (-1 : Int32) (0 : Int32) (0 : Int32) r37)) else (f_X9_finds σ (1 : Int32)).bind (fun r25 => some (r25.1, r25.2)))) else (f_X9_finds σ (1 : Int32)).bind (fun r25 => some (r25.1, r25.2)))
set_option maxRecDepth 100000 in
def f_X9_endOf (σ : Sto) (a1 : Int32) (a2 : Int32) (a3 : Int32) (a4 : Int32) : Option (Int32 × Sto) := (f_X9_plans σ a1 a3 a3 a3 a3).bind (fun r6 => (f_X9_plans r6 a2 a4 a4 a4 a4).bind (fun r19 => (f_X9_swim r19 a1 a2).bind (fun r25 => if r25.1 = true then (some ((r25.2.1 81 16), r25.2)) else (rdA r25.2 82 (8 : Int32)).bind (fun r44 => some (r44, r25.2)))))
set_option maxRecDepth 100000 in
def f_X9_hold_L112 (K53 : Int32 → Int32 → Int32 → Sto → Option (Int32 × Sto)) (K74 : Int32 → Int32 → Sto → Option (Int32 × Sto)) (v1 : Int32) (v2 : Int32) (v3 : Int32) (v4 : Int32) (v5 : Int32) (v6 : Int32) (v7 : Int32) (v9 : Int32) (vs0 : Int32) (σ : Sto) : Option (Int32 × Sto) := K74 vs0 (v9 + (1 : Int32)) σ
set_option maxRecDepth 100000 in
def f_X9_hold_L145 (K53 : Int32 → Int32 → Int32 → Sto → Option (Int32 × Sto)) (v1 : Int32) (v2 : Int32) (v3 : Int32) (v4 : Int32) (v5 : Int32) (v6 : Int32) (v7 : Int32) (σ : Sto) : Option (Int32 × Sto) := K53 v5 v6 (v7 + (1 : Int32)) σ
set_option maxRecDepth 100000 in
def f_X9_hold_L137 (K53 : Int32 → Int32 → Int32 → Sto → Option (Int32 × Sto)) (v1 : Int32) (v2 : Int32) (v3 : Int32) (v4 : Int32) (v7 : Int32) (v8 : Int32) (σ : Sto) : Option (Int32 × Sto) := f_X9_hold_L145 K53 v1 v2 v3 v4 v7 v8 v7 σ
set_option maxRecDepth 100000 in
def f_X9_hold_L74 (K53 : Int32 → Int32 → Int32 → Sto → Option (Int32 × Sto)) (v1 : Int32) (v2 : Int32) (v3 : Int32) (v4 : Int32) (v5 : Int32) (v6 : Int32) (v7 : Int32) : Nat → Int32 → Int32 → Sto → Option (Int32 × Sto)
  | 0, _, _, _ => none
  | n + 1, v8, v9, σ => if (6 : Int32) ≤ v9 then (if v5 < 0 then (f_X9_hold_L137 K53 v1 v2 v3 v4 v7 v8 σ) else (f_X9_isBetter v4 v8 v6).bind (fun r131 => if r131 = true then (f_X9_hold_L137 K53 v1 v2 v3 v4 v7 v8 σ) else f_X9_hold_L145 K53 v1 v2 v3 v4 v5 v6 v7 σ)) else (f_X9_endOf σ v1 v2 v7 v9).bind (fun r88 => (f_X9_isBetter v4 v8 r88.1).bind (fun r99 => if r99 = true then (f_X9_hold_L112 K53 (f_X9_hold_L74 K53 v1 v2 v3 v4 v5 v6 v7 n) v1 v2 v3 v4 v5 v6 v7 v9 r88.1 r88.2) else f_X9_hold_L112 K53 (f_X9_hold_L74 K53 v1 v2 v3 v4 v5 v6 v7 n) v1 v2 v3 v4 v5 v6 v7 v9 v8 r88.2))
set_option maxRecDepth 100000 in
def f_X9_hold_L53  (v1 : Int32) (v2 : Int32) (v3 : Int32) (v4 : Int32) : Nat → Int32 → Int32 → Int32 → Sto → Option (Int32 × Sto)
  | 0, _, _, _, _ => none
  | n + 1, v5, v6, v7, σ => if (6 : Int32) ≤ v7 then ((f_X9_copies σ 83 82).bind (fun r159 => if v3 = 0 then (some (v5, r159)) else some (v6, r159))) else (f_X9_endOf σ v1 v2 v7 (0 : Int32)).bind (fun r66 => f_X9_hold_L74 (f_X9_hold_L53  v1 v2 v3 v4 n) v1 v2 v3 v4 v5 v6 v7 FU r66.1 (1 : Int32) r66.2)
set_option maxRecDepth 100000 in
def f_X9_hold (σ : Sto) (a1 : Int32) (a2 : Int32) (a3 : Int32) : Option (Int32 × Sto) := (f_X9_areUnlike σ a1 a2).bind (fun r3 => if r3 = true then ((f_X9_in (Int32.toInt64 a3) (0 : Int64) (1 : Int64)).bind (fun r13 => if r13 = true then ((f_X9_copies σ 82 83).bind (fun r33 => (f_X9_of r33 a1 (2 : Int32)).bind (fun r39 => f_X9_hold_L53  a1 a2 a3 r39 FU (-1 : Int32) (0 : Int32) (0 : Int32) r33))) else (f_X9_finds σ (1 : Int32)).bind (fun r21 => some (r21.1, r21.2)))) else (f_X9_finds σ (1 : Int32)).bind (fun r21 => some (r21.1, r21.2)))
set_option maxRecDepth 100000 in
def f_X9_ask_L93 (K34 : Int32 → Int32 → Int32 → Sto → Option (Int32 × Sto)) (v1 : Int32) (v2 : Int32) (v3 : Int32) (v4 : Int32) (v5 : Int32) (v6 : Int32) (σ : Sto) : Option (Int32 × Sto) := K34 v4 v5 (v6 + (1 : Int32)) σ
set_option maxRecDepth 100000 in
def f_X9_ask_L83 (K34 : Int32 → Int32 → Int32 → Sto → Option (Int32 × Sto)) (v1 : Int32) (v2 : Int32) (v3 : Int32) (v6 : Int32) (σ : Sto) : Option (Int32 × Sto) := f_X9_ask_L93 K34 v1 v2 v3 v6 (σ.1 81 16) v6 σ
set_option maxRecDepth 100000 in
def f_X9_ask_L34  (v1 : Int32) (v2 : Int32) (v3 : Int32) : Nat → Int32 → Int32 → Int32 → Sto → Option (Int32 × Sto)
  | 0, _, _, _, _ => none
  | n + 1, v4, v5, v6, σ => if (3 : Int32) < v6 then ((wrA σ 82 (6 : Int32) v3).bind (fun σ106 => if v4 = (9 : Int32) then ((f_X9_finds σ106 (2 : Int32)).bind (fun r116 => some (r116.1, r116.2))) else some (v4, σ106))) else (wrA σ 82 (6 : Int32) v6).bind (fun σ48 => (f_X9_swim σ48 v1 v2).bind (fun r52 => if r52.1 = true then (if v4 = (9 : Int32) then (f_X9_ask_L83 (f_X9_ask_L34  v1 v2 v3 n) v1 v2 v3 v6 r52.2) else (f_X9_of r52.2 v1 (2 : Int32)).bind (fun r68 => (f_X9_isBetter r68 (r52.2.1 81 16) v5).bind (fun r77 => if r77 = true then (f_X9_ask_L83 (f_X9_ask_L34  v1 v2 v3 n) v1 v2 v3 v6 r52.2) else f_X9_ask_L93 (f_X9_ask_L34  v1 v2 v3 n) v1 v2 v3 v4 v5 v6 r52.2))) else f_X9_ask_L93 (f_X9_ask_L34  v1 v2 v3 n) v1 v2 v3 v4 v5 v6 r52.2))
set_option maxRecDepth 100000 in
def f_X9_ask (σ : Sto) (a1 : Int32) (a2 : Int32) : Option (Int32 × Sto) := (f_X9_areUnlike σ a1 a2).bind (fun r3 => if r3 = true then ((rdA σ 82 (6 : Int32)).bind (fun r21 => f_X9_ask_L34  a1 a2 r21 FU (9 : Int32) (0 : Int32) (-3 : Int32) σ)) else (f_X9_finds σ (1 : Int32)).bind (fun r11 => some (r11.1, r11.2)))
set_option maxRecDepth 100000 in
def f_X9_leastSight_L66  (v3 : Int32) (v4 : Int32) (σ : Sto) : Option (Int32 × Sto) := (wrA σ 82 (7 : Int32) v3).bind (fun σ73 => if v4 ≤ (200 : Int32) then (some (v4, σ73)) else (f_X9_finds σ73 (2 : Int32)).bind (fun r84 => some (r84.1, r84.2)))
set_option maxRecDepth 100000 in
def f_X9_leastSight_L34  (v1 : Int32) (v2 : Int32) (v3 : Int32) : Nat → Int32 → Sto → Option (Int32 × Sto)
  | 0, _, _ => none
  | n + 1, v4, σ => if (201 : Int32) ≤ v4 then (f_X9_leastSight_L66  v3 v4 σ) else (f_X9_swim σ v1 v2).bind (fun r45 => if r45.1 = true then (f_X9_leastSight_L66  v3 v4 r45.2) else (wrA r45.2 82 (7 : Int32) (v4 + (1 : Int32))).bind (fun σ62 => (f_X9_leastSight_L34  v1 v2 v3 n) (v4 + (1 : Int32)) σ62))
set_option maxRecDepth 100000 in
def f_X9_leastSight (σ : Sto) (a1 : Int32) (a2 : Int32) : Option (Int32 × Sto) := (f_X9_areUnlike σ a1 a2).bind (fun r3 => if r3 = true then ((rdA σ 82 (7 : Int32)).bind (fun r21 => (wrA σ 82 (7 : Int32) (0 : Int32)).bind (fun σ33 => f_X9_leastSight_L34  a1 a2 r21 FU (0 : Int32) σ33))) else (f_X9_finds σ (1 : Int32)).bind (fun r11 => some (r11.1, r11.2)))
set_option maxRecDepth 100000 in
def f_X9_send_L89 (K21 : Int32 → Int32 → Int32 → Sto → Option (Int32 × Sto)) (v1 : Int32) (v2 : Int32) (v3 : Int32) (v4 : Int32) (σ : Sto) : Option (Int32 × Sto) := K21 v2 v3 (v4 + (1 : Int32)) σ
set_option maxRecDepth 100000 in
def f_X9_send_L81 (K21 : Int32 → Int32 → Int32 → Sto → Option (Int32 × Sto)) (v1 : Int32) (v4 : Int32) (σ : Sto) : Option (Int32 × Sto) := f_X9_send_L89 K21 v1 v4 (σ.1 81 16) v4 σ
set_option maxRecDepth 100000 in
def f_X9_send_L21  (v1 : Int32) : Nat → Int32 → Int32 → Int32 → Sto → Option (Int32 × Sto)
  | 0, _, _, _, _ => none
  | n + 1, v2, v3, v4, σ => (rdA σ 82 (12 : Int32)).bind (fun r29 => if r29 ≤ v4 then (if 0 ≤ v2 then (some (v2, σ)) else (f_X9_finds σ (2 : Int32)).bind (fun r101 => some (r101.1, r101.2))) else (f_X9_of σ v4 (2 : Int32)).bind (fun r37 => (f_X9_of σ v1 (2 : Int32)).bind (fun r43 => if r37 = r43 then (f_X9_send_L89 (f_X9_send_L21  v1 n) v1 v2 v3 v4 σ) else (f_X9_swim σ v4 v1).bind (fun r53 => if r53.1 = true then (if v2 < 0 then (f_X9_send_L81 (f_X9_send_L21  v1 n) v1 v4 r53.2) else (f_X9_of r53.2 v4 (2 : Int32)).bind (fun r67 => (f_X9_isBetter r67 (r53.2.1 81 16) v3).bind (fun r75 => if r75 = true then (f_X9_send_L81 (f_X9_send_L21  v1 n) v1 v4 r53.2) else f_X9_send_L89 (f_X9_send_L21  v1 n) v1 v2 v3 v4 r53.2))) else f_X9_send_L89 (f_X9_send_L21  v1 n) v1 v2 v3 v4 r53.2))))
set_option maxRecDepth 100000 in
def f_X9_send (σ : Sto) (a1 : Int32) : Option (Int32 × Sto) := (f_X9_isSwimmer σ a1).bind (fun r2 => if r2 = true then (f_X9_send_L21  a1 FU (-1 : Int32) (0 : Int32) (0 : Int32) σ) else (f_X9_finds σ (1 : Int32)).bind (fun r10 => some (r10.1, r10.2)))
set_option maxRecDepth 100000 in
def f_X9_diary_L183 (K71 : Int32 → Int32 → Int32 → Sto → Option (Int32 × Sto)) (v1 : Int32) (v2 : Int32) (v3 : Int32) (v4 : Int32) (v5 : Int32) (v6 : Int32) (v7 : Int32) (v8 : Int32) (σ : Sto) : Option (Int32 × Sto) := K71 v6 v7 (v8 + (1 : Int32)) σ
set_option maxRecDepth 100000 in
def f_X9_diary_L181 (K71 : Int32 → Int32 → Int32 → Sto → Option (Int32 × Sto)) (v1 : Int32) (v2 : Int32) (v3 : Int32) (v4 : Int32) (v5 : Int32) (v6 : Int32) (v8 : Int32) (vs0 : Int32) (σ : Sto) : Option (Int32 × Sto) := f_X9_diary_L183 K71 v1 v2 v3 v4 v5 v6 vs0 v8 σ
set_option maxRecDepth 100000 in
def f_X9_diary_L71  (v1 : Int32) (v2 : Int32) (v3 : Int32) (v4 : Int32) (v5 : Int32) : Nat → Int32 → Int32 → Int32 → Sto → Option (Int32 × Sto)
  | 0, _, _, _, _ => none
  | n + 1, v6, v7, v8, σ => if (36 : Int32) ≤ v8 then ((f_X9_copies σ 83 82).bind (fun r197 => if v5 = 0 then (some (v6, r197)) else if 0 ≤ v7 then (some (v7, r197)) else (f_X9_finds r197 (2 : Int32)).bind (fun r217 => some (r217.1, r217.2)))) else (f_X9_plans σ v1 (v8 / (6 : Int32)) (v8 / (6 : Int32)) (v8 / (6 : Int32)) (v8 / (6 : Int32))).bind (fun r100 => (f_X9_plans r100 v2 (irem v8 (6 : Int32)) (irem v8 (6 : Int32)) (irem v8 (6 : Int32)) (irem v8 (6 : Int32))).bind (fun r125 => (f_X9_swim r125 v1 v2).bind (fun r131 => if r131.1 = true then (if (r131.2.1 81 15) = v3 then (if (r131.2.1 81 16) = v4 then (if 0 ≤ v7 then (f_X9_diary_L181 (f_X9_diary_L71  v1 v2 v3 v4 v5 n) v1 v2 v3 v4 v5 (v6 + (1 : Int32)) v8 v7 r131.2) else f_X9_diary_L181 (f_X9_diary_L71  v1 v2 v3 v4 v5 n) v1 v2 v3 v4 v5 (v6 + (1 : Int32)) v8 (((10 : Int32) * (v8 / (6 : Int32))) + (irem v8 (6 : Int32))) r131.2) else f_X9_diary_L183 (f_X9_diary_L71  v1 v2 v3 v4 v5 n) v1 v2 v3 v4 v5 v6 v7 v8 r131.2) else f_X9_diary_L183 (f_X9_diary_L71  v1 v2 v3 v4 v5 n) v1 v2 v3 v4 v5 v6 v7 v8 r131.2) else f_X9_diary_L183 (f_X9_diary_L71  v1 v2 v3 v4 v5 n) v1 v2 v3 v4 v5 v6 v7 v8 r131.2)))
set_option maxRecDepth 100000 in
def f_X9_diary (σ : Sto) (a1 : Int32) (a2 : Int32) (a3 : Int32) (a4 : Int32) (a5 : Int32) : Option (Int32 × Sto) := (f_X9_areUnlike σ a1 a2).bind (fun r3 => if r3 = true then ((f_X9_in (Int32.toInt64 a3) (0 : Int64) (59 : Int64)).bind (fun r15 => if r15 = true then ((f_X9_in (Int32.toInt64 a4) (0 : Int64) (1200 : Int64)).bind (fun r28 => if r28 = true then ((f_X9_in (Int32.toInt64 a5) (0 : Int64) (1 : Int64)).bind (fun r39 => if r39 = true then ((f_X9_copies σ 82 83).bind (fun r59 => f_X9_diary_L71  a1 a2 a3 a4 a5 FU (0 : Int32) (-1 : Int32) (0 : Int32) r59)) else (f_X9_finds σ (1 : Int32)).bind (fun r47 => some (r47.1, r47.2)))) else (f_X9_finds σ (1 : Int32)).bind (fun r47 => some (r47.1, r47.2)))) else (f_X9_finds σ (1 : Int32)).bind (fun r47 => some (r47.1, r47.2)))) else (f_X9_finds σ (1 : Int32)).bind (fun r47 => some (r47.1, r47.2)))
set_option maxRecDepth 100000 in
def f_X9_training_L92 (K50 : Int32 → Int32 → Sto → Option (Int32 × Sto)) (v1 : Int32) (v2 : Int32) (v3 : Int32) (v4 : Int32) (v5 : Int32) (v7 : Int32) (vs0 : Int32) (σ : Sto) : Option (Int32 × Sto) := K50 vs0 (v7 + (-1 : Int32)) σ
set_option maxRecDepth 100000 in
def f_X9_training_L90 (K50 : Int32 → Int32 → Sto → Option (Int32 × Sto)) (v1 : Int32) (v2 : Int32) (v3 : Int32) (v4 : Int32) (v5 : Int32) (v6 : Int32) (v7 : Int32) (σ : Sto) : Option (Int32 × Sto) := f_X9_training_L92 K50 v1 v2 v3 v4 v5 v7 v6 σ
set_option maxRecDepth 100000 in
def f_X9_training_L50  (v1 : Int32) (v2 : Int32) (v3 : Int32) (v4 : Int32) (v5 : Int32) : Nat → Int32 → Int32 → Sto → Option (Int32 × Sto)
  | 0, _, _, _ => none
  | n + 1, v6, v7, σ => if v7 < 0 then ((f_X9_becomes σ v1 (3 : Int32) v4).bind (fun r105 => if 0 ≤ v6 then (some (v6, r105)) else (f_X9_finds r105 (2 : Int32)).bind (fun r115 => some (r115.1, r115.2)))) else (f_X9_becomes σ v1 (3 : Int32) v7).bind (fun r60 => (f_X9_swim r60 v1 v2).bind (fun r66 => if r66.1 = true then ((f_X9_isBetter v5 v3 (r66.2.1 81 16)).bind (fun r79 => if r79 = true then (f_X9_training_L90 (f_X9_training_L50  v1 v2 v3 v4 v5 n) v1 v2 v3 v4 v5 v6 v7 r66.2) else f_X9_training_L92 (f_X9_training_L50  v1 v2 v3 v4 v5 n) v1 v2 v3 v4 v5 v7 v7 r66.2)) else f_X9_training_L90 (f_X9_training_L50  v1 v2 v3 v4 v5 n) v1 v2 v3 v4 v5 v6 v7 r66.2))
set_option maxRecDepth 100000 in
def f_X9_training (σ : Sto) (a1 : Int32) (a2 : Int32) (a3 : Int32) : Option (Int32 × Sto) := (f_X9_areUnlike σ a1 a2).bind (fun r3 => if r3 = true then ((f_X9_in (Int32.toInt64 a3) (0 : Int64) (1200 : Int64)).bind (fun r15 => if r15 = true then ((f_X9_of σ a1 (3 : Int32)).bind (fun r30 => (f_X9_of σ a1 (2 : Int32)).bind (fun r38 => f_X9_training_L50  a1 a2 a3 r30 r38 FU (-1 : Int32) (30 : Int32) σ))) else (f_X9_finds σ (1 : Int32)).bind (fun r23 => some (r23.1, r23.2)))) else (f_X9_finds σ (1 : Int32)).bind (fun r23 => some (r23.1, r23.2)))
set_option maxRecDepth 100000 in
def f_X9_changeSides (σ : Sto) (a1 : Int32) (a2 : Int32) : Option Sto := (f_X9_of σ a1 (2 : Int32)).bind (fun r7 => (f_X9_becomes σ a1 (2 : Int32) ((1 : Int32) - r7)).bind (fun r11 => (f_X9_of r11 a2 (2 : Int32)).bind (fun r21 => (f_X9_becomes r11 a2 (2 : Int32) ((1 : Int32) - r21)).bind (fun r25 => some r25))))
set_option maxRecDepth 100000 in
def f_X9_fair (σ : Sto) (a1 : Int32) (a2 : Int32) : Option (Int32 × Sto) := (f_X9_areUnlike σ a1 a2).bind (fun r3 => if r3 = true then ((f_X9_swim σ a1 a2).bind (fun r18 => (f_X9_changeSides r18.2 a1 a2).bind (fun r31 => (f_X9_swim r31 a1 a2).bind (fun r37 => (f_X9_changeSides r37.2 a1 a2).bind (fun r45 => if r18.1 = true then (if r37.1 = true then (some ((((r18.2.1 81 16) + (r45.1 81 16)) - (1200 : Int32)), r45)) else (f_X9_finds r45 (2 : Int32)).bind (fun r73 => some (r73.1, r73.2))) else (f_X9_finds r45 (2 : Int32)).bind (fun r73 => some (r73.1, r73.2))))))) else (f_X9_finds σ (1 : Int32)).bind (fun r11 => some (r11.1, r11.2)))
set_option maxRecDepth 100000 in
def f_X9_seed (σ : Sto) (a1 : Int32) : Option (Int32 × Sto) := (rdA σ 82 (13 : Int32)).bind (fun r6 => (wrA σ 82 (13 : Int32) a1).bind (fun σ15 => some (r6, σ15)))
set_option maxRecDepth 100000 in
def f_X9_ran (σ : Sto) (a1 : Int32) : Option Sto := if (40 : Int32) ≤ (σ.1 81 18) then (some σ) else (wrA σ 89 (σ.1 81 18) a1).bind (fun σ18 => lp (sI σ18 81 18 ((σ18.1 81 18) + (1 : Int32))) (fun σ26 => some σ26))
set_option maxRecDepth 100000 in
def f_X9_own (σ : Sto)  : Option Int32 := (f_X9_of σ (σ.1 81 19) (0 : Int32)).bind (fun r6 => some r6)
set_option maxRecDepth 100000 in
def b_X9_swims (rec : Nat → Int32 → Int32 → Sto → Option (Int32 × Sto)) (σ : Sto) (a1 : Int32) (a2 : Int32) : Option (Int32 × Sto) := if a1 = (0 : Int32) then ((f_X9_ran σ (10 : Int32)).bind (fun r31 => some ((a2 + (r31.1 81 19)), r31))) else if a1 = (2 : Int32) then ((f_X9_ran σ (30 : Int32)).bind (fun r44 => (f_X9_above (2 : Int32)).bind (fun r49 => (rec 0 r49 a2 r44).bind (fun r53 => some ((r53.1 * (3 : Int32)), r53.2))))) else (f_X9_above a1).bind (fun r61 => (rec 0 r61 a2 σ).bind (fun r65 => some (r65.1, r65.2)))
set_option maxRecDepth 100000 in
def g_X9_swims : Nat → Nat → Int32 → Int32 → Sto → Option (Int32 × Sto)
  | 0, _, _, _, _ => none
  | d + 1, _, x0, x1, σ => b_X9_swims (g_X9_swims d) σ x0 x1

set_option maxRecDepth 100000 in
def b_X9_tires (rec : Nat → Int32 → Int32 → Sto → Option (Int32 × Sto)) (σ : Sto) (a1 : Int32) (a2 : Int32) : Option (Int32 × Sto) := if a1 = (0 : Int32) then ((f_X9_ran σ (12 : Int32)).bind (fun r39 => (f_X9_of r39 (r39.1 81 19) (1 : Int32)).bind (fun r49 => some ((a2 - r49), r39)))) else if a1 = (3 : Int32) then ((f_X9_ran σ (40 : Int32)).bind (fun r57 => (f_X9_above (3 : Int32)).bind (fun r62 => (rec 0 r62 a2 r57).bind (fun r66 => some ((-r66.1), r66.2))))) else if a1 = (6 : Int32) then ((f_X9_ran σ (70 : Int32)).bind (fun r74 => (f_X9_above (6 : Int32)).bind (fun r80 => (rec 0 r80 a2 r74).bind (fun r84 => some ((r84.1 ^^^ (r84.2.1 81 19)), r84.2))))) else (f_X9_above a1).bind (fun r95 => (rec 0 r95 a2 σ).bind (fun r99 => some (r99.1, r99.2)))
set_option maxRecDepth 100000 in
def g_X9_tires : Nat → Nat → Int32 → Int32 → Sto → Option (Int32 × Sto)
  | 0, _, _, _, _ => none
  | d + 1, _, x0, x1, σ => b_X9_tires (g_X9_tires d) σ x0 x1

set_option maxRecDepth 100000 in
def b_X9_breathes (rec : Nat → Int32 → Int32 → Sto → Option (Int32 × Sto)) (σ : Sto) (a1 : Int32) (a2 : Int32) : Option (Int32 × Sto) := if a1 = (0 : Int32) then ((f_X9_ran σ (11 : Int32)).bind (fun r39 => (f_X9_own r39).bind (fun r44 => (g_X9_swims 8 0 r44 a2 r39).bind (fun r48 => some ((r48.1 * (2 : Int32)), r48.2))))) else if a1 = (1 : Int32) then ((f_X9_ran σ (20 : Int32)).bind (fun r57 => (f_X9_above (1 : Int32)).bind (fun r62 => (rec 0 r62 a2 r57).bind (fun r66 => (f_X9_own r66.2).bind (fun r73 => (g_X9_tires 8 0 r73 (1 : Int32) r66.2).bind (fun r77 => some ((r66.1 - r77.1), r77.2))))))) else if a1 = (2 : Int32) then ((f_X9_above a1).bind (fun r102 => (rec 0 r102 a2 σ).bind (fun r106 => some (r106.1, r106.2)))) else if a1 = (3 : Int32) then ((f_X9_above a1).bind (fun r102 => (rec 0 r102 a2 σ).bind (fun r106 => some (r106.1, r106.2)))) else if a1 = (4 : Int32) then ((f_X9_ran σ (50 : Int32)).bind (fun r85 => (f_X9_above (4 : Int32)).bind (fun r90 => (rec 0 r90 (a2 + (1 : Int32)) r85).bind (fun r96 => some (r96.1, r96.2))))) else (f_X9_above a1).bind (fun r102 => (rec 0 r102 a2 σ).bind (fun r106 => some (r106.1, r106.2)))
set_option maxRecDepth 100000 in
def g_X9_breathes : Nat → Nat → Int32 → Int32 → Sto → Option (Int32 × Sto)
  | 0, _, _, _, _ => none
  | d + 1, _, x0, x1, σ => b_X9_breathes (g_X9_breathes d) σ x0 x1

set_option maxRecDepth 100000 in
def b_X9_tells (rec : Nat → Int32 → Int32 → Sto → Option (Int32 × Sto)) (σ : Sto) (a1 : Int32) (a2 : Int32) : Option (Int32 × Sto) := if a1 = (0 : Int32) then ((f_X9_ran σ (13 : Int32)).bind (fun r39 => (f_X9_own r39).bind (fun r44 => (g_X9_breathes 8 0 r44 a2 r39).bind (fun r48 => (f_X9_own r48.2).bind (fun r55 => (g_X9_tires 8 0 r55 a2 r48.2).bind (fun r59 => some ((r48.1 ^^^ r59.1), r59.2))))))) else if a1 = (5 : Int32) then ((f_X9_ran σ (60 : Int32)).bind (fun r67 => (f_X9_above (5 : Int32)).bind (fun r72 => (rec 0 r72 a2 r67).bind (fun r76 => (f_X9_own r76.2).bind (fun r83 => (g_X9_swims 8 0 r83 (2 : Int32) r76.2).bind (fun r87 => some ((r76.1 - r87.1), r87.2))))))) else if a1 = (6 : Int32) then ((f_X9_ran σ (71 : Int32)).bind (fun r95 => (f_X9_own r95).bind (fun r100 => (g_X9_breathes 8 0 r100 a2 r95).bind (fun r104 => (f_X9_above (6 : Int32)).bind (fun r112 => (rec 0 r112 a2 r104.2).bind (fun r116 => some ((r104.1 - r116.1), r116.2))))))) else (f_X9_above a1).bind (fun r123 => (rec 0 r123 a2 σ).bind (fun r127 => some (r127.1, r127.2)))
set_option maxRecDepth 100000 in
def g_X9_tells : Nat → Nat → Int32 → Int32 → Sto → Option (Int32 × Sto)
  | 0, _, _, _, _ => none
  | d + 1, _, x0, x1, σ => b_X9_tells (g_X9_tells d) σ x0 x1

set_option maxRecDepth 100000 in
def f_X9_voice (σ : Sto) (a1 : Int32) (a2 : Int32) (a3 : Int32) : Option (Int32 × Sto) := (f_X9_isSwimmer σ a1).bind (fun r2 => if r2 = true then ((f_X9_in (Int32.toInt64 a2) (0 : Int64) (3 : Int64)).bind (fun r14 => if r14 = true then (lp (sI σ 81 18 (0 : Int32)) (fun σ28 => lp (sI σ28 81 19 a1) (fun σ33 => (f_X9_own σ33).bind (fun r37 => if a2 = 0 then ((g_X9_swims 8 0 r37 a3 σ33).bind (fun r50 => some (r50.1, r50.2))) else if a2 = (1 : Int32) then ((g_X9_breathes 8 0 r37 a3 σ33).bind (fun r65 => some (r65.1, r65.2))) else if a2 = (2 : Int32) then ((g_X9_tires 8 0 r37 a3 σ33).bind (fun r80 => some (r80.1, r80.2))) else (g_X9_tells 8 0 r37 a3 σ33).bind (fun r90 => some (r90.1, r90.2)))))) else (f_X9_finds σ (1 : Int32)).bind (fun r22 => some (r22.1, r22.2)))) else (f_X9_finds σ (1 : Int32)).bind (fun r22 => some (r22.1, r22.2)))
set_option maxRecDepth 100000 in
def f_X9_trace (σ : Sto) (a1 : Int32) : Option (Int32 × Sto) := (f_X9_in (Int32.toInt64 a1) (0 : Int64) (Int32.toInt64 ((σ.1 81 18) - (1 : Int32)))).bind (fun r10 => if r10 = true then ((rdA σ 89 a1).bind (fun r21 => some (r21, σ))) else (f_X9_finds σ (2 : Int32)).bind (fun r27 => some (r27.1, r27.2)))
set_option maxRecDepth 100000 in
def f_X9_isSheet (a0 : Int32) : Option Bool := (f_X9_in (Int32.toInt64 a0) (0 : Int64) (3 : Int64)).bind (fun r6 => some r6)
set_option maxRecDepth 100000 in
def f_X9_sheet_L90  (v1 : Int32) : Nat → Int32 → Sto → Option (Int32 × Sto)
  | 0, _, _ => none
  | n + 1, v4, σ => if (40 : Int32) ≤ v4 then (some ((1 : Int32), σ)) else (wrA σ 92 (((40 : Int32) * v1) + v4) (0 : Int32)).bind (fun σ109 => (f_X9_sheet_L90  v1 n) (v4 + (1 : Int32)) σ109)
set_option maxRecDepth 100000 in
def f_X9_sheet_L86  (v1 : Int32) (vs0 : Int32) (vs1 : Int32) (σ : Sto) : Option (Int32 × Sto) := (wrA σ 91 vs1 vs0).bind (fun σ86 => f_X9_sheet_L90  v1 FU (0 : Int32) σ86)
set_option maxRecDepth 100000 in
def f_X9_sheet_L65  (v1 : Int32) (v2 : Int32) (v3 : Int32) (σ : Sto) : Option (Int32 × Sto) := (wrA σ 90 v1 v2).bind (fun σ71 => if v2 = 0 then (f_X9_sheet_L86  v1 (0 : Int32) v1 σ71) else f_X9_sheet_L86  v1 v3 v1 σ71)
set_option maxRecDepth 100000 in
def f_X9_sheet_L49  (v1 : Int32) (v2 : Int32) (v3 : Int32) (σ : Sto) : Option (Int32 × Sto) := if v2 = 0 then (f_X9_sheet_L65  v1 v2 v3 σ) else if v3 ≤ (40 : Int32) then (f_X9_sheet_L65  v1 v2 v3 σ) else (f_X9_finds σ (1 : Int32)).bind (fun r61 => some (r61.1, r61.2))
set_option maxRecDepth 100000 in
def f_X9_sheet_L35  (v1 : Int32) (v2 : Int32) (v3 : Int32) (σ : Sto) : Option (Int32 × Sto) := if v2 = 0 then (f_X9_sheet_L49  v1 v2 v3 σ) else if 0 ≤ v3 then (f_X9_sheet_L49  v1 v2 v3 σ) else (f_X9_finds σ (3 : Int32)).bind (fun r45 => some (r45.1, r45.2))
set_option maxRecDepth 100000 in
def f_X9_sheet (σ : Sto) (a1 : Int32) (a2 : Int32) (a3 : Int32) : Option (Int32 × Sto) := (f_X9_isSheet a1).bind (fun r1 => if r1 = true then (if a2 = 0 then (f_X9_sheet_L35  a1 a2 a3 σ) else if a2 = (8 : Int32) then (f_X9_sheet_L35  a1 a2 a3 σ) else if a2 = (16 : Int32) then (f_X9_sheet_L35  a1 a2 a3 σ) else if a2 = (32 : Int32) then (f_X9_sheet_L35  a1 a2 a3 σ) else (f_X9_finds σ (1 : Int32)).bind (fun r31 => some (r31.1, r31.2))) else (f_X9_finds σ (1 : Int32)).bind (fun r31 => some (r31.1, r31.2)))
set_option maxRecDepth 100000 in
def f_X9_put_L95  (vs0 : Int32) (vs1 : Int32) (σ : Sto) : Option (Int32 × Sto) := (wrA σ 92 vs1 vs0).bind (fun σ95 => some ((1 : Int32), σ95))
set_option maxRecDepth 100000 in
def f_X9_put (σ : Sto) (a1 : Int32) (a2 : Int32) (a3 : Int32) : Option (Int32 × Sto) := (f_X9_isSheet a1).bind (fun r1 => if r1 = true then ((rdA σ 90 a1).bind (fun r18 => if r18 = 0 then ((f_X9_finds σ (2 : Int32)).bind (fun r24 => some (r24.1, r24.2))) else (rdA σ 91 a1).bind (fun r36 => (f_X9_in (Int32.toInt64 a2) (0 : Int64) (Int32.toInt64 (r36 - (1 : Int32)))).bind (fun r40 => if r40 = true then ((rdA σ 90 a1).bind (fun r67 => if r67 = (8 : Int32) then (f_X9_put_L95  (i2b a3) (((40 : Int32) * a1) + a2) σ) else (rdA σ 90 a1).bind (fun r83 => if r83 = (16 : Int32) then (f_X9_put_L95  (i2s a3) (((40 : Int32) * a1) + a2) σ) else f_X9_put_L95  a3 (((40 : Int32) * a1) + a2) σ))) else (f_X9_finds σ (1 : Int32)).bind (fun r48 => some (r48.1, r48.2)))))) else (f_X9_finds σ (1 : Int32)).bind (fun r9 => some (r9.1, r9.2)))
set_option maxRecDepth 100000 in
def f_X9_move_L152  (v3 : Int32) (v4 : Int32) (v5 : Int32) : Nat → Int32 → Sto → Option (Int32 × Sto)
  | 0, _, _ => none
  | n + 1, v6, σ => if v5 ≤ v6 then (some (v5, σ)) else (rdA σ 93 v6).bind (fun r179 => (wrA σ 92 ((((40 : Int32) * v3) + v4) + v6) r179).bind (fun σ180 => (f_X9_move_L152  v3 v4 v5 n) (v6 + (1 : Int32)) σ180))
set_option maxRecDepth 100000 in
def f_X9_move_L115  (v1 : Int32) (v2 : Int32) (v3 : Int32) (v4 : Int32) (v5 : Int32) : Nat → Int32 → Sto → Option (Int32 × Sto)
  | 0, _, _ => none
  | n + 1, v6, σ => if v5 ≤ v6 then (f_X9_move_L152  v3 v4 v5 FU (0 : Int32) σ) else (rdA σ 92 ((((40 : Int32) * v1) + v2) + v6)).bind (fun r141 => (wrA σ 93 v6 r141).bind (fun σ142 => (f_X9_move_L115  v1 v2 v3 v4 v5 n) (v6 + (1 : Int32)) σ142))
set_option maxRecDepth 100000 in
def f_X9_move (σ : Sto) (a1 : Int32) (a2 : Int32) (a3 : Int32) (a4 : Int32) (a5 : Int32) : Option (Int32 × Sto) := (f_X9_isSheet a1).bind (fun r1 => if r1 = true then ((f_X9_isSheet a3).bind (fun r8 => if r8 = true then ((rdA σ 90 a1).bind (fun r25 => if r25 = 0 then ((f_X9_finds σ (2 : Int32)).bind (fun r40 => some (r40.1, r40.2))) else (rdA σ 90 a3).bind (fun r34 => if r34 = 0 then ((f_X9_finds σ (2 : Int32)).bind (fun r40 => some (r40.1, r40.2))) else (rdA σ 90 a1).bind (fun r49 => (rdA σ 90 a3).bind (fun r55 => if r49 = r55 then (if a5 < 0 then ((f_X9_finds σ (1 : Int32)).bind (fun r108 => some (r108.1, r108.2))) else if a2 < 0 then ((f_X9_finds σ (1 : Int32)).bind (fun r108 => some (r108.1, r108.2))) else if a4 < 0 then ((f_X9_finds σ (1 : Int32)).bind (fun r108 => some (r108.1, r108.2))) else (rdA σ 91 a1).bind (fun r86 => if (r86 - a2) < a5 then ((f_X9_finds σ (1 : Int32)).bind (fun r108 => some (r108.1, r108.2))) else (rdA σ 91 a3).bind (fun r99 => if a5 ≤ (r99 - a4) then (f_X9_move_L115  a1 a2 a3 a4 a5 FU (0 : Int32) σ) else (f_X9_finds σ (1 : Int32)).bind (fun r108 => some (r108.1, r108.2))))) else (f_X9_finds σ (5 : Int32)).bind (fun r61 => some (r61.1, r61.2))))))) else (f_X9_finds σ (1 : Int32)).bind (fun r16 => some (r16.1, r16.2)))) else (f_X9_finds σ (1 : Int32)).bind (fun r16 => some (r16.1, r16.2)))
set_option maxRecDepth 100000 in
def f_X9_years_L35  (v1 : Int32) : Nat → Int32 → Int32 → Sto → Option (Int32 × Sto)
  | 0, _, _, _ => none
  | n + 1, v2, v3, σ => (rdA σ 91 v1).bind (fun r45 => if r45 < (((2 : Int32) * v2) + (2 : Int32)) then (some (v2, σ)) else (rdA σ 82 (11 : Int32)).bind (fun r55 => if (9999 : Int32) ≤ r55 then (some (v2, σ)) else (rdA σ 92 v3).bind (fun r68 => (rdA σ 92 (v3 + (1 : Int32))).bind (fun r76 => (f_X9_areUnlike σ r68 r76).bind (fun r77 => if r77 = true then ((rdA σ 92 v3).bind (fun r89 => (rdA σ 92 (v3 + (1 : Int32))).bind (fun r97 => (f_X9_goesBy σ r89 r97).bind (fun r98 => (f_X9_years_L35  v1 n) (v2 + (1 : Int32)) (v3 + (2 : Int32)) r98)))) else some (v2, σ))))))
set_option maxRecDepth 100000 in
def f_X9_years (σ : Sto) (a1 : Int32) : Option (Int32 × Sto) := (f_X9_isSheet a1).bind (fun r1 => if r1 = true then ((rdA σ 90 a1).bind (fun r18 => if r18 = 0 then ((f_X9_finds σ (2 : Int32)).bind (fun r24 => some (r24.1, r24.2))) else f_X9_years_L35  a1 FU (0 : Int32) ((40 : Int32) * a1) σ)) else (f_X9_finds σ (1 : Int32)).bind (fun r9 => some (r9.1, r9.2)))
set_option maxRecDepth 100000 in
def f_X9_judge_L56  (v1 : Int32) (v2 : Int32) : Nat → Int32 → Int32 → Sto → Option (Int32 × Sto)
  | 0, _, _, _ => none
  | n + 1, v3, v4, σ => (rdA σ 91 v1).bind (fun r63 => if r63 ≤ v4 then (some (v4, σ)) else (rdA σ 92 (((40 : Int32) * v1) + v4)).bind (fun r78 => if r78 = v3 then ((f_X9_goes σ v2 v3 v4).bind (fun r88 => (f_X9_judge_L56  v1 v2 n) r88.1 (v4 + (1 : Int32)) r88.2)) else some (v4, σ)))
set_option maxRecDepth 100000 in
def f_X9_judge_L52  (v1 : Int32) (v2 : Int32) (vs0 : Int32) (σ : Sto) : Option (Int32 × Sto) := f_X9_judge_L56  v1 v2 FU vs0 (0 : Int32) σ
set_option maxRecDepth 100000 in
def f_X9_judge (σ : Sto) (a1 : Int32) (a2 : Int32) : Option (Int32 × Sto) := (f_X9_isSheet a1).bind (fun r1 => if r1 = true then ((f_X9_isSwimmer σ a2).bind (fun r9 => if r9 = true then ((rdA σ 90 a1).bind (fun r26 => if r26 = 0 then ((f_X9_finds σ (2 : Int32)).bind (fun r32 => some (r32.1, r32.2))) else (f_X9_of σ a2 (2 : Int32)).bind (fun r39 => if r39 = 0 then (f_X9_judge_L52  a1 a2 (0 : Int32) σ) else f_X9_judge_L52  a1 a2 (1200 : Int32) σ))) else (f_X9_finds σ (1 : Int32)).bind (fun r17 => some (r17.1, r17.2)))) else (f_X9_finds σ (1 : Int32)).bind (fun r17 => some (r17.1, r17.2)))
set_option maxRecDepth 100000 in
def f_X9_image (σ : Sto)  : Option (Int32 × Sto) := (f_X9_copies σ 82 84).bind (fun r8 => lp (sI r8 81 3 ((r8.1 81 3) + (1 : Int32))) (fun σ18 => some ((σ18.1 81 3), σ18)))
set_option maxRecDepth 100000 in
def f_X9_restore (σ : Sto)  : Option (Int32 × Sto) := if (σ.1 81 3) = 0 then ((f_X9_finds σ (2 : Int32)).bind (fun r9 => some (r9.1, r9.2))) else (f_X9_copies σ 84 82).bind (fun r21 => (rdA r21 82 (11 : Int32)).bind (fun r30 => some (r30, r21)))
set_option maxRecDepth 100000 in
def f_X9_tell (σ : Sto) (a1 : Int32) : Option (Int32 × Sto) := (rdA σ 82 (15 : Int32)).bind (fun r6 => if r6 = (20 : Int32) then ((f_X9_finds σ (4 : Int32)).bind (fun r14 => some (r14.1, r14.2))) else (rdA σ 82 (15 : Int32)).bind (fun r30 => (wrA σ 82 ((90 : Int32) + r30) a1).bind (fun σ33 => (rdA σ33 82 (15 : Int32)).bind (fun r41 => (wrA σ33 82 (15 : Int32) (r41 + (1 : Int32))).bind (fun σ44 => (rdA σ44 82 (15 : Int32)).bind (fun r51 => some (r51, σ44)))))))
set_option maxRecDepth 100000 in
def f_X9_check_L93 (K48 : Int32 → Int32 → Sto → Option (Int32 × Sto)) (v1 : Int32) (v2 : Int32) (v3 : Int32) (v5 : Int32) (vs0 : Int32) (σ : Sto) : Option (Int32 × Sto) := K48 vs0 (v5 + (1 : Int32)) σ
set_option maxRecDepth 100000 in
def f_X9_check_L48  (v1 : Int32) (v2 : Int32) (v3 : Int32) : Nat → Int32 → Int32 → Sto → Option (Int32 × Sto)
  | 0, _, _, _ => none
  | n + 1, v4, v5, σ => if v3 ≤ v5 then ((f_X9_copies σ 83 82).bind (fun r109 => some (v4, r109))) else if v4 = 0 then ((f_X9_goesBy σ v1 v2).bind (fun r62 => (rdA r62 82 (8 : Int32)).bind (fun r71 => (rdA r62 82 ((90 : Int32) + v5)).bind (fun r81 => if r71 = r81 then (f_X9_check_L93 (f_X9_check_L48  v1 v2 v3 n) v1 v2 v3 v5 (0 : Int32) r62) else f_X9_check_L93 (f_X9_check_L48  v1 v2 v3 n) v1 v2 v3 v5 ((1 : Int32) + v5) r62)))) else (f_X9_copies σ 83 82).bind (fun r109 => some (v4, r109))
set_option maxRecDepth 100000 in
def f_X9_check (σ : Sto) (a1 : Int32) (a2 : Int32) : Option (Int32 × Sto) := (rdA σ 82 (15 : Int32)).bind (fun r6 => (wrA σ 82 (15 : Int32) (0 : Int32)).bind (fun σ15 => (f_X9_areUnlike σ15 a1 a2).bind (fun r19 => if r19 = true then ((f_X9_copies σ15 82 83).bind (fun r42 => f_X9_check_L48  a1 a2 r6 FU (0 : Int32) (0 : Int32) r42)) else (f_X9_finds σ15 (1 : Int32)).bind (fun r27 => some (r27.1, r27.2)))))
set_option maxRecDepth 100000 in
def f_X9_count (σ : Sto) (a1 : Int32) : Option (Int32 × Sto) := if a1 = (0 : Int32) then ((rdA σ 82 (11 : Int32)).bind (fun r66 => some (r66, σ))) else if a1 = (1 : Int32) then ((rdA σ 82 (12 : Int32)).bind (fun r74 => some (r74, σ))) else if a1 = (2 : Int32) then ((rdA σ 82 (8 : Int32)).bind (fun r82 => some (r82, σ))) else if a1 = (3 : Int32) then ((rdA σ 82 (9 : Int32)).bind (fun r90 => some (r90, σ))) else if a1 = (4 : Int32) then ((rdA σ 82 (10 : Int32)).bind (fun r98 => some (r98, σ))) else if a1 = (5 : Int32) then ((rdA σ 82 (6 : Int32)).bind (fun r106 => some (r106, σ))) else if a1 = (6 : Int32) then ((rdA σ 82 (7 : Int32)).bind (fun r114 => some (r114, σ))) else if a1 = (7 : Int32) then ((rdA σ 82 (14 : Int32)).bind (fun r122 => some (r122, σ))) else if a1 = (8 : Int32) then ((rdA σ 82 (15 : Int32)).bind (fun r130 => some (r130, σ))) else if a1 = (9 : Int32) then (some ((σ.1 81 18), σ)) else if a1 = (10 : Int32) then ((rdA σ 82 (13 : Int32)).bind (fun r143 => some (r143, σ))) else (f_X9_finds σ (1 : Int32)).bind (fun r147 => some (r147.1, r147.2))
set_option maxRecDepth 100000 in
def f_X9_told (σ : Sto) (a1 : Int32) : Option (Int32 × Sto) := (f_X9_in (Int32.toInt64 a1) (1 : Int64) (5 : Int64)).bind (fun r6 => if r6 = true then ((rdA σ 85 a1).bind (fun r17 => some (r17, σ))) else (f_X9_finds σ (1 : Int32)).bind (fun r23 => some (r23.1, r23.2)))
end
section
theorem cw_ixS : CalW yJ0_indexOf_0f7a4 cJ0_indexOf_0f7a4 2 (some .int) 1 := ⟨q_501, q_13, by decide +kernel⟩
theorem c_ixS (l : Launch) (G : GT) (σ : Sto) (i : Nat) (ch : Int32) (r : Int32) (hi : i < 3) (h : f_ixS i ch = some r) : MW l G (8) (400) 0 0 yJ0_indexOf_0f7a4 cJ0_indexOf_0f7a4 2 (some .int) [.ref (gad G (1003 + i)), .int ch] (wl G σ) (some (.int r)) (wl G σ) := by sorry
end
section
set_option maxRecDepth 20000 in
theorem dX8_isOutside_0 : decode cX8_isOutside 0 = .ok (.iload_n 0, 1) := by decide +kernel
set_option maxRecDepth 20000 in
theorem dX8_isOutside_1 : decode cX8_isOutside 1 = .ok (.iload_n 1, 1) := by decide +kernel
set_option maxRecDepth 20000 in
theorem dX8_isOutside_2 : decode cX8_isOutside 2 = .ok (.if_icmp .lt 8, 3) := by decide +kernel
set_option maxRecDepth 20000 in
theorem dX8_isOutside_5 : decode cX8_isOutside 5 = .ok (.iload_n 0, 1) := by decide +kernel
set_option maxRecDepth 20000 in
theorem dX8_isOutside_6 : decode cX8_isOutside 6 = .ok (.iload_n 2, 1) := by decide +kernel
set_option maxRecDepth 20000 in
theorem dX8_isOutside_7 : decode cX8_isOutside 7 = .ok (.if_icmp .le 7, 3) := by decide +kernel
set_option maxRecDepth 20000 in
theorem dX8_isOutside_10 : decode cX8_isOutside 10 = .ok (.iconst 1, 1) := by decide +kernel
set_option maxRecDepth 20000 in
theorem dX8_isOutside_11 : decode cX8_isOutside 11 = .ok (.goto 4, 3) := by decide +kernel
set_option maxRecDepth 20000 in
theorem dX8_isOutside_14 : decode cX8_isOutside 14 = .ok (.iconst 0, 1) := by decide +kernel
set_option maxRecDepth 20000 in
theorem dX8_isOutside_15 : decode cX8_isOutside 15 = .ok (.ireturn, 1) := by decide +kernel
set_option maxHeartbeats 4000000 in
set_option maxRecDepth 100000 in
theorem c_X8_isOutside (l : Launch) (G : GT) (σ : Sto) (a0 : Int32) (a1 : Int32) (a2 : Int32) (r : Bool) (h : f_X8_isOutside a0 a1 a2 = some r) : MW l G (2) (64) 0 0 yX8_isOutside cX8_isOutside 3 (Option.some Jvm.ClassFile.FieldType.boolean) [.int a0, .int a1, .int a2] (wl G σ) (some (.int (b2i r))) (wl G σ) := by
  refine mw_of RX8 (fpZ G σ) [(0, .int a0), (1, .int a1), (2, .int a2)] (by decide +kernel) rfl (Nat.le_of_ble_eq_true rfl) rfl h rfl (fun p e s m args below meth c X hr hnm => ?_)
  have J10 : ∀ (_ : Unit), Sm p l e { frames := 2, cells := 0, slots := 0, locals := 64 } s m args below meth c G 3 (Qm below args s G 0 0 (fpZ G σ)) 0 0 (wl G σ) 10 [] [] (f_X8_isOutside_L10  ) := by
    intro _
    rw [f_X8_isOutside_L10]
    refine sm_iconst X 11 (1) dX8_isOutside_10 rfl rfl ?_
    refine sm_goto X 15 dX8_isOutside_11 (by decide) ?_
    exact sm_zret X (v := true) hr dX8_isOutside_15 rfl
  unfold f_X8_isOutside
  refine sm_iload_n X 1 0 dX8_isOutside_0 rfl rfl rfl ?_
  refine sm_iload_n X 2 1 dX8_isOutside_1 rfl rfl rfl ?_
  refine sm_icmp_lt X 5 10 dX8_isOutside_2 rfl (by decide) (fun h2 => ?_) (fun h2 => ?_)
  · exact sm_sub [] rfl (J10 ())
  · refine sm_iload_n X 6 0 dX8_isOutside_5 rfl rfl rfl ?_
    refine sm_iload_n X 7 2 dX8_isOutside_6 rfl rfl rfl ?_
    refine sm_icmp_le X 10 14 dX8_isOutside_7 rfl (by decide) (fun h7 => ?_) (fun h7 => ?_)
    · refine sm_iconst X 15 (0) dX8_isOutside_14 rfl rfl ?_
      exact sm_zret X (v := false) hr dX8_isOutside_15 rfl
    · exact sm_sub [] rfl (J10 ())
set_option maxRecDepth 20000 in
theorem dX0_swimmerAt_0 : decode cX0_swimmerAt 0 = .ok (.iload_n 1, 1) := by decide +kernel
set_option maxRecDepth 20000 in
theorem dX0_swimmerAt_1 : decode cX0_swimmerAt 1 = .ok (.iconst 0, 1) := by decide +kernel
set_option maxRecDepth 20000 in
theorem dX0_swimmerAt_2 : decode cX0_swimmerAt 2 = .ok (.aload_n 0, 1) := by decide +kernel
set_option maxRecDepth 20000 in
theorem dX0_swimmerAt_3 : decode cX0_swimmerAt 3 = .ok (.getfield 40, 3) := by decide +kernel
set_option maxRecDepth 20000 in
theorem dX0_swimmerAt_6 : decode cX0_swimmerAt 6 = .ok (.iconst 1, 1) := by decide +kernel
set_option maxRecDepth 20000 in
theorem dX0_swimmerAt_7 : decode cX0_swimmerAt 7 = .ok (.isub, 1) := by decide +kernel
set_option maxRecDepth 20000 in
theorem dX0_swimmerAt_8 : decode cX0_swimmerAt 8 = .ok (.invokestatic 71, 3) := by decide +kernel
set_option maxRecDepth 20000 in
theorem dX0_swimmerAt_11 : decode cX0_swimmerAt 11 = .ok (.ifCond .ne 12, 3) := by decide +kernel
set_option maxRecDepth 20000 in
theorem dX0_swimmerAt_14 : decode cX0_swimmerAt 14 = .ok (.iload_n 1, 1) := by decide +kernel
set_option maxRecDepth 20000 in
theorem dX0_swimmerAt_15 : decode cX0_swimmerAt 15 = .ok (.aload_n 0, 1) := by decide +kernel
set_option maxRecDepth 20000 in
theorem dX0_swimmerAt_16 : decode cX0_swimmerAt 16 = .ok (.getfield 36, 3) := by decide +kernel
set_option maxRecDepth 20000 in
theorem dX0_swimmerAt_19 : decode cX0_swimmerAt 19 = .ok (.arraylength, 1) := by decide +kernel
set_option maxRecDepth 20000 in
theorem dX0_swimmerAt_20 : decode cX0_swimmerAt 20 = .ok (.if_icmp .lt 5, 3) := by decide +kernel
set_option maxRecDepth 20000 in
theorem dX0_swimmerAt_23 : decode cX0_swimmerAt 23 = .ok (.aconst_null, 1) := by decide +kernel
set_option maxRecDepth 20000 in
theorem dX0_swimmerAt_24 : decode cX0_swimmerAt 24 = .ok (.areturn, 1) := by decide +kernel
set_option maxRecDepth 20000 in
theorem dX0_swimmerAt_25 : decode cX0_swimmerAt 25 = .ok (.aload_n 0, 1) := by decide +kernel
set_option maxRecDepth 20000 in
theorem dX0_swimmerAt_26 : decode cX0_swimmerAt 26 = .ok (.getfield 36, 3) := by decide +kernel
set_option maxRecDepth 20000 in
theorem dX0_swimmerAt_29 : decode cX0_swimmerAt 29 = .ok (.iload_n 1, 1) := by decide +kernel
set_option maxRecDepth 20000 in
theorem dX0_swimmerAt_30 : decode cX0_swimmerAt 30 = .ok (.aaload, 1) := by decide +kernel
set_option maxRecDepth 20000 in
theorem dX0_swimmerAt_31 : decode cX0_swimmerAt 31 = .ok (.areturn, 1) := by decide +kernel
set_option maxHeartbeats 4000000 in
set_option maxRecDepth 100000 in
theorem c_X0_swimmerAt (l : Launch) (G : GT) (σ : Sto) (k0 : Nat) (hk0 : K0 k0 = 0) (a1 : Int32) (r : (Option Nat)) (h : f_X0_swimmerAt σ k0 a1 = some r) : MW l G (3) (86) 0 0 yX0_swimmerAt cX0_swimmerAt 2 (Option.some (Jvm.ClassFile.FieldType.object RX6)) [.ref (gad G k0), .int a1] (wl G σ) (some (va_re (gad G) r)) (wl G σ) := by
  refine mw_of RX0 (fpR G σ) [(0, .ref (gad G k0)), (1, .int a1)] (by decide +kernel) rfl (Nat.le_of_ble_eq_true rfl) rfl h rfl (fun p e s m args below meth c X hr hnm => ?_)
  unfold f_X0_swimmerAt
  refine sm_iload_n X 1 1 dX0_swimmerAt_0 rfl rfl rfl ?_
  refine sm_iconst X 2 (0) dX0_swimmerAt_1 rfl rfl ?_
  refine sm_aload_n X 3 0 dX0_swimmerAt_2 rfl rfl rfl ?_
  refine sm_geti X 6 hk0 fd_0_8 dX0_swimmerAt_3 rfl q_104 ?_
  refine sm_iconst X 7 (1) dX0_swimmerAt_6 rfl rfl ?_
  refine sm_isub X 8 dX0_swimmerAt_7 rfl ?_
  refine sm_bind (fun r8 h8 => ?_)
  refine sm_callSN0 X 11 (host := RX8) [.int a1, .int 0, .int ((σ.1 k0 8) - (1 : Int32))] [] [.int (b2i r8)] (c_X8_isOutside l G σ a1 (0 : Int32) ((σ.1 k0 8) - (1 : Int32)) r8 h8) cw_X8_isOutside q_328 (by simp [NW]) rfl rfl rfl (Nat.le_of_ble_eq_true rfl) ⟨Nat.le_of_ble_eq_true rfl, Nat.le_of_ble_eq_true rfl⟩ ⟨Nat.le_refl _, Nat.le_refl _⟩ dX0_swimmerAt_8 rfl ?_
  refine sm_ifz_ne X 14 23 dX0_swimmerAt_11 rfl (by decide) (fun h11 => ?_) (fun h11 => ?_)
  · refine sm_null X 24 dX0_swimmerAt_23 rfl ?_
    exact sm_aret X (r := none) hr dX0_swimmerAt_24 rfl
  · refine sm_iload_n X 15 1 dX0_swimmerAt_14 rfl rfl rfl ?_
    refine sm_aload_n X 16 0 dX0_swimmerAt_15 rfl rfl rfl ?_
    refine sm_getf X 19 (A0 k0 7) hk0 fd_0_7 (fr_0_7 hk0).1 dX0_swimmerAt_16 rfl q_103 ?_
    refine sm_alen X 20 8 (Or.inr (Or.inl ((fr_0_7 hk0).2.1))) (by rw [(fr_0_7 hk0).2.2]; rfl) dX0_swimmerAt_19 rfl ?_
    refine sm_icmp_lt X 23 25 dX0_swimmerAt_20 rfl (by decide) (fun h20 => ?_) (fun h20 => ?_)
    · refine sm_aload_n X 26 0 dX0_swimmerAt_25 rfl rfl rfl ?_
      refine sm_getf X 29 (A0 k0 7) hk0 fd_0_7 (fr_0_7 hk0).1 dX0_swimmerAt_26 rfl q_103 ?_
      refine sm_iload_n X 30 1 dX0_swimmerAt_29 rfl rfl rfl ?_
      refine sm_aald X 31 (Or.inl ((fr_0_7 hk0).2.1)) dX0_swimmerAt_30 rfl (fun r30 e30 => ?_)
      clear e30
      exact sm_aret X (r := r30) hr dX0_swimmerAt_31 rfl
    · refine sm_null X 24 dX0_swimmerAt_23 rfl ?_
      exact sm_aret X (r := none) hr dX0_swimmerAt_24 rfl
set_option maxRecDepth 20000 in
theorem dX0_lawOf_0 : decode cX0_lawOf 0 = .ok (.iload_n 1, 1) := by decide +kernel
set_option maxRecDepth 20000 in
theorem dX0_lawOf_1 : decode cX0_lawOf 1 = .ok (.ifCond .ne 8, 3) := by decide +kernel
set_option maxRecDepth 20000 in
theorem dX0_lawOf_4 : decode cX0_lawOf 4 = .ok (.aload_n 0, 1) := by decide +kernel
set_option maxRecDepth 20000 in
theorem dX0_lawOf_5 : decode cX0_lawOf 5 = .ok (.getfield 48, 3) := by decide +kernel
set_option maxRecDepth 20000 in
theorem dX0_lawOf_8 : decode cX0_lawOf 8 = .ok (.areturn, 1) := by decide +kernel
set_option maxRecDepth 20000 in
theorem dX0_lawOf_9 : decode cX0_lawOf 9 = .ok (.iload_n 1, 1) := by decide +kernel
set_option maxRecDepth 20000 in
theorem dX0_lawOf_10 : decode cX0_lawOf 10 = .ok (.iconst 1, 1) := by decide +kernel
set_option maxRecDepth 20000 in
theorem dX0_lawOf_11 : decode cX0_lawOf 11 = .ok (.if_icmp .ne 10, 3) := by decide +kernel
set_option maxRecDepth 20000 in
theorem dX0_lawOf_14 : decode cX0_lawOf 14 = .ok (.aload_n 0, 1) := by decide +kernel
set_option maxRecDepth 20000 in
theorem dX0_lawOf_15 : decode cX0_lawOf 15 = .ok (.getfield 52, 3) := by decide +kernel
set_option maxRecDepth 20000 in
theorem dX0_lawOf_18 : decode cX0_lawOf 18 = .ok (.goto 4, 3) := by decide +kernel
set_option maxRecDepth 20000 in
theorem dX0_lawOf_21 : decode cX0_lawOf 21 = .ok (.aconst_null, 1) := by decide +kernel
set_option maxRecDepth 20000 in
theorem dX0_lawOf_22 : decode cX0_lawOf 22 = .ok (.areturn, 1) := by decide +kernel
set_option maxHeartbeats 4000000 in
set_option maxRecDepth 100000 in
theorem c_X0_lawOf (l : Launch) (G : GT) (σ : Sto) (k0 : Nat) (hk0 : K0 k0 = 0) (a1 : Int32) (r : (Option Nat)) (h : f_X0_lawOf σ k0 a1 = some r) : MW l G (2) (64) 0 0 yX0_lawOf cX0_lawOf 2 (Option.some (Jvm.ClassFile.FieldType.object RX1)) [.ref (gad G k0), .int a1] (wl G σ) (some (va_re (gad G) r)) (wl G σ) := by
  refine mw_of RX0 (fpR G σ) [(0, .ref (gad G k0)), (1, .int a1)] (by decide +kernel) rfl (Nat.le_of_ble_eq_true rfl) rfl h rfl (fun p e s m args below meth c X hr hnm => ?_)
  unfold f_X0_lawOf
  refine sm_iload_n X 1 1 dX0_lawOf_0 rfl rfl rfl ?_
  refine sm_if_ne X 4 9 dX0_lawOf_1 rfl (by decide) (fun h1 => ?_) (fun h1 => ?_)
  · refine sm_aload_n X 5 0 dX0_lawOf_4 rfl rfl rfl ?_
    refine sm_getf X 8 (A0 k0 9) hk0 fd_0_9 (fr_0_9 hk0).1 dX0_lawOf_5 rfl q_106 ?_
    exact sm_aret X (r := (some (A0 k0 9))) hr dX0_lawOf_8 rfl
  · refine sm_iload_n X 10 1 dX0_lawOf_9 rfl rfl rfl ?_
    refine sm_iconst X 11 (1) dX0_lawOf_10 rfl rfl ?_
    refine sm_icmp_ne X 14 21 dX0_lawOf_11 rfl (by decide) (fun h11 => ?_) (fun h11 => ?_)
    · refine sm_aload_n X 15 0 dX0_lawOf_14 rfl rfl rfl ?_
      refine sm_getf X 18 (A0 k0 10) hk0 fd_0_10 (fr_0_10 hk0).1 dX0_lawOf_15 rfl q_107 ?_
      refine sm_goto X 22 dX0_lawOf_18 (by decide) ?_
      exact sm_aret X (r := (some (A0 k0 10))) hr dX0_lawOf_22 rfl
    · refine sm_null X 22 dX0_lawOf_21 rfl ?_
      exact sm_aret X (r := none) hr dX0_lawOf_22 rfl
set_option maxRecDepth 20000 in
theorem dX1_valueOf_0 : decode cX1_valueOf 0 = .ok (.iload_n 0, 1) := by decide +kernel
set_option maxRecDepth 20000 in
theorem dX1_valueOf_1 : decode cX1_valueOf 1 = .ok (.tableswitch 33 (-3) (-1) #[31, 29, 27], 27) := by decide +kernel
set_option maxRecDepth 20000 in
theorem dX1_valueOf_28 : decode cX1_valueOf 28 = .ok (.iload_n 1, 1) := by decide +kernel
set_option maxRecDepth 20000 in
theorem dX1_valueOf_29 : decode cX1_valueOf 29 = .ok (.ireturn, 1) := by decide +kernel
set_option maxRecDepth 20000 in
theorem dX1_valueOf_30 : decode cX1_valueOf 30 = .ok (.iload_n 2, 1) := by decide +kernel
set_option maxRecDepth 20000 in
theorem dX1_valueOf_31 : decode cX1_valueOf 31 = .ok (.ireturn, 1) := by decide +kernel
set_option maxRecDepth 20000 in
theorem dX1_valueOf_32 : decode cX1_valueOf 32 = .ok (.iload_n 3, 1) := by decide +kernel
set_option maxRecDepth 20000 in
theorem dX1_valueOf_33 : decode cX1_valueOf 33 = .ok (.ireturn, 1) := by decide +kernel
set_option maxRecDepth 20000 in
theorem dX1_valueOf_34 : decode cX1_valueOf 34 = .ok (.iload_n 0, 1) := by decide +kernel
set_option maxRecDepth 20000 in
theorem dX1_valueOf_35 : decode cX1_valueOf 35 = .ok (.ireturn, 1) := by decide +kernel
set_option maxHeartbeats 4000000 in
set_option maxRecDepth 100000 in
theorem c_X1_valueOf (l : Launch) (G : GT) (σ : Sto) (a0 : Int32) (a1 : Int32) (a2 : Int32) (a3 : Int32) (r : Int32) (h : f_X1_valueOf a0 a1 a2 a3 = some r) : MW l G (2) (64) 0 0 yX1_valueOf cX1_valueOf 4 (Option.some Jvm.ClassFile.FieldType.int) [.int a0, .int a1, .int a2, .int a3] (wl G σ) (some (.int r)) (wl G σ) := by
  refine mw_of RX1 (fpI G σ) [(0, .int a0), (1, .int a1), (2, .int a2), (3, .int a3)] (by decide +kernel) rfl (Nat.le_of_ble_eq_true rfl) rfl h rfl (fun p e s m args below meth c X hr hnm => ?_)
  unfold f_X1_valueOf
  refine sm_iload_n X 1 0 dX1_valueOf_0 rfl rfl rfl ?_
  refine sm_if (fun h1_0 => ?_) (fun h1_0 => ?_)
  · refine sm_table X 32 dX1_valueOf_1 (by rw [h1_0]; decide) (by rw [h1_0]; decide) (by first | (rw [h1_0]; done) | (rw [h1_0]; rfl)) (by decide) ?_
    refine sm_iload_n X 33 3 dX1_valueOf_32 rfl rfl rfl ?_
    exact sm_iret X hr dX1_valueOf_33 rfl
  refine sm_if (fun h1_1 => ?_) (fun h1_1 => ?_)
  · refine sm_table X 30 dX1_valueOf_1 (by rw [h1_1]; decide) (by rw [h1_1]; decide) (by first | (rw [h1_1]; done) | (rw [h1_1]; rfl)) (by decide) ?_
    refine sm_iload_n X 31 2 dX1_valueOf_30 rfl rfl rfl ?_
    exact sm_iret X hr dX1_valueOf_31 rfl
  refine sm_if (fun h1_2 => ?_) (fun h1_2 => ?_)
  · refine sm_table X 28 dX1_valueOf_1 (by rw [h1_2]; decide) (by rw [h1_2]; decide) (by first | (rw [h1_2]; done) | (rw [h1_2]; rfl)) (by decide) ?_
    refine sm_iload_n X 29 1 dX1_valueOf_28 rfl rfl rfl ?_
    exact sm_iret X hr dX1_valueOf_29 rfl
  have q0 : ¬ (a0).toInt = (-3) := ne_toInt h1_0
  have q1 : ¬ (a0).toInt = (-2) := ne_toInt h1_1
  have q2 : ¬ (a0).toInt = (-1) := ne_toInt h1_2
  refine sm_tableD X 34 dX1_valueOf_1 (by omega) (by decide) ?_
  refine sm_iload_n X 35 0 dX1_valueOf_34 rfl rfl rfl ?_
  exact sm_iret X hr dX1_valueOf_35 rfl
set_option maxRecDepth 20000 in
theorem dX1_joined_0 : decode cX1_joined 0 = .ok (.iload_n 0, 1) := by decide +kernel
set_option maxRecDepth 20000 in
theorem dX1_joined_1 : decode cX1_joined 1 = .ok (.lookupswitch 168 #[(-124, 83), (-62, 133), (-61, 122), (-60, 111), (-47, 156), (-45, 148), (-43, 144), (-42, 152), (-38, 97)], 83) := by decide +kernel
set_option maxRecDepth 20000 in
theorem dX1_joined_84 : decode cX1_joined 84 = .ok (.iload_n 1, 1) := by decide +kernel
set_option maxRecDepth 20000 in
theorem dX1_joined_85 : decode cX1_joined 85 = .ok (.ifCond .ne 7, 3) := by decide +kernel
set_option maxRecDepth 20000 in
theorem dX1_joined_88 : decode cX1_joined 88 = .ok (.iload_n 2, 1) := by decide +kernel
set_option maxRecDepth 20000 in
theorem dX1_joined_89 : decode cX1_joined 89 = .ok (.ifCond .eq 7, 3) := by decide +kernel
set_option maxRecDepth 20000 in
theorem dX1_joined_92 : decode cX1_joined 92 = .ok (.iconst 1, 1) := by decide +kernel
set_option maxRecDepth 20000 in
theorem dX1_joined_93 : decode cX1_joined 93 = .ok (.goto 4, 3) := by decide +kernel
set_option maxRecDepth 20000 in
theorem dX1_joined_96 : decode cX1_joined 96 = .ok (.iconst 0, 1) := by decide +kernel
set_option maxRecDepth 20000 in
theorem dX1_joined_97 : decode cX1_joined 97 = .ok (.ireturn, 1) := by decide +kernel
set_option maxRecDepth 20000 in
theorem dX1_joined_98 : decode cX1_joined 98 = .ok (.iload_n 1, 1) := by decide +kernel
set_option maxRecDepth 20000 in
theorem dX1_joined_99 : decode cX1_joined 99 = .ok (.ifCond .eq 11, 3) := by decide +kernel
set_option maxRecDepth 20000 in
theorem dX1_joined_102 : decode cX1_joined 102 = .ok (.iload_n 2, 1) := by decide +kernel
set_option maxRecDepth 20000 in
theorem dX1_joined_103 : decode cX1_joined 103 = .ok (.ifCond .eq 7, 3) := by decide +kernel
set_option maxRecDepth 20000 in
theorem dX1_joined_106 : decode cX1_joined 106 = .ok (.iconst 1, 1) := by decide +kernel
set_option maxRecDepth 20000 in
theorem dX1_joined_107 : decode cX1_joined 107 = .ok (.goto 4, 3) := by decide +kernel
set_option maxRecDepth 20000 in
theorem dX1_joined_110 : decode cX1_joined 110 = .ok (.iconst 0, 1) := by decide +kernel
set_option maxRecDepth 20000 in
theorem dX1_joined_111 : decode cX1_joined 111 = .ok (.ireturn, 1) := by decide +kernel
set_option maxRecDepth 20000 in
theorem dX1_joined_112 : decode cX1_joined 112 = .ok (.iload_n 1, 1) := by decide +kernel
set_option maxRecDepth 20000 in
theorem dX1_joined_113 : decode cX1_joined 113 = .ok (.iload_n 2, 1) := by decide +kernel
set_option maxRecDepth 20000 in
theorem dX1_joined_114 : decode cX1_joined 114 = .ok (.if_icmp .ge 7, 3) := by decide +kernel
set_option maxRecDepth 20000 in
theorem dX1_joined_117 : decode cX1_joined 117 = .ok (.iconst 1, 1) := by decide +kernel
set_option maxRecDepth 20000 in
theorem dX1_joined_118 : decode cX1_joined 118 = .ok (.goto 4, 3) := by decide +kernel
set_option maxRecDepth 20000 in
theorem dX1_joined_121 : decode cX1_joined 121 = .ok (.iconst 0, 1) := by decide +kernel
set_option maxRecDepth 20000 in
theorem dX1_joined_122 : decode cX1_joined 122 = .ok (.ireturn, 1) := by decide +kernel
set_option maxRecDepth 20000 in
theorem dX1_joined_123 : decode cX1_joined 123 = .ok (.iload_n 1, 1) := by decide +kernel
set_option maxRecDepth 20000 in
theorem dX1_joined_124 : decode cX1_joined 124 = .ok (.iload_n 2, 1) := by decide +kernel
set_option maxRecDepth 20000 in
theorem dX1_joined_125 : decode cX1_joined 125 = .ok (.if_icmp .ne 7, 3) := by decide +kernel
set_option maxRecDepth 20000 in
theorem dX1_joined_128 : decode cX1_joined 128 = .ok (.iconst 1, 1) := by decide +kernel
set_option maxRecDepth 20000 in
theorem dX1_joined_129 : decode cX1_joined 129 = .ok (.goto 4, 3) := by decide +kernel
set_option maxRecDepth 20000 in
theorem dX1_joined_132 : decode cX1_joined 132 = .ok (.iconst 0, 1) := by decide +kernel
set_option maxRecDepth 20000 in
theorem dX1_joined_133 : decode cX1_joined 133 = .ok (.ireturn, 1) := by decide +kernel
set_option maxRecDepth 20000 in
theorem dX1_joined_134 : decode cX1_joined 134 = .ok (.iload_n 1, 1) := by decide +kernel
set_option maxRecDepth 20000 in
theorem dX1_joined_135 : decode cX1_joined 135 = .ok (.iload_n 2, 1) := by decide +kernel
set_option maxRecDepth 20000 in
theorem dX1_joined_136 : decode cX1_joined 136 = .ok (.if_icmp .le 7, 3) := by decide +kernel
set_option maxRecDepth 20000 in
theorem dX1_joined_139 : decode cX1_joined 139 = .ok (.iconst 1, 1) := by decide +kernel
set_option maxRecDepth 20000 in
theorem dX1_joined_140 : decode cX1_joined 140 = .ok (.goto 4, 3) := by decide +kernel
set_option maxRecDepth 20000 in
theorem dX1_joined_143 : decode cX1_joined 143 = .ok (.iconst 0, 1) := by decide +kernel
set_option maxRecDepth 20000 in
theorem dX1_joined_144 : decode cX1_joined 144 = .ok (.ireturn, 1) := by decide +kernel
set_option maxRecDepth 20000 in
theorem dX1_joined_145 : decode cX1_joined 145 = .ok (.iload_n 1, 1) := by decide +kernel
set_option maxRecDepth 20000 in
theorem dX1_joined_146 : decode cX1_joined 146 = .ok (.iload_n 2, 1) := by decide +kernel
set_option maxRecDepth 20000 in
theorem dX1_joined_147 : decode cX1_joined 147 = .ok (.iadd, 1) := by decide +kernel
set_option maxRecDepth 20000 in
theorem dX1_joined_148 : decode cX1_joined 148 = .ok (.ireturn, 1) := by decide +kernel
set_option maxRecDepth 20000 in
theorem dX1_joined_149 : decode cX1_joined 149 = .ok (.iload_n 1, 1) := by decide +kernel
set_option maxRecDepth 20000 in
theorem dX1_joined_150 : decode cX1_joined 150 = .ok (.iload_n 2, 1) := by decide +kernel
set_option maxRecDepth 20000 in
theorem dX1_joined_151 : decode cX1_joined 151 = .ok (.isub, 1) := by decide +kernel
set_option maxRecDepth 20000 in
theorem dX1_joined_152 : decode cX1_joined 152 = .ok (.ireturn, 1) := by decide +kernel
set_option maxRecDepth 20000 in
theorem dX1_joined_153 : decode cX1_joined 153 = .ok (.iload_n 1, 1) := by decide +kernel
set_option maxRecDepth 20000 in
theorem dX1_joined_154 : decode cX1_joined 154 = .ok (.iload_n 2, 1) := by decide +kernel
set_option maxRecDepth 20000 in
theorem dX1_joined_155 : decode cX1_joined 155 = .ok (.imul, 1) := by decide +kernel
set_option maxRecDepth 20000 in
theorem dX1_joined_156 : decode cX1_joined 156 = .ok (.ireturn, 1) := by decide +kernel
set_option maxRecDepth 20000 in
theorem dX1_joined_157 : decode cX1_joined 157 = .ok (.iload_n 2, 1) := by decide +kernel
set_option maxRecDepth 20000 in
theorem dX1_joined_158 : decode cX1_joined 158 = .ok (.ifCond .ne 7, 3) := by decide +kernel
set_option maxRecDepth 20000 in
theorem dX1_joined_161 : decode cX1_joined 161 = .ok (.iconst 0, 1) := by decide +kernel
set_option maxRecDepth 20000 in
theorem dX1_joined_162 : decode cX1_joined 162 = .ok (.goto 6, 3) := by decide +kernel
set_option maxRecDepth 20000 in
theorem dX1_joined_165 : decode cX1_joined 165 = .ok (.iload_n 1, 1) := by decide +kernel
set_option maxRecDepth 20000 in
theorem dX1_joined_166 : decode cX1_joined 166 = .ok (.iload_n 2, 1) := by decide +kernel
set_option maxRecDepth 20000 in
theorem dX1_joined_167 : decode cX1_joined 167 = .ok (.idiv, 1) := by decide +kernel
set_option maxRecDepth 20000 in
theorem dX1_joined_168 : decode cX1_joined 168 = .ok (.ireturn, 1) := by decide +kernel
set_option maxRecDepth 20000 in
theorem dX1_joined_169 : decode cX1_joined 169 = .ok (.iload_n 2, 1) := by decide +kernel
set_option maxRecDepth 20000 in
theorem dX1_joined_170 : decode cX1_joined 170 = .ok (.ifCond .ne 7, 3) := by decide +kernel
set_option maxRecDepth 20000 in
theorem dX1_joined_173 : decode cX1_joined 173 = .ok (.iconst 0, 1) := by decide +kernel
set_option maxRecDepth 20000 in
theorem dX1_joined_174 : decode cX1_joined 174 = .ok (.goto 6, 3) := by decide +kernel
set_option maxRecDepth 20000 in
theorem dX1_joined_177 : decode cX1_joined 177 = .ok (.iload_n 1, 1) := by decide +kernel
set_option maxRecDepth 20000 in
theorem dX1_joined_178 : decode cX1_joined 178 = .ok (.iload_n 2, 1) := by decide +kernel
set_option maxRecDepth 20000 in
theorem dX1_joined_179 : decode cX1_joined 179 = .ok (.irem, 1) := by decide +kernel
set_option maxRecDepth 20000 in
theorem dX1_joined_180 : decode cX1_joined 180 = .ok (.ireturn, 1) := by decide +kernel
set_option maxHeartbeats 4000000 in
set_option maxRecDepth 100000 in
theorem c_X1_joined (l : Launch) (G : GT) (σ : Sto) (a0 : Int32) (a1 : Int32) (a2 : Int32) (r : Int32) (h : f_X1_joined a0 a1 a2 = some r) : MW l G (2) (64) 0 0 yX1_joined cX1_joined 3 (Option.some Jvm.ClassFile.FieldType.int) [.int a0, .int a1, .int a2] (wl G σ) (some (.int r)) (wl G σ) := by
  refine mw_of RX1 (fpI G σ) [(0, .int a0), (1, .int a1), (2, .int a2)] (by decide +kernel) rfl (Nat.le_of_ble_eq_true rfl) rfl h rfl (fun p e s m args below meth c X hr hnm => ?_)
  have J92 : ∀ (_ : Unit), Sm p l e { frames := 2, cells := 0, slots := 0, locals := 64 } s m args below meth c G 3 (Qm below args s G 0 0 (fpI G σ)) 0 0 (wl G σ) 92 [] [] (f_X1_joined_L92  ) := by
    intro _
    rw [f_X1_joined_L92]
    refine sm_iconst X 93 (1) dX1_joined_92 rfl rfl ?_
    refine sm_goto X 97 dX1_joined_93 (by decide) ?_
    exact sm_iret X hr dX1_joined_97 rfl
  unfold f_X1_joined
  refine sm_iload_n X 1 0 dX1_joined_0 rfl rfl rfl ?_
  refine sm_if (fun h1_0 => ?_) (fun h1_0 => ?_)
  · refine sm_lookup X 84 dX1_joined_1 (by decide) (by first | (rw [h1_0]; done) | (rw [h1_0]; rfl)) (by decide) ?_
    refine sm_iload_n X 85 1 dX1_joined_84 rfl rfl rfl ?_
    refine sm_if_ne X 88 92 dX1_joined_85 rfl (by decide) (fun h85 => ?_) (fun h85 => ?_)
    · refine sm_iload_n X 89 2 dX1_joined_88 rfl rfl rfl ?_
      refine sm_if_eq X 92 96 dX1_joined_89 rfl (by decide) (fun h89 => ?_) (fun h89 => ?_)
      · refine sm_iconst X 97 (0) dX1_joined_96 rfl rfl ?_
        exact sm_iret X hr dX1_joined_97 rfl
      · exact sm_sub [] rfl (J92 ())
    · exact sm_sub [] rfl (J92 ())
  refine sm_if (fun h1_1 => ?_) (fun h1_1 => ?_)
  · refine sm_lookup X 134 dX1_joined_1 (by decide) (by first | (rw [h1_1]; done) | (rw [h1_1]; rfl)) (by decide) ?_
    refine sm_iload_n X 135 1 dX1_joined_134 rfl rfl rfl ?_
    refine sm_iload_n X 136 2 dX1_joined_135 rfl rfl rfl ?_
    refine sm_icmp_le X 139 143 dX1_joined_136 rfl (by decide) (fun h136 => ?_) (fun h136 => ?_)
    · refine sm_iconst X 144 (0) dX1_joined_143 rfl rfl ?_
      exact sm_iret X hr dX1_joined_144 rfl
    · refine sm_iconst X 140 (1) dX1_joined_139 rfl rfl ?_
      refine sm_goto X 144 dX1_joined_140 (by decide) ?_
      exact sm_iret X hr dX1_joined_144 rfl
  refine sm_if (fun h1_2 => ?_) (fun h1_2 => ?_)
  · refine sm_lookup X 123 dX1_joined_1 (by decide) (by first | (rw [h1_2]; done) | (rw [h1_2]; rfl)) (by decide) ?_
    refine sm_iload_n X 124 1 dX1_joined_123 rfl rfl rfl ?_
    refine sm_iload_n X 125 2 dX1_joined_124 rfl rfl rfl ?_
    refine sm_icmp_ne X 128 132 dX1_joined_125 rfl (by decide) (fun h125 => ?_) (fun h125 => ?_)
    · refine sm_iconst X 129 (1) dX1_joined_128 rfl rfl ?_
      refine sm_goto X 133 dX1_joined_129 (by decide) ?_
      exact sm_iret X hr dX1_joined_133 rfl
    · refine sm_iconst X 133 (0) dX1_joined_132 rfl rfl ?_
      exact sm_iret X hr dX1_joined_133 rfl
  refine sm_if (fun h1_3 => ?_) (fun h1_3 => ?_)
  · refine sm_lookup X 112 dX1_joined_1 (by decide) (by first | (rw [h1_3]; done) | (rw [h1_3]; rfl)) (by decide) ?_
    refine sm_iload_n X 113 1 dX1_joined_112 rfl rfl rfl ?_
    refine sm_iload_n X 114 2 dX1_joined_113 rfl rfl rfl ?_
    refine sm_icmp_ge X 117 121 dX1_joined_114 rfl (by decide) (fun h114 => ?_) (fun h114 => ?_)
    · refine sm_iconst X 122 (0) dX1_joined_121 rfl rfl ?_
      exact sm_iret X hr dX1_joined_122 rfl
    · refine sm_iconst X 118 (1) dX1_joined_117 rfl rfl ?_
      refine sm_goto X 122 dX1_joined_118 (by decide) ?_
      exact sm_iret X hr dX1_joined_122 rfl
  refine sm_if (fun h1_4 => ?_) (fun h1_4 => ?_)
  · refine sm_lookup X 157 dX1_joined_1 (by decide) (by first | (rw [h1_4]; done) | (rw [h1_4]; rfl)) (by decide) ?_
    refine sm_iload_n X 158 2 dX1_joined_157 rfl rfl rfl ?_
    refine sm_if_ne X 161 165 dX1_joined_158 rfl (by decide) (fun h158 => ?_) (fun h158 => ?_)
    · refine sm_iconst X 162 (0) dX1_joined_161 rfl rfl ?_
      refine sm_goto X 168 dX1_joined_162 (by decide) ?_
      exact sm_iret X hr dX1_joined_168 rfl
    · refine sm_iload_n X 166 1 dX1_joined_165 rfl rfl rfl ?_
      refine sm_iload_n X 167 2 dX1_joined_166 rfl rfl rfl ?_
      refine sm_idiv X 168 dX1_joined_167 rfl (by first | decide | assumption) ?_
      exact sm_iret X hr dX1_joined_168 rfl
  refine sm_if (fun h1_5 => ?_) (fun h1_5 => ?_)
  · refine sm_lookup X 149 dX1_joined_1 (by decide) (by first | (rw [h1_5]; done) | (rw [h1_5]; rfl)) (by decide) ?_
    refine sm_iload_n X 150 1 dX1_joined_149 rfl rfl rfl ?_
    refine sm_iload_n X 151 2 dX1_joined_150 rfl rfl rfl ?_
    refine sm_isub X 152 dX1_joined_151 rfl ?_
    exact sm_iret X hr dX1_joined_152 rfl
  refine sm_if (fun h1_6 => ?_) (fun h1_6 => ?_)
  · refine sm_lookup X 145 dX1_joined_1 (by decide) (by first | (rw [h1_6]; done) | (rw [h1_6]; rfl)) (by decide) ?_
    refine sm_iload_n X 146 1 dX1_joined_145 rfl rfl rfl ?_
    refine sm_iload_n X 147 2 dX1_joined_146 rfl rfl rfl ?_
    refine sm_iadd X 148 dX1_joined_147 rfl ?_
    exact sm_iret X hr dX1_joined_148 rfl
  refine sm_if (fun h1_7 => ?_) (fun h1_7 => ?_)
  · refine sm_lookup X 153 dX1_joined_1 (by decide) (by first | (rw [h1_7]; done) | (rw [h1_7]; rfl)) (by decide) ?_
    refine sm_iload_n X 154 1 dX1_joined_153 rfl rfl rfl ?_
    refine sm_iload_n X 155 2 dX1_joined_154 rfl rfl rfl ?_
    refine sm_imul X 156 dX1_joined_155 rfl ?_
    exact sm_iret X hr dX1_joined_156 rfl
  refine sm_if (fun h1_8 => ?_) (fun h1_8 => ?_)
  · refine sm_lookup X 98 dX1_joined_1 (by decide) (by first | (rw [h1_8]; done) | (rw [h1_8]; rfl)) (by decide) ?_
    refine sm_iload_n X 99 1 dX1_joined_98 rfl rfl rfl ?_
    refine sm_if_eq X 102 110 dX1_joined_99 rfl (by decide) (fun h99 => ?_) (fun h99 => ?_)
    · refine sm_iconst X 111 (0) dX1_joined_110 rfl rfl ?_
      exact sm_iret X hr dX1_joined_111 rfl
    · refine sm_iload_n X 103 2 dX1_joined_102 rfl rfl rfl ?_
      refine sm_if_eq X 106 110 dX1_joined_103 rfl (by decide) (fun h103 => ?_) (fun h103 => ?_)
      · refine sm_iconst X 111 (0) dX1_joined_110 rfl rfl ?_
        exact sm_iret X hr dX1_joined_111 rfl
      · refine sm_iconst X 107 (1) dX1_joined_106 rfl rfl ?_
        refine sm_goto X 111 dX1_joined_107 (by decide) ?_
        exact sm_iret X hr dX1_joined_111 rfl
  have q0 : ¬ (a0).toInt = (-124) := ne_toInt h1_0
  have q1 : ¬ (a0).toInt = (-62) := ne_toInt h1_1
  have q2 : ¬ (a0).toInt = (-61) := ne_toInt h1_2
  have q3 : ¬ (a0).toInt = (-60) := ne_toInt h1_3
  have q4 : ¬ (a0).toInt = (-47) := ne_toInt h1_4
  have q5 : ¬ (a0).toInt = (-45) := ne_toInt h1_5
  have q6 : ¬ (a0).toInt = (-43) := ne_toInt h1_6
  have q7 : ¬ (a0).toInt = (-42) := ne_toInt h1_7
  have q8 : ¬ (a0).toInt = (-38) := ne_toInt h1_8
  refine sm_lookup X (off := 168) 169 dX1_joined_1 (by decide) (by simp [Op.lookupswitch.offset, q0, Ne.symm q0, q1, Ne.symm q1, q2, Ne.symm q2, q3, Ne.symm q3, q4, Ne.symm q4, q5, Ne.symm q5, q6, Ne.symm q6, q7, Ne.symm q7, q8, Ne.symm q8]) (by decide) ?_
  refine sm_iload_n X 170 2 dX1_joined_169 rfl rfl rfl ?_
  refine sm_if_ne X 173 177 dX1_joined_170 rfl (by decide) (fun h170 => ?_) (fun h170 => ?_)
  · refine sm_iconst X 174 (0) dX1_joined_173 rfl rfl ?_
    refine sm_goto X 180 dX1_joined_174 (by decide) ?_
    exact sm_iret X hr dX1_joined_180 rfl
  · refine sm_iload_n X 178 1 dX1_joined_177 rfl rfl rfl ?_
    refine sm_iload_n X 179 2 dX1_joined_178 rfl rfl rfl ?_
    refine sm_irem X 180 dX1_joined_179 rfl (by first | decide | assumption) ?_
    exact sm_iret X hr dX1_joined_180 rfl
set_option maxRecDepth 20000 in
theorem dX1_workOut_0 : decode cX1_workOut 0 = .ok (.iconst 0, 1) := by decide +kernel
set_option maxRecDepth 20000 in
theorem dX1_workOut_1 : decode cX1_workOut 1 = .ok (.istore 4, 2) := by decide +kernel
set_option maxRecDepth 20000 in
theorem dX1_workOut_3 : decode cX1_workOut 3 = .ok (.iconst 0, 1) := by decide +kernel
set_option maxRecDepth 20000 in
theorem dX1_workOut_4 : decode cX1_workOut 4 = .ok (.istore 5, 2) := by decide +kernel
set_option maxRecDepth 20000 in
theorem dX1_workOut_6 : decode cX1_workOut 6 = .ok (.iload 5, 2) := by decide +kernel
set_option maxRecDepth 20000 in
theorem dX1_workOut_8 : decode cX1_workOut 8 = .ok (.aload_n 0, 1) := by decide +kernel
set_option maxRecDepth 20000 in
theorem dX1_workOut_9 : decode cX1_workOut 9 = .ok (.getfield 18, 3) := by decide +kernel
set_option maxRecDepth 20000 in
theorem dX1_workOut_12 : decode cX1_workOut 12 = .ok (.if_icmp .ge 147, 3) := by decide +kernel
set_option maxRecDepth 20000 in
theorem dX1_workOut_15 : decode cX1_workOut 15 = .ok (.iload 5, 2) := by decide +kernel
set_option maxRecDepth 20000 in
theorem dX1_workOut_17 : decode cX1_workOut 17 = .ok (.aload_n 0, 1) := by decide +kernel
set_option maxRecDepth 20000 in
theorem dX1_workOut_18 : decode cX1_workOut 18 = .ok (.getfield 9, 3) := by decide +kernel
set_option maxRecDepth 20000 in
theorem dX1_workOut_21 : decode cX1_workOut 21 = .ok (.arraylength, 1) := by decide +kernel
set_option maxRecDepth 20000 in
theorem dX1_workOut_22 : decode cX1_workOut 22 = .ok (.if_icmp .ge 137, 3) := by decide +kernel
set_option maxRecDepth 20000 in
theorem dX1_workOut_25 : decode cX1_workOut 25 = .ok (.aload_n 0, 1) := by decide +kernel
set_option maxRecDepth 20000 in
theorem dX1_workOut_26 : decode cX1_workOut 26 = .ok (.getfield 9, 3) := by decide +kernel
set_option maxRecDepth 20000 in
theorem dX1_workOut_29 : decode cX1_workOut 29 = .ok (.iload 5, 2) := by decide +kernel
set_option maxRecDepth 20000 in
theorem dX1_workOut_31 : decode cX1_workOut 31 = .ok (.iaload, 1) := by decide +kernel
set_option maxRecDepth 20000 in
theorem dX1_workOut_32 : decode cX1_workOut 32 = .ok (.istore 6, 2) := by decide +kernel
set_option maxRecDepth 20000 in
theorem dX1_workOut_34 : decode cX1_workOut 34 = .ok (.iload 6, 2) := by decide +kernel
set_option maxRecDepth 20000 in
theorem dX1_workOut_36 : decode cX1_workOut 36 = .ok (.bipush (-33), 2) := by decide +kernel
set_option maxRecDepth 20000 in
theorem dX1_workOut_38 : decode cX1_workOut 38 = .ok (.if_icmp .le 34, 3) := by decide +kernel
set_option maxRecDepth 20000 in
theorem dX1_workOut_41 : decode cX1_workOut 41 = .ok (.iload 4, 2) := by decide +kernel
set_option maxRecDepth 20000 in
theorem dX1_workOut_43 : decode cX1_workOut 43 = .ok (.aload_n 0, 1) := by decide +kernel
set_option maxRecDepth 20000 in
theorem dX1_workOut_44 : decode cX1_workOut 44 = .ok (.getfield 15, 3) := by decide +kernel
set_option maxRecDepth 20000 in
theorem dX1_workOut_47 : decode cX1_workOut 47 = .ok (.arraylength, 1) := by decide +kernel
set_option maxRecDepth 20000 in
theorem dX1_workOut_48 : decode cX1_workOut 48 = .ok (.if_icmp .ge 105, 3) := by decide +kernel
set_option maxRecDepth 20000 in
theorem dX1_workOut_51 : decode cX1_workOut 51 = .ok (.aload_n 0, 1) := by decide +kernel
set_option maxRecDepth 20000 in
theorem dX1_workOut_52 : decode cX1_workOut 52 = .ok (.getfield 15, 3) := by decide +kernel
set_option maxRecDepth 20000 in
theorem dX1_workOut_55 : decode cX1_workOut 55 = .ok (.iload 4, 2) := by decide +kernel
set_option maxRecDepth 20000 in
theorem dX1_workOut_57 : decode cX1_workOut 57 = .ok (.iload 6, 2) := by decide +kernel
set_option maxRecDepth 20000 in
theorem dX1_workOut_59 : decode cX1_workOut 59 = .ok (.iload_n 1, 1) := by decide +kernel
set_option maxRecDepth 20000 in
theorem dX1_workOut_60 : decode cX1_workOut 60 = .ok (.iload_n 2, 1) := by decide +kernel
set_option maxRecDepth 20000 in
theorem dX1_workOut_61 : decode cX1_workOut 61 = .ok (.iload_n 3, 1) := by decide +kernel
set_option maxRecDepth 20000 in
theorem dX1_workOut_62 : decode cX1_workOut 62 = .ok (.invokestatic 44, 3) := by decide +kernel
set_option maxRecDepth 20000 in
theorem dX1_workOut_65 : decode cX1_workOut 65 = .ok (.iastore, 1) := by decide +kernel
set_option maxRecDepth 20000 in
theorem dX1_workOut_66 : decode cX1_workOut 66 = .ok (.iinc 4 1, 3) := by decide +kernel
set_option maxRecDepth 20000 in
theorem dX1_workOut_69 : decode cX1_workOut 69 = .ok (.goto 84, 3) := by decide +kernel
set_option maxRecDepth 20000 in
theorem dX1_workOut_72 : decode cX1_workOut 72 = .ok (.iload 6, 2) := by decide +kernel
set_option maxRecDepth 20000 in
theorem dX1_workOut_74 : decode cX1_workOut 74 = .ok (.bipush (-33), 2) := by decide +kernel
set_option maxRecDepth 20000 in
theorem dX1_workOut_76 : decode cX1_workOut 76 = .ok (.if_icmp .ne 38, 3) := by decide +kernel
set_option maxRecDepth 20000 in
theorem dX1_workOut_79 : decode cX1_workOut 79 = .ok (.iload 4, 2) := by decide +kernel
set_option maxRecDepth 20000 in
theorem dX1_workOut_81 : decode cX1_workOut 81 = .ok (.iconst 1, 1) := by decide +kernel
set_option maxRecDepth 20000 in
theorem dX1_workOut_82 : decode cX1_workOut 82 = .ok (.if_icmp .lt 71, 3) := by decide +kernel
set_option maxRecDepth 20000 in
theorem dX1_workOut_85 : decode cX1_workOut 85 = .ok (.aload_n 0, 1) := by decide +kernel
set_option maxRecDepth 20000 in
theorem dX1_workOut_86 : decode cX1_workOut 86 = .ok (.getfield 15, 3) := by decide +kernel
set_option maxRecDepth 20000 in
theorem dX1_workOut_89 : decode cX1_workOut 89 = .ok (.iload 4, 2) := by decide +kernel
set_option maxRecDepth 20000 in
theorem dX1_workOut_91 : decode cX1_workOut 91 = .ok (.iconst 1, 1) := by decide +kernel
set_option maxRecDepth 20000 in
theorem dX1_workOut_92 : decode cX1_workOut 92 = .ok (.isub, 1) := by decide +kernel
set_option maxRecDepth 20000 in
theorem dX1_workOut_93 : decode cX1_workOut 93 = .ok (.aload_n 0, 1) := by decide +kernel
set_option maxRecDepth 20000 in
theorem dX1_workOut_94 : decode cX1_workOut 94 = .ok (.getfield 15, 3) := by decide +kernel
set_option maxRecDepth 20000 in
theorem dX1_workOut_97 : decode cX1_workOut 97 = .ok (.iload 4, 2) := by decide +kernel
set_option maxRecDepth 20000 in
theorem dX1_workOut_99 : decode cX1_workOut 99 = .ok (.iconst 1, 1) := by decide +kernel
set_option maxRecDepth 20000 in
theorem dX1_workOut_100 : decode cX1_workOut 100 = .ok (.isub, 1) := by decide +kernel
set_option maxRecDepth 20000 in
theorem dX1_workOut_101 : decode cX1_workOut 101 = .ok (.iaload, 1) := by decide +kernel
set_option maxRecDepth 20000 in
theorem dX1_workOut_102 : decode cX1_workOut 102 = .ok (.ifCond .ne 7, 3) := by decide +kernel
set_option maxRecDepth 20000 in
theorem dX1_workOut_105 : decode cX1_workOut 105 = .ok (.iconst 1, 1) := by decide +kernel
set_option maxRecDepth 20000 in
theorem dX1_workOut_106 : decode cX1_workOut 106 = .ok (.goto 4, 3) := by decide +kernel
set_option maxRecDepth 20000 in
theorem dX1_workOut_109 : decode cX1_workOut 109 = .ok (.iconst 0, 1) := by decide +kernel
set_option maxRecDepth 20000 in
theorem dX1_workOut_110 : decode cX1_workOut 110 = .ok (.iastore, 1) := by decide +kernel
set_option maxRecDepth 20000 in
theorem dX1_workOut_111 : decode cX1_workOut 111 = .ok (.goto 42, 3) := by decide +kernel
set_option maxRecDepth 20000 in
theorem dX1_workOut_114 : decode cX1_workOut 114 = .ok (.iload 4, 2) := by decide +kernel
set_option maxRecDepth 20000 in
theorem dX1_workOut_116 : decode cX1_workOut 116 = .ok (.iconst 2, 1) := by decide +kernel
set_option maxRecDepth 20000 in
theorem dX1_workOut_117 : decode cX1_workOut 117 = .ok (.if_icmp .lt 36, 3) := by decide +kernel
set_option maxRecDepth 20000 in
theorem dX1_workOut_120 : decode cX1_workOut 120 = .ok (.iinc 4 (-1), 3) := by decide +kernel
set_option maxRecDepth 20000 in
theorem dX1_workOut_123 : decode cX1_workOut 123 = .ok (.aload_n 0, 1) := by decide +kernel
set_option maxRecDepth 20000 in
theorem dX1_workOut_124 : decode cX1_workOut 124 = .ok (.getfield 15, 3) := by decide +kernel
set_option maxRecDepth 20000 in
theorem dX1_workOut_127 : decode cX1_workOut 127 = .ok (.iload 4, 2) := by decide +kernel
set_option maxRecDepth 20000 in
theorem dX1_workOut_129 : decode cX1_workOut 129 = .ok (.iconst 1, 1) := by decide +kernel
set_option maxRecDepth 20000 in
theorem dX1_workOut_130 : decode cX1_workOut 130 = .ok (.isub, 1) := by decide +kernel
set_option maxRecDepth 20000 in
theorem dX1_workOut_131 : decode cX1_workOut 131 = .ok (.iload 6, 2) := by decide +kernel
set_option maxRecDepth 20000 in
theorem dX1_workOut_133 : decode cX1_workOut 133 = .ok (.aload_n 0, 1) := by decide +kernel
set_option maxRecDepth 20000 in
theorem dX1_workOut_134 : decode cX1_workOut 134 = .ok (.getfield 15, 3) := by decide +kernel
set_option maxRecDepth 20000 in
theorem dX1_workOut_137 : decode cX1_workOut 137 = .ok (.iload 4, 2) := by decide +kernel
set_option maxRecDepth 20000 in
theorem dX1_workOut_139 : decode cX1_workOut 139 = .ok (.iconst 1, 1) := by decide +kernel
set_option maxRecDepth 20000 in
theorem dX1_workOut_140 : decode cX1_workOut 140 = .ok (.isub, 1) := by decide +kernel
set_option maxRecDepth 20000 in
theorem dX1_workOut_141 : decode cX1_workOut 141 = .ok (.iaload, 1) := by decide +kernel
set_option maxRecDepth 20000 in
theorem dX1_workOut_142 : decode cX1_workOut 142 = .ok (.aload_n 0, 1) := by decide +kernel
set_option maxRecDepth 20000 in
theorem dX1_workOut_143 : decode cX1_workOut 143 = .ok (.getfield 15, 3) := by decide +kernel
set_option maxRecDepth 20000 in
theorem dX1_workOut_146 : decode cX1_workOut 146 = .ok (.iload 4, 2) := by decide +kernel
set_option maxRecDepth 20000 in
theorem dX1_workOut_148 : decode cX1_workOut 148 = .ok (.iaload, 1) := by decide +kernel
set_option maxRecDepth 20000 in
theorem dX1_workOut_149 : decode cX1_workOut 149 = .ok (.invokestatic 48, 3) := by decide +kernel
set_option maxRecDepth 20000 in
theorem dX1_workOut_152 : decode cX1_workOut 152 = .ok (.iastore, 1) := by decide +kernel
set_option maxRecDepth 20000 in
theorem dX1_workOut_153 : decode cX1_workOut 153 = .ok (.iinc 5 1, 3) := by decide +kernel
set_option maxRecDepth 20000 in
theorem dX1_workOut_156 : decode cX1_workOut 156 = .ok (.goto (-150), 3) := by decide +kernel
set_option maxRecDepth 20000 in
theorem dX1_workOut_159 : decode cX1_workOut 159 = .ok (.aload_n 0, 1) := by decide +kernel
set_option maxRecDepth 20000 in
theorem dX1_workOut_160 : decode cX1_workOut 160 = .ok (.getfield 15, 3) := by decide +kernel
set_option maxRecDepth 20000 in
theorem dX1_workOut_163 : decode cX1_workOut 163 = .ok (.iconst 0, 1) := by decide +kernel
set_option maxRecDepth 20000 in
theorem dX1_workOut_164 : decode cX1_workOut 164 = .ok (.iaload, 1) := by decide +kernel
set_option maxRecDepth 20000 in
theorem dX1_workOut_165 : decode cX1_workOut 165 = .ok (.ireturn, 1) := by decide +kernel
set_option maxHeartbeats 4000000 in
set_option maxRecDepth 100000 in
theorem c_X1_workOut (l : Launch) (G : GT) (σ : Sto) (k0 : Nat) (hk0 : K0 k0 = 1) (a1 : Int32) (a2 : Int32) (a3 : Int32) (r : (Int32 × Sto)) (h : f_X1_workOut σ k0 a1 a2 a3 = some r) : MW l G (3) (87) 0 0 yX1_workOut cX1_workOut 7 (Option.some Jvm.ClassFile.FieldType.int) [.ref (gad G k0), .int a1, .int a2, .int a3] (wl G σ) (some (.int r.1)) (wl G r.2) := by
  refine mw_of RX1 (fiI G) [(0, .ref (gad G k0)), (1, .int a1), (2, .int a2), (3, .int a3)] (by decide +kernel) rfl (Nat.le_of_ble_eq_true rfl) rfl h rfl (fun p e s m args below meth c X hr hnm => ?_)
  have J153 : ∀ (k0 : Nat) (hk0 : K0 k0 = 1) (v1 : Int32) (v2 : Int32) (v3 : Int32) (v4 : Int32) (v5 : Int32) (K6 : Int32 → Int32 → Sto → Option (Int32 × Sto)) (hK6 : ∀ (v4' : Int32) (v5' : Int32) (σ' : Sto), Sm p l e { frames := 3, cells := 0, slots := 0, locals := 87 } s m args below meth c G 7 (Qm below args s G 0 0 (fiI G)) 0 0 (wl G σ') 6 [(0, .ref (gad G k0)), (1, .int v1), (2, .int v2), (3, .int v3), (4, .int v4'), (5, .int v5')] [] (K6 v4' v5' σ')) (σ : Sto), Sm p l e { frames := 3, cells := 0, slots := 0, locals := 87 } s m args below meth c G 7 (Qm below args s G 0 0 (fiI G)) 0 0 (wl G σ) 153 [(0, .ref (gad G k0)), (1, .int v1), (2, .int v2), (3, .int v3), (4, .int v4), (5, .int v5)] [] (f_X1_workOut_L153 K6 k0 v1 v2 v3 v4 v5 σ) := by
    intro k0 hk0 v1 v2 v3 v4 v5 K6 hK6 σ
    rw [f_X1_workOut_L153]
    refine sm_iinc X 156 5 (1 : Int32) [(5, .int (v5 + (1 : Int32))), (0, .ref (gad G k0)), (1, .int v1), (2, .int v2), (3, .int v3), (4, .int v4)] dX1_workOut_153 rfl rfl rfl (by decide) rfl ?_
    refine sm_goto X 6 dX1_workOut_156 (by decide) ?_
    exact sm_sub [1, 2, 3, 4, 5, 0] rfl (hK6 v4 (v5 + (1 : Int32)) σ)
  have J110 : ∀ (k0 : Nat) (hk0 : K0 k0 = 1) (v1 : Int32) (v2 : Int32) (v3 : Int32) (v4 : Int32) (v5 : Int32) (vs0 : Bool) (vs1 : Int32) (ks2 : Nat) (hks2 : K0 ks2 = 20) (K6 : Int32 → Int32 → Sto → Option (Int32 × Sto)) (hK6 : ∀ (v4' : Int32) (v5' : Int32) (σ' : Sto), Sm p l e { frames := 3, cells := 0, slots := 0, locals := 87 } s m args below meth c G 7 (Qm below args s G 0 0 (fiI G)) 0 0 (wl G σ') 6 [(0, .ref (gad G k0)), (1, .int v1), (2, .int v2), (3, .int v3), (4, .int v4'), (5, .int v5')] [] (K6 v4' v5' σ')) (σ : Sto), Sm p l e { frames := 3, cells := 0, slots := 0, locals := 87 } s m args below meth c G 7 (Qm below args s G 0 0 (fiI G)) 0 0 (wl G σ) 110 [(0, .ref (gad G k0)), (1, .int v1), (2, .int v2), (3, .int v3), (4, .int v4), (5, .int v5)] [.int (b2i vs0), .int vs1, .ref (gad G ks2)] (f_X1_workOut_L110 K6 k0 v1 v2 v3 v4 v5 vs0 vs1 ks2 σ) := by
    intro k0 hk0 v1 v2 v3 v4 v5 vs0 vs1 ks2 hks2 K6 hK6 σ
    rw [f_X1_workOut_L110]
    refine sm_iast X 111 hks2 dX1_workOut_110 rfl (fun σ110 e110 => ?_)
    clear e110
    refine sm_goto X 153 dX1_workOut_111 (by decide) ?_
    exact sm_sub [0, 1, 2, 3, 4, 5] rfl (J153 k0 hk0 v1 v2 v3 v4 v5 K6 hK6 σ110)
  have J6 : ∀ (k0 : Nat) (hk0 : K0 k0 = 1) (v1 : Int32) (v2 : Int32) (v3 : Int32)  (n : Nat) (v4 : Int32) (v5 : Int32) (σ : Sto), Sm p l e { frames := 3, cells := 0, slots := 0, locals := 87 } s m args below meth c G 7 (Qm below args s G 0 0 (fiI G)) 0 0 (wl G σ) 6 [(0, .ref (gad G k0)), (1, .int v1), (2, .int v2), (3, .int v3), (4, .int v4), (5, .int v5)] [] (f_X1_workOut_L6  k0 v1 v2 v3 n v4 v5 σ) := by
    intro k0 hk0 v1 v2 v3 n
    induction n with
    | zero => intro v4 v5 σ; rw [f_X1_workOut_L6]; exact sm_none
    | succ n ihl =>
      intro v4 v5 σ
      rw [f_X1_workOut_L6]
      refine sm_iload X 8 5 dX1_workOut_6 rfl rfl ?_
      refine sm_aload_n X 9 0 dX1_workOut_8 rfl rfl rfl ?_
      refine sm_geti X 12 hk0 fd_1_3 dX1_workOut_9 rfl q_43 ?_
      refine sm_icmp_ge X 15 159 dX1_workOut_12 rfl (by decide) (fun h12 => ?_) (fun h12 => ?_)
      · refine sm_aload_n X 160 0 dX1_workOut_159 rfl rfl rfl ?_
        refine sm_getf X 163 (A0 k0 2) hk0 fd_1_2 (fr_1_2 hk0).1 dX1_workOut_160 rfl q_42 ?_
        refine sm_iconst X 164 (0) dX1_workOut_163 rfl rfl ?_
        refine sm_iald X 165 ((fr_1_2 hk0).2.1) dX1_workOut_164 rfl (fun r164 e164 => ?_)
        clear e164
        exact sm_iret X hr dX1_workOut_165 rfl
      · refine sm_iload X 17 5 dX1_workOut_15 rfl rfl ?_
        refine sm_aload_n X 18 0 dX1_workOut_17 rfl rfl rfl ?_
        refine sm_getf X 21 (A0 k0 1) hk0 fd_1_1 (fr_1_1 hk0).1 dX1_workOut_18 rfl q_41 ?_
        refine sm_alen X 22 50 (Or.inl ((fr_1_1 hk0).2.1)) (by rw [(fr_1_1 hk0).2.2]; rfl) dX1_workOut_21 rfl ?_
        refine sm_icmp_ge X 25 159 dX1_workOut_22 rfl (by decide) (fun h22 => ?_) (fun h22 => ?_)
        · refine sm_aload_n X 160 0 dX1_workOut_159 rfl rfl rfl ?_
          refine sm_getf X 163 (A0 k0 2) hk0 fd_1_2 (fr_1_2 hk0).1 dX1_workOut_160 rfl q_42 ?_
          refine sm_iconst X 164 (0) dX1_workOut_163 rfl rfl ?_
          refine sm_iald X 165 ((fr_1_2 hk0).2.1) dX1_workOut_164 rfl (fun r164 e164 => ?_)
          clear e164
          exact sm_iret X hr dX1_workOut_165 rfl
        · refine sm_aload_n X 26 0 dX1_workOut_25 rfl rfl rfl ?_
          refine sm_getf X 29 (A0 k0 1) hk0 fd_1_1 (fr_1_1 hk0).1 dX1_workOut_26 rfl q_41 ?_
          refine sm_iload X 31 5 dX1_workOut_29 rfl rfl ?_
          refine sm_iald X 32 ((fr_1_1 hk0).2.1) dX1_workOut_31 rfl (fun r31 e31 => ?_)
          clear e31
          refine sm_istore X 34 [(6, .int r31), (0, .ref (gad G k0)), (1, .int v1), (2, .int v2), (3, .int v3), (4, .int v4), (5, .int v5)] dX1_workOut_32 rfl (by decide) rfl ?_
          refine sm_iload X 36 0 dX1_workOut_34 rfl rfl ?_
          refine sm_bipush X 38 (-33) dX1_workOut_36 rfl rfl ?_
          refine sm_icmp_le X 41 72 dX1_workOut_38 rfl (by decide) (fun h38 => ?_) (fun h38 => ?_)
          · refine sm_iload X 74 0 dX1_workOut_72 rfl rfl ?_
            refine sm_bipush X 76 (-33) dX1_workOut_74 rfl rfl ?_
            refine sm_icmp_ne X 79 114 dX1_workOut_76 rfl (by decide) (fun h76 => ?_) (fun h76 => ?_)
            · refine sm_iload X 81 5 dX1_workOut_79 rfl rfl ?_
              refine sm_iconst X 82 (1) dX1_workOut_81 rfl rfl ?_
              refine sm_icmp_lt X 85 153 dX1_workOut_82 rfl (by decide) (fun h82 => ?_) (fun h82 => ?_)
              · exact sm_sub [1, 2, 3, 4, 5, 6] rfl (J153 k0 hk0 v1 v2 v3 v4 v5 (f_X1_workOut_L6  k0 v1 v2 v3 n) ihl σ)
              · refine sm_aload_n X 86 1 dX1_workOut_85 rfl rfl rfl ?_
                refine sm_getf X 89 (A0 k0 2) hk0 fd_1_2 (fr_1_2 hk0).1 dX1_workOut_86 rfl q_42 ?_
                refine sm_iload X 91 5 dX1_workOut_89 rfl rfl ?_
                refine sm_iconst X 92 (1) dX1_workOut_91 rfl rfl ?_
                refine sm_isub X 93 dX1_workOut_92 rfl ?_
                refine sm_aload_n X 94 1 dX1_workOut_93 rfl rfl rfl ?_
                refine sm_getf X 97 (A0 k0 2) hk0 fd_1_2 (fr_1_2 hk0).1 dX1_workOut_94 rfl q_42 ?_
                refine sm_iload X 99 5 dX1_workOut_97 rfl rfl ?_
                refine sm_iconst X 100 (1) dX1_workOut_99 rfl rfl ?_
                refine sm_isub X 101 dX1_workOut_100 rfl ?_
                refine sm_iald X 102 ((fr_1_2 hk0).2.1) dX1_workOut_101 rfl (fun r101 e101 => ?_)
                clear e101
                refine sm_if_ne X 105 109 dX1_workOut_102 rfl (by decide) (fun h102 => ?_) (fun h102 => ?_)
                · refine sm_iconst X 106 (1) dX1_workOut_105 rfl rfl ?_
                  refine sm_goto X 110 dX1_workOut_106 (by decide) ?_
                  exact sm_sub [1, 2, 3, 4, 5, 6] rfl (J110 k0 hk0 v1 v2 v3 v4 v5 true (v4 - (1 : Int32)) (A0 k0 2) ((fr_1_2 hk0).2.1) (f_X1_workOut_L6  k0 v1 v2 v3 n) ihl σ)
                · refine sm_iconst X 110 (0) dX1_workOut_109 rfl rfl ?_
                  exact sm_sub [1, 2, 3, 4, 5, 6] rfl (J110 k0 hk0 v1 v2 v3 v4 v5 false (v4 - (1 : Int32)) (A0 k0 2) ((fr_1_2 hk0).2.1) (f_X1_workOut_L6  k0 v1 v2 v3 n) ihl σ)
            · refine sm_iload X 116 5 dX1_workOut_114 rfl rfl ?_
              refine sm_iconst X 117 (2) dX1_workOut_116 rfl rfl ?_
              refine sm_icmp_lt X 120 153 dX1_workOut_117 rfl (by decide) (fun h117 => ?_) (fun h117 => ?_)
              · exact sm_sub [1, 2, 3, 4, 5, 6] rfl (J153 k0 hk0 v1 v2 v3 v4 v5 (f_X1_workOut_L6  k0 v1 v2 v3 n) ihl σ)
              · refine sm_iinc X 123 5 (-1 : Int32) [(4, .int (v4 + (-1 : Int32))), (6, .int r31), (0, .ref (gad G k0)), (1, .int v1), (2, .int v2), (3, .int v3), (5, .int v5)] dX1_workOut_120 rfl rfl rfl (by decide) rfl ?_
                refine sm_aload_n X 124 2 dX1_workOut_123 rfl rfl rfl ?_
                refine sm_getf X 127 (A0 k0 2) hk0 fd_1_2 (fr_1_2 hk0).1 dX1_workOut_124 rfl q_42 ?_
                refine sm_iload X 129 0 dX1_workOut_127 rfl rfl ?_
                refine sm_iconst X 130 (1) dX1_workOut_129 rfl rfl ?_
                refine sm_isub X 131 dX1_workOut_130 rfl ?_
                refine sm_iload X 133 1 dX1_workOut_131 rfl rfl ?_
                refine sm_aload_n X 134 2 dX1_workOut_133 rfl rfl rfl ?_
                refine sm_getf X 137 (A0 k0 2) hk0 fd_1_2 (fr_1_2 hk0).1 dX1_workOut_134 rfl q_42 ?_
                refine sm_iload X 139 0 dX1_workOut_137 rfl rfl ?_
                refine sm_iconst X 140 (1) dX1_workOut_139 rfl rfl ?_
                refine sm_isub X 141 dX1_workOut_140 rfl ?_
                refine sm_iald X 142 ((fr_1_2 hk0).2.1) dX1_workOut_141 rfl (fun r141 e141 => ?_)
                clear e141
                refine sm_aload_n X 143 2 dX1_workOut_142 rfl rfl rfl ?_
                refine sm_getf X 146 (A0 k0 2) hk0 fd_1_2 (fr_1_2 hk0).1 dX1_workOut_143 rfl q_42 ?_
                refine sm_iload X 148 0 dX1_workOut_146 rfl rfl ?_
                refine sm_iald X 149 ((fr_1_2 hk0).2.1) dX1_workOut_148 rfl (fun r148 e148 => ?_)
                clear e148
                refine sm_bind (fun r149 h149 => ?_)
                refine sm_callS0 X 152 [.int r31, .int r141, .int r148] [.int ((v4 + (-1 : Int32)) - (1 : Int32)), .ref (gad G (A0 k0 2))] [.int r149, .int ((v4 + (-1 : Int32)) - (1 : Int32)), .ref (gad G (A0 k0 2))] (c_X1_joined l G σ r31 r141 r148 r149 h149) cw_X1_joined q_360 q_359 rfl rfl rfl (Nat.le_of_ble_eq_true rfl) ⟨Nat.le_of_ble_eq_true rfl, Nat.le_of_ble_eq_true rfl⟩ ⟨Nat.le_refl _, Nat.le_refl _⟩ dX1_workOut_149 rfl ?_
                refine sm_iast X 153 ((fr_1_2 hk0).2.1) dX1_workOut_152 rfl (fun σ152 e152 => ?_)
                clear e152
                exact sm_sub [2, 3, 4, 5, 0, 6] rfl (J153 k0 hk0 v1 v2 v3 (v4 + (-1 : Int32)) v5 (f_X1_workOut_L6  k0 v1 v2 v3 n) ihl σ152)
          · refine sm_iload X 43 5 dX1_workOut_41 rfl rfl ?_
            refine sm_aload_n X 44 1 dX1_workOut_43 rfl rfl rfl ?_
            refine sm_getf X 47 (A0 k0 2) hk0 fd_1_2 (fr_1_2 hk0).1 dX1_workOut_44 rfl q_42 ?_
            refine sm_alen X 48 50 (Or.inl ((fr_1_2 hk0).2.1)) (by rw [(fr_1_2 hk0).2.2]; rfl) dX1_workOut_47 rfl ?_
            refine sm_icmp_ge X 51 153 dX1_workOut_48 rfl (by decide) (fun h48 => ?_) (fun h48 => ?_)
            · exact sm_sub [1, 2, 3, 4, 5, 6] rfl (J153 k0 hk0 v1 v2 v3 v4 v5 (f_X1_workOut_L6  k0 v1 v2 v3 n) ihl σ)
            · refine sm_aload_n X 52 1 dX1_workOut_51 rfl rfl rfl ?_
              refine sm_getf X 55 (A0 k0 2) hk0 fd_1_2 (fr_1_2 hk0).1 dX1_workOut_52 rfl q_42 ?_
              refine sm_iload X 57 5 dX1_workOut_55 rfl rfl ?_
              refine sm_iload X 59 0 dX1_workOut_57 rfl rfl ?_
              refine sm_iload_n X 60 2 dX1_workOut_59 rfl rfl rfl ?_
              refine sm_iload_n X 61 3 dX1_workOut_60 rfl rfl rfl ?_
              refine sm_iload_n X 62 4 dX1_workOut_61 rfl rfl rfl ?_
              refine sm_bind (fun r62 h62 => ?_)
              refine sm_callS0 X 65 [.int r31, .int v1, .int v2, .int v3] [.int v4, .ref (gad G (A0 k0 2))] [.int r62, .int v4, .ref (gad G (A0 k0 2))] (c_X1_valueOf l G σ r31 v1 v2 v3 r62 h62) cw_X1_valueOf q_357 q_356 rfl rfl rfl (Nat.le_of_ble_eq_true rfl) ⟨Nat.le_of_ble_eq_true rfl, Nat.le_of_ble_eq_true rfl⟩ ⟨Nat.le_refl _, Nat.le_refl _⟩ dX1_workOut_62 rfl ?_
              refine sm_iast X 66 ((fr_1_2 hk0).2.1) dX1_workOut_65 rfl (fun σ65 e65 => ?_)
              clear e65
              refine sm_iinc X 69 5 (1 : Int32) [(4, .int (v4 + (1 : Int32))), (6, .int r31), (0, .ref (gad G k0)), (1, .int v1), (2, .int v2), (3, .int v3), (5, .int v5)] dX1_workOut_66 rfl rfl rfl (by decide) rfl ?_
              refine sm_goto X 153 dX1_workOut_69 (by decide) ?_
              exact sm_sub [2, 3, 4, 5, 0, 6] rfl (J153 k0 hk0 v1 v2 v3 (v4 + (1 : Int32)) v5 (f_X1_workOut_L6  k0 v1 v2 v3 n) ihl σ65)
  unfold f_X1_workOut
  refine sm_iconst X 1 (0) dX1_workOut_0 rfl rfl ?_
  refine sm_istore X 3 [(4, .int 0), (0, .ref (gad G k0)), (1, .int a1), (2, .int a2), (3, .int a3)] dX1_workOut_1 rfl (by decide) rfl ?_
  refine sm_iconst X 4 (0) dX1_workOut_3 rfl rfl ?_
  refine sm_istore X 6 [(5, .int 0), (4, .int 0), (0, .ref (gad G k0)), (1, .int a1), (2, .int a2), (3, .int a3)] dX1_workOut_4 rfl (by decide) rfl ?_
  exact sm_sub [2, 3, 4, 5, 1, 0] rfl (J6 k0 hk0 a1 a2 a3  FU (0 : Int32) (0 : Int32) σ)
set_option maxRecDepth 20000 in
theorem dX8_heldWithin_0 : decode cX8_heldWithin 0 = .ok (.iload_n 1, 1) := by decide +kernel
set_option maxRecDepth 20000 in
theorem dX8_heldWithin_1 : decode cX8_heldWithin 1 = .ok (.iload_n 2, 1) := by decide +kernel
set_option maxRecDepth 20000 in
theorem dX8_heldWithin_2 : decode cX8_heldWithin 2 = .ok (.iload_n 0, 1) := by decide +kernel
set_option maxRecDepth 20000 in
theorem dX8_heldWithin_3 : decode cX8_heldWithin 3 = .ok (.invokestatic 306, 3) := by decide +kernel
set_option maxRecDepth 20000 in
theorem dX8_heldWithin_6 : decode cX8_heldWithin 6 = .ok (.invokestatic 317, 3) := by decide +kernel
set_option maxRecDepth 20000 in
theorem dX8_heldWithin_9 : decode cX8_heldWithin 9 = .ok (.ireturn, 1) := by decide +kernel
set_option maxHeartbeats 4000000 in
set_option maxRecDepth 100000 in
theorem c_X8_heldWithin (l : Launch) (G : GT) (σ : Sto) (a0 : Int32) (a1 : Int32) (a2 : Int32) (r : Int32) (h : f_X8_heldWithin a0 a1 a2 = some r) : MW l G (2) (64) 0 0 yX8_heldWithin cX8_heldWithin 3 (Option.some Jvm.ClassFile.FieldType.int) [.int a0, .int a1, .int a2] (wl G σ) (some (.int r)) (wl G σ) := by
  refine mw_of RX8 (fpI G σ) [(0, .int a0), (1, .int a1), (2, .int a2)] (by decide +kernel) rfl (Nat.le_of_ble_eq_true rfl) rfl h rfl (fun p e s m args below meth c X hr hnm => ?_)
  unfold f_X8_heldWithin
  refine sm_iload_n X 1 1 dX8_heldWithin_0 rfl rfl rfl ?_
  refine sm_iload_n X 2 2 dX8_heldWithin_1 rfl rfl rfl ?_
  refine sm_iload_n X 3 0 dX8_heldWithin_2 rfl rfl rfl ?_
  refine sm_mmin X 6 dX8_heldWithin_3 rfl q_365 q_366 q_367 q_11 ⟨Nat.le_of_ble_eq_true rfl, Nat.le_of_ble_eq_true rfl, Nat.le_refl _, Nat.le_refl _⟩ ?_
  refine sm_mmax X 9 dX8_heldWithin_6 rfl q_368 q_369 q_370 q_11 ⟨Nat.le_of_ble_eq_true rfl, Nat.le_of_ble_eq_true rfl, Nat.le_refl _, Nat.le_refl _⟩ ?_
  exact sm_iret X hr dX8_heldWithin_9 rfl
set_option maxRecDepth 20000 in
theorem dX1_give_0 : decode cX1_give 0 = .ok (.aload_n 0, 1) := by decide +kernel
set_option maxRecDepth 20000 in
theorem dX1_give_1 : decode cX1_give 1 = .ok (.getfield 22, 3) := by decide +kernel
set_option maxRecDepth 20000 in
theorem dX1_give_4 : decode cX1_give 4 = .ok (.ifCond .ne 33, 3) := by decide +kernel
set_option maxRecDepth 20000 in
theorem dX1_give_7 : decode cX1_give 7 = .ok (.aload_n 0, 1) := by decide +kernel
set_option maxRecDepth 20000 in
theorem dX1_give_8 : decode cX1_give 8 = .ok (.getfield 18, 3) := by decide +kernel
set_option maxRecDepth 20000 in
theorem dX1_give_11 : decode cX1_give 11 = .ok (.ifCond .le 13, 3) := by decide +kernel
set_option maxRecDepth 20000 in
theorem dX1_give_14 : decode cX1_give 14 = .ok (.aload_n 0, 1) := by decide +kernel
set_option maxRecDepth 20000 in
theorem dX1_give_15 : decode cX1_give 15 = .ok (.iload_n 1, 1) := by decide +kernel
set_option maxRecDepth 20000 in
theorem dX1_give_16 : decode cX1_give 16 = .ok (.iload_n 2, 1) := by decide +kernel
set_option maxRecDepth 20000 in
theorem dX1_give_17 : decode cX1_give 17 = .ok (.iload_n 3, 1) := by decide +kernel
set_option maxRecDepth 20000 in
theorem dX1_give_18 : decode cX1_give 18 = .ok (.invokevirtual 37, 3) := by decide +kernel
set_option maxRecDepth 20000 in
theorem dX1_give_21 : decode cX1_give 21 = .ok (.goto 8, 3) := by decide +kernel
set_option maxRecDepth 20000 in
theorem dX1_give_24 : decode cX1_give 24 = .ok (.iload_n 1, 1) := by decide +kernel
set_option maxRecDepth 20000 in
theorem dX1_give_25 : decode cX1_give 25 = .ok (.iconst 2, 1) := by decide +kernel
set_option maxRecDepth 20000 in
theorem dX1_give_26 : decode cX1_give 26 = .ok (.iload_n 2, 1) := by decide +kernel
set_option maxRecDepth 20000 in
theorem dX1_give_27 : decode cX1_give 27 = .ok (.imul, 1) := by decide +kernel
set_option maxRecDepth 20000 in
theorem dX1_give_28 : decode cX1_give 28 = .ok (.iadd, 1) := by decide +kernel
set_option maxRecDepth 20000 in
theorem dX1_give_29 : decode cX1_give 29 = .ok (.bipush (-30), 2) := by decide +kernel
set_option maxRecDepth 20000 in
theorem dX1_give_31 : decode cX1_give 31 = .ok (.bipush 30, 2) := by decide +kernel
set_option maxRecDepth 20000 in
theorem dX1_give_33 : decode cX1_give 33 = .ok (.invokestatic 41, 3) := by decide +kernel
set_option maxRecDepth 20000 in
theorem dX1_give_36 : decode cX1_give 36 = .ok (.ireturn, 1) := by decide +kernel
set_option maxRecDepth 20000 in
theorem dX1_give_37 : decode cX1_give 37 = .ok (.aload_n 0, 1) := by decide +kernel
set_option maxRecDepth 20000 in
theorem dX1_give_38 : decode cX1_give 38 = .ok (.getfield 18, 3) := by decide +kernel
set_option maxRecDepth 20000 in
theorem dX1_give_41 : decode cX1_give 41 = .ok (.ifCond .le 13, 3) := by decide +kernel
set_option maxRecDepth 20000 in
theorem dX1_give_44 : decode cX1_give 44 = .ok (.aload_n 0, 1) := by decide +kernel
set_option maxRecDepth 20000 in
theorem dX1_give_45 : decode cX1_give 45 = .ok (.iload_n 1, 1) := by decide +kernel
set_option maxRecDepth 20000 in
theorem dX1_give_46 : decode cX1_give 46 = .ok (.iload_n 2, 1) := by decide +kernel
set_option maxRecDepth 20000 in
theorem dX1_give_47 : decode cX1_give 47 = .ok (.iload_n 3, 1) := by decide +kernel
set_option maxRecDepth 20000 in
theorem dX1_give_48 : decode cX1_give 48 = .ok (.invokevirtual 37, 3) := by decide +kernel
set_option maxRecDepth 20000 in
theorem dX1_give_51 : decode cX1_give 51 = .ok (.goto 7, 3) := by decide +kernel
set_option maxRecDepth 20000 in
theorem dX1_give_54 : decode cX1_give 54 = .ok (.iload_n 1, 1) := by decide +kernel
set_option maxRecDepth 20000 in
theorem dX1_give_55 : decode cX1_give 55 = .ok (.bipush 12, 2) := by decide +kernel
set_option maxRecDepth 20000 in
theorem dX1_give_57 : decode cX1_give 57 = .ok (.idiv, 1) := by decide +kernel
set_option maxRecDepth 20000 in
theorem dX1_give_58 : decode cX1_give 58 = .ok (.iconst 0, 1) := by decide +kernel
set_option maxRecDepth 20000 in
theorem dX1_give_59 : decode cX1_give 59 = .ok (.bipush 100, 2) := by decide +kernel
set_option maxRecDepth 20000 in
theorem dX1_give_61 : decode cX1_give 61 = .ok (.invokestatic 41, 3) := by decide +kernel
set_option maxRecDepth 20000 in
theorem dX1_give_64 : decode cX1_give 64 = .ok (.ireturn, 1) := by decide +kernel
set_option maxHeartbeats 4000000 in
set_option maxRecDepth 100000 in
theorem c_X1_give (l : Launch) (G : GT) (σ : Sto) (k0 : Nat) (hk0 : K0 k0 = 1) (a1 : Int32) (a2 : Int32) (a3 : Int32) (r : (Int32 × Sto)) (h : f_X1_give σ k0 a1 a2 a3 = some r) : MW l G (4) (113) 0 0 yX1_give cX1_give 4 (Option.some Jvm.ClassFile.FieldType.int) [.ref (gad G k0), .int a1, .int a2, .int a3] (wl G σ) (some (.int r.1)) (wl G r.2) := by
  refine mw_of RX1 (fiI G) [(0, .ref (gad G k0)), (1, .int a1), (2, .int a2), (3, .int a3)] (by decide +kernel) rfl (Nat.le_of_ble_eq_true rfl) rfl h rfl (fun p e s m args below meth c X hr hnm => ?_)
  unfold f_X1_give
  refine sm_aload_n X 1 0 dX1_give_0 rfl rfl rfl ?_
  refine sm_geti X 4 hk0 fd_1_0 dX1_give_1 rfl q_40 ?_
  refine sm_if_ne X 7 37 dX1_give_4 rfl (by decide) (fun h4 => ?_) (fun h4 => ?_)
  · refine sm_aload_n X 8 0 dX1_give_7 rfl rfl rfl ?_
    refine sm_geti X 11 hk0 fd_1_3 dX1_give_8 rfl q_43 ?_
    refine sm_if_le X 14 24 dX1_give_11 rfl (by decide) (fun h11 => ?_) (fun h11 => ?_)
    · refine sm_iload_n X 25 1 dX1_give_24 rfl rfl rfl ?_
      refine sm_iconst X 26 (2) dX1_give_25 rfl rfl ?_
      refine sm_iload_n X 27 2 dX1_give_26 rfl rfl rfl ?_
      refine sm_imul X 28 dX1_give_27 rfl ?_
      refine sm_iadd X 29 dX1_give_28 rfl ?_
      refine sm_bipush X 31 (-30) dX1_give_29 rfl rfl ?_
      refine sm_bipush X 33 (30) dX1_give_31 rfl rfl ?_
      refine sm_bind (fun r33 h33 => ?_)
      refine sm_callSN0 X 36 (host := RX8) [.int (a1 + ((2 : Int32) * a2)), .int (-30), .int 30] [] [.int r33] (c_X8_heldWithin l G σ (a1 + ((2 : Int32) * a2)) (-30 : Int32) (30 : Int32) r33 h33) cw_X8_heldWithin q_363 (by simp [NW]) rfl rfl rfl (Nat.le_of_ble_eq_true rfl) ⟨Nat.le_of_ble_eq_true rfl, Nat.le_of_ble_eq_true rfl⟩ ⟨Nat.le_refl _, Nat.le_refl _⟩ dX1_give_33 rfl ?_
      exact sm_iret X hr dX1_give_36 rfl
    · refine sm_aload_n X 15 0 dX1_give_14 rfl rfl rfl ?_
      refine sm_iload_n X 16 1 dX1_give_15 rfl rfl rfl ?_
      refine sm_iload_n X 17 2 dX1_give_16 rfl rfl rfl ?_
      refine sm_iload_n X 18 3 dX1_give_17 rfl rfl rfl ?_
      refine sm_bind (fun r18 h18 => ?_)
      refine sm_callV0 X 21 [.int a1, .int a2, .int a3] [] [.int r18.1] (c_X1_workOut l G σ k0 hk0 a1 a2 a3 r18 h18) cw_X1_workOut q_354 qs_1 q_352 hk0 (by decide) rfl rfl rfl rfl rfl (Nat.le_of_ble_eq_true rfl) ⟨Nat.le_of_ble_eq_true rfl, Nat.le_of_ble_eq_true rfl⟩ ⟨Nat.le_refl _, Nat.le_refl _⟩ dX1_give_18 rfl ?_
      refine sm_goto X 29 dX1_give_21 (by decide) ?_
      refine sm_bipush X 31 (-30) dX1_give_29 rfl rfl ?_
      refine sm_bipush X 33 (30) dX1_give_31 rfl rfl ?_
      refine sm_bind (fun r33 h33 => ?_)
      refine sm_callSN0 X 36 (host := RX8) [.int r18.1, .int (-30), .int 30] [] [.int r33] (c_X8_heldWithin l G r18.2 r18.1 (-30 : Int32) (30 : Int32) r33 h33) cw_X8_heldWithin q_363 (by simp [NW]) rfl rfl rfl (Nat.le_of_ble_eq_true rfl) ⟨Nat.le_of_ble_eq_true rfl, Nat.le_of_ble_eq_true rfl⟩ ⟨Nat.le_refl _, Nat.le_refl _⟩ dX1_give_33 rfl ?_
      exact sm_iret X hr dX1_give_36 rfl
  · refine sm_aload_n X 38 0 dX1_give_37 rfl rfl rfl ?_
    refine sm_geti X 41 hk0 fd_1_3 dX1_give_38 rfl q_43 ?_
    refine sm_if_le X 44 54 dX1_give_41 rfl (by decide) (fun h41 => ?_) (fun h41 => ?_)
    · refine sm_iload_n X 55 1 dX1_give_54 rfl rfl rfl ?_
      refine sm_bipush X 57 (12) dX1_give_55 rfl rfl ?_
      refine sm_idiv X 58 dX1_give_57 rfl (by first | decide | assumption) ?_
      refine sm_iconst X 59 (0) dX1_give_58 rfl rfl ?_
      refine sm_bipush X 61 (100) dX1_give_59 rfl rfl ?_
      refine sm_bind (fun r61 h61 => ?_)
      refine sm_callSN0 X 64 (host := RX8) [.int (a1 / (12 : Int32)), .int 0, .int 100] [] [.int r61] (c_X8_heldWithin l G σ (a1 / (12 : Int32)) (0 : Int32) (100 : Int32) r61 h61) cw_X8_heldWithin q_363 (by simp [NW]) rfl rfl rfl (Nat.le_of_ble_eq_true rfl) ⟨Nat.le_of_ble_eq_true rfl, Nat.le_of_ble_eq_true rfl⟩ ⟨Nat.le_refl _, Nat.le_refl _⟩ dX1_give_61 rfl ?_
      exact sm_iret X hr dX1_give_64 rfl
    · refine sm_aload_n X 45 0 dX1_give_44 rfl rfl rfl ?_
      refine sm_iload_n X 46 1 dX1_give_45 rfl rfl rfl ?_
      refine sm_iload_n X 47 2 dX1_give_46 rfl rfl rfl ?_
      refine sm_iload_n X 48 3 dX1_give_47 rfl rfl rfl ?_
      refine sm_bind (fun r48 h48 => ?_)
      refine sm_callV0 X 51 [.int a1, .int a2, .int a3] [] [.int r48.1] (c_X1_workOut l G σ k0 hk0 a1 a2 a3 r48 h48) cw_X1_workOut q_354 qs_1 q_352 hk0 (by decide) rfl rfl rfl rfl rfl (Nat.le_of_ble_eq_true rfl) ⟨Nat.le_of_ble_eq_true rfl, Nat.le_of_ble_eq_true rfl⟩ ⟨Nat.le_refl _, Nat.le_refl _⟩ dX1_give_48 rfl ?_
      refine sm_goto X 58 dX1_give_51 (by decide) ?_
      refine sm_iconst X 59 (0) dX1_give_58 rfl rfl ?_
      refine sm_bipush X 61 (100) dX1_give_59 rfl rfl ?_
      refine sm_bind (fun r61 h61 => ?_)
      refine sm_callSN0 X 64 (host := RX8) [.int r48.1, .int 0, .int 100] [] [.int r61] (c_X8_heldWithin l G r48.2 r48.1 (0 : Int32) (100 : Int32) r61 h61) cw_X8_heldWithin q_363 (by simp [NW]) rfl rfl rfl (Nat.le_of_ble_eq_true rfl) ⟨Nat.le_of_ble_eq_true rfl, Nat.le_of_ble_eq_true rfl⟩ ⟨Nat.le_refl _, Nat.le_refl _⟩ dX1_give_61 rfl ?_
      exact sm_iret X hr dX1_give_64 rfl
set_option maxRecDepth 20000 in
theorem dX0_flowOf_0 : decode cX0_flowOf 0 = .ok (.iload_n 1, 1) := by decide +kernel
set_option maxRecDepth 20000 in
theorem dX0_flowOf_1 : decode cX0_flowOf 1 = .ok (.iconst 0, 1) := by decide +kernel
set_option maxRecDepth 20000 in
theorem dX0_flowOf_2 : decode cX0_flowOf 2 = .ok (.iconst 5, 1) := by decide +kernel
set_option maxRecDepth 20000 in
theorem dX0_flowOf_3 : decode cX0_flowOf 3 = .ok (.invokestatic 71, 3) := by decide +kernel
set_option maxRecDepth 20000 in
theorem dX0_flowOf_6 : decode cX0_flowOf 6 = .ok (.ifCond .eq 5, 3) := by decide +kernel
set_option maxRecDepth 20000 in
theorem dX0_flowOf_9 : decode cX0_flowOf 9 = .ok (.iconst 0, 1) := by decide +kernel
set_option maxRecDepth 20000 in
theorem dX0_flowOf_10 : decode cX0_flowOf 10 = .ok (.ireturn, 1) := by decide +kernel
set_option maxRecDepth 20000 in
theorem dX0_flowOf_11 : decode cX0_flowOf 11 = .ok (.aload_n 0, 1) := by decide +kernel
set_option maxRecDepth 20000 in
theorem dX0_flowOf_12 : decode cX0_flowOf 12 = .ok (.getfield 48, 3) := by decide +kernel
set_option maxRecDepth 20000 in
theorem dX0_flowOf_15 : decode cX0_flowOf 15 = .ok (.aload_n 0, 1) := by decide +kernel
set_option maxRecDepth 20000 in
theorem dX0_flowOf_16 : decode cX0_flowOf 16 = .ok (.getfield 9, 3) := by decide +kernel
set_option maxRecDepth 20000 in
theorem dX0_flowOf_19 : decode cX0_flowOf 19 = .ok (.iload_n 1, 1) := by decide +kernel
set_option maxRecDepth 20000 in
theorem dX0_flowOf_20 : decode cX0_flowOf 20 = .ok (.iaload, 1) := by decide +kernel
set_option maxRecDepth 20000 in
theorem dX0_flowOf_21 : decode cX0_flowOf 21 = .ok (.iload_n 2, 1) := by decide +kernel
set_option maxRecDepth 20000 in
theorem dX0_flowOf_22 : decode cX0_flowOf 22 = .ok (.iload_n 1, 1) := by decide +kernel
set_option maxRecDepth 20000 in
theorem dX0_flowOf_23 : decode cX0_flowOf 23 = .ok (.invokevirtual 75, 3) := by decide +kernel
set_option maxRecDepth 20000 in
theorem dX0_flowOf_26 : decode cX0_flowOf 26 = .ok (.ireturn, 1) := by decide +kernel
set_option maxHeartbeats 4000000 in
set_option maxRecDepth 100000 in
theorem c_X0_flowOf (l : Launch) (G : GT) (σ : Sto) (k0 : Nat) (hk0 : K0 k0 = 0) (a1 : Int32) (a2 : Int32) (r : (Int32 × Sto)) (h : f_X0_flowOf σ k0 a1 a2 = some r) : MW l G (5) (136) 0 0 yX0_flowOf cX0_flowOf 3 (Option.some Jvm.ClassFile.FieldType.int) [.ref (gad G k0), .int a1, .int a2] (wl G σ) (some (.int r.1)) (wl G r.2) := by
  refine mw_of RX0 (fiI G) [(0, .ref (gad G k0)), (1, .int a1), (2, .int a2)] (by decide +kernel) rfl (Nat.le_of_ble_eq_true rfl) rfl h rfl (fun p e s m args below meth c X hr hnm => ?_)
  unfold f_X0_flowOf
  refine sm_iload_n X 1 1 dX0_flowOf_0 rfl rfl rfl ?_
  refine sm_iconst X 2 (0) dX0_flowOf_1 rfl rfl ?_
  refine sm_iconst X 3 (5) dX0_flowOf_2 rfl rfl ?_
  refine sm_bind (fun r3 h3 => ?_)
  refine sm_callSN0 X 6 (host := RX8) [.int a1, .int 0, .int 5] [] [.int (b2i r3)] (c_X8_isOutside l G σ a1 (0 : Int32) (5 : Int32) r3 h3) cw_X8_isOutside q_328 (by simp [NW]) rfl rfl rfl (Nat.le_of_ble_eq_true rfl) ⟨Nat.le_of_ble_eq_true rfl, Nat.le_of_ble_eq_true rfl⟩ ⟨Nat.le_refl _, Nat.le_refl _⟩ dX0_flowOf_3 rfl ?_
  refine sm_ifz_eq X 9 11 dX0_flowOf_6 rfl (by decide) (fun h6 => ?_) (fun h6 => ?_)
  · refine sm_iconst X 10 (0) dX0_flowOf_9 rfl rfl ?_
    exact sm_iret X hr dX0_flowOf_10 rfl
  · refine sm_aload_n X 12 0 dX0_flowOf_11 rfl rfl rfl ?_
    refine sm_getf X 15 (A0 k0 9) hk0 fd_0_9 (fr_0_9 hk0).1 dX0_flowOf_12 rfl q_106 ?_
    refine sm_aload_n X 16 0 dX0_flowOf_15 rfl rfl rfl ?_
    refine sm_getf X 19 (A0 k0 0) hk0 fd_0_0 (fr_0_0 hk0).1 dX0_flowOf_16 rfl q_89 ?_
    refine sm_iload_n X 20 1 dX0_flowOf_19 rfl rfl rfl ?_
    refine sm_iald X 21 ((fr_0_0 hk0).2.1) dX0_flowOf_20 rfl (fun r20 e20 => ?_)
    clear e20
    refine sm_iload_n X 22 2 dX0_flowOf_21 rfl rfl rfl ?_
    refine sm_iload_n X 23 1 dX0_flowOf_22 rfl rfl rfl ?_
    refine sm_bind (fun r23 h23 => ?_)
    refine sm_callV0 X 26 [.int r20, .int a2, .int a1] [] [.int r23.1] (c_X1_give l G σ (A0 k0 9) ((fr_0_9 hk0).2.1) r20 a2 a1 r23 h23) cw_X1_give q_349 q_350 q_348 ((fr_0_9 hk0).2.1) (by decide) rfl rfl rfl rfl rfl (Nat.le_of_ble_eq_true rfl) ⟨Nat.le_of_ble_eq_true rfl, Nat.le_of_ble_eq_true rfl⟩ ⟨Nat.le_refl _, Nat.le_refl _⟩ dX0_flowOf_23 rfl ?_
    exact sm_iret X hr dX0_flowOf_26 rfl
set_option maxRecDepth 20000 in
theorem dX0_addToTape_0 : decode cX0_addToTape 0 = .ok (.iconst 0, 1) := by decide +kernel
set_option maxRecDepth 20000 in
theorem dX0_addToTape_1 : decode cX0_addToTape 1 = .ok (.istore 4, 2) := by decide +kernel
set_option maxRecDepth 20000 in
theorem dX0_addToTape_3 : decode cX0_addToTape 3 = .ok (.iload 4, 2) := by decide +kernel
set_option maxRecDepth 20000 in
theorem dX0_addToTape_5 : decode cX0_addToTape 5 = .ok (.iload_n 3, 1) := by decide +kernel
set_option maxRecDepth 20000 in
theorem dX0_addToTape_6 : decode cX0_addToTape 6 = .ok (.if_icmp .ge 52, 3) := by decide +kernel
set_option maxRecDepth 20000 in
theorem dX0_addToTape_9 : decode cX0_addToTape 9 = .ok (.aload_n 0, 1) := by decide +kernel
set_option maxRecDepth 20000 in
theorem dX0_addToTape_10 : decode cX0_addToTape 10 = .ok (.getfield 58, 3) := by decide +kernel
set_option maxRecDepth 20000 in
theorem dX0_addToTape_13 : decode cX0_addToTape 13 = .ok (.aload_n 0, 1) := by decide +kernel
set_option maxRecDepth 20000 in
theorem dX0_addToTape_14 : decode cX0_addToTape 14 = .ok (.getfield 55, 3) := by decide +kernel
set_option maxRecDepth 20000 in
theorem dX0_addToTape_17 : decode cX0_addToTape 17 = .ok (.arraylength, 1) := by decide +kernel
set_option maxRecDepth 20000 in
theorem dX0_addToTape_18 : decode cX0_addToTape 18 = .ok (.if_icmp .ge 40, 3) := by decide +kernel
set_option maxRecDepth 20000 in
theorem dX0_addToTape_21 : decode cX0_addToTape 21 = .ok (.aload_n 0, 1) := by decide +kernel
set_option maxRecDepth 20000 in
theorem dX0_addToTape_22 : decode cX0_addToTape 22 = .ok (.getfield 55, 3) := by decide +kernel
set_option maxRecDepth 20000 in
theorem dX0_addToTape_25 : decode cX0_addToTape 25 = .ok (.aload_n 0, 1) := by decide +kernel
set_option maxRecDepth 20000 in
theorem dX0_addToTape_26 : decode cX0_addToTape 26 = .ok (.getfield 58, 3) := by decide +kernel
set_option maxRecDepth 20000 in
theorem dX0_addToTape_29 : decode cX0_addToTape 29 = .ok (.lload_n 1, 1) := by decide +kernel
set_option maxRecDepth 20000 in
theorem dX0_addToTape_30 : decode cX0_addToTape 30 = .ok (.bipush 8, 2) := by decide +kernel
set_option maxRecDepth 20000 in
theorem dX0_addToTape_32 : decode cX0_addToTape 32 = .ok (.iload 4, 2) := by decide +kernel
set_option maxRecDepth 20000 in
theorem dX0_addToTape_34 : decode cX0_addToTape 34 = .ok (.imul, 1) := by decide +kernel
set_option maxRecDepth 20000 in
theorem dX0_addToTape_35 : decode cX0_addToTape 35 = .ok (.lushr, 1) := by decide +kernel
set_option maxRecDepth 20000 in
theorem dX0_addToTape_36 : decode cX0_addToTape 36 = .ok (.l2i, 1) := by decide +kernel
set_option maxRecDepth 20000 in
theorem dX0_addToTape_37 : decode cX0_addToTape 37 = .ok (.sipush 255, 3) := by decide +kernel
set_option maxRecDepth 20000 in
theorem dX0_addToTape_40 : decode cX0_addToTape 40 = .ok (.iand, 1) := by decide +kernel
set_option maxRecDepth 20000 in
theorem dX0_addToTape_41 : decode cX0_addToTape 41 = .ok (.iastore, 1) := by decide +kernel
set_option maxRecDepth 20000 in
theorem dX0_addToTape_42 : decode cX0_addToTape 42 = .ok (.aload_n 0, 1) := by decide +kernel
set_option maxRecDepth 20000 in
theorem dX0_addToTape_43 : decode cX0_addToTape 43 = .ok (.dup, 1) := by decide +kernel
set_option maxRecDepth 20000 in
theorem dX0_addToTape_44 : decode cX0_addToTape 44 = .ok (.getfield 58, 3) := by decide +kernel
set_option maxRecDepth 20000 in
theorem dX0_addToTape_47 : decode cX0_addToTape 47 = .ok (.iconst 1, 1) := by decide +kernel
set_option maxRecDepth 20000 in
theorem dX0_addToTape_48 : decode cX0_addToTape 48 = .ok (.iadd, 1) := by decide +kernel
set_option maxRecDepth 20000 in
theorem dX0_addToTape_49 : decode cX0_addToTape 49 = .ok (.putfield 58, 3) := by decide +kernel
set_option maxRecDepth 20000 in
theorem dX0_addToTape_52 : decode cX0_addToTape 52 = .ok (.iinc 4 1, 3) := by decide +kernel
set_option maxRecDepth 20000 in
theorem dX0_addToTape_55 : decode cX0_addToTape 55 = .ok (.goto (-52), 3) := by decide +kernel
set_option maxRecDepth 20000 in
theorem dX0_addToTape_58 : decode cX0_addToTape 58 = .ok (.return_, 1) := by decide +kernel
set_option maxHeartbeats 4000000 in
set_option maxRecDepth 100000 in
theorem c_X0_addToTape (l : Launch) (G : GT) (σ : Sto) (k0 : Nat) (hk0 : K0 k0 = 0) (a1 : Int64) (a3 : Int32) (r : Sto) (h : f_X0_addToTape σ k0 a1 a3 = some r) : MW l G (2) (64) 0 0 yX0_addToTape cX0_addToTape 5 (Option.none : Option Jvm.ClassFile.FieldType) [.ref (gad G k0), .long a1, .int a3] (wl G σ) (none) (wl G r) := by
  refine mw_of RX0 (fiV G) [(0, .ref (gad G k0)), (1, .long a1), (3, .int a3)] (by decide +kernel) rfl (Nat.le_of_ble_eq_true rfl) rfl h rfl (fun p e s m args below meth c X hr hnm => ?_)
  have J3 : ∀ (k0 : Nat) (hk0 : K0 k0 = 0) (v1 : Int64) (v3 : Int32)  (n : Nat) (v4 : Int32) (σ : Sto), Sm p l e { frames := 2, cells := 0, slots := 0, locals := 64 } s m args below meth c G 5 (Qm below args s G 0 0 (fiV G)) 0 0 (wl G σ) 3 [(0, .ref (gad G k0)), (1, .long v1), (3, .int v3), (4, .int v4)] [] (f_X0_addToTape_L3  k0 v1 v3 n v4 σ) := by
    intro k0 hk0 v1 v3 n
    induction n with
    | zero => intro v4 σ; rw [f_X0_addToTape_L3]; exact sm_none
    | succ n ihl =>
      intro v4 σ
      rw [f_X0_addToTape_L3]
      refine sm_iload X 5 3 dX0_addToTape_3 rfl rfl ?_
      refine sm_iload_n X 6 2 dX0_addToTape_5 rfl rfl rfl ?_
      refine sm_icmp_ge X 9 58 dX0_addToTape_6 rfl (by decide) (fun h6 => ?_) (fun h6 => ?_)
      · exact sm_vret X hr dX0_addToTape_58 rfl
      · refine sm_aload_n X 10 0 dX0_addToTape_9 rfl rfl rfl ?_
        refine sm_geti X 13 hk0 fd_0_12 dX0_addToTape_10 rfl q_110 ?_
        refine sm_aload_n X 14 0 dX0_addToTape_13 rfl rfl rfl ?_
        refine sm_getf X 17 (A0 k0 11) hk0 fd_0_11 (fr_0_11 hk0).1 dX0_addToTape_14 rfl q_108 ?_
        refine sm_alen X 18 50 (Or.inl ((fr_0_11 hk0).2.1)) (by rw [(fr_0_11 hk0).2.2]; rfl) dX0_addToTape_17 rfl ?_
        refine sm_icmp_ge X 21 58 dX0_addToTape_18 rfl (by decide) (fun h18 => ?_) (fun h18 => ?_)
        · exact sm_vret X hr dX0_addToTape_58 rfl
        · refine sm_aload_n X 22 0 dX0_addToTape_21 rfl rfl rfl ?_
          refine sm_getf X 25 (A0 k0 11) hk0 fd_0_11 (fr_0_11 hk0).1 dX0_addToTape_22 rfl q_108 ?_
          refine sm_aload_n X 26 0 dX0_addToTape_25 rfl rfl rfl ?_
          refine sm_geti X 29 hk0 fd_0_12 dX0_addToTape_26 rfl q_110 ?_
          refine sm_lload_n X 30 1 dX0_addToTape_29 rfl rfl rfl ?_
          refine sm_bipush X 32 (8) dX0_addToTape_30 rfl rfl ?_
          refine sm_iload X 34 3 dX0_addToTape_32 rfl rfl ?_
          refine sm_imul X 35 dX0_addToTape_34 rfl ?_
          refine sm_lushr X 36 dX0_addToTape_35 rfl ?_
          refine sm_l2i X 37 dX0_addToTape_36 rfl ?_
          refine sm_sipush X 40 (255) dX0_addToTape_37 rfl rfl ?_
          refine sm_iand X 41 dX0_addToTape_40 rfl ?_
          refine sm_iast X 42 ((fr_0_11 hk0).2.1) dX0_addToTape_41 rfl (fun σ41 e41 => ?_)
          clear e41
          refine sm_aload_n X 43 0 dX0_addToTape_42 rfl rfl rfl ?_
          refine sm_dup X 44 dX0_addToTape_43 rfl rfl ?_
          refine sm_geti X 47 hk0 fd_0_12 dX0_addToTape_44 rfl q_110 ?_
          refine sm_iconst X 48 (1) dX0_addToTape_47 rfl rfl ?_
          refine sm_iadd X 49 dX0_addToTape_48 rfl ?_
          refine sm_puti X 52 .int hk0 fd_0_12 (by decide) rfl rfl rfl dX0_addToTape_49 rfl q_110 (fun σ49 e49 => ?_)
          clear e49
          refine sm_iinc X 55 3 (1 : Int32) [(4, .int (v4 + (1 : Int32))), (0, .ref (gad G k0)), (1, .long v1), (3, .int v3)] dX0_addToTape_52 rfl rfl rfl (by decide) rfl ?_
          refine sm_goto X 3 dX0_addToTape_55 (by decide) ?_
          exact sm_sub [1, 2, 3, 0] rfl (ihl (v4 + (1 : Int32)) σ49)
  unfold f_X0_addToTape
  refine sm_iconst X 1 (0) dX0_addToTape_0 rfl rfl ?_
  refine sm_istore X 3 [(4, .int 0), (0, .ref (gad G k0)), (1, .long a1), (3, .int a3)] dX0_addToTape_1 rfl (by decide) rfl ?_
  exact sm_sub [1, 2, 3, 0] rfl (J3 k0 hk0 a1 a3  FU (0 : Int32) σ)
set_option maxRecDepth 20000 in
theorem dX0_draw_0 : decode cX0_draw 0 = .ok (.aload_n 0, 1) := by decide +kernel
set_option maxRecDepth 20000 in
theorem dX0_draw_1 : decode cX0_draw 1 = .ok (.aload_n 0, 1) := by decide +kernel
set_option maxRecDepth 20000 in
theorem dX0_draw_2 : decode cX0_draw 2 = .ok (.getfield 67, 3) := by decide +kernel
set_option maxRecDepth 20000 in
theorem dX0_draw_5 : decode cX0_draw 5 = .ok (.ldc 79, 2) := by decide +kernel
set_option maxRecDepth 20000 in
theorem dX0_draw_7 : decode cX0_draw 7 = .ok (.imul, 1) := by decide +kernel
set_option maxRecDepth 20000 in
theorem dX0_draw_8 : decode cX0_draw 8 = .ok (.sipush 12345, 3) := by decide +kernel
set_option maxRecDepth 20000 in
theorem dX0_draw_11 : decode cX0_draw 11 = .ok (.iadd, 1) := by decide +kernel
set_option maxRecDepth 20000 in
theorem dX0_draw_12 : decode cX0_draw 12 = .ok (.putfield 67, 3) := by decide +kernel
set_option maxRecDepth 20000 in
theorem dX0_draw_15 : decode cX0_draw 15 = .ok (.aload_n 0, 1) := by decide +kernel
set_option maxRecDepth 20000 in
theorem dX0_draw_16 : decode cX0_draw 16 = .ok (.getfield 67, 3) := by decide +kernel
set_option maxRecDepth 20000 in
theorem dX0_draw_19 : decode cX0_draw 19 = .ok (.bipush 8, 2) := by decide +kernel
set_option maxRecDepth 20000 in
theorem dX0_draw_21 : decode cX0_draw 21 = .ok (.iushr, 1) := by decide +kernel
set_option maxRecDepth 20000 in
theorem dX0_draw_22 : decode cX0_draw 22 = .ok (.ireturn, 1) := by decide +kernel
set_option maxHeartbeats 4000000 in
set_option maxRecDepth 100000 in
theorem c_X0_draw (l : Launch) (G : GT) (σ : Sto) (k0 : Nat) (hk0 : K0 k0 = 0) (r : (Int32 × Sto)) (h : f_X0_draw σ k0 = some r) : MW l G (2) (64) 0 0 yX0_draw cX0_draw 1 (Option.some Jvm.ClassFile.FieldType.int) [.ref (gad G k0)] (wl G σ) (some (.int r.1)) (wl G r.2) := by
  refine mw_of RX0 (fiI G) [(0, .ref (gad G k0))] (by decide +kernel) rfl (Nat.le_of_ble_eq_true rfl) rfl h rfl (fun p e s m args below meth c X hr hnm => ?_)
  unfold f_X0_draw
  refine sm_aload_n X 1 0 dX0_draw_0 rfl rfl rfl ?_
  refine sm_aload_n X 2 0 dX0_draw_1 rfl rfl rfl ?_
  refine sm_geti X 5 hk0 fd_0_15 dX0_draw_2 rfl q_116 ?_
  refine sm_ldc X 7 (1103515245) dX0_draw_5 rfl q_676 ?_
  refine sm_imul X 8 dX0_draw_7 rfl ?_
  refine sm_sipush X 11 (12345) dX0_draw_8 rfl rfl ?_
  refine sm_iadd X 12 dX0_draw_11 rfl ?_
  refine sm_puti X 15 .int hk0 fd_0_15 (by decide) rfl rfl rfl dX0_draw_12 rfl q_116 (fun σ12 e12 => ?_)
  clear e12
  refine sm_aload_n X 16 0 dX0_draw_15 rfl rfl rfl ?_
  refine sm_geti X 19 hk0 fd_0_15 dX0_draw_16 rfl q_116 ?_
  refine sm_bipush X 21 (8) dX0_draw_19 rfl rfl ?_
  refine sm_iushr X 22 dX0_draw_21 rfl ?_
  exact sm_iret X hr dX0_draw_22 rfl
set_option maxRecDepth 20000 in
theorem dX0_share_0 : decode cX0_share 0 = .ok (.aload_n 0, 1) := by decide +kernel
set_option maxRecDepth 20000 in
theorem dX0_share_1 : decode cX0_share 1 = .ok (.getfield 52, 3) := by decide +kernel
set_option maxRecDepth 20000 in
theorem dX0_share_4 : decode cX0_share 4 = .ok (.aload_n 0, 1) := by decide +kernel
set_option maxRecDepth 20000 in
theorem dX0_share_5 : decode cX0_share 5 = .ok (.getfield 22, 3) := by decide +kernel
set_option maxRecDepth 20000 in
theorem dX0_share_8 : decode cX0_share 8 = .ok (.aload_n 0, 1) := by decide +kernel
set_option maxRecDepth 20000 in
theorem dX0_share_9 : decode cX0_share 9 = .ok (.getfield 25, 3) := by decide +kernel
set_option maxRecDepth 20000 in
theorem dX0_share_12 : decode cX0_share 12 = .ok (.aload_n 0, 1) := by decide +kernel
set_option maxRecDepth 20000 in
theorem dX0_share_13 : decode cX0_share 13 = .ok (.getfield 15, 3) := by decide +kernel
set_option maxRecDepth 20000 in
theorem dX0_share_16 : decode cX0_share 16 = .ok (.invokevirtual 75, 3) := by decide +kernel
set_option maxRecDepth 20000 in
theorem dX0_share_19 : decode cX0_share 19 = .ok (.istore_n 1, 1) := by decide +kernel
set_option maxRecDepth 20000 in
theorem dX0_share_20 : decode cX0_share 20 = .ok (.aload_n 0, 1) := by decide +kernel
set_option maxRecDepth 20000 in
theorem dX0_share_21 : decode cX0_share 21 = .ok (.ldc 80, 2) := by decide +kernel
set_option maxRecDepth 20000 in
theorem dX0_share_23 : decode cX0_share 23 = .ok (.aload_n 0, 1) := by decide +kernel
set_option maxRecDepth 20000 in
theorem dX0_share_24 : decode cX0_share 24 = .ok (.getfield 28, 3) := by decide +kernel
set_option maxRecDepth 20000 in
theorem dX0_share_27 : decode cX0_share 27 = .ok (.iload_n 1, 1) := by decide +kernel
set_option maxRecDepth 20000 in
theorem dX0_share_28 : decode cX0_share 28 = .ok (.iadd, 1) := by decide +kernel
set_option maxRecDepth 20000 in
theorem dX0_share_29 : decode cX0_share 29 = .ok (.invokestatic 81, 3) := by decide +kernel
set_option maxRecDepth 20000 in
theorem dX0_share_32 : decode cX0_share 32 = .ok (.putfield 28, 3) := by decide +kernel
set_option maxRecDepth 20000 in
theorem dX0_share_35 : decode cX0_share 35 = .ok (.aload_n 0, 1) := by decide +kernel
set_option maxRecDepth 20000 in
theorem dX0_share_36 : decode cX0_share 36 = .ok (.ldc 80, 2) := by decide +kernel
set_option maxRecDepth 20000 in
theorem dX0_share_38 : decode cX0_share 38 = .ok (.aload_n 0, 1) := by decide +kernel
set_option maxRecDepth 20000 in
theorem dX0_share_39 : decode cX0_share 39 = .ok (.getfield 31, 3) := by decide +kernel
set_option maxRecDepth 20000 in
theorem dX0_share_42 : decode cX0_share 42 = .ok (.bipush 100, 2) := by decide +kernel
set_option maxRecDepth 20000 in
theorem dX0_share_44 : decode cX0_share 44 = .ok (.iadd, 1) := by decide +kernel
set_option maxRecDepth 20000 in
theorem dX0_share_45 : decode cX0_share 45 = .ok (.iload_n 1, 1) := by decide +kernel
set_option maxRecDepth 20000 in
theorem dX0_share_46 : decode cX0_share 46 = .ok (.isub, 1) := by decide +kernel
set_option maxRecDepth 20000 in
theorem dX0_share_47 : decode cX0_share 47 = .ok (.invokestatic 81, 3) := by decide +kernel
set_option maxRecDepth 20000 in
theorem dX0_share_50 : decode cX0_share 50 = .ok (.putfield 31, 3) := by decide +kernel
set_option maxRecDepth 20000 in
theorem dX0_share_53 : decode cX0_share 53 = .ok (.return_, 1) := by decide +kernel
set_option maxHeartbeats 4000000 in
set_option maxRecDepth 100000 in
theorem c_X0_share (l : Launch) (G : GT) (σ : Sto) (k0 : Nat) (hk0 : K0 k0 = 0) (r : Sto) (h : f_X0_share σ k0 = some r) : MW l G (5) (136) 0 0 yX0_share cX0_share 2 (Option.none : Option Jvm.ClassFile.FieldType) [.ref (gad G k0)] (wl G σ) (none) (wl G r) := by
  refine mw_of RX0 (fiV G) [(0, .ref (gad G k0))] (by decide +kernel) rfl (Nat.le_of_ble_eq_true rfl) rfl h rfl (fun p e s m args below meth c X hr hnm => ?_)
  unfold f_X0_share
  refine sm_aload_n X 1 0 dX0_share_0 rfl rfl rfl ?_
  refine sm_getf X 4 (A0 k0 10) hk0 fd_0_10 (fr_0_10 hk0).1 dX0_share_1 rfl q_107 ?_
  refine sm_aload_n X 5 0 dX0_share_4 rfl rfl rfl ?_
  refine sm_geti X 8 hk0 fd_0_3 dX0_share_5 rfl q_95 ?_
  refine sm_aload_n X 9 0 dX0_share_8 rfl rfl rfl ?_
  refine sm_geti X 12 hk0 fd_0_4 dX0_share_9 rfl q_97 ?_
  refine sm_aload_n X 13 0 dX0_share_12 rfl rfl rfl ?_
  refine sm_geti X 16 hk0 fd_0_1 dX0_share_13 rfl q_91 ?_
  refine sm_bind (fun r16 h16 => ?_)
  refine sm_callV0 X 19 [.int (σ.1 k0 3), .int (σ.1 k0 4), .int (σ.1 k0 1)] [] [.int r16.1] (c_X1_give l G σ (A0 k0 10) ((fr_0_10 hk0).2.1) (σ.1 k0 3) (σ.1 k0 4) (σ.1 k0 1) r16 h16) cw_X1_give q_349 q_350 q_348 ((fr_0_10 hk0).2.1) (by decide) rfl rfl rfl rfl rfl (Nat.le_of_ble_eq_true rfl) ⟨Nat.le_of_ble_eq_true rfl, Nat.le_of_ble_eq_true rfl⟩ ⟨Nat.le_refl _, Nat.le_refl _⟩ dX0_share_16 rfl ?_
  refine sm_istore_n X 20 [(1, .int r16.1), (0, .ref (gad G k0))] dX0_share_19 rfl rfl (by decide) rfl ?_
  refine sm_aload_n X 21 1 dX0_share_20 rfl rfl rfl ?_
  refine sm_ldc X 23 (999999) dX0_share_21 rfl q_666 ?_
  refine sm_aload_n X 24 1 dX0_share_23 rfl rfl rfl ?_
  refine sm_geti X 27 hk0 fd_0_5 dX0_share_24 rfl q_99 ?_
  refine sm_iload_n X 28 0 dX0_share_27 rfl rfl rfl ?_
  refine sm_iadd X 29 dX0_share_28 rfl ?_
  refine sm_mmin X 32 dX0_share_29 rfl q_667 q_366 q_367 q_11 ⟨Nat.le_of_ble_eq_true rfl, Nat.le_of_ble_eq_true rfl, Nat.le_refl _, Nat.le_refl _⟩ ?_
  refine sm_puti X 35 .int hk0 fd_0_5 (by decide) rfl rfl rfl dX0_share_32 rfl q_99 (fun σ32 e32 => ?_)
  clear e32
  refine sm_aload_n X 36 1 dX0_share_35 rfl rfl rfl ?_
  refine sm_ldc X 38 (999999) dX0_share_36 rfl q_666 ?_
  refine sm_aload_n X 39 1 dX0_share_38 rfl rfl rfl ?_
  refine sm_geti X 42 hk0 fd_0_6 dX0_share_39 rfl q_101 ?_
  refine sm_bipush X 44 (100) dX0_share_42 rfl rfl ?_
  refine sm_iadd X 45 dX0_share_44 rfl ?_
  refine sm_iload_n X 46 0 dX0_share_45 rfl rfl rfl ?_
  refine sm_isub X 47 dX0_share_46 rfl ?_
  refine sm_mmin X 50 dX0_share_47 rfl q_667 q_366 q_367 q_11 ⟨Nat.le_of_ble_eq_true rfl, Nat.le_of_ble_eq_true rfl, Nat.le_refl _, Nat.le_refl _⟩ ?_
  refine sm_puti X 53 .int hk0 fd_0_6 (by decide) rfl rfl rfl dX0_share_50 rfl q_101 (fun σ50 e50 => ?_)
  clear e50
  exact sm_vret X hr dX0_share_53 rfl
set_option maxRecDepth 20000 in
theorem dX1_copy_0 : decode cX1_copy 0 = .ok (.aload_n 0, 1) := by decide +kernel
set_option maxRecDepth 20000 in
theorem dX1_copy_1 : decode cX1_copy 1 = .ok (.aload_n 1, 1) := by decide +kernel
set_option maxRecDepth 20000 in
theorem dX1_copy_2 : decode cX1_copy 2 = .ok (.getfield 18, 3) := by decide +kernel
set_option maxRecDepth 20000 in
theorem dX1_copy_5 : decode cX1_copy 5 = .ok (.putfield 18, 3) := by decide +kernel
set_option maxRecDepth 20000 in
theorem dX1_copy_8 : decode cX1_copy 8 = .ok (.aload_n 1, 1) := by decide +kernel
set_option maxRecDepth 20000 in
theorem dX1_copy_9 : decode cX1_copy 9 = .ok (.getfield 9, 3) := by decide +kernel
set_option maxRecDepth 20000 in
theorem dX1_copy_12 : decode cX1_copy 12 = .ok (.iconst 0, 1) := by decide +kernel
set_option maxRecDepth 20000 in
theorem dX1_copy_13 : decode cX1_copy 13 = .ok (.aload_n 0, 1) := by decide +kernel
set_option maxRecDepth 20000 in
theorem dX1_copy_14 : decode cX1_copy 14 = .ok (.getfield 9, 3) := by decide +kernel
set_option maxRecDepth 20000 in
theorem dX1_copy_17 : decode cX1_copy 17 = .ok (.iconst 0, 1) := by decide +kernel
set_option maxRecDepth 20000 in
theorem dX1_copy_18 : decode cX1_copy 18 = .ok (.bipush 50, 2) := by decide +kernel
set_option maxRecDepth 20000 in
theorem dX1_copy_20 : decode cX1_copy 20 = .ok (.invokestatic 31, 3) := by decide +kernel
set_option maxRecDepth 20000 in
theorem dX1_copy_23 : decode cX1_copy 23 = .ok (.return_, 1) := by decide +kernel
set_option maxHeartbeats 4000000 in
set_option maxRecDepth 100000 in
theorem c_X1_copy (l : Launch) (G : GT) (σ : Sto) (k0 : Nat) (hk0 : K0 k0 = 1) (a1 : Nat) (ha1 : K0 a1 = 1) (r : Sto) (h : f_X1_copy σ k0 a1 = some r) : MW l G (2) (64) 0 0 yX1_copy cX1_copy 2 (Option.none : Option Jvm.ClassFile.FieldType) [.ref (gad G k0), .ref (gad G a1)] (wl G σ) (none) (wl G r) := by
  refine mw_of RX1 (fiV G) [(0, .ref (gad G k0)), (1, .ref (gad G a1))] (by decide +kernel) rfl (Nat.le_of_ble_eq_true rfl) rfl h rfl (fun p e s m args below meth c X hr hnm => ?_)
  unfold f_X1_copy
  refine sm_aload_n X 1 0 dX1_copy_0 rfl rfl rfl ?_
  refine sm_aload_n X 2 1 dX1_copy_1 rfl rfl rfl ?_
  refine sm_geti X 5 ha1 fd_1_3 dX1_copy_2 rfl q_43 ?_
  refine sm_puti X 8 .int hk0 fd_1_3 (by decide) rfl rfl rfl dX1_copy_5 rfl q_43 (fun σ5 e5 => ?_)
  clear e5
  refine sm_aload_n X 9 1 dX1_copy_8 rfl rfl rfl ?_
  refine sm_getf X 12 (A0 a1 1) ha1 fd_1_1 (fr_1_1 ha1).1 dX1_copy_9 rfl q_41 ?_
  refine sm_iconst X 13 (0) dX1_copy_12 rfl rfl ?_
  refine sm_aload_n X 14 0 dX1_copy_13 rfl rfl rfl ?_
  refine sm_getf X 17 (A0 k0 1) hk0 fd_1_1 (fr_1_1 hk0).1 dX1_copy_14 rfl q_41 ?_
  refine sm_iconst X 18 (0) dX1_copy_17 rfl rfl ?_
  refine sm_bipush X 20 (50) dX1_copy_18 rfl rfl ?_
  refine sm_copy X 23 ((fr_1_1 ha1).2.1) ((fr_1_1 hk0).2.1) dX1_copy_20 rfl q_592 q_456 q_455 q_12 ⟨Nat.le_of_ble_eq_true rfl, Nat.le_of_ble_eq_true rfl⟩ (fun σ20 e20 => ?_)
  clear e20
  exact sm_vret X hr dX1_copy_23 rfl
set_option maxRecDepth 20000 in
theorem dX6_copy_0 : decode cX6_copy 0 = .ok (.aload_n 0, 1) := by decide +kernel
set_option maxRecDepth 20000 in
theorem dX6_copy_1 : decode cX6_copy 1 = .ok (.aload_n 1, 1) := by decide +kernel
set_option maxRecDepth 20000 in
theorem dX6_copy_2 : decode cX6_copy 2 = .ok (.getfield 9, 3) := by decide +kernel
set_option maxRecDepth 20000 in
theorem dX6_copy_5 : decode cX6_copy 5 = .ok (.putfield 9, 3) := by decide +kernel
set_option maxRecDepth 20000 in
theorem dX6_copy_8 : decode cX6_copy 8 = .ok (.aload_n 0, 1) := by decide +kernel
set_option maxRecDepth 20000 in
theorem dX6_copy_9 : decode cX6_copy 9 = .ok (.aload_n 1, 1) := by decide +kernel
set_option maxRecDepth 20000 in
theorem dX6_copy_10 : decode cX6_copy 10 = .ok (.getfield 15, 3) := by decide +kernel
set_option maxRecDepth 20000 in
theorem dX6_copy_13 : decode cX6_copy 13 = .ok (.putfield 15, 3) := by decide +kernel
set_option maxRecDepth 20000 in
theorem dX6_copy_16 : decode cX6_copy 16 = .ok (.aload_n 0, 1) := by decide +kernel
set_option maxRecDepth 20000 in
theorem dX6_copy_17 : decode cX6_copy 17 = .ok (.aload_n 1, 1) := by decide +kernel
set_option maxRecDepth 20000 in
theorem dX6_copy_18 : decode cX6_copy 18 = .ok (.getfield 18, 3) := by decide +kernel
set_option maxRecDepth 20000 in
theorem dX6_copy_21 : decode cX6_copy 21 = .ok (.putfield 18, 3) := by decide +kernel
set_option maxRecDepth 20000 in
theorem dX6_copy_24 : decode cX6_copy 24 = .ok (.aload_n 0, 1) := by decide +kernel
set_option maxRecDepth 20000 in
theorem dX6_copy_25 : decode cX6_copy 25 = .ok (.aload_n 1, 1) := by decide +kernel
set_option maxRecDepth 20000 in
theorem dX6_copy_26 : decode cX6_copy 26 = .ok (.getfield 21, 3) := by decide +kernel
set_option maxRecDepth 20000 in
theorem dX6_copy_29 : decode cX6_copy 29 = .ok (.putfield 21, 3) := by decide +kernel
set_option maxRecDepth 20000 in
theorem dX6_copy_32 : decode cX6_copy 32 = .ok (.aload_n 0, 1) := by decide +kernel
set_option maxRecDepth 20000 in
theorem dX6_copy_33 : decode cX6_copy 33 = .ok (.aload_n 1, 1) := by decide +kernel
set_option maxRecDepth 20000 in
theorem dX6_copy_34 : decode cX6_copy 34 = .ok (.getfield 24, 3) := by decide +kernel
set_option maxRecDepth 20000 in
theorem dX6_copy_37 : decode cX6_copy 37 = .ok (.putfield 24, 3) := by decide +kernel
set_option maxRecDepth 20000 in
theorem dX6_copy_40 : decode cX6_copy 40 = .ok (.aload_n 1, 1) := by decide +kernel
set_option maxRecDepth 20000 in
theorem dX6_copy_41 : decode cX6_copy 41 = .ok (.getfield 27, 3) := by decide +kernel
set_option maxRecDepth 20000 in
theorem dX6_copy_44 : decode cX6_copy 44 = .ok (.iconst 0, 1) := by decide +kernel
set_option maxRecDepth 20000 in
theorem dX6_copy_45 : decode cX6_copy 45 = .ok (.aload_n 0, 1) := by decide +kernel
set_option maxRecDepth 20000 in
theorem dX6_copy_46 : decode cX6_copy 46 = .ok (.getfield 27, 3) := by decide +kernel
set_option maxRecDepth 20000 in
theorem dX6_copy_49 : decode cX6_copy 49 = .ok (.iconst 0, 1) := by decide +kernel
set_option maxRecDepth 20000 in
theorem dX6_copy_50 : decode cX6_copy 50 = .ok (.iconst 4, 1) := by decide +kernel
set_option maxRecDepth 20000 in
theorem dX6_copy_51 : decode cX6_copy 51 = .ok (.invokestatic 38, 3) := by decide +kernel
set_option maxRecDepth 20000 in
theorem dX6_copy_54 : decode cX6_copy 54 = .ok (.return_, 1) := by decide +kernel
set_option maxHeartbeats 4000000 in
set_option maxRecDepth 100000 in
theorem c_X6_copy (l : Launch) (G : GT) (σ : Sto) (k0 : Nat) (hk0 : K0 k0 = 6) (a1 : Nat) (ha1 : K0 a1 = 6) (r : Sto) (h : f_X6_copy σ k0 a1 = some r) : MW l G (2) (64) 0 0 yX6_copy cX6_copy 2 (Option.none : Option Jvm.ClassFile.FieldType) [.ref (gad G k0), .ref (gad G a1)] (wl G σ) (none) (wl G r) := by
  refine mw_of RX6 (fiV G) [(0, .ref (gad G k0)), (1, .ref (gad G a1))] (by decide +kernel) rfl (Nat.le_of_ble_eq_true rfl) rfl h rfl (fun p e s m args below meth c X hr hnm => ?_)
  unfold f_X6_copy
  refine sm_aload_n X 1 0 dX6_copy_0 rfl rfl rfl ?_
  refine sm_aload_n X 2 1 dX6_copy_1 rfl rfl rfl ?_
  refine sm_geti X 5 ha1 fd_6_0 dX6_copy_2 rfl q_59 ?_
  refine sm_puti X 8 .int hk0 fd_6_0 (by decide) rfl rfl rfl dX6_copy_5 rfl q_59 (fun σ5 e5 => ?_)
  clear e5
  refine sm_aload_n X 9 0 dX6_copy_8 rfl rfl rfl ?_
  refine sm_aload_n X 10 1 dX6_copy_9 rfl rfl rfl ?_
  refine sm_geti X 13 ha1 fd_6_1 dX6_copy_10 rfl q_62 ?_
  refine sm_puti X 16 .int hk0 fd_6_1 (by decide) rfl rfl rfl dX6_copy_13 rfl q_62 (fun σ13 e13 => ?_)
  clear e13
  refine sm_aload_n X 17 0 dX6_copy_16 rfl rfl rfl ?_
  refine sm_aload_n X 18 1 dX6_copy_17 rfl rfl rfl ?_
  refine sm_geti X 21 ha1 fd_6_2 dX6_copy_18 rfl q_65 ?_
  refine sm_puti X 24 .int hk0 fd_6_2 (by decide) rfl rfl rfl dX6_copy_21 rfl q_65 (fun σ21 e21 => ?_)
  clear e21
  refine sm_aload_n X 25 0 dX6_copy_24 rfl rfl rfl ?_
  refine sm_aload_n X 26 1 dX6_copy_25 rfl rfl rfl ?_
  refine sm_geti X 29 ha1 fd_6_3 dX6_copy_26 rfl q_69 ?_
  refine sm_puti X 32 .int hk0 fd_6_3 (by decide) rfl rfl rfl dX6_copy_29 rfl q_69 (fun σ29 e29 => ?_)
  clear e29
  refine sm_aload_n X 33 0 dX6_copy_32 rfl rfl rfl ?_
  refine sm_aload_n X 34 1 dX6_copy_33 rfl rfl rfl ?_
  refine sm_geti X 37 ha1 fd_6_4 dX6_copy_34 rfl q_71 ?_
  refine sm_puti X 40 .int hk0 fd_6_4 (by decide) rfl rfl rfl dX6_copy_37 rfl q_71 (fun σ37 e37 => ?_)
  clear e37
  refine sm_aload_n X 41 1 dX6_copy_40 rfl rfl rfl ?_
  refine sm_getf X 44 (A0 a1 5) ha1 fd_6_5 (fr_6_5 ha1).1 dX6_copy_41 rfl q_73 ?_
  refine sm_iconst X 45 (0) dX6_copy_44 rfl rfl ?_
  refine sm_aload_n X 46 0 dX6_copy_45 rfl rfl rfl ?_
  refine sm_getf X 49 (A0 k0 5) hk0 fd_6_5 (fr_6_5 hk0).1 dX6_copy_46 rfl q_73 ?_
  refine sm_iconst X 50 (0) dX6_copy_49 rfl rfl ?_
  refine sm_iconst X 51 (4) dX6_copy_50 rfl rfl ?_
  refine sm_copy X 54 ((fr_6_5 ha1).2.1) ((fr_6_5 hk0).2.1) dX6_copy_51 rfl q_689 q_456 q_455 q_12 ⟨Nat.le_of_ble_eq_true rfl, Nat.le_of_ble_eq_true rfl⟩ (fun σ51 e51 => ?_)
  clear e51
  exact sm_vret X hr dX6_copy_54 rfl
set_option maxRecDepth 20000 in
theorem dX0_copy_0 : decode cX0_copy 0 = .ok (.aload_n 0, 1) := by decide +kernel
set_option maxRecDepth 20000 in
theorem dX0_copy_1 : decode cX0_copy 1 = .ok (.aload_n 1, 1) := by decide +kernel
set_option maxRecDepth 20000 in
theorem dX0_copy_2 : decode cX0_copy 2 = .ok (.getfield 15, 3) := by decide +kernel
set_option maxRecDepth 20000 in
theorem dX0_copy_5 : decode cX0_copy 5 = .ok (.putfield 15, 3) := by decide +kernel
set_option maxRecDepth 20000 in
theorem dX0_copy_8 : decode cX0_copy 8 = .ok (.aload_n 0, 1) := by decide +kernel
set_option maxRecDepth 20000 in
theorem dX0_copy_9 : decode cX0_copy 9 = .ok (.aload_n 1, 1) := by decide +kernel
set_option maxRecDepth 20000 in
theorem dX0_copy_10 : decode cX0_copy 10 = .ok (.getfield 19, 3) := by decide +kernel
set_option maxRecDepth 20000 in
theorem dX0_copy_13 : decode cX0_copy 13 = .ok (.putfield 19, 3) := by decide +kernel
set_option maxRecDepth 20000 in
theorem dX0_copy_16 : decode cX0_copy 16 = .ok (.aload_n 0, 1) := by decide +kernel
set_option maxRecDepth 20000 in
theorem dX0_copy_17 : decode cX0_copy 17 = .ok (.aload_n 1, 1) := by decide +kernel
set_option maxRecDepth 20000 in
theorem dX0_copy_18 : decode cX0_copy 18 = .ok (.getfield 22, 3) := by decide +kernel
set_option maxRecDepth 20000 in
theorem dX0_copy_21 : decode cX0_copy 21 = .ok (.putfield 22, 3) := by decide +kernel
set_option maxRecDepth 20000 in
theorem dX0_copy_24 : decode cX0_copy 24 = .ok (.aload_n 0, 1) := by decide +kernel
set_option maxRecDepth 20000 in
theorem dX0_copy_25 : decode cX0_copy 25 = .ok (.aload_n 1, 1) := by decide +kernel
set_option maxRecDepth 20000 in
theorem dX0_copy_26 : decode cX0_copy 26 = .ok (.getfield 25, 3) := by decide +kernel
set_option maxRecDepth 20000 in
theorem dX0_copy_29 : decode cX0_copy 29 = .ok (.putfield 25, 3) := by decide +kernel
set_option maxRecDepth 20000 in
theorem dX0_copy_32 : decode cX0_copy 32 = .ok (.aload_n 0, 1) := by decide +kernel
set_option maxRecDepth 20000 in
theorem dX0_copy_33 : decode cX0_copy 33 = .ok (.aload_n 1, 1) := by decide +kernel
set_option maxRecDepth 20000 in
theorem dX0_copy_34 : decode cX0_copy 34 = .ok (.getfield 28, 3) := by decide +kernel
set_option maxRecDepth 20000 in
theorem dX0_copy_37 : decode cX0_copy 37 = .ok (.putfield 28, 3) := by decide +kernel
set_option maxRecDepth 20000 in
theorem dX0_copy_40 : decode cX0_copy 40 = .ok (.aload_n 0, 1) := by decide +kernel
set_option maxRecDepth 20000 in
theorem dX0_copy_41 : decode cX0_copy 41 = .ok (.aload_n 1, 1) := by decide +kernel
set_option maxRecDepth 20000 in
theorem dX0_copy_42 : decode cX0_copy 42 = .ok (.getfield 31, 3) := by decide +kernel
set_option maxRecDepth 20000 in
theorem dX0_copy_45 : decode cX0_copy 45 = .ok (.putfield 31, 3) := by decide +kernel
set_option maxRecDepth 20000 in
theorem dX0_copy_48 : decode cX0_copy 48 = .ok (.aload_n 0, 1) := by decide +kernel
set_option maxRecDepth 20000 in
theorem dX0_copy_49 : decode cX0_copy 49 = .ok (.aload_n 1, 1) := by decide +kernel
set_option maxRecDepth 20000 in
theorem dX0_copy_50 : decode cX0_copy 50 = .ok (.getfield 40, 3) := by decide +kernel
set_option maxRecDepth 20000 in
theorem dX0_copy_53 : decode cX0_copy 53 = .ok (.putfield 40, 3) := by decide +kernel
set_option maxRecDepth 20000 in
theorem dX0_copy_56 : decode cX0_copy 56 = .ok (.aload_n 0, 1) := by decide +kernel
set_option maxRecDepth 20000 in
theorem dX0_copy_57 : decode cX0_copy 57 = .ok (.aload_n 1, 1) := by decide +kernel
set_option maxRecDepth 20000 in
theorem dX0_copy_58 : decode cX0_copy 58 = .ok (.getfield 58, 3) := by decide +kernel
set_option maxRecDepth 20000 in
theorem dX0_copy_61 : decode cX0_copy 61 = .ok (.putfield 58, 3) := by decide +kernel
set_option maxRecDepth 20000 in
theorem dX0_copy_64 : decode cX0_copy 64 = .ok (.aload_n 0, 1) := by decide +kernel
set_option maxRecDepth 20000 in
theorem dX0_copy_65 : decode cX0_copy 65 = .ok (.aload_n 1, 1) := by decide +kernel
set_option maxRecDepth 20000 in
theorem dX0_copy_66 : decode cX0_copy 66 = .ok (.getfield 64, 3) := by decide +kernel
set_option maxRecDepth 20000 in
theorem dX0_copy_69 : decode cX0_copy 69 = .ok (.putfield 64, 3) := by decide +kernel
set_option maxRecDepth 20000 in
theorem dX0_copy_72 : decode cX0_copy 72 = .ok (.aload_n 0, 1) := by decide +kernel
set_option maxRecDepth 20000 in
theorem dX0_copy_73 : decode cX0_copy 73 = .ok (.aload_n 1, 1) := by decide +kernel
set_option maxRecDepth 20000 in
theorem dX0_copy_74 : decode cX0_copy 74 = .ok (.getfield 67, 3) := by decide +kernel
set_option maxRecDepth 20000 in
theorem dX0_copy_77 : decode cX0_copy 77 = .ok (.putfield 67, 3) := by decide +kernel
set_option maxRecDepth 20000 in
theorem dX0_copy_80 : decode cX0_copy 80 = .ok (.aload_n 0, 1) := by decide +kernel
set_option maxRecDepth 20000 in
theorem dX0_copy_81 : decode cX0_copy 81 = .ok (.getfield 48, 3) := by decide +kernel
set_option maxRecDepth 20000 in
theorem dX0_copy_84 : decode cX0_copy 84 = .ok (.aload_n 1, 1) := by decide +kernel
set_option maxRecDepth 20000 in
theorem dX0_copy_85 : decode cX0_copy 85 = .ok (.getfield 48, 3) := by decide +kernel
set_option maxRecDepth 20000 in
theorem dX0_copy_88 : decode cX0_copy 88 = .ok (.invokevirtual 87, 3) := by decide +kernel
set_option maxRecDepth 20000 in
theorem dX0_copy_91 : decode cX0_copy 91 = .ok (.aload_n 0, 1) := by decide +kernel
set_option maxRecDepth 20000 in
theorem dX0_copy_92 : decode cX0_copy 92 = .ok (.getfield 52, 3) := by decide +kernel
set_option maxRecDepth 20000 in
theorem dX0_copy_95 : decode cX0_copy 95 = .ok (.aload_n 1, 1) := by decide +kernel
set_option maxRecDepth 20000 in
theorem dX0_copy_96 : decode cX0_copy 96 = .ok (.getfield 52, 3) := by decide +kernel
set_option maxRecDepth 20000 in
theorem dX0_copy_99 : decode cX0_copy 99 = .ok (.invokevirtual 87, 3) := by decide +kernel
set_option maxRecDepth 20000 in
theorem dX0_copy_102 : decode cX0_copy 102 = .ok (.aload_n 1, 1) := by decide +kernel
set_option maxRecDepth 20000 in
theorem dX0_copy_103 : decode cX0_copy 103 = .ok (.getfield 9, 3) := by decide +kernel
set_option maxRecDepth 20000 in
theorem dX0_copy_106 : decode cX0_copy 106 = .ok (.iconst 0, 1) := by decide +kernel
set_option maxRecDepth 20000 in
theorem dX0_copy_107 : decode cX0_copy 107 = .ok (.aload_n 0, 1) := by decide +kernel
set_option maxRecDepth 20000 in
theorem dX0_copy_108 : decode cX0_copy 108 = .ok (.getfield 9, 3) := by decide +kernel
set_option maxRecDepth 20000 in
theorem dX0_copy_111 : decode cX0_copy 111 = .ok (.iconst 0, 1) := by decide +kernel
set_option maxRecDepth 20000 in
theorem dX0_copy_112 : decode cX0_copy 112 = .ok (.bipush 6, 2) := by decide +kernel
set_option maxRecDepth 20000 in
theorem dX0_copy_114 : decode cX0_copy 114 = .ok (.invokestatic 91, 3) := by decide +kernel
set_option maxRecDepth 20000 in
theorem dX0_copy_117 : decode cX0_copy 117 = .ok (.aload_n 1, 1) := by decide +kernel
set_option maxRecDepth 20000 in
theorem dX0_copy_118 : decode cX0_copy 118 = .ok (.getfield 55, 3) := by decide +kernel
set_option maxRecDepth 20000 in
theorem dX0_copy_121 : decode cX0_copy 121 = .ok (.iconst 0, 1) := by decide +kernel
set_option maxRecDepth 20000 in
theorem dX0_copy_122 : decode cX0_copy 122 = .ok (.aload_n 0, 1) := by decide +kernel
set_option maxRecDepth 20000 in
theorem dX0_copy_123 : decode cX0_copy 123 = .ok (.getfield 55, 3) := by decide +kernel
set_option maxRecDepth 20000 in
theorem dX0_copy_126 : decode cX0_copy 126 = .ok (.iconst 0, 1) := by decide +kernel
set_option maxRecDepth 20000 in
theorem dX0_copy_127 : decode cX0_copy 127 = .ok (.bipush 50, 2) := by decide +kernel
set_option maxRecDepth 20000 in
theorem dX0_copy_129 : decode cX0_copy 129 = .ok (.invokestatic 91, 3) := by decide +kernel
set_option maxRecDepth 20000 in
theorem dX0_copy_132 : decode cX0_copy 132 = .ok (.aload_n 1, 1) := by decide +kernel
set_option maxRecDepth 20000 in
theorem dX0_copy_133 : decode cX0_copy 133 = .ok (.getfield 61, 3) := by decide +kernel
set_option maxRecDepth 20000 in
theorem dX0_copy_136 : decode cX0_copy 136 = .ok (.iconst 0, 1) := by decide +kernel
set_option maxRecDepth 20000 in
theorem dX0_copy_137 : decode cX0_copy 137 = .ok (.aload_n 0, 1) := by decide +kernel
set_option maxRecDepth 20000 in
theorem dX0_copy_138 : decode cX0_copy 138 = .ok (.getfield 61, 3) := by decide +kernel
set_option maxRecDepth 20000 in
theorem dX0_copy_141 : decode cX0_copy 141 = .ok (.iconst 0, 1) := by decide +kernel
set_option maxRecDepth 20000 in
theorem dX0_copy_142 : decode cX0_copy 142 = .ok (.bipush 20, 2) := by decide +kernel
set_option maxRecDepth 20000 in
theorem dX0_copy_144 : decode cX0_copy 144 = .ok (.invokestatic 91, 3) := by decide +kernel
set_option maxRecDepth 20000 in
theorem dX0_copy_147 : decode cX0_copy 147 = .ok (.iconst 0, 1) := by decide +kernel
set_option maxRecDepth 20000 in
theorem dX0_copy_148 : decode cX0_copy 148 = .ok (.istore_n 2, 1) := by decide +kernel
set_option maxRecDepth 20000 in
theorem dX0_copy_149 : decode cX0_copy 149 = .ok (.iload_n 2, 1) := by decide +kernel
set_option maxRecDepth 20000 in
theorem dX0_copy_150 : decode cX0_copy 150 = .ok (.aload_n 0, 1) := by decide +kernel
set_option maxRecDepth 20000 in
theorem dX0_copy_151 : decode cX0_copy 151 = .ok (.getfield 40, 3) := by decide +kernel
set_option maxRecDepth 20000 in
theorem dX0_copy_154 : decode cX0_copy 154 = .ok (.if_icmp .ge 37, 3) := by decide +kernel
set_option maxRecDepth 20000 in
theorem dX0_copy_157 : decode cX0_copy 157 = .ok (.aload_n 0, 1) := by decide +kernel
set_option maxRecDepth 20000 in
theorem dX0_copy_158 : decode cX0_copy 158 = .ok (.iload_n 2, 1) := by decide +kernel
set_option maxRecDepth 20000 in
theorem dX0_copy_159 : decode cX0_copy 159 = .ok (.invokevirtual 97, 3) := by decide +kernel
set_option maxRecDepth 20000 in
theorem dX0_copy_162 : decode cX0_copy 162 = .ok (.astore_n 3, 1) := by decide +kernel
set_option maxRecDepth 20000 in
theorem dX0_copy_163 : decode cX0_copy 163 = .ok (.aload_n 1, 1) := by decide +kernel
set_option maxRecDepth 20000 in
theorem dX0_copy_164 : decode cX0_copy 164 = .ok (.iload_n 2, 1) := by decide +kernel
set_option maxRecDepth 20000 in
theorem dX0_copy_165 : decode cX0_copy 165 = .ok (.invokevirtual 97, 3) := by decide +kernel
set_option maxRecDepth 20000 in
theorem dX0_copy_168 : decode cX0_copy 168 = .ok (.astore 4, 2) := by decide +kernel
set_option maxRecDepth 20000 in
theorem dX0_copy_170 : decode cX0_copy 170 = .ok (.aload_n 3, 1) := by decide +kernel
set_option maxRecDepth 20000 in
theorem dX0_copy_171 : decode cX0_copy 171 = .ok (.ifnull 14, 3) := by decide +kernel
set_option maxRecDepth 20000 in
theorem dX0_copy_174 : decode cX0_copy 174 = .ok (.aload 4, 2) := by decide +kernel
set_option maxRecDepth 20000 in
theorem dX0_copy_176 : decode cX0_copy 176 = .ok (.ifnull 9, 3) := by decide +kernel
set_option maxRecDepth 20000 in
theorem dX0_copy_179 : decode cX0_copy 179 = .ok (.aload_n 3, 1) := by decide +kernel
set_option maxRecDepth 20000 in
theorem dX0_copy_180 : decode cX0_copy 180 = .ok (.aload 4, 2) := by decide +kernel
set_option maxRecDepth 20000 in
theorem dX0_copy_182 : decode cX0_copy 182 = .ok (.invokevirtual 101, 3) := by decide +kernel
set_option maxRecDepth 20000 in
theorem dX0_copy_185 : decode cX0_copy 185 = .ok (.iinc 2 1, 3) := by decide +kernel
set_option maxRecDepth 20000 in
theorem dX0_copy_188 : decode cX0_copy 188 = .ok (.goto (-39), 3) := by decide +kernel
set_option maxRecDepth 20000 in
theorem dX0_copy_191 : decode cX0_copy 191 = .ok (.return_, 1) := by decide +kernel
set_option maxHeartbeats 4000000 in
set_option maxRecDepth 100000 in
theorem c_X0_copy (l : Launch) (G : GT) (σ : Sto) (k0 : Nat) (hk0 : K0 k0 = 0) (a1 : Nat) (ha1 : K0 a1 = 0) (r : Sto) (h : f_X0_copy σ k0 a1 = some r) : MW l G (4) (107) 0 0 yX0_copy cX0_copy 5 (Option.none : Option Jvm.ClassFile.FieldType) [.ref (gad G k0), .ref (gad G a1)] (wl G σ) (none) (wl G r) := by
  refine mw_of RX0 (fiV G) [(0, .ref (gad G k0)), (1, .ref (gad G a1))] (by decide +kernel) rfl (Nat.le_of_ble_eq_true rfl) rfl h rfl (fun p e s m args below meth c X hr hnm => ?_)
  have J185 : ∀ (k0 : Nat) (hk0 : K0 k0 = 0) (k1 : Nat) (hk1 : K0 k1 = 0) (v2 : Int32) (K149 : Int32 → Sto → Option Sto) (hK149 : ∀ (v2' : Int32) (σ' : Sto), Sm p l e { frames := 4, cells := 0, slots := 0, locals := 107 } s m args below meth c G 5 (Qm below args s G 0 0 (fiV G)) 0 0 (wl G σ') 149 [(0, .ref (gad G k0)), (1, .ref (gad G k1)), (2, .int v2')] [] (K149 v2' σ')) (σ : Sto), Sm p l e { frames := 4, cells := 0, slots := 0, locals := 107 } s m args below meth c G 5 (Qm below args s G 0 0 (fiV G)) 0 0 (wl G σ) 185 [(0, .ref (gad G k0)), (1, .ref (gad G k1)), (2, .int v2)] [] (f_X0_copy_L185 K149 k0 k1 v2 σ) := by
    intro k0 hk0 k1 hk1 v2 K149 hK149 σ
    rw [f_X0_copy_L185]
    refine sm_iinc X 188 2 (1 : Int32) [(2, .int (v2 + (1 : Int32))), (0, .ref (gad G k0)), (1, .ref (gad G k1))] dX0_copy_185 rfl rfl rfl (by decide) rfl ?_
    refine sm_goto X 149 dX0_copy_188 (by decide) ?_
    exact sm_sub [1, 2, 0] rfl (hK149 (v2 + (1 : Int32)) σ)
  have J149 : ∀ (k0 : Nat) (hk0 : K0 k0 = 0) (k1 : Nat) (hk1 : K0 k1 = 0)  (n : Nat) (v2 : Int32) (σ : Sto), Sm p l e { frames := 4, cells := 0, slots := 0, locals := 107 } s m args below meth c G 5 (Qm below args s G 0 0 (fiV G)) 0 0 (wl G σ) 149 [(0, .ref (gad G k0)), (1, .ref (gad G k1)), (2, .int v2)] [] (f_X0_copy_L149  k0 k1 n v2 σ) := by
    intro k0 hk0 k1 hk1 n
    induction n with
    | zero => intro v2 σ; rw [f_X0_copy_L149]; exact sm_none
    | succ n ihl =>
      intro v2 σ
      rw [f_X0_copy_L149]
      refine sm_iload_n X 150 2 dX0_copy_149 rfl rfl rfl ?_
      refine sm_aload_n X 151 0 dX0_copy_150 rfl rfl rfl ?_
      refine sm_geti X 154 hk0 fd_0_8 dX0_copy_151 rfl q_104 ?_
      refine sm_icmp_ge X 157 191 dX0_copy_154 rfl (by decide) (fun h154 => ?_) (fun h154 => ?_)
      · exact sm_vret X hr dX0_copy_191 rfl
      · refine sm_aload_n X 158 0 dX0_copy_157 rfl rfl rfl ?_
        refine sm_iload_n X 159 2 dX0_copy_158 rfl rfl rfl ?_
        refine sm_bind (fun r159 h159 => ?_)
        refine sm_callV0 X 162 [.int v2] [] [va_re (gad G) r159] (c_X0_swimmerAt l G σ k0 hk0 v2 r159 h159) cw_X0_swimmerAt q_376 q_377 q_854 hk0 (by decide) rfl rfl rfl rfl rfl (Nat.le_of_ble_eq_true rfl) ⟨Nat.le_of_ble_eq_true rfl, Nat.le_of_ble_eq_true rfl⟩ ⟨Nat.le_refl _, Nat.le_refl _⟩ dX0_copy_159 rfl ?_
        refine sm_astore_nq X 163 [(3, va_re (gad G) r159), (0, .ref (gad G k0)), (1, .ref (gad G k1)), (2, .int v2)] dX0_copy_162 rfl rfl (by decide) rfl ?_
        refine sm_aload_n X 164 2 dX0_copy_163 rfl rfl rfl ?_
        refine sm_iload_n X 165 3 dX0_copy_164 rfl rfl rfl ?_
        refine sm_bind (fun r165 h165 => ?_)
        refine sm_callV0 X 168 [.int v2] [] [va_re (gad G) r165] (c_X0_swimmerAt l G σ k1 hk1 v2 r165 h165) cw_X0_swimmerAt q_376 q_377 q_854 hk1 (by decide) rfl rfl rfl rfl rfl (Nat.le_of_ble_eq_true rfl) ⟨Nat.le_of_ble_eq_true rfl, Nat.le_of_ble_eq_true rfl⟩ ⟨Nat.le_refl _, Nat.le_refl _⟩ dX0_copy_165 rfl ?_
        refine sm_astoreq X 170 [(4, va_re (gad G) r165), (3, va_re (gad G) r159), (0, .ref (gad G k0)), (1, .ref (gad G k1)), (2, .int v2)] dX0_copy_168 rfl (by decide) (by cases r159 <;> rfl) ?_
        refine sm_aload_nq X 171 1 dX0_copy_170 rfl rfl rfl ?_
        refine sm_ifnull X 174 185 dX0_copy_171 rfl (by decide) (fun hn => ?_) (fun k171 hn => ?_)
        · subst hn
          exact sm_sub [2, 3, 4] rfl (J185 k0 hk0 k1 hk1 v2 (f_X0_copy_L149  k0 k1 n) ihl σ)
        · subst hn
          refine sm_aloadq X 176 0 dX0_copy_174 rfl rfl ?_
          refine sm_ifnull X 179 185 dX0_copy_176 rfl (by decide) (fun hn => ?_) (fun k176 hn => ?_)
          · subst hn
            exact sm_sub [2, 3, 4] rfl (J185 k0 hk0 k1 hk1 v2 (f_X0_copy_L149  k0 k1 n) ihl σ)
          · subst hn
            refine sm_aload_n X 180 1 dX0_copy_179 rfl rfl rfl ?_
            refine sm_aload X 182 0 dX0_copy_180 rfl rfl ?_
            refine sm_guard (fun hk171 => ?_)
            refine sm_guard (fun hk176 => ?_)
            refine sm_bind (fun r182 h182 => ?_)
            refine sm_callV0 X 185 [.ref (gad G k176)] [] [] (c_X6_copy l G σ k171 hk171 k176 hk176 r182 h182) cw_X6_copy q_686 q_687 q_855 hk171 (by decide) rfl rfl rfl rfl rfl (Nat.le_of_ble_eq_true rfl) ⟨Nat.le_of_ble_eq_true rfl, Nat.le_of_ble_eq_true rfl⟩ ⟨Nat.le_refl _, Nat.le_refl _⟩ dX0_copy_182 rfl ?_
            exact sm_sub [2, 3, 4] rfl (J185 k0 hk0 k1 hk1 v2 (f_X0_copy_L149  k0 k1 n) ihl r182)
  unfold f_X0_copy
  refine sm_aload_n X 1 0 dX0_copy_0 rfl rfl rfl ?_
  refine sm_aload_n X 2 1 dX0_copy_1 rfl rfl rfl ?_
  refine sm_geti X 5 ha1 fd_0_1 dX0_copy_2 rfl q_91 ?_
  refine sm_puti X 8 .int hk0 fd_0_1 (by decide) rfl rfl rfl dX0_copy_5 rfl q_91 (fun σ5 e5 => ?_)
  clear e5
  refine sm_aload_n X 9 0 dX0_copy_8 rfl rfl rfl ?_
  refine sm_aload_n X 10 1 dX0_copy_9 rfl rfl rfl ?_
  refine sm_geti X 13 ha1 fd_0_2 dX0_copy_10 rfl q_93 ?_
  refine sm_puti X 16 .int hk0 fd_0_2 (by decide) rfl rfl rfl dX0_copy_13 rfl q_93 (fun σ13 e13 => ?_)
  clear e13
  refine sm_aload_n X 17 0 dX0_copy_16 rfl rfl rfl ?_
  refine sm_aload_n X 18 1 dX0_copy_17 rfl rfl rfl ?_
  refine sm_geti X 21 ha1 fd_0_3 dX0_copy_18 rfl q_95 ?_
  refine sm_puti X 24 .int hk0 fd_0_3 (by decide) rfl rfl rfl dX0_copy_21 rfl q_95 (fun σ21 e21 => ?_)
  clear e21
  refine sm_aload_n X 25 0 dX0_copy_24 rfl rfl rfl ?_
  refine sm_aload_n X 26 1 dX0_copy_25 rfl rfl rfl ?_
  refine sm_geti X 29 ha1 fd_0_4 dX0_copy_26 rfl q_97 ?_
  refine sm_puti X 32 .int hk0 fd_0_4 (by decide) rfl rfl rfl dX0_copy_29 rfl q_97 (fun σ29 e29 => ?_)
  clear e29
  refine sm_aload_n X 33 0 dX0_copy_32 rfl rfl rfl ?_
  refine sm_aload_n X 34 1 dX0_copy_33 rfl rfl rfl ?_
  refine sm_geti X 37 ha1 fd_0_5 dX0_copy_34 rfl q_99 ?_
  refine sm_puti X 40 .int hk0 fd_0_5 (by decide) rfl rfl rfl dX0_copy_37 rfl q_99 (fun σ37 e37 => ?_)
  clear e37
  refine sm_aload_n X 41 0 dX0_copy_40 rfl rfl rfl ?_
  refine sm_aload_n X 42 1 dX0_copy_41 rfl rfl rfl ?_
  refine sm_geti X 45 ha1 fd_0_6 dX0_copy_42 rfl q_101 ?_
  refine sm_puti X 48 .int hk0 fd_0_6 (by decide) rfl rfl rfl dX0_copy_45 rfl q_101 (fun σ45 e45 => ?_)
  clear e45
  refine sm_aload_n X 49 0 dX0_copy_48 rfl rfl rfl ?_
  refine sm_aload_n X 50 1 dX0_copy_49 rfl rfl rfl ?_
  refine sm_geti X 53 ha1 fd_0_8 dX0_copy_50 rfl q_104 ?_
  refine sm_puti X 56 .int hk0 fd_0_8 (by decide) rfl rfl rfl dX0_copy_53 rfl q_104 (fun σ53 e53 => ?_)
  clear e53
  refine sm_aload_n X 57 0 dX0_copy_56 rfl rfl rfl ?_
  refine sm_aload_n X 58 1 dX0_copy_57 rfl rfl rfl ?_
  refine sm_geti X 61 ha1 fd_0_12 dX0_copy_58 rfl q_110 ?_
  refine sm_puti X 64 .int hk0 fd_0_12 (by decide) rfl rfl rfl dX0_copy_61 rfl q_110 (fun σ61 e61 => ?_)
  clear e61
  refine sm_aload_n X 65 0 dX0_copy_64 rfl rfl rfl ?_
  refine sm_aload_n X 66 1 dX0_copy_65 rfl rfl rfl ?_
  refine sm_geti X 69 ha1 fd_0_14 dX0_copy_66 rfl q_114 ?_
  refine sm_puti X 72 .int hk0 fd_0_14 (by decide) rfl rfl rfl dX0_copy_69 rfl q_114 (fun σ69 e69 => ?_)
  clear e69
  refine sm_aload_n X 73 0 dX0_copy_72 rfl rfl rfl ?_
  refine sm_aload_n X 74 1 dX0_copy_73 rfl rfl rfl ?_
  refine sm_geti X 77 ha1 fd_0_15 dX0_copy_74 rfl q_116 ?_
  refine sm_puti X 80 .int hk0 fd_0_15 (by decide) rfl rfl rfl dX0_copy_77 rfl q_116 (fun σ77 e77 => ?_)
  clear e77
  refine sm_aload_n X 81 0 dX0_copy_80 rfl rfl rfl ?_
  refine sm_getf X 84 (A0 k0 9) hk0 fd_0_9 (fr_0_9 hk0).1 dX0_copy_81 rfl q_106 ?_
  refine sm_aload_n X 85 1 dX0_copy_84 rfl rfl rfl ?_
  refine sm_getf X 88 (A0 a1 9) ha1 fd_0_9 (fr_0_9 ha1).1 dX0_copy_85 rfl q_106 ?_
  refine sm_bind (fun r88 h88 => ?_)
  refine sm_callV0 X 91 [.ref (gad G (A0 a1 9))] [] [] (c_X1_copy l G σ77 (A0 k0 9) ((fr_0_9 hk0).2.1) (A0 a1 9) ((fr_0_9 ha1).2.1) r88 h88) cw_X1_copy q_850 q_851 q_849 ((fr_0_9 hk0).2.1) (by decide) rfl rfl rfl rfl rfl (Nat.le_of_ble_eq_true rfl) ⟨Nat.le_of_ble_eq_true rfl, Nat.le_of_ble_eq_true rfl⟩ ⟨Nat.le_refl _, Nat.le_refl _⟩ dX0_copy_88 rfl ?_
  refine sm_aload_n X 92 0 dX0_copy_91 rfl rfl rfl ?_
  refine sm_getf X 95 (A0 k0 10) hk0 fd_0_10 (fr_0_10 hk0).1 dX0_copy_92 rfl q_107 ?_
  refine sm_aload_n X 96 1 dX0_copy_95 rfl rfl rfl ?_
  refine sm_getf X 99 (A0 a1 10) ha1 fd_0_10 (fr_0_10 ha1).1 dX0_copy_96 rfl q_107 ?_
  refine sm_bind (fun r99 h99 => ?_)
  refine sm_callV0 X 102 [.ref (gad G (A0 a1 10))] [] [] (c_X1_copy l G r88 (A0 k0 10) ((fr_0_10 hk0).2.1) (A0 a1 10) ((fr_0_10 ha1).2.1) r99 h99) cw_X1_copy q_850 q_851 q_849 ((fr_0_10 hk0).2.1) (by decide) rfl rfl rfl rfl rfl (Nat.le_of_ble_eq_true rfl) ⟨Nat.le_of_ble_eq_true rfl, Nat.le_of_ble_eq_true rfl⟩ ⟨Nat.le_refl _, Nat.le_refl _⟩ dX0_copy_99 rfl ?_
  refine sm_aload_n X 103 1 dX0_copy_102 rfl rfl rfl ?_
  refine sm_getf X 106 (A0 a1 0) ha1 fd_0_0 (fr_0_0 ha1).1 dX0_copy_103 rfl q_89 ?_
  refine sm_iconst X 107 (0) dX0_copy_106 rfl rfl ?_
  refine sm_aload_n X 108 0 dX0_copy_107 rfl rfl rfl ?_
  refine sm_getf X 111 (A0 k0 0) hk0 fd_0_0 (fr_0_0 hk0).1 dX0_copy_108 rfl q_89 ?_
  refine sm_iconst X 112 (0) dX0_copy_111 rfl rfl ?_
  refine sm_bipush X 114 (6) dX0_copy_112 rfl rfl ?_
  refine sm_copy X 117 ((fr_0_0 ha1).2.1) ((fr_0_0 hk0).2.1) dX0_copy_114 rfl q_853 q_456 q_455 q_12 ⟨Nat.le_of_ble_eq_true rfl, Nat.le_of_ble_eq_true rfl⟩ (fun σ114 e114 => ?_)
  clear e114
  refine sm_aload_n X 118 1 dX0_copy_117 rfl rfl rfl ?_
  refine sm_getf X 121 (A0 a1 11) ha1 fd_0_11 (fr_0_11 ha1).1 dX0_copy_118 rfl q_108 ?_
  refine sm_iconst X 122 (0) dX0_copy_121 rfl rfl ?_
  refine sm_aload_n X 123 0 dX0_copy_122 rfl rfl rfl ?_
  refine sm_getf X 126 (A0 k0 11) hk0 fd_0_11 (fr_0_11 hk0).1 dX0_copy_123 rfl q_108 ?_
  refine sm_iconst X 127 (0) dX0_copy_126 rfl rfl ?_
  refine sm_bipush X 129 (50) dX0_copy_127 rfl rfl ?_
  refine sm_copy X 132 ((fr_0_11 ha1).2.1) ((fr_0_11 hk0).2.1) dX0_copy_129 rfl q_853 q_456 q_455 q_12 ⟨Nat.le_of_ble_eq_true rfl, Nat.le_of_ble_eq_true rfl⟩ (fun σ129 e129 => ?_)
  clear e129
  refine sm_aload_n X 133 1 dX0_copy_132 rfl rfl rfl ?_
  refine sm_getf X 136 (A0 a1 13) ha1 fd_0_13 (fr_0_13 ha1).1 dX0_copy_133 rfl q_112 ?_
  refine sm_iconst X 137 (0) dX0_copy_136 rfl rfl ?_
  refine sm_aload_n X 138 0 dX0_copy_137 rfl rfl rfl ?_
  refine sm_getf X 141 (A0 k0 13) hk0 fd_0_13 (fr_0_13 hk0).1 dX0_copy_138 rfl q_112 ?_
  refine sm_iconst X 142 (0) dX0_copy_141 rfl rfl ?_
  refine sm_bipush X 144 (20) dX0_copy_142 rfl rfl ?_
  refine sm_copy X 147 ((fr_0_13 ha1).2.1) ((fr_0_13 hk0).2.1) dX0_copy_144 rfl q_853 q_456 q_455 q_12 ⟨Nat.le_of_ble_eq_true rfl, Nat.le_of_ble_eq_true rfl⟩ (fun σ144 e144 => ?_)
  clear e144
  refine sm_iconst X 148 (0) dX0_copy_147 rfl rfl ?_
  refine sm_istore_n X 149 [(2, .int 0), (0, .ref (gad G k0)), (1, .ref (gad G a1))] dX0_copy_148 rfl rfl (by decide) rfl ?_
  exact sm_sub [1, 2, 0] rfl (J149 k0 hk0 a1 ha1  FU (0 : Int32) σ144)
set_option maxRecDepth 20000 in
theorem dX1_take_0 : decode cX1_take 0 = .ok (.aload_n 0, 1) := by decide +kernel
set_option maxRecDepth 20000 in
theorem dX1_take_1 : decode cX1_take 1 = .ok (.aload_n 1, 1) := by decide +kernel
set_option maxRecDepth 20000 in
theorem dX1_take_2 : decode cX1_take 2 = .ok (.getfield 25, 3) := by decide +kernel
set_option maxRecDepth 20000 in
theorem dX1_take_5 : decode cX1_take 5 = .ok (.putfield 18, 3) := by decide +kernel
set_option maxRecDepth 20000 in
theorem dX1_take_8 : decode cX1_take 8 = .ok (.aload_n 1, 1) := by decide +kernel
set_option maxRecDepth 20000 in
theorem dX1_take_9 : decode cX1_take 9 = .ok (.getfield 30, 3) := by decide +kernel
set_option maxRecDepth 20000 in
theorem dX1_take_12 : decode cX1_take 12 = .ok (.iconst 0, 1) := by decide +kernel
set_option maxRecDepth 20000 in
theorem dX1_take_13 : decode cX1_take 13 = .ok (.aload_n 0, 1) := by decide +kernel
set_option maxRecDepth 20000 in
theorem dX1_take_14 : decode cX1_take 14 = .ok (.getfield 9, 3) := by decide +kernel
set_option maxRecDepth 20000 in
theorem dX1_take_17 : decode cX1_take 17 = .ok (.iconst 0, 1) := by decide +kernel
set_option maxRecDepth 20000 in
theorem dX1_take_18 : decode cX1_take 18 = .ok (.bipush 50, 2) := by decide +kernel
set_option maxRecDepth 20000 in
theorem dX1_take_20 : decode cX1_take 20 = .ok (.invokestatic 31, 3) := by decide +kernel
set_option maxRecDepth 20000 in
theorem dX1_take_23 : decode cX1_take 23 = .ok (.return_, 1) := by decide +kernel
set_option maxHeartbeats 4000000 in
set_option maxRecDepth 100000 in
theorem c_X1_take (l : Launch) (G : GT) (σ : Sto) (k0 : Nat) (hk0 : K0 k0 = 1) (r : Sto) (h : f_X1_take σ k0 = some r) : MW l G (2) (64) 0 0 yX1_take cX1_take 2 (Option.none : Option Jvm.ClassFile.FieldType) [.ref (gad G k0), .ref (gad G 55)] (wl G σ) (none) (wl G r) := by
  refine mw_of RX1 (fiV G) [(0, .ref (gad G k0)), (1, .ref (gad G 55))] (by decide +kernel) rfl (Nat.le_of_ble_eq_true rfl) rfl h rfl (fun p e s m args below meth c X hr hnm => ?_)
  unfold f_X1_take
  refine sm_aload_n X 1 0 dX1_take_0 rfl rfl rfl ?_
  refine sm_aload_n X 2 1 dX1_take_1 rfl rfl rfl ?_
  refine sm_geti X 5 rfl fd_3_1 dX1_take_2 rfl q_161 ?_
  refine sm_puti X 8 .int hk0 fd_1_3 (by decide) rfl rfl rfl dX1_take_5 rfl q_43 (fun σ5 e5 => ?_)
  clear e5
  refine sm_aload_n X 9 1 dX1_take_8 rfl rfl rfl ?_
  refine sm_getf X 12 56 rfl fd_3_0 rfl dX1_take_9 rfl q_159 ?_
  refine sm_iconst X 13 (0) dX1_take_12 rfl rfl ?_
  refine sm_aload_n X 14 0 dX1_take_13 rfl rfl rfl ?_
  refine sm_getf X 17 (A0 k0 1) hk0 fd_1_1 (fr_1_1 hk0).1 dX1_take_14 rfl q_41 ?_
  refine sm_iconst X 18 (0) dX1_take_17 rfl rfl ?_
  refine sm_bipush X 20 (50) dX1_take_18 rfl rfl ?_
  refine sm_copy X 23 rfl ((fr_1_1 hk0).2.1) dX1_take_20 rfl q_592 q_456 q_455 q_12 ⟨Nat.le_of_ble_eq_true rfl, Nat.le_of_ble_eq_true rfl⟩ (fun σ20 e20 => ?_)
  clear e20
  exact sm_vret X hr dX1_take_23 rfl
set_option maxRecDepth 20000 in
theorem dX2_bestLane_0 : decode cX2_bestLane 0 = .ok (.iload_n 1, 1) := by decide +kernel
set_option maxRecDepth 20000 in
theorem dX2_bestLane_1 : decode cX2_bestLane 1 = .ok (.iconst 0, 1) := by decide +kernel
set_option maxRecDepth 20000 in
theorem dX2_bestLane_2 : decode cX2_bestLane 2 = .ok (.aload_n 0, 1) := by decide +kernel
set_option maxRecDepth 20000 in
theorem dX2_bestLane_3 : decode cX2_bestLane 3 = .ok (.getfield 19, 3) := by decide +kernel
set_option maxRecDepth 20000 in
theorem dX2_bestLane_6 : decode cX2_bestLane 6 = .ok (.arraylength, 1) := by decide +kernel
set_option maxRecDepth 20000 in
theorem dX2_bestLane_7 : decode cX2_bestLane 7 = .ok (.iconst 1, 1) := by decide +kernel
set_option maxRecDepth 20000 in
theorem dX2_bestLane_8 : decode cX2_bestLane 8 = .ok (.isub, 1) := by decide +kernel
set_option maxRecDepth 20000 in
theorem dX2_bestLane_9 : decode cX2_bestLane 9 = .ok (.invokestatic 43, 3) := by decide +kernel
set_option maxRecDepth 20000 in
theorem dX2_bestLane_12 : decode cX2_bestLane 12 = .ok (.ifCond .eq 7, 3) := by decide +kernel
set_option maxRecDepth 20000 in
theorem dX2_bestLane_15 : decode cX2_bestLane 15 = .ok (.iconst 0, 1) := by decide +kernel
set_option maxRecDepth 20000 in
theorem dX2_bestLane_16 : decode cX2_bestLane 16 = .ok (.goto 9, 3) := by decide +kernel
set_option maxRecDepth 20000 in
theorem dX2_bestLane_19 : decode cX2_bestLane 19 = .ok (.aload_n 0, 1) := by decide +kernel
set_option maxRecDepth 20000 in
theorem dX2_bestLane_20 : decode cX2_bestLane 20 = .ok (.getfield 19, 3) := by decide +kernel
set_option maxRecDepth 20000 in
theorem dX2_bestLane_23 : decode cX2_bestLane 23 = .ok (.iload_n 1, 1) := by decide +kernel
set_option maxRecDepth 20000 in
theorem dX2_bestLane_24 : decode cX2_bestLane 24 = .ok (.iaload, 1) := by decide +kernel
set_option maxRecDepth 20000 in
theorem dX2_bestLane_25 : decode cX2_bestLane 25 = .ok (.ireturn, 1) := by decide +kernel
set_option maxHeartbeats 4000000 in
set_option maxRecDepth 100000 in
theorem c_X2_bestLane (l : Launch) (G : GT) (σ : Sto) (a1 : Int32) (r : Int32) (h : f_X2_bestLane σ a1 = some r) : MW l G (3) (86) 0 0 yX2_bestLane cX2_bestLane 2 (Option.some Jvm.ClassFile.FieldType.int) [.ref (gad G 60), .int a1] (wl G σ) (some (.int r)) (wl G σ) := by
  refine mw_of RX2 (fpI G σ) [(0, .ref (gad G 60)), (1, .int a1)] (by decide +kernel) rfl (Nat.le_of_ble_eq_true rfl) rfl h rfl (fun p e s m args below meth c X hr hnm => ?_)
  unfold f_X2_bestLane
  refine sm_iload_n X 1 1 dX2_bestLane_0 rfl rfl rfl ?_
  refine sm_iconst X 2 (0) dX2_bestLane_1 rfl rfl ?_
  refine sm_aload_n X 3 0 dX2_bestLane_2 rfl rfl rfl ?_
  refine sm_getf X 6 61 rfl fd_2_2 rfl dX2_bestLane_3 rfl q_220 ?_
  refine sm_alen X 7 4 (Or.inl rfl) rfl dX2_bestLane_6 rfl ?_
  refine sm_iconst X 8 (1) dX2_bestLane_7 rfl rfl ?_
  refine sm_isub X 9 dX2_bestLane_8 rfl ?_
  refine sm_bind (fun r9 h9 => ?_)
  refine sm_callSN0 X 12 (host := RX8) [.int a1, .int 0, .int ((4 : Int32) - (1 : Int32))] [] [.int (b2i r9)] (c_X8_isOutside l G σ a1 (0 : Int32) ((4 : Int32) - (1 : Int32)) r9 h9) cw_X8_isOutside q_328 (by simp [NW]) rfl rfl rfl (Nat.le_of_ble_eq_true rfl) ⟨Nat.le_of_ble_eq_true rfl, Nat.le_of_ble_eq_true rfl⟩ ⟨Nat.le_refl _, Nat.le_refl _⟩ dX2_bestLane_9 rfl ?_
  refine sm_ifz_eq X 15 19 dX2_bestLane_12 rfl (by decide) (fun h12 => ?_) (fun h12 => ?_)
  · refine sm_iconst X 16 (0) dX2_bestLane_15 rfl rfl ?_
    refine sm_goto X 25 dX2_bestLane_16 (by decide) ?_
    exact sm_iret X hr dX2_bestLane_25 rfl
  · refine sm_aload_n X 20 0 dX2_bestLane_19 rfl rfl rfl ?_
    refine sm_getf X 23 61 rfl fd_2_2 rfl dX2_bestLane_20 rfl q_220 ?_
    refine sm_iload_n X 24 1 dX2_bestLane_23 rfl rfl rfl ?_
    refine sm_iald X 25 rfl dX2_bestLane_24 rfl (fun r24 e24 => ?_)
    clear e24
    exact sm_iret X hr dX2_bestLane_25 rfl
set_option maxRecDepth 20000 in
theorem dX6_shore_0 : decode cX6_shore 0 = .ok (.aload_n 0, 1) := by decide +kernel
set_option maxRecDepth 20000 in
theorem dX6_shore_1 : decode cX6_shore 1 = .ok (.getfield 18, 3) := by decide +kernel
set_option maxRecDepth 20000 in
theorem dX6_shore_4 : decode cX6_shore 4 = .ok (.ifCond .ne 7, 3) := by decide +kernel
set_option maxRecDepth 20000 in
theorem dX6_shore_7 : decode cX6_shore 7 = .ok (.iconst 0, 1) := by decide +kernel
set_option maxRecDepth 20000 in
theorem dX6_shore_8 : decode cX6_shore 8 = .ok (.goto 6, 3) := by decide +kernel
set_option maxRecDepth 20000 in
theorem dX6_shore_11 : decode cX6_shore 11 = .ok (.sipush 1200, 3) := by decide +kernel
set_option maxRecDepth 20000 in
theorem dX6_shore_14 : decode cX6_shore 14 = .ok (.ireturn, 1) := by decide +kernel
set_option maxHeartbeats 4000000 in
set_option maxRecDepth 100000 in
theorem c_X6_shore (l : Launch) (G : GT) (σ : Sto) (k0 : Nat) (hk0 : K0 k0 = 6) (r : Int32) (h : f_X6_shore σ k0 = some r) : MW l G (2) (64) 0 0 yX6_shore cX6_shore 1 (Option.some Jvm.ClassFile.FieldType.int) [.ref (gad G k0)] (wl G σ) (some (.int r)) (wl G σ) := by
  refine mw_of RX6 (fpI G σ) [(0, .ref (gad G k0))] (by decide +kernel) rfl (Nat.le_of_ble_eq_true rfl) rfl h rfl (fun p e s m args below meth c X hr hnm => ?_)
  unfold f_X6_shore
  refine sm_aload_n X 1 0 dX6_shore_0 rfl rfl rfl ?_
  refine sm_geti X 4 hk0 fd_6_2 dX6_shore_1 rfl q_65 ?_
  refine sm_if_ne X 7 11 dX6_shore_4 rfl (by decide) (fun h4 => ?_) (fun h4 => ?_)
  · refine sm_iconst X 8 (0) dX6_shore_7 rfl rfl ?_
    refine sm_goto X 14 dX6_shore_8 (by decide) ?_
    exact sm_iret X hr dX6_shore_14 rfl
  · refine sm_sipush X 14 (1200) dX6_shore_11 rfl rfl ?_
    exact sm_iret X hr dX6_shore_14 rfl
set_option maxRecDepth 20000 in
theorem dX6_plainPace_0 : decode cX6_plainPace 0 = .ok (.bipush 20, 2) := by decide +kernel
set_option maxRecDepth 20000 in
theorem dX6_plainPace_2 : decode cX6_plainPace 2 = .ok (.aload_n 0, 1) := by decide +kernel
set_option maxRecDepth 20000 in
theorem dX6_plainPace_3 : decode cX6_plainPace 3 = .ok (.getfield 21, 3) := by decide +kernel
set_option maxRecDepth 20000 in
theorem dX6_plainPace_6 : decode cX6_plainPace 6 = .ok (.iadd, 1) := by decide +kernel
set_option maxRecDepth 20000 in
theorem dX6_plainPace_7 : decode cX6_plainPace 7 = .ok (.iload_n 1, 1) := by decide +kernel
set_option maxRecDepth 20000 in
theorem dX6_plainPace_8 : decode cX6_plainPace 8 = .ok (.iconst 4, 1) := by decide +kernel
set_option maxRecDepth 20000 in
theorem dX6_plainPace_9 : decode cX6_plainPace 9 = .ok (.idiv, 1) := by decide +kernel
set_option maxRecDepth 20000 in
theorem dX6_plainPace_10 : decode cX6_plainPace 10 = .ok (.isub, 1) := by decide +kernel
set_option maxRecDepth 20000 in
theorem dX6_plainPace_11 : decode cX6_plainPace 11 = .ok (.istore_n 2, 1) := by decide +kernel
set_option maxRecDepth 20000 in
theorem dX6_plainPace_12 : decode cX6_plainPace 12 = .ok (.iload_n 2, 1) := by decide +kernel
set_option maxRecDepth 20000 in
theorem dX6_plainPace_13 : decode cX6_plainPace 13 = .ok (.iconst 5, 1) := by decide +kernel
set_option maxRecDepth 20000 in
theorem dX6_plainPace_14 : decode cX6_plainPace 14 = .ok (.if_icmp .ge 7, 3) := by decide +kernel
set_option maxRecDepth 20000 in
theorem dX6_plainPace_17 : decode cX6_plainPace 17 = .ok (.iconst 5, 1) := by decide +kernel
set_option maxRecDepth 20000 in
theorem dX6_plainPace_18 : decode cX6_plainPace 18 = .ok (.goto 4, 3) := by decide +kernel
set_option maxRecDepth 20000 in
theorem dX6_plainPace_21 : decode cX6_plainPace 21 = .ok (.iload_n 2, 1) := by decide +kernel
set_option maxRecDepth 20000 in
theorem dX6_plainPace_22 : decode cX6_plainPace 22 = .ok (.ireturn, 1) := by decide +kernel
set_option maxHeartbeats 4000000 in
set_option maxRecDepth 100000 in
theorem c_X6_plainPace (l : Launch) (G : GT) (σ : Sto) (k0 : Nat) (hk0 : K0 k0 = 6) (a1 : Int32) (r : Int32) (h : f_X6_plainPace σ k0 a1 = some r) : MW l G (2) (64) 0 0 yX6_plainPace cX6_plainPace 3 (Option.some Jvm.ClassFile.FieldType.int) [.ref (gad G k0), .int a1] (wl G σ) (some (.int r)) (wl G σ) := by
  refine mw_of RX6 (fpI G σ) [(0, .ref (gad G k0)), (1, .int a1)] (by decide +kernel) rfl (Nat.le_of_ble_eq_true rfl) rfl h rfl (fun p e s m args below meth c X hr hnm => ?_)
  unfold f_X6_plainPace
  refine sm_bipush X 2 (20) dX6_plainPace_0 rfl rfl ?_
  refine sm_aload_n X 3 0 dX6_plainPace_2 rfl rfl rfl ?_
  refine sm_geti X 6 hk0 fd_6_3 dX6_plainPace_3 rfl q_69 ?_
  refine sm_iadd X 7 dX6_plainPace_6 rfl ?_
  refine sm_iload_n X 8 1 dX6_plainPace_7 rfl rfl rfl ?_
  refine sm_iconst X 9 (4) dX6_plainPace_8 rfl rfl ?_
  refine sm_idiv X 10 dX6_plainPace_9 rfl (by first | decide | assumption) ?_
  refine sm_isub X 11 dX6_plainPace_10 rfl ?_
  refine sm_istore_n X 12 [(2, .int (((20 : Int32) + (σ.1 k0 3)) - (a1 / (4 : Int32)))), (0, .ref (gad G k0)), (1, .int a1)] dX6_plainPace_11 rfl rfl (by decide) rfl ?_
  refine sm_iload_n X 13 0 dX6_plainPace_12 rfl rfl rfl ?_
  refine sm_iconst X 14 (5) dX6_plainPace_13 rfl rfl ?_
  refine sm_icmp_ge X 17 21 dX6_plainPace_14 rfl (by decide) (fun h14 => ?_) (fun h14 => ?_)
  · refine sm_iload_n X 22 0 dX6_plainPace_21 rfl rfl rfl ?_
    exact sm_iret X hr dX6_plainPace_22 rfl
  · refine sm_iconst X 18 (5) dX6_plainPace_17 rfl rfl ?_
    refine sm_goto X 22 dX6_plainPace_18 (by decide) ?_
    exact sm_iret X hr dX6_plainPace_22 rfl
set_option maxRecDepth 20000 in
theorem dX6_paceIn_0 : decode cX6_paceIn 0 = .ok (.aload_n 0, 1) := by decide +kernel
set_option maxRecDepth 20000 in
theorem dX6_paceIn_1 : decode cX6_paceIn 1 = .ok (.iload_n 1, 1) := by decide +kernel
set_option maxRecDepth 20000 in
theorem dX6_paceIn_2 : decode cX6_paceIn 2 = .ok (.invokevirtual 48, 3) := by decide +kernel
set_option maxRecDepth 20000 in
theorem dX6_paceIn_5 : decode cX6_paceIn 5 = .ok (.istore_n 2, 1) := by decide +kernel
set_option maxRecDepth 20000 in
theorem dX6_paceIn_6 : decode cX6_paceIn 6 = .ok (.iload_n 1, 1) := by decide +kernel
set_option maxRecDepth 20000 in
theorem dX6_paceIn_7 : decode cX6_paceIn 7 = .ok (.aload_n 0, 1) := by decide +kernel
set_option maxRecDepth 20000 in
theorem dX6_paceIn_8 : decode cX6_paceIn 8 = .ok (.getfield 15, 3) := by decide +kernel
set_option maxRecDepth 20000 in
theorem dX6_paceIn_11 : decode cX6_paceIn 11 = .ok (.if_icmp .ge 10, 3) := by decide +kernel
set_option maxRecDepth 20000 in
theorem dX6_paceIn_14 : decode cX6_paceIn 14 = .ok (.iload_n 2, 1) := by decide +kernel
set_option maxRecDepth 20000 in
theorem dX6_paceIn_15 : decode cX6_paceIn 15 = .ok (.bipush 20, 2) := by decide +kernel
set_option maxRecDepth 20000 in
theorem dX6_paceIn_17 : decode cX6_paceIn 17 = .ok (.iadd, 1) := by decide +kernel
set_option maxRecDepth 20000 in
theorem dX6_paceIn_18 : decode cX6_paceIn 18 = .ok (.goto 6, 3) := by decide +kernel
set_option maxRecDepth 20000 in
theorem dX6_paceIn_21 : decode cX6_paceIn 21 = .ok (.iload_n 2, 1) := by decide +kernel
set_option maxRecDepth 20000 in
theorem dX6_paceIn_22 : decode cX6_paceIn 22 = .ok (.iconst 2, 1) := by decide +kernel
set_option maxRecDepth 20000 in
theorem dX6_paceIn_23 : decode cX6_paceIn 23 = .ok (.idiv, 1) := by decide +kernel
set_option maxRecDepth 20000 in
theorem dX6_paceIn_24 : decode cX6_paceIn 24 = .ok (.istore_n 3, 1) := by decide +kernel
set_option maxRecDepth 20000 in
theorem dX6_paceIn_25 : decode cX6_paceIn 25 = .ok (.aload_n 0, 1) := by decide +kernel
set_option maxRecDepth 20000 in
theorem dX6_paceIn_26 : decode cX6_paceIn 26 = .ok (.getfield 9, 3) := by decide +kernel
set_option maxRecDepth 20000 in
theorem dX6_paceIn_29 : decode cX6_paceIn 29 = .ok (.tableswitch 89 1 6 #[39, 41, 48, 50, 61, 72], 39) := by decide +kernel
set_option maxRecDepth 20000 in
theorem dX6_paceIn_68 : decode cX6_paceIn 68 = .ok (.iload_n 3, 1) := by decide +kernel
set_option maxRecDepth 20000 in
theorem dX6_paceIn_69 : decode cX6_paceIn 69 = .ok (.ireturn, 1) := by decide +kernel
set_option maxRecDepth 20000 in
theorem dX6_paceIn_70 : decode cX6_paceIn 70 = .ok (.iload_n 2, 1) := by decide +kernel
set_option maxRecDepth 20000 in
theorem dX6_paceIn_71 : decode cX6_paceIn 71 = .ok (.aload_n 0, 1) := by decide +kernel
set_option maxRecDepth 20000 in
theorem dX6_paceIn_72 : decode cX6_paceIn 72 = .ok (.getfield 15, 3) := by decide +kernel
set_option maxRecDepth 20000 in
theorem dX6_paceIn_75 : decode cX6_paceIn 75 = .ok (.iadd, 1) := by decide +kernel
set_option maxRecDepth 20000 in
theorem dX6_paceIn_76 : decode cX6_paceIn 76 = .ok (.ireturn, 1) := by decide +kernel
set_option maxRecDepth 20000 in
theorem dX6_paceIn_77 : decode cX6_paceIn 77 = .ok (.iconst 5, 1) := by decide +kernel
set_option maxRecDepth 20000 in
theorem dX6_paceIn_78 : decode cX6_paceIn 78 = .ok (.ireturn, 1) := by decide +kernel
set_option maxRecDepth 20000 in
theorem dX6_paceIn_79 : decode cX6_paceIn 79 = .ok (.iload_n 1, 1) := by decide +kernel
set_option maxRecDepth 20000 in
theorem dX6_paceIn_80 : decode cX6_paceIn 80 = .ok (.iconst 3, 1) := by decide +kernel
set_option maxRecDepth 20000 in
theorem dX6_paceIn_81 : decode cX6_paceIn 81 = .ok (.if_icmp .gt 7, 3) := by decide +kernel
set_option maxRecDepth 20000 in
theorem dX6_paceIn_84 : decode cX6_paceIn 84 = .ok (.iconst 0, 1) := by decide +kernel
set_option maxRecDepth 20000 in
theorem dX6_paceIn_85 : decode cX6_paceIn 85 = .ok (.goto 4, 3) := by decide +kernel
set_option maxRecDepth 20000 in
theorem dX6_paceIn_88 : decode cX6_paceIn 88 = .ok (.iload_n 3, 1) := by decide +kernel
set_option maxRecDepth 20000 in
theorem dX6_paceIn_89 : decode cX6_paceIn 89 = .ok (.ireturn, 1) := by decide +kernel
set_option maxRecDepth 20000 in
theorem dX6_paceIn_90 : decode cX6_paceIn 90 = .ok (.aload_n 0, 1) := by decide +kernel
set_option maxRecDepth 20000 in
theorem dX6_paceIn_91 : decode cX6_paceIn 91 = .ok (.iconst 0, 1) := by decide +kernel
set_option maxRecDepth 20000 in
theorem dX6_paceIn_92 : decode cX6_paceIn 92 = .ok (.invokevirtual 48, 3) := by decide +kernel
set_option maxRecDepth 20000 in
theorem dX6_paceIn_95 : decode cX6_paceIn 95 = .ok (.aload_n 0, 1) := by decide +kernel
set_option maxRecDepth 20000 in
theorem dX6_paceIn_96 : decode cX6_paceIn 96 = .ok (.getfield 15, 3) := by decide +kernel
set_option maxRecDepth 20000 in
theorem dX6_paceIn_99 : decode cX6_paceIn 99 = .ok (.iadd, 1) := by decide +kernel
set_option maxRecDepth 20000 in
theorem dX6_paceIn_100 : decode cX6_paceIn 100 = .ok (.ireturn, 1) := by decide +kernel
set_option maxRecDepth 20000 in
theorem dX6_paceIn_101 : decode cX6_paceIn 101 = .ok (.iload_n 1, 1) := by decide +kernel
set_option maxRecDepth 20000 in
theorem dX6_paceIn_102 : decode cX6_paceIn 102 = .ok (.bipush 10, 2) := by decide +kernel
set_option maxRecDepth 20000 in
theorem dX6_paceIn_104 : decode cX6_paceIn 104 = .ok (.irem, 1) := by decide +kernel
set_option maxRecDepth 20000 in
theorem dX6_paceIn_105 : decode cX6_paceIn 105 = .ok (.aload_n 0, 1) := by decide +kernel
set_option maxRecDepth 20000 in
theorem dX6_paceIn_106 : decode cX6_paceIn 106 = .ok (.getfield 15, 3) := by decide +kernel
set_option maxRecDepth 20000 in
theorem dX6_paceIn_109 : decode cX6_paceIn 109 = .ok (.if_icmp .ne 7, 3) := by decide +kernel
set_option maxRecDepth 20000 in
theorem dX6_paceIn_112 : decode cX6_paceIn 112 = .ok (.iconst 0, 1) := by decide +kernel
set_option maxRecDepth 20000 in
theorem dX6_paceIn_113 : decode cX6_paceIn 113 = .ok (.goto 4, 3) := by decide +kernel
set_option maxRecDepth 20000 in
theorem dX6_paceIn_116 : decode cX6_paceIn 116 = .ok (.iconst 5, 1) := by decide +kernel
set_option maxRecDepth 20000 in
theorem dX6_paceIn_117 : decode cX6_paceIn 117 = .ok (.ireturn, 1) := by decide +kernel
set_option maxRecDepth 20000 in
theorem dX6_paceIn_118 : decode cX6_paceIn 118 = .ok (.iload_n 2, 1) := by decide +kernel
set_option maxRecDepth 20000 in
theorem dX6_paceIn_119 : decode cX6_paceIn 119 = .ok (.ireturn, 1) := by decide +kernel
set_option maxHeartbeats 4000000 in
set_option maxRecDepth 100000 in
theorem c_X6_paceIn (l : Launch) (G : GT) (σ : Sto) (k0 : Nat) (hk0 : K0 k0 = 6) (a1 : Int32) (r : Int32) (h : f_X6_paceIn σ k0 a1 = some r) : MW l G (3) (86) 0 0 yX6_paceIn cX6_paceIn 4 (Option.some Jvm.ClassFile.FieldType.int) [.ref (gad G k0), .int a1] (wl G σ) (some (.int r)) (wl G σ) := by
  refine mw_of RX6 (fpI G σ) [(0, .ref (gad G k0)), (1, .int a1)] (by decide +kernel) rfl (Nat.le_of_ble_eq_true rfl) rfl h rfl (fun p e s m args below meth c X hr hnm => ?_)
  have J24 : ∀ (k0 : Nat) (hk0 : K0 k0 = 6) (v1 : Int32) (v2 : Int32) (vs0 : Int32)  , Sm p l e { frames := 3, cells := 0, slots := 0, locals := 86 } s m args below meth c G 4 (Qm below args s G 0 0 (fpI G σ)) 0 0 (wl G σ) 24 [(0, .ref (gad G k0)), (1, .int v1), (2, .int v2)] [.int vs0] (f_X6_paceIn_L24 σ  k0 v1 v2 vs0) := by
    intro k0 hk0 v1 v2 vs0
    rw [f_X6_paceIn_L24]
    refine sm_istore_n X 25 [(3, .int vs0), (0, .ref (gad G k0)), (1, .int v1), (2, .int v2)] dX6_paceIn_24 rfl rfl (by decide) rfl ?_
    refine sm_aload_n X 26 1 dX6_paceIn_25 rfl rfl rfl ?_
    refine sm_geti X 29 hk0 fd_6_0 dX6_paceIn_26 rfl q_59 ?_
    refine sm_if (fun h29_0 => ?_) (fun h29_0 => ?_)
    · refine sm_table X 68 dX6_paceIn_29 (by rw [h29_0]; decide) (by rw [h29_0]; decide) (by first | (rw [h29_0]; done) | (rw [h29_0]; rfl)) (by decide) ?_
      refine sm_iload_n X 69 0 dX6_paceIn_68 rfl rfl rfl ?_
      exact sm_iret X hr dX6_paceIn_69 rfl
    refine sm_if (fun h29_1 => ?_) (fun h29_1 => ?_)
    · refine sm_table X 70 dX6_paceIn_29 (by rw [h29_1]; decide) (by rw [h29_1]; decide) (by first | (rw [h29_1]; done) | (rw [h29_1]; rfl)) (by decide) ?_
      refine sm_iload_n X 71 3 dX6_paceIn_70 rfl rfl rfl ?_
      refine sm_aload_n X 72 1 dX6_paceIn_71 rfl rfl rfl ?_
      refine sm_geti X 75 hk0 fd_6_1 dX6_paceIn_72 rfl q_62 ?_
      refine sm_iadd X 76 dX6_paceIn_75 rfl ?_
      exact sm_iret X hr dX6_paceIn_76 rfl
    refine sm_if (fun h29_2 => ?_) (fun h29_2 => ?_)
    · refine sm_table X 77 dX6_paceIn_29 (by rw [h29_2]; decide) (by rw [h29_2]; decide) (by first | (rw [h29_2]; done) | (rw [h29_2]; rfl)) (by decide) ?_
      refine sm_iconst X 78 (5) dX6_paceIn_77 rfl rfl ?_
      exact sm_iret X hr dX6_paceIn_78 rfl
    refine sm_if (fun h29_3 => ?_) (fun h29_3 => ?_)
    · refine sm_table X 79 dX6_paceIn_29 (by rw [h29_3]; decide) (by rw [h29_3]; decide) (by first | (rw [h29_3]; done) | (rw [h29_3]; rfl)) (by decide) ?_
      refine sm_iload_n X 80 2 dX6_paceIn_79 rfl rfl rfl ?_
      refine sm_iconst X 81 (3) dX6_paceIn_80 rfl rfl ?_
      refine sm_icmp_gt X 84 88 dX6_paceIn_81 rfl (by decide) (fun h81 => ?_) (fun h81 => ?_)
      · refine sm_iload_n X 89 0 dX6_paceIn_88 rfl rfl rfl ?_
        exact sm_iret X hr dX6_paceIn_89 rfl
      · refine sm_iconst X 85 (0) dX6_paceIn_84 rfl rfl ?_
        refine sm_goto X 89 dX6_paceIn_85 (by decide) ?_
        exact sm_iret X hr dX6_paceIn_89 rfl
    refine sm_if (fun h29_4 => ?_) (fun h29_4 => ?_)
    · refine sm_table X 90 dX6_paceIn_29 (by rw [h29_4]; decide) (by rw [h29_4]; decide) (by first | (rw [h29_4]; done) | (rw [h29_4]; rfl)) (by decide) ?_
      refine sm_aload_n X 91 1 dX6_paceIn_90 rfl rfl rfl ?_
      refine sm_iconst X 92 (0) dX6_paceIn_91 rfl rfl ?_
      refine sm_bind (fun r92 h92 => ?_)
      refine sm_callV0 X 95 [.int 0] [] [.int r92] (c_X6_plainPace l G σ k0 hk0 (0 : Int32) r92 h92) cw_X6_plainPace q_431 qs_2 q_429 hk0 (by decide) rfl rfl rfl rfl rfl (Nat.le_of_ble_eq_true rfl) ⟨Nat.le_of_ble_eq_true rfl, Nat.le_of_ble_eq_true rfl⟩ ⟨Nat.le_refl _, Nat.le_refl _⟩ dX6_paceIn_92 rfl ?_
      refine sm_aload_n X 96 1 dX6_paceIn_95 rfl rfl rfl ?_
      refine sm_geti X 99 hk0 fd_6_1 dX6_paceIn_96 rfl q_62 ?_
      refine sm_iadd X 100 dX6_paceIn_99 rfl ?_
      exact sm_iret X hr dX6_paceIn_100 rfl
    refine sm_if (fun h29_5 => ?_) (fun h29_5 => ?_)
    · refine sm_table X 101 dX6_paceIn_29 (by rw [h29_5]; decide) (by rw [h29_5]; decide) (by first | (rw [h29_5]; done) | (rw [h29_5]; rfl)) (by decide) ?_
      refine sm_iload_n X 102 2 dX6_paceIn_101 rfl rfl rfl ?_
      refine sm_bipush X 104 (10) dX6_paceIn_102 rfl rfl ?_
      refine sm_irem X 105 dX6_paceIn_104 rfl (by first | decide | assumption) ?_
      refine sm_aload_n X 106 1 dX6_paceIn_105 rfl rfl rfl ?_
      refine sm_geti X 109 hk0 fd_6_1 dX6_paceIn_106 rfl q_62 ?_
      refine sm_icmp_ne X 112 116 dX6_paceIn_109 rfl (by decide) (fun h109 => ?_) (fun h109 => ?_)
      · refine sm_iconst X 113 (0) dX6_paceIn_112 rfl rfl ?_
        refine sm_goto X 117 dX6_paceIn_113 (by decide) ?_
        exact sm_iret X hr dX6_paceIn_117 rfl
      · refine sm_iconst X 117 (5) dX6_paceIn_116 rfl rfl ?_
        exact sm_iret X hr dX6_paceIn_117 rfl
    have q0 : ¬ ((σ.1 k0 0)).toInt = 1 := ne_toInt h29_0
    have q1 : ¬ ((σ.1 k0 0)).toInt = 2 := ne_toInt h29_1
    have q2 : ¬ ((σ.1 k0 0)).toInt = 3 := ne_toInt h29_2
    have q3 : ¬ ((σ.1 k0 0)).toInt = 4 := ne_toInt h29_3
    have q4 : ¬ ((σ.1 k0 0)).toInt = 5 := ne_toInt h29_4
    have q5 : ¬ ((σ.1 k0 0)).toInt = 6 := ne_toInt h29_5
    refine sm_tableD X 118 dX6_paceIn_29 (by omega) (by decide) ?_
    refine sm_iload_n X 119 3 dX6_paceIn_118 rfl rfl rfl ?_
    exact sm_iret X hr dX6_paceIn_119 rfl
  unfold f_X6_paceIn
  refine sm_aload_n X 1 0 dX6_paceIn_0 rfl rfl rfl ?_
  refine sm_iload_n X 2 1 dX6_paceIn_1 rfl rfl rfl ?_
  refine sm_bind (fun r2 h2 => ?_)
  refine sm_callV0 X 5 [.int a1] [] [.int r2] (c_X6_plainPace l G σ k0 hk0 a1 r2 h2) cw_X6_plainPace q_431 qs_2 q_429 hk0 (by decide) rfl rfl rfl rfl rfl (Nat.le_of_ble_eq_true rfl) ⟨Nat.le_of_ble_eq_true rfl, Nat.le_of_ble_eq_true rfl⟩ ⟨Nat.le_refl _, Nat.le_refl _⟩ dX6_paceIn_2 rfl ?_
  refine sm_istore_n X 6 [(2, .int r2), (0, .ref (gad G k0)), (1, .int a1)] dX6_paceIn_5 rfl rfl (by decide) rfl ?_
  refine sm_iload_n X 7 2 dX6_paceIn_6 rfl rfl rfl ?_
  refine sm_aload_n X 8 1 dX6_paceIn_7 rfl rfl rfl ?_
  refine sm_geti X 11 hk0 fd_6_1 dX6_paceIn_8 rfl q_62 ?_
  refine sm_icmp_ge X 14 21 dX6_paceIn_11 rfl (by decide) (fun h11 => ?_) (fun h11 => ?_)
  · refine sm_iload_n X 22 0 dX6_paceIn_21 rfl rfl rfl ?_
    refine sm_iconst X 23 (2) dX6_paceIn_22 rfl rfl ?_
    refine sm_idiv X 24 dX6_paceIn_23 rfl (by first | decide | assumption) ?_
    exact sm_sub [1, 2, 0] rfl (J24 k0 hk0 a1 r2 (r2 / (2 : Int32)))
  · refine sm_iload_n X 15 0 dX6_paceIn_14 rfl rfl rfl ?_
    refine sm_bipush X 17 (20) dX6_paceIn_15 rfl rfl ?_
    refine sm_iadd X 18 dX6_paceIn_17 rfl ?_
    refine sm_goto X 24 dX6_paceIn_18 (by decide) ?_
    exact sm_sub [1, 2, 0] rfl (J24 k0 hk0 a1 r2 (r2 + (20 : Int32)))
set_option maxRecDepth 20000 in
theorem dX6_laneOf_0 : decode cX6_laneOf 0 = .ok (.iload_n 1, 1) := by decide +kernel
set_option maxRecDepth 20000 in
theorem dX6_laneOf_1 : decode cX6_laneOf 1 = .ok (.ifCond .lt 12, 3) := by decide +kernel
set_option maxRecDepth 20000 in
theorem dX6_laneOf_4 : decode cX6_laneOf 4 = .ok (.iload_n 1, 1) := by decide +kernel
set_option maxRecDepth 20000 in
theorem dX6_laneOf_5 : decode cX6_laneOf 5 = .ok (.aload_n 0, 1) := by decide +kernel
set_option maxRecDepth 20000 in
theorem dX6_laneOf_6 : decode cX6_laneOf 6 = .ok (.getfield 27, 3) := by decide +kernel
set_option maxRecDepth 20000 in
theorem dX6_laneOf_9 : decode cX6_laneOf 9 = .ok (.arraylength, 1) := by decide +kernel
set_option maxRecDepth 20000 in
theorem dX6_laneOf_10 : decode cX6_laneOf 10 = .ok (.if_icmp .lt 7, 3) := by decide +kernel
set_option maxRecDepth 20000 in
theorem dX6_laneOf_13 : decode cX6_laneOf 13 = .ok (.iconst 0, 1) := by decide +kernel
set_option maxRecDepth 20000 in
theorem dX6_laneOf_14 : decode cX6_laneOf 14 = .ok (.goto 9, 3) := by decide +kernel
set_option maxRecDepth 20000 in
theorem dX6_laneOf_17 : decode cX6_laneOf 17 = .ok (.aload_n 0, 1) := by decide +kernel
set_option maxRecDepth 20000 in
theorem dX6_laneOf_18 : decode cX6_laneOf 18 = .ok (.getfield 27, 3) := by decide +kernel
set_option maxRecDepth 20000 in
theorem dX6_laneOf_21 : decode cX6_laneOf 21 = .ok (.iload_n 1, 1) := by decide +kernel
set_option maxRecDepth 20000 in
theorem dX6_laneOf_22 : decode cX6_laneOf 22 = .ok (.iaload, 1) := by decide +kernel
set_option maxRecDepth 20000 in
theorem dX6_laneOf_23 : decode cX6_laneOf 23 = .ok (.ireturn, 1) := by decide +kernel
set_option maxHeartbeats 4000000 in
set_option maxRecDepth 100000 in
theorem c_X6_laneOf (l : Launch) (G : GT) (σ : Sto) (k0 : Nat) (hk0 : K0 k0 = 6) (a1 : Int32) (r : Int32) (h : f_X6_laneOf σ k0 a1 = some r) : MW l G (2) (64) 0 0 yX6_laneOf cX6_laneOf 2 (Option.some Jvm.ClassFile.FieldType.int) [.ref (gad G k0), .int a1] (wl G σ) (some (.int r)) (wl G σ) := by
  refine mw_of RX6 (fpI G σ) [(0, .ref (gad G k0)), (1, .int a1)] (by decide +kernel) rfl (Nat.le_of_ble_eq_true rfl) rfl h rfl (fun p e s m args below meth c X hr hnm => ?_)
  have J13 : ∀ (_ : Unit), Sm p l e { frames := 2, cells := 0, slots := 0, locals := 64 } s m args below meth c G 2 (Qm below args s G 0 0 (fpI G σ)) 0 0 (wl G σ) 13 [] [] (f_X6_laneOf_L13 σ  ) := by
    intro _
    rw [f_X6_laneOf_L13]
    refine sm_iconst X 14 (0) dX6_laneOf_13 rfl rfl ?_
    refine sm_goto X 23 dX6_laneOf_14 (by decide) ?_
    exact sm_iret X hr dX6_laneOf_23 rfl
  unfold f_X6_laneOf
  refine sm_iload_n X 1 1 dX6_laneOf_0 rfl rfl rfl ?_
  refine sm_if_lt X 4 13 dX6_laneOf_1 rfl (by decide) (fun h1 => ?_) (fun h1 => ?_)
  · exact sm_sub [] rfl (J13 ())
  · refine sm_iload_n X 5 1 dX6_laneOf_4 rfl rfl rfl ?_
    refine sm_aload_n X 6 0 dX6_laneOf_5 rfl rfl rfl ?_
    refine sm_getf X 9 (A0 k0 5) hk0 fd_6_5 (fr_6_5 hk0).1 dX6_laneOf_6 rfl q_73 ?_
    refine sm_alen X 10 4 (Or.inl ((fr_6_5 hk0).2.1)) (by rw [(fr_6_5 hk0).2.2]; rfl) dX6_laneOf_9 rfl ?_
    refine sm_icmp_lt X 13 17 dX6_laneOf_10 rfl (by decide) (fun h10 => ?_) (fun h10 => ?_)
    · refine sm_aload_n X 18 0 dX6_laneOf_17 rfl rfl rfl ?_
      refine sm_getf X 21 (A0 k0 5) hk0 fd_6_5 (fr_6_5 hk0).1 dX6_laneOf_18 rfl q_73 ?_
      refine sm_iload_n X 22 1 dX6_laneOf_21 rfl rfl rfl ?_
      refine sm_iald X 23 ((fr_6_5 hk0).2.1) dX6_laneOf_22 rfl (fun r22 e22 => ?_)
      clear e22
      exact sm_iret X hr dX6_laneOf_23 rfl
    · exact sm_sub [] rfl (J13 ())
set_option maxRecDepth 20000 in
theorem dX6_laneIn_0 : decode cX6_laneIn 0 = .ok (.iload_n 1, 1) := by decide +kernel
set_option maxRecDepth 20000 in
theorem dX6_laneIn_1 : decode cX6_laneIn 1 = .ok (.bipush 10, 2) := by decide +kernel
set_option maxRecDepth 20000 in
theorem dX6_laneIn_3 : decode cX6_laneIn 3 = .ok (.idiv, 1) := by decide +kernel
set_option maxRecDepth 20000 in
theorem dX6_laneIn_4 : decode cX6_laneIn 4 = .ok (.istore_n 2, 1) := by decide +kernel
set_option maxRecDepth 20000 in
theorem dX6_laneIn_5 : decode cX6_laneIn 5 = .ok (.aload_n 0, 1) := by decide +kernel
set_option maxRecDepth 20000 in
theorem dX6_laneIn_6 : decode cX6_laneIn 6 = .ok (.iload_n 2, 1) := by decide +kernel
set_option maxRecDepth 20000 in
theorem dX6_laneIn_7 : decode cX6_laneIn 7 = .ok (.iconst 4, 1) := by decide +kernel
set_option maxRecDepth 20000 in
theorem dX6_laneIn_8 : decode cX6_laneIn 8 = .ok (.if_icmp .ge 7, 3) := by decide +kernel
set_option maxRecDepth 20000 in
theorem dX6_laneIn_11 : decode cX6_laneIn 11 = .ok (.iload_n 2, 1) := by decide +kernel
set_option maxRecDepth 20000 in
theorem dX6_laneIn_12 : decode cX6_laneIn 12 = .ok (.goto 4, 3) := by decide +kernel
set_option maxRecDepth 20000 in
theorem dX6_laneIn_15 : decode cX6_laneIn 15 = .ok (.iconst 3, 1) := by decide +kernel
set_option maxRecDepth 20000 in
theorem dX6_laneIn_16 : decode cX6_laneIn 16 = .ok (.invokevirtual 44, 3) := by decide +kernel
set_option maxRecDepth 20000 in
theorem dX6_laneIn_19 : decode cX6_laneIn 19 = .ok (.ireturn, 1) := by decide +kernel
set_option maxHeartbeats 4000000 in
set_option maxRecDepth 100000 in
theorem c_X6_laneIn (l : Launch) (G : GT) (σ : Sto) (k0 : Nat) (hk0 : K0 k0 = 6) (a1 : Int32) (r : Int32) (h : f_X6_laneIn σ k0 a1 = some r) : MW l G (3) (85) 0 0 yX6_laneIn cX6_laneIn 3 (Option.some Jvm.ClassFile.FieldType.int) [.ref (gad G k0), .int a1] (wl G σ) (some (.int r)) (wl G σ) := by
  refine mw_of RX6 (fpI G σ) [(0, .ref (gad G k0)), (1, .int a1)] (by decide +kernel) rfl (Nat.le_of_ble_eq_true rfl) rfl h rfl (fun p e s m args below meth c X hr hnm => ?_)
  unfold f_X6_laneIn
  refine sm_iload_n X 1 1 dX6_laneIn_0 rfl rfl rfl ?_
  refine sm_bipush X 3 (10) dX6_laneIn_1 rfl rfl ?_
  refine sm_idiv X 4 dX6_laneIn_3 rfl (by first | decide | assumption) ?_
  refine sm_istore_n X 5 [(2, .int (a1 / (10 : Int32))), (0, .ref (gad G k0)), (1, .int a1)] dX6_laneIn_4 rfl rfl (by decide) rfl ?_
  refine sm_aload_n X 6 1 dX6_laneIn_5 rfl rfl rfl ?_
  refine sm_iload_n X 7 0 dX6_laneIn_6 rfl rfl rfl ?_
  refine sm_iconst X 8 (4) dX6_laneIn_7 rfl rfl ?_
  refine sm_icmp_ge X 11 15 dX6_laneIn_8 rfl (by decide) (fun h8 => ?_) (fun h8 => ?_)
  · refine sm_iconst X 16 (3) dX6_laneIn_15 rfl rfl ?_
    refine sm_bind (fun r16 h16 => ?_)
    refine sm_callV0 X 19 [.int 3] [] [.int r16] (c_X6_laneOf l G σ k0 hk0 (3 : Int32) r16 h16) cw_X6_laneOf q_396 q_397 q_624 hk0 (by decide) rfl rfl rfl rfl rfl (Nat.le_of_ble_eq_true rfl) ⟨Nat.le_of_ble_eq_true rfl, Nat.le_of_ble_eq_true rfl⟩ ⟨Nat.le_refl _, Nat.le_refl _⟩ dX6_laneIn_16 rfl ?_
    exact sm_iret X hr dX6_laneIn_19 rfl
  · refine sm_iload_n X 12 0 dX6_laneIn_11 rfl rfl rfl ?_
    refine sm_goto X 16 dX6_laneIn_12 (by decide) ?_
    refine sm_bind (fun r16 h16 => ?_)
    refine sm_callV0 X 19 [.int (a1 / (10 : Int32))] [] [.int r16] (c_X6_laneOf l G σ k0 hk0 (a1 / (10 : Int32)) r16 h16) cw_X6_laneOf q_396 q_397 q_624 hk0 (by decide) rfl rfl rfl rfl rfl (Nat.le_of_ble_eq_true rfl) ⟨Nat.le_of_ble_eq_true rfl, Nat.le_of_ble_eq_true rfl⟩ ⟨Nat.le_refl _, Nat.le_refl _⟩ dX6_laneIn_16 rfl ?_
    exact sm_iret X hr dX6_laneIn_19 rfl
set_option maxRecDepth 20000 in
theorem dX5_flowIn_0 : decode cX5_flowIn 0 = .ok (.iload_n 1, 1) := by decide +kernel
set_option maxRecDepth 20000 in
theorem dX5_flowIn_1 : decode cX5_flowIn 1 = .ok (.iconst 0, 1) := by decide +kernel
set_option maxRecDepth 20000 in
theorem dX5_flowIn_2 : decode cX5_flowIn 2 = .ok (.aload_n 0, 1) := by decide +kernel
set_option maxRecDepth 20000 in
theorem dX5_flowIn_3 : decode cX5_flowIn 3 = .ok (.getfield 9, 3) := by decide +kernel
set_option maxRecDepth 20000 in
theorem dX5_flowIn_6 : decode cX5_flowIn 6 = .ok (.arraylength, 1) := by decide +kernel
set_option maxRecDepth 20000 in
theorem dX5_flowIn_7 : decode cX5_flowIn 7 = .ok (.iconst 1, 1) := by decide +kernel
set_option maxRecDepth 20000 in
theorem dX5_flowIn_8 : decode cX5_flowIn 8 = .ok (.isub, 1) := by decide +kernel
set_option maxRecDepth 20000 in
theorem dX5_flowIn_9 : decode cX5_flowIn 9 = .ok (.invokestatic 37, 3) := by decide +kernel
set_option maxRecDepth 20000 in
theorem dX5_flowIn_12 : decode cX5_flowIn 12 = .ok (.ifCond .eq 7, 3) := by decide +kernel
set_option maxRecDepth 20000 in
theorem dX5_flowIn_15 : decode cX5_flowIn 15 = .ok (.iconst 0, 1) := by decide +kernel
set_option maxRecDepth 20000 in
theorem dX5_flowIn_16 : decode cX5_flowIn 16 = .ok (.goto 9, 3) := by decide +kernel
set_option maxRecDepth 20000 in
theorem dX5_flowIn_19 : decode cX5_flowIn 19 = .ok (.aload_n 0, 1) := by decide +kernel
set_option maxRecDepth 20000 in
theorem dX5_flowIn_20 : decode cX5_flowIn 20 = .ok (.getfield 9, 3) := by decide +kernel
set_option maxRecDepth 20000 in
theorem dX5_flowIn_23 : decode cX5_flowIn 23 = .ok (.iload_n 1, 1) := by decide +kernel
set_option maxRecDepth 20000 in
theorem dX5_flowIn_24 : decode cX5_flowIn 24 = .ok (.iaload, 1) := by decide +kernel
set_option maxRecDepth 20000 in
theorem dX5_flowIn_25 : decode cX5_flowIn 25 = .ok (.ireturn, 1) := by decide +kernel
set_option maxHeartbeats 4000000 in
set_option maxRecDepth 100000 in
theorem c_X5_flowIn (l : Launch) (G : GT) (σ : Sto) (a1 : Int32) (r : Int32) (h : f_X5_flowIn σ a1 = some r) : MW l G (3) (86) 0 0 yX5_flowIn cX5_flowIn 2 (Option.some Jvm.ClassFile.FieldType.int) [.ref (gad G 58), .int a1] (wl G σ) (some (.int r)) (wl G σ) := by
  refine mw_of RX5 (fpI G σ) [(0, .ref (gad G 58)), (1, .int a1)] (by decide +kernel) rfl (Nat.le_of_ble_eq_true rfl) rfl h rfl (fun p e s m args below meth c X hr hnm => ?_)
  unfold f_X5_flowIn
  refine sm_iload_n X 1 1 dX5_flowIn_0 rfl rfl rfl ?_
  refine sm_iconst X 2 (0) dX5_flowIn_1 rfl rfl ?_
  refine sm_aload_n X 3 0 dX5_flowIn_2 rfl rfl rfl ?_
  refine sm_getf X 6 59 rfl fd_5_0 rfl dX5_flowIn_3 rfl q_186 ?_
  refine sm_alen X 7 6 (Or.inl rfl) rfl dX5_flowIn_6 rfl ?_
  refine sm_iconst X 8 (1) dX5_flowIn_7 rfl rfl ?_
  refine sm_isub X 9 dX5_flowIn_8 rfl ?_
  refine sm_bind (fun r9 h9 => ?_)
  refine sm_callSN0 X 12 (host := RX8) [.int a1, .int 0, .int ((6 : Int32) - (1 : Int32))] [] [.int (b2i r9)] (c_X8_isOutside l G σ a1 (0 : Int32) ((6 : Int32) - (1 : Int32)) r9 h9) cw_X8_isOutside q_328 (by simp [NW]) rfl rfl rfl (Nat.le_of_ble_eq_true rfl) ⟨Nat.le_of_ble_eq_true rfl, Nat.le_of_ble_eq_true rfl⟩ ⟨Nat.le_refl _, Nat.le_refl _⟩ dX5_flowIn_9 rfl ?_
  refine sm_ifz_eq X 15 19 dX5_flowIn_12 rfl (by decide) (fun h12 => ?_) (fun h12 => ?_)
  · refine sm_iconst X 16 (0) dX5_flowIn_15 rfl rfl ?_
    refine sm_goto X 25 dX5_flowIn_16 (by decide) ?_
    exact sm_iret X hr dX5_flowIn_25 rfl
  · refine sm_aload_n X 20 0 dX5_flowIn_19 rfl rfl rfl ?_
    refine sm_getf X 23 59 rfl fd_5_0 rfl dX5_flowIn_20 rfl q_186 ?_
    refine sm_iload_n X 24 1 dX5_flowIn_23 rfl rfl rfl ?_
    refine sm_iald X 25 rfl dX5_flowIn_24 rfl (fun r24 e24 => ?_)
    clear e24
    exact sm_iret X hr dX5_flowIn_25 rfl
set_option maxRecDepth 20000 in
theorem dX5_placeNext_0 : decode cX5_placeNext 0 = .ok (.aload_n 1, 1) := by decide +kernel
set_option maxRecDepth 20000 in
theorem dX5_placeNext_1 : decode cX5_placeNext 1 = .ok (.iload_n 3, 1) := by decide +kernel
set_option maxRecDepth 20000 in
theorem dX5_placeNext_2 : decode cX5_placeNext 2 = .ok (.invokevirtual 41, 3) := by decide +kernel
set_option maxRecDepth 20000 in
theorem dX5_placeNext_5 : decode cX5_placeNext 5 = .ok (.istore 4, 2) := by decide +kernel
set_option maxRecDepth 20000 in
theorem dX5_placeNext_7 : decode cX5_placeNext 7 = .ok (.aload_n 1, 1) := by decide +kernel
set_option maxRecDepth 20000 in
theorem dX5_placeNext_8 : decode cX5_placeNext 8 = .ok (.getfield 47, 3) := by decide +kernel
set_option maxRecDepth 20000 in
theorem dX5_placeNext_11 : decode cX5_placeNext 11 = .ok (.ifCond .ne 8, 3) := by decide +kernel
set_option maxRecDepth 20000 in
theorem dX5_placeNext_14 : decode cX5_placeNext 14 = .ok (.iload 4, 2) := by decide +kernel
set_option maxRecDepth 20000 in
theorem dX5_placeNext_16 : decode cX5_placeNext 16 = .ok (.goto 6, 3) := by decide +kernel
set_option maxRecDepth 20000 in
theorem dX5_placeNext_19 : decode cX5_placeNext 19 = .ok (.iload 4, 2) := by decide +kernel
set_option maxRecDepth 20000 in
theorem dX5_placeNext_21 : decode cX5_placeNext 21 = .ok (.ineg, 1) := by decide +kernel
set_option maxRecDepth 20000 in
theorem dX5_placeNext_22 : decode cX5_placeNext 22 = .ok (.istore 5, 2) := by decide +kernel
set_option maxRecDepth 20000 in
theorem dX5_placeNext_24 : decode cX5_placeNext 24 = .ok (.iload_n 2, 1) := by decide +kernel
set_option maxRecDepth 20000 in
theorem dX5_placeNext_25 : decode cX5_placeNext 25 = .ok (.iload 5, 2) := by decide +kernel
set_option maxRecDepth 20000 in
theorem dX5_placeNext_27 : decode cX5_placeNext 27 = .ok (.iadd, 1) := by decide +kernel
set_option maxRecDepth 20000 in
theorem dX5_placeNext_28 : decode cX5_placeNext 28 = .ok (.aload_n 0, 1) := by decide +kernel
set_option maxRecDepth 20000 in
theorem dX5_placeNext_29 : decode cX5_placeNext 29 = .ok (.aload_n 1, 1) := by decide +kernel
set_option maxRecDepth 20000 in
theorem dX5_placeNext_30 : decode cX5_placeNext 30 = .ok (.iload_n 3, 1) := by decide +kernel
set_option maxRecDepth 20000 in
theorem dX5_placeNext_31 : decode cX5_placeNext 31 = .ok (.invokevirtual 50, 3) := by decide +kernel
set_option maxRecDepth 20000 in
theorem dX5_placeNext_34 : decode cX5_placeNext 34 = .ok (.invokevirtual 53, 3) := by decide +kernel
set_option maxRecDepth 20000 in
theorem dX5_placeNext_37 : decode cX5_placeNext 37 = .ok (.iadd, 1) := by decide +kernel
set_option maxRecDepth 20000 in
theorem dX5_placeNext_38 : decode cX5_placeNext 38 = .ok (.iconst 0, 1) := by decide +kernel
set_option maxRecDepth 20000 in
theorem dX5_placeNext_39 : decode cX5_placeNext 39 = .ok (.sipush 1200, 3) := by decide +kernel
set_option maxRecDepth 20000 in
theorem dX5_placeNext_42 : decode cX5_placeNext 42 = .ok (.invokestatic 56, 3) := by decide +kernel
set_option maxRecDepth 20000 in
theorem dX5_placeNext_45 : decode cX5_placeNext 45 = .ok (.ireturn, 1) := by decide +kernel
set_option maxHeartbeats 4000000 in
set_option maxRecDepth 100000 in
theorem c_X5_placeNext (l : Launch) (G : GT) (σ : Sto) (a1 : Nat) (ha1 : K0 a1 = 6) (a2 : Int32) (a3 : Int32) (r : Int32) (h : f_X5_placeNext σ a1 a2 a3 = some r) : MW l G (4) (109) 0 0 yX5_placeNext cX5_placeNext 6 (Option.some Jvm.ClassFile.FieldType.int) [.ref (gad G 58), .ref (gad G a1), .int a2, .int a3] (wl G σ) (some (.int r)) (wl G σ) := by
  refine mw_of RX5 (fpI G σ) [(0, .ref (gad G 58)), (1, .ref (gad G a1)), (2, .int a2), (3, .int a3)] (by decide +kernel) rfl (Nat.le_of_ble_eq_true rfl) rfl h rfl (fun p e s m args below meth c X hr hnm => ?_)
  have J22 : ∀ (k1 : Nat) (hk1 : K0 k1 = 6) (v2 : Int32) (v3 : Int32) (vs0 : Int32)  , Sm p l e { frames := 4, cells := 0, slots := 0, locals := 109 } s m args below meth c G 6 (Qm below args s G 0 0 (fpI G σ)) 0 0 (wl G σ) 22 [(0, .ref (gad G 58)), (1, .ref (gad G k1)), (2, .int v2), (3, .int v3)] [.int vs0] (f_X5_placeNext_L22 σ  k1 v2 v3 vs0) := by
    intro k1 hk1 v2 v3 vs0
    rw [f_X5_placeNext_L22]
    refine sm_istore X 24 [(5, .int vs0), (0, .ref (gad G 58)), (1, .ref (gad G k1)), (2, .int v2), (3, .int v3)] dX5_placeNext_22 rfl (by decide) rfl ?_
    refine sm_iload_n X 25 3 dX5_placeNext_24 rfl rfl rfl ?_
    refine sm_iload X 27 0 dX5_placeNext_25 rfl rfl ?_
    refine sm_iadd X 28 dX5_placeNext_27 rfl ?_
    refine sm_aload_n X 29 1 dX5_placeNext_28 rfl rfl rfl ?_
    refine sm_aload_n X 30 2 dX5_placeNext_29 rfl rfl rfl ?_
    refine sm_iload_n X 31 4 dX5_placeNext_30 rfl rfl rfl ?_
    refine sm_bind (fun r31 h31 => ?_)
    refine sm_callV0 X 34 [.int v3] [.ref (gad G 58), .int (v2 + vs0)] [.int r31, .ref (gad G 58), .int (v2 + vs0)] (c_X6_laneIn l G σ k1 hk1 v3 r31 h31) cw_X6_laneIn q_621 q_622 q_620 hk1 (by decide) rfl rfl rfl rfl rfl (Nat.le_of_ble_eq_true rfl) ⟨Nat.le_of_ble_eq_true rfl, Nat.le_of_ble_eq_true rfl⟩ ⟨Nat.le_refl _, Nat.le_refl _⟩ dX5_placeNext_31 rfl ?_
    refine sm_bind (fun r34 h34 => ?_)
    refine sm_callV0 X 37 [.int r31] [.int (v2 + vs0)] [.int r34, .int (v2 + vs0)] (c_X5_flowIn l G σ r31 r34 h34) cw_X5_flowIn q_626 q_627 q_625 rfl (by decide) rfl rfl rfl rfl rfl (Nat.le_of_ble_eq_true rfl) ⟨Nat.le_of_ble_eq_true rfl, Nat.le_of_ble_eq_true rfl⟩ ⟨Nat.le_refl _, Nat.le_refl _⟩ dX5_placeNext_34 rfl ?_
    refine sm_iadd X 38 dX5_placeNext_37 rfl ?_
    refine sm_iconst X 39 (0) dX5_placeNext_38 rfl rfl ?_
    refine sm_sipush X 42 (1200) dX5_placeNext_39 rfl rfl ?_
    refine sm_bind (fun r42 h42 => ?_)
    refine sm_callSN0 X 45 (host := RX8) [.int ((v2 + vs0) + r34), .int 0, .int 1200] [] [.int r42] (c_X8_heldWithin l G σ ((v2 + vs0) + r34) (0 : Int32) (1200 : Int32) r42 h42) cw_X8_heldWithin q_363 (by simp [NW]) rfl rfl rfl (Nat.le_of_ble_eq_true rfl) ⟨Nat.le_of_ble_eq_true rfl, Nat.le_of_ble_eq_true rfl⟩ ⟨Nat.le_refl _, Nat.le_refl _⟩ dX5_placeNext_42 rfl ?_
    exact sm_iret X hr dX5_placeNext_45 rfl
  unfold f_X5_placeNext
  refine sm_aload_n X 1 1 dX5_placeNext_0 rfl rfl rfl ?_
  refine sm_iload_n X 2 3 dX5_placeNext_1 rfl rfl rfl ?_
  refine sm_bind (fun r2 h2 => ?_)
  refine sm_callV0 X 5 [.int a3] [] [.int r2] (c_X6_paceIn l G σ a1 ha1 a3 r2 h2) cw_X6_paceIn q_426 q_427 q_619 ha1 (by decide) rfl rfl rfl rfl rfl (Nat.le_of_ble_eq_true rfl) ⟨Nat.le_of_ble_eq_true rfl, Nat.le_of_ble_eq_true rfl⟩ ⟨Nat.le_refl _, Nat.le_refl _⟩ dX5_placeNext_2 rfl ?_
  refine sm_istore X 7 [(4, .int r2), (0, .ref (gad G 58)), (1, .ref (gad G a1)), (2, .int a2), (3, .int a3)] dX5_placeNext_5 rfl (by decide) rfl ?_
  refine sm_aload_n X 8 2 dX5_placeNext_7 rfl rfl rfl ?_
  refine sm_geti X 11 ha1 fd_6_2 dX5_placeNext_8 rfl q_66 ?_
  refine sm_if_ne X 14 19 dX5_placeNext_11 rfl (by decide) (fun h11 => ?_) (fun h11 => ?_)
  · refine sm_iload X 16 0 dX5_placeNext_14 rfl rfl ?_
    refine sm_goto X 22 dX5_placeNext_16 (by decide) ?_
    exact sm_sub [1, 2, 3, 4] rfl (J22 a1 ha1 a2 a3 r2)
  · refine sm_iload X 21 0 dX5_placeNext_19 rfl rfl ?_
    refine sm_ineg X 22 dX5_placeNext_21 rfl ?_
    exact sm_sub [1, 2, 3, 4] rfl (J22 a1 ha1 a2 a3 (-r2))
set_option maxRecDepth 20000 in
theorem dX2_setLane_0 : decode cX2_setLane 0 = .ok (.iconst 0, 1) := by decide +kernel
set_option maxRecDepth 20000 in
theorem dX2_setLane_1 : decode cX2_setLane 1 = .ok (.iload_n 1, 1) := by decide +kernel
set_option maxRecDepth 20000 in
theorem dX2_setLane_2 : decode cX2_setLane 2 = .ok (.invokestatic 76, 3) := by decide +kernel
set_option maxRecDepth 20000 in
theorem dX2_setLane_5 : decode cX2_setLane 5 = .ok (.istore_n 3, 1) := by decide +kernel
set_option maxRecDepth 20000 in
theorem dX2_setLane_6 : decode cX2_setLane 6 = .ok (.iload_n 3, 1) := by decide +kernel
set_option maxRecDepth 20000 in
theorem dX2_setLane_7 : decode cX2_setLane 7 = .ok (.iconst 4, 1) := by decide +kernel
set_option maxRecDepth 20000 in
theorem dX2_setLane_8 : decode cX2_setLane 8 = .ok (.if_icmp .ge 28, 3) := by decide +kernel
set_option maxRecDepth 20000 in
theorem dX2_setLane_11 : decode cX2_setLane 11 = .ok (.aload_n 0, 1) := by decide +kernel
set_option maxRecDepth 20000 in
theorem dX2_setLane_12 : decode cX2_setLane 12 = .ok (.getfield 26, 3) := by decide +kernel
set_option maxRecDepth 20000 in
theorem dX2_setLane_15 : decode cX2_setLane 15 = .ok (.getfield 82, 3) := by decide +kernel
set_option maxRecDepth 20000 in
theorem dX2_setLane_18 : decode cX2_setLane 18 = .ok (.iload_n 3, 1) := by decide +kernel
set_option maxRecDepth 20000 in
theorem dX2_setLane_19 : decode cX2_setLane 19 = .ok (.iload_n 3, 1) := by decide +kernel
set_option maxRecDepth 20000 in
theorem dX2_setLane_20 : decode cX2_setLane 20 = .ok (.iload_n 1, 1) := by decide +kernel
set_option maxRecDepth 20000 in
theorem dX2_setLane_21 : decode cX2_setLane 21 = .ok (.if_icmp .ne 7, 3) := by decide +kernel
set_option maxRecDepth 20000 in
theorem dX2_setLane_24 : decode cX2_setLane 24 = .ok (.iload_n 2, 1) := by decide +kernel
set_option maxRecDepth 20000 in
theorem dX2_setLane_25 : decode cX2_setLane 25 = .ok (.goto 4, 3) := by decide +kernel
set_option maxRecDepth 20000 in
theorem dX2_setLane_28 : decode cX2_setLane 28 = .ok (.iconst 0, 1) := by decide +kernel
set_option maxRecDepth 20000 in
theorem dX2_setLane_29 : decode cX2_setLane 29 = .ok (.iastore, 1) := by decide +kernel
set_option maxRecDepth 20000 in
theorem dX2_setLane_30 : decode cX2_setLane 30 = .ok (.iinc 3 1, 3) := by decide +kernel
set_option maxRecDepth 20000 in
theorem dX2_setLane_33 : decode cX2_setLane 33 = .ok (.goto (-27), 3) := by decide +kernel
set_option maxRecDepth 20000 in
theorem dX2_setLane_36 : decode cX2_setLane 36 = .ok (.return_, 1) := by decide +kernel
set_option maxHeartbeats 4000000 in
set_option maxRecDepth 100000 in
theorem c_X2_setLane (l : Launch) (G : GT) (σ : Sto) (a1 : Int32) (a2 : Int32) (r : Sto) (h : f_X2_setLane σ a1 a2 = some r) : MW l G (2) (64) 0 0 yX2_setLane cX2_setLane 4 (Option.none : Option Jvm.ClassFile.FieldType) [.ref (gad G 60), .int a1, .int a2] (wl G σ) (none) (wl G r) := by
  refine mw_of RX2 (fiV G) [(0, .ref (gad G 60)), (1, .int a1), (2, .int a2)] (by decide +kernel) rfl (Nat.le_of_ble_eq_true rfl) rfl h rfl (fun p e s m args below meth c X hr hnm => ?_)
  have J29 : ∀ (v1 : Int32) (v2 : Int32) (v3 : Int32) (vs0 : Int32) (vs1 : Int32) (K6 : Int32 → Sto → Option Sto) (hK6 : ∀ (v3' : Int32) (σ' : Sto), Sm p l e { frames := 2, cells := 0, slots := 0, locals := 64 } s m args below meth c G 4 (Qm below args s G 0 0 (fiV G)) 0 0 (wl G σ') 6 [(0, .ref (gad G 60)), (1, .int v1), (2, .int v2), (3, .int v3')] [] (K6 v3' σ')) (σ : Sto), Sm p l e { frames := 2, cells := 0, slots := 0, locals := 64 } s m args below meth c G 4 (Qm below args s G 0 0 (fiV G)) 0 0 (wl G σ) 29 [(0, .ref (gad G 60)), (1, .int v1), (2, .int v2), (3, .int v3)] [.int vs0, .int vs1, .ref (gad G 63)] (f_X2_setLane_L29 K6 v1 v2 v3 vs0 vs1 σ) := by
    intro v1 v2 v3 vs0 vs1 K6 hK6 σ
    rw [f_X2_setLane_L29]
    refine sm_iast X 30 rfl dX2_setLane_29 rfl (fun σ29 e29 => ?_)
    clear e29
    refine sm_iinc X 33 3 (1 : Int32) [(3, .int (v3 + (1 : Int32))), (0, .ref (gad G 60)), (1, .int v1), (2, .int v2)] dX2_setLane_30 rfl rfl rfl (by decide) rfl ?_
    refine sm_goto X 6 dX2_setLane_33 (by decide) ?_
    exact sm_sub [1, 2, 3, 0] rfl (hK6 (v3 + (1 : Int32)) σ29)
  have J6 : ∀ (v1 : Int32) (v2 : Int32)  (n : Nat) (v3 : Int32) (σ : Sto), Sm p l e { frames := 2, cells := 0, slots := 0, locals := 64 } s m args below meth c G 4 (Qm below args s G 0 0 (fiV G)) 0 0 (wl G σ) 6 [(0, .ref (gad G 60)), (1, .int v1), (2, .int v2), (3, .int v3)] [] (f_X2_setLane_L6  v1 v2 n v3 σ) := by
    intro v1 v2 n
    induction n with
    | zero => intro v3 σ; rw [f_X2_setLane_L6]; exact sm_none
    | succ n ihl =>
      intro v3 σ
      rw [f_X2_setLane_L6]
      refine sm_iload_n X 7 3 dX2_setLane_6 rfl rfl rfl ?_
      refine sm_iconst X 8 (4) dX2_setLane_7 rfl rfl ?_
      refine sm_icmp_ge X 11 36 dX2_setLane_8 rfl (by decide) (fun h8 => ?_) (fun h8 => ?_)
      · exact sm_vret X hr dX2_setLane_36 rfl
      · refine sm_aload_n X 12 0 dX2_setLane_11 rfl rfl rfl ?_
        refine sm_getf X 15 62 rfl fd_2_3 rfl dX2_setLane_12 rfl q_221 ?_
        refine sm_getf X 18 63 rfl fd_6_5 rfl dX2_setLane_15 rfl q_74 ?_
        refine sm_iload_n X 19 3 dX2_setLane_18 rfl rfl rfl ?_
        refine sm_iload_n X 20 3 dX2_setLane_19 rfl rfl rfl ?_
        refine sm_iload_n X 21 1 dX2_setLane_20 rfl rfl rfl ?_
        refine sm_icmp_ne X 24 28 dX2_setLane_21 rfl (by decide) (fun h21 => ?_) (fun h21 => ?_)
        · refine sm_iload_n X 25 2 dX2_setLane_24 rfl rfl rfl ?_
          refine sm_goto X 29 dX2_setLane_25 (by decide) ?_
          exact sm_sub [0, 1, 2, 3] rfl (J29 v1 v2 v3 v2 v3 (f_X2_setLane_L6  v1 v2 n) ihl σ)
        · refine sm_iconst X 29 (0) dX2_setLane_28 rfl rfl ?_
          exact sm_sub [0, 1, 2, 3] rfl (J29 v1 v2 v3 (0 : Int32) v3 (f_X2_setLane_L6  v1 v2 n) ihl σ)
  unfold f_X2_setLane
  refine sm_iconst X 1 (0) dX2_setLane_0 rfl rfl ?_
  refine sm_iload_n X 2 1 dX2_setLane_1 rfl rfl rfl ?_
  refine sm_mmax X 5 dX2_setLane_2 rfl q_702 q_369 q_370 q_11 ⟨Nat.le_of_ble_eq_true rfl, Nat.le_of_ble_eq_true rfl, Nat.le_refl _, Nat.le_refl _⟩ ?_
  refine sm_istore_n X 6 [(3, .int (imax (0 : Int32) a1)), (0, .ref (gad G 60)), (1, .int a1), (2, .int a2)] dX2_setLane_5 rfl rfl (by decide) rfl ?_
  exact sm_sub [1, 2, 3, 0] rfl (J6 a1 a2  FU (imax (0 : Int32) a1) σ)
set_option maxRecDepth 20000 in
theorem dX8_isBetter_0 : decode cX8_isBetter 0 = .ok (.iload_n 0, 1) := by decide +kernel
set_option maxRecDepth 20000 in
theorem dX8_isBetter_1 : decode cX8_isBetter 1 = .ok (.ifCond .ne 16, 3) := by decide +kernel
set_option maxRecDepth 20000 in
theorem dX8_isBetter_4 : decode cX8_isBetter 4 = .ok (.iload_n 1, 1) := by decide +kernel
set_option maxRecDepth 20000 in
theorem dX8_isBetter_5 : decode cX8_isBetter 5 = .ok (.iload_n 2, 1) := by decide +kernel
set_option maxRecDepth 20000 in
theorem dX8_isBetter_6 : decode cX8_isBetter 6 = .ok (.if_icmp .le 7, 3) := by decide +kernel
set_option maxRecDepth 20000 in
theorem dX8_isBetter_9 : decode cX8_isBetter 9 = .ok (.iconst 1, 1) := by decide +kernel
set_option maxRecDepth 20000 in
theorem dX8_isBetter_10 : decode cX8_isBetter 10 = .ok (.goto 17, 3) := by decide +kernel
set_option maxRecDepth 20000 in
theorem dX8_isBetter_13 : decode cX8_isBetter 13 = .ok (.iconst 0, 1) := by decide +kernel
set_option maxRecDepth 20000 in
theorem dX8_isBetter_14 : decode cX8_isBetter 14 = .ok (.goto 13, 3) := by decide +kernel
set_option maxRecDepth 20000 in
theorem dX8_isBetter_17 : decode cX8_isBetter 17 = .ok (.iload_n 1, 1) := by decide +kernel
set_option maxRecDepth 20000 in
theorem dX8_isBetter_18 : decode cX8_isBetter 18 = .ok (.iload_n 2, 1) := by decide +kernel
set_option maxRecDepth 20000 in
theorem dX8_isBetter_19 : decode cX8_isBetter 19 = .ok (.if_icmp .ge 7, 3) := by decide +kernel
set_option maxRecDepth 20000 in
theorem dX8_isBetter_22 : decode cX8_isBetter 22 = .ok (.iconst 1, 1) := by decide +kernel
set_option maxRecDepth 20000 in
theorem dX8_isBetter_23 : decode cX8_isBetter 23 = .ok (.goto 4, 3) := by decide +kernel
set_option maxRecDepth 20000 in
theorem dX8_isBetter_26 : decode cX8_isBetter 26 = .ok (.iconst 0, 1) := by decide +kernel
set_option maxRecDepth 20000 in
theorem dX8_isBetter_27 : decode cX8_isBetter 27 = .ok (.ireturn, 1) := by decide +kernel
set_option maxHeartbeats 4000000 in
set_option maxRecDepth 100000 in
theorem c_X8_isBetter (l : Launch) (G : GT) (σ : Sto) (a0 : Int32) (a1 : Int32) (a2 : Int32) (r : Bool) (h : f_X8_isBetter a0 a1 a2 = some r) : MW l G (2) (64) 0 0 yX8_isBetter cX8_isBetter 3 (Option.some Jvm.ClassFile.FieldType.boolean) [.int a0, .int a1, .int a2] (wl G σ) (some (.int (b2i r))) (wl G σ) := by
  refine mw_of RX8 (fpZ G σ) [(0, .int a0), (1, .int a1), (2, .int a2)] (by decide +kernel) rfl (Nat.le_of_ble_eq_true rfl) rfl h rfl (fun p e s m args below meth c X hr hnm => ?_)
  unfold f_X8_isBetter
  refine sm_iload_n X 1 0 dX8_isBetter_0 rfl rfl rfl ?_
  refine sm_if_ne X 4 17 dX8_isBetter_1 rfl (by decide) (fun h1 => ?_) (fun h1 => ?_)
  · refine sm_iload_n X 5 1 dX8_isBetter_4 rfl rfl rfl ?_
    refine sm_iload_n X 6 2 dX8_isBetter_5 rfl rfl rfl ?_
    refine sm_icmp_le X 9 13 dX8_isBetter_6 rfl (by decide) (fun h6 => ?_) (fun h6 => ?_)
    · refine sm_iconst X 14 (0) dX8_isBetter_13 rfl rfl ?_
      refine sm_goto X 27 dX8_isBetter_14 (by decide) ?_
      exact sm_zret X (v := false) hr dX8_isBetter_27 rfl
    · refine sm_iconst X 10 (1) dX8_isBetter_9 rfl rfl ?_
      refine sm_goto X 27 dX8_isBetter_10 (by decide) ?_
      exact sm_zret X (v := true) hr dX8_isBetter_27 rfl
  · refine sm_iload_n X 18 1 dX8_isBetter_17 rfl rfl rfl ?_
    refine sm_iload_n X 19 2 dX8_isBetter_18 rfl rfl rfl ?_
    refine sm_icmp_ge X 22 26 dX8_isBetter_19 rfl (by decide) (fun h19 => ?_) (fun h19 => ?_)
    · refine sm_iconst X 27 (0) dX8_isBetter_26 rfl rfl ?_
      exact sm_zret X (v := false) hr dX8_isBetter_27 rfl
    · refine sm_iconst X 23 (1) dX8_isBetter_22 rfl rfl ?_
      refine sm_goto X 27 dX8_isBetter_23 (by decide) ?_
      exact sm_zret X (v := true) hr dX8_isBetter_27 rfl
set_option maxRecDepth 20000 in
theorem dX2_meetsAt_0 : decode cX2_meetsAt 0 = .ok (.aload_n 0, 1) := by decide +kernel
set_option maxRecDepth 20000 in
theorem dX2_meetsAt_1 : decode cX2_meetsAt 1 = .ok (.getfield 37, 3) := by decide +kernel
set_option maxRecDepth 20000 in
theorem dX2_meetsAt_4 : decode cX2_meetsAt 4 = .ok (.ifnull 37, 3) := by decide +kernel
set_option maxRecDepth 20000 in
theorem dX2_meetsAt_7 : decode cX2_meetsAt 7 = .ok (.iload_n 2, 1) := by decide +kernel
set_option maxRecDepth 20000 in
theorem dX2_meetsAt_8 : decode cX2_meetsAt 8 = .ok (.iconst 0, 1) := by decide +kernel
set_option maxRecDepth 20000 in
theorem dX2_meetsAt_9 : decode cX2_meetsAt 9 = .ok (.aload_n 0, 1) := by decide +kernel
set_option maxRecDepth 20000 in
theorem dX2_meetsAt_10 : decode cX2_meetsAt 10 = .ok (.getfield 30, 3) := by decide +kernel
set_option maxRecDepth 20000 in
theorem dX2_meetsAt_13 : decode cX2_meetsAt 13 = .ok (.arraylength, 1) := by decide +kernel
set_option maxRecDepth 20000 in
theorem dX2_meetsAt_14 : decode cX2_meetsAt 14 = .ok (.iconst 1, 1) := by decide +kernel
set_option maxRecDepth 20000 in
theorem dX2_meetsAt_15 : decode cX2_meetsAt 15 = .ok (.isub, 1) := by decide +kernel
set_option maxRecDepth 20000 in
theorem dX2_meetsAt_16 : decode cX2_meetsAt 16 = .ok (.invokestatic 43, 3) := by decide +kernel
set_option maxRecDepth 20000 in
theorem dX2_meetsAt_19 : decode cX2_meetsAt 19 = .ok (.ifCond .ne 22, 3) := by decide +kernel
set_option maxRecDepth 20000 in
theorem dX2_meetsAt_22 : decode cX2_meetsAt 22 = .ok (.aload_n 0, 1) := by decide +kernel
set_option maxRecDepth 20000 in
theorem dX2_meetsAt_23 : decode cX2_meetsAt 23 = .ok (.getfield 26, 3) := by decide +kernel
set_option maxRecDepth 20000 in
theorem dX2_meetsAt_26 : decode cX2_meetsAt 26 = .ok (.iload_n 2, 1) := by decide +kernel
set_option maxRecDepth 20000 in
theorem dX2_meetsAt_27 : decode cX2_meetsAt 27 = .ok (.invokevirtual 85, 3) := by decide +kernel
set_option maxRecDepth 20000 in
theorem dX2_meetsAt_30 : decode cX2_meetsAt 30 = .ok (.aload_n 0, 1) := by decide +kernel
set_option maxRecDepth 20000 in
theorem dX2_meetsAt_31 : decode cX2_meetsAt 31 = .ok (.getfield 37, 3) := by decide +kernel
set_option maxRecDepth 20000 in
theorem dX2_meetsAt_34 : decode cX2_meetsAt 34 = .ok (.iload_n 2, 1) := by decide +kernel
set_option maxRecDepth 20000 in
theorem dX2_meetsAt_35 : decode cX2_meetsAt 35 = .ok (.invokevirtual 85, 3) := by decide +kernel
set_option maxRecDepth 20000 in
theorem dX2_meetsAt_38 : decode cX2_meetsAt 38 = .ok (.if_icmp .eq 5, 3) := by decide +kernel
set_option maxRecDepth 20000 in
theorem dX2_meetsAt_41 : decode cX2_meetsAt 41 = .ok (.iconst 0, 1) := by decide +kernel
set_option maxRecDepth 20000 in
theorem dX2_meetsAt_42 : decode cX2_meetsAt 42 = .ok (.ireturn, 1) := by decide +kernel
set_option maxRecDepth 20000 in
theorem dX2_meetsAt_43 : decode cX2_meetsAt 43 = .ok (.aload_n 0, 1) := by decide +kernel
set_option maxRecDepth 20000 in
theorem dX2_meetsAt_44 : decode cX2_meetsAt 44 = .ok (.getfield 30, 3) := by decide +kernel
set_option maxRecDepth 20000 in
theorem dX2_meetsAt_47 : decode cX2_meetsAt 47 = .ok (.iload_n 2, 1) := by decide +kernel
set_option maxRecDepth 20000 in
theorem dX2_meetsAt_48 : decode cX2_meetsAt 48 = .ok (.iaload, 1) := by decide +kernel
set_option maxRecDepth 20000 in
theorem dX2_meetsAt_49 : decode cX2_meetsAt 49 = .ok (.istore_n 3, 1) := by decide +kernel
set_option maxRecDepth 20000 in
theorem dX2_meetsAt_50 : decode cX2_meetsAt 50 = .ok (.aload_n 0, 1) := by decide +kernel
set_option maxRecDepth 20000 in
theorem dX2_meetsAt_51 : decode cX2_meetsAt 51 = .ok (.getfield 26, 3) := by decide +kernel
set_option maxRecDepth 20000 in
theorem dX2_meetsAt_54 : decode cX2_meetsAt 54 = .ok (.getfield 88, 3) := by decide +kernel
set_option maxRecDepth 20000 in
theorem dX2_meetsAt_57 : decode cX2_meetsAt 57 = .ok (.ifCond .ne 9, 3) := by decide +kernel
set_option maxRecDepth 20000 in
theorem dX2_meetsAt_60 : decode cX2_meetsAt 60 = .ok (.iload_n 3, 1) := by decide +kernel
set_option maxRecDepth 20000 in
theorem dX2_meetsAt_61 : decode cX2_meetsAt 61 = .ok (.iload_n 1, 1) := by decide +kernel
set_option maxRecDepth 20000 in
theorem dX2_meetsAt_62 : decode cX2_meetsAt 62 = .ok (.isub, 1) := by decide +kernel
set_option maxRecDepth 20000 in
theorem dX2_meetsAt_63 : decode cX2_meetsAt 63 = .ok (.goto 6, 3) := by decide +kernel
set_option maxRecDepth 20000 in
theorem dX2_meetsAt_66 : decode cX2_meetsAt 66 = .ok (.iload_n 1, 1) := by decide +kernel
set_option maxRecDepth 20000 in
theorem dX2_meetsAt_67 : decode cX2_meetsAt 67 = .ok (.iload_n 3, 1) := by decide +kernel
set_option maxRecDepth 20000 in
theorem dX2_meetsAt_68 : decode cX2_meetsAt 68 = .ok (.isub, 1) := by decide +kernel
set_option maxRecDepth 20000 in
theorem dX2_meetsAt_69 : decode cX2_meetsAt 69 = .ok (.istore 4, 2) := by decide +kernel
set_option maxRecDepth 20000 in
theorem dX2_meetsAt_71 : decode cX2_meetsAt 71 = .ok (.iload 4, 2) := by decide +kernel
set_option maxRecDepth 20000 in
theorem dX2_meetsAt_73 : decode cX2_meetsAt 73 = .ok (.aload_n 0, 1) := by decide +kernel
set_option maxRecDepth 20000 in
theorem dX2_meetsAt_74 : decode cX2_meetsAt 74 = .ok (.getfield 40, 3) := by decide +kernel
set_option maxRecDepth 20000 in
theorem dX2_meetsAt_77 : decode cX2_meetsAt 77 = .ok (.if_icmp .le 5, 3) := by decide +kernel
set_option maxRecDepth 20000 in
theorem dX2_meetsAt_80 : decode cX2_meetsAt 80 = .ok (.iconst 0, 1) := by decide +kernel
set_option maxRecDepth 20000 in
theorem dX2_meetsAt_81 : decode cX2_meetsAt 81 = .ok (.ireturn, 1) := by decide +kernel
set_option maxRecDepth 20000 in
theorem dX2_meetsAt_82 : decode cX2_meetsAt 82 = .ok (.iload_n 1, 1) := by decide +kernel
set_option maxRecDepth 20000 in
theorem dX2_meetsAt_83 : decode cX2_meetsAt 83 = .ok (.iload_n 3, 1) := by decide +kernel
set_option maxRecDepth 20000 in
theorem dX2_meetsAt_84 : decode cX2_meetsAt 84 = .ok (.iadd, 1) := by decide +kernel
set_option maxRecDepth 20000 in
theorem dX2_meetsAt_85 : decode cX2_meetsAt 85 = .ok (.iconst 2, 1) := by decide +kernel
set_option maxRecDepth 20000 in
theorem dX2_meetsAt_86 : decode cX2_meetsAt 86 = .ok (.idiv, 1) := by decide +kernel
set_option maxRecDepth 20000 in
theorem dX2_meetsAt_87 : decode cX2_meetsAt 87 = .ok (.istore 5, 2) := by decide +kernel
set_option maxRecDepth 20000 in
theorem dX2_meetsAt_89 : decode cX2_meetsAt 89 = .ok (.aload_n 0, 1) := by decide +kernel
set_option maxRecDepth 20000 in
theorem dX2_meetsAt_90 : decode cX2_meetsAt 90 = .ok (.getfield 9, 3) := by decide +kernel
set_option maxRecDepth 20000 in
theorem dX2_meetsAt_93 : decode cX2_meetsAt 93 = .ok (.ifCond .eq 22, 3) := by decide +kernel
set_option maxRecDepth 20000 in
theorem dX2_meetsAt_96 : decode cX2_meetsAt 96 = .ok (.aload_n 0, 1) := by decide +kernel
set_option maxRecDepth 20000 in
theorem dX2_meetsAt_97 : decode cX2_meetsAt 97 = .ok (.getfield 26, 3) := by decide +kernel
set_option maxRecDepth 20000 in
theorem dX2_meetsAt_100 : decode cX2_meetsAt 100 = .ok (.getfield 88, 3) := by decide +kernel
set_option maxRecDepth 20000 in
theorem dX2_meetsAt_103 : decode cX2_meetsAt 103 = .ok (.iload 5, 2) := by decide +kernel
set_option maxRecDepth 20000 in
theorem dX2_meetsAt_105 : decode cX2_meetsAt 105 = .ok (.aload_n 0, 1) := by decide +kernel
set_option maxRecDepth 20000 in
theorem dX2_meetsAt_106 : decode cX2_meetsAt 106 = .ok (.getfield 15, 3) := by decide +kernel
set_option maxRecDepth 20000 in
theorem dX2_meetsAt_109 : decode cX2_meetsAt 109 = .ok (.invokestatic 91, 3) := by decide +kernel
set_option maxRecDepth 20000 in
theorem dX2_meetsAt_112 : decode cX2_meetsAt 112 = .ok (.ifCond .eq 31, 3) := by decide +kernel
set_option maxRecDepth 20000 in
theorem dX2_meetsAt_115 : decode cX2_meetsAt 115 = .ok (.aload_n 0, 1) := by decide +kernel
set_option maxRecDepth 20000 in
theorem dX2_meetsAt_116 : decode cX2_meetsAt 116 = .ok (.iconst 1, 1) := by decide +kernel
set_option maxRecDepth 20000 in
theorem dX2_meetsAt_117 : decode cX2_meetsAt 117 = .ok (.putfield 9, 3) := by decide +kernel
set_option maxRecDepth 20000 in
theorem dX2_meetsAt_120 : decode cX2_meetsAt 120 = .ok (.aload_n 0, 1) := by decide +kernel
set_option maxRecDepth 20000 in
theorem dX2_meetsAt_121 : decode cX2_meetsAt 121 = .ok (.iload 5, 2) := by decide +kernel
set_option maxRecDepth 20000 in
theorem dX2_meetsAt_123 : decode cX2_meetsAt 123 = .ok (.putfield 15, 3) := by decide +kernel
set_option maxRecDepth 20000 in
theorem dX2_meetsAt_126 : decode cX2_meetsAt 126 = .ok (.aload_n 0, 1) := by decide +kernel
set_option maxRecDepth 20000 in
theorem dX2_meetsAt_127 : decode cX2_meetsAt 127 = .ok (.getfield 26, 3) := by decide +kernel
set_option maxRecDepth 20000 in
theorem dX2_meetsAt_130 : decode cX2_meetsAt 130 = .ok (.getfield 82, 3) := by decide +kernel
set_option maxRecDepth 20000 in
theorem dX2_meetsAt_133 : decode cX2_meetsAt 133 = .ok (.iconst 0, 1) := by decide +kernel
set_option maxRecDepth 20000 in
theorem dX2_meetsAt_134 : decode cX2_meetsAt 134 = .ok (.aload_n 0, 1) := by decide +kernel
set_option maxRecDepth 20000 in
theorem dX2_meetsAt_135 : decode cX2_meetsAt 135 = .ok (.getfield 19, 3) := by decide +kernel
set_option maxRecDepth 20000 in
theorem dX2_meetsAt_138 : decode cX2_meetsAt 138 = .ok (.iconst 0, 1) := by decide +kernel
set_option maxRecDepth 20000 in
theorem dX2_meetsAt_139 : decode cX2_meetsAt 139 = .ok (.iconst 4, 1) := by decide +kernel
set_option maxRecDepth 20000 in
theorem dX2_meetsAt_140 : decode cX2_meetsAt 140 = .ok (.invokestatic 94, 3) := by decide +kernel
set_option maxRecDepth 20000 in
theorem dX2_meetsAt_143 : decode cX2_meetsAt 143 = .ok (.iconst 1, 1) := by decide +kernel
set_option maxRecDepth 20000 in
theorem dX2_meetsAt_144 : decode cX2_meetsAt 144 = .ok (.ireturn, 1) := by decide +kernel
set_option maxHeartbeats 4000000 in
set_option maxRecDepth 100000 in
theorem c_X2_meetsAt (l : Launch) (G : GT) (σ : Sto) (a1 : Int32) (a2 : Int32) (r : (Bool × Sto)) (h : f_X2_meetsAt σ a1 a2 = some r) : MW l G (4) (107) 0 0 yX2_meetsAt cX2_meetsAt 6 (Option.some Jvm.ClassFile.FieldType.boolean) [.ref (gad G 60), .int a1, .int a2] (wl G σ) (some (.int (b2i r.1))) (wl G r.2) := by
  refine mw_of RX2 (fiZ G) [(0, .ref (gad G 60)), (1, .int a1), (2, .int a2)] (by decide +kernel) rfl (Nat.le_of_ble_eq_true rfl) rfl h rfl (fun p e s m args below meth c X hr hnm => ?_)
  have J115 : ∀ (v5 : Int32)  (σ : Sto), Sm p l e { frames := 4, cells := 0, slots := 0, locals := 107 } s m args below meth c G 6 (Qm below args s G 0 0 (fiZ G)) 0 0 (wl G σ) 115 [(0, .ref (gad G 60)), (5, .int v5)] [] (f_X2_meetsAt_L115  v5 σ) := by
    intro v5 σ
    rw [f_X2_meetsAt_L115]
    refine sm_aload_n X 116 0 dX2_meetsAt_115 rfl rfl rfl ?_
    refine sm_iconst X 117 (1) dX2_meetsAt_116 rfl rfl ?_
    refine sm_puti X 120 .boolean rfl fd_2_0 (by decide) rfl rfl rfl dX2_meetsAt_117 rfl q_216 (fun σ117 e117 => ?_)
    clear e117
    refine sm_aload_n X 121 0 dX2_meetsAt_120 rfl rfl rfl ?_
    refine sm_iload X 123 1 dX2_meetsAt_121 rfl rfl ?_
    refine sm_puti X 126 .int rfl fd_2_1 (by decide) rfl rfl rfl dX2_meetsAt_123 rfl q_218 (fun σ123 e123 => ?_)
    clear e123
    refine sm_aload_n X 127 0 dX2_meetsAt_126 rfl rfl rfl ?_
    refine sm_getf X 130 62 rfl fd_2_3 rfl dX2_meetsAt_127 rfl q_221 ?_
    refine sm_getf X 133 63 rfl fd_6_5 rfl dX2_meetsAt_130 rfl q_74 ?_
    refine sm_iconst X 134 (0) dX2_meetsAt_133 rfl rfl ?_
    refine sm_aload_n X 135 0 dX2_meetsAt_134 rfl rfl rfl ?_
    refine sm_getf X 138 61 rfl fd_2_2 rfl dX2_meetsAt_135 rfl q_220 ?_
    refine sm_iconst X 139 (0) dX2_meetsAt_138 rfl rfl ?_
    refine sm_iconst X 140 (4) dX2_meetsAt_139 rfl rfl ?_
    refine sm_copy X 143 rfl rfl dX2_meetsAt_140 rfl q_711 q_456 q_455 q_12 ⟨Nat.le_of_ble_eq_true rfl, Nat.le_of_ble_eq_true rfl⟩ (fun σ140 e140 => ?_)
    clear e140
    refine sm_iconst X 144 (1) dX2_meetsAt_143 rfl rfl ?_
    exact sm_zret X (v := true) hr dX2_meetsAt_144 rfl
  have J69 : ∀ (v1 : Int32) (v3 : Int32) (vs0 : Int32)  (σ : Sto), Sm p l e { frames := 4, cells := 0, slots := 0, locals := 107 } s m args below meth c G 6 (Qm below args s G 0 0 (fiZ G)) 0 0 (wl G σ) 69 [(0, .ref (gad G 60)), (1, .int v1), (3, .int v3)] [.int vs0] (f_X2_meetsAt_L69  v1 v3 vs0 σ) := by
    intro v1 v3 vs0 σ
    rw [f_X2_meetsAt_L69]
    refine sm_istore X 71 [(4, .int vs0), (0, .ref (gad G 60)), (1, .int v1), (3, .int v3)] dX2_meetsAt_69 rfl (by decide) rfl ?_
    refine sm_iload X 73 0 dX2_meetsAt_71 rfl rfl ?_
    refine sm_aload_n X 74 1 dX2_meetsAt_73 rfl rfl rfl ?_
    refine sm_geti X 77 rfl fd_2_7 dX2_meetsAt_74 rfl q_225 ?_
    refine sm_icmp_le X 80 82 dX2_meetsAt_77 rfl (by decide) (fun h77 => ?_) (fun h77 => ?_)
    · refine sm_iload_n X 83 2 dX2_meetsAt_82 rfl rfl rfl ?_
      refine sm_iload_n X 84 3 dX2_meetsAt_83 rfl rfl rfl ?_
      refine sm_iadd X 85 dX2_meetsAt_84 rfl ?_
      refine sm_iconst X 86 (2) dX2_meetsAt_85 rfl rfl ?_
      refine sm_idiv X 87 dX2_meetsAt_86 rfl (by first | decide | assumption) ?_
      refine sm_istore X 89 [(5, .int ((v1 + v3) / (2 : Int32))), (4, .int vs0), (0, .ref (gad G 60)), (1, .int v1), (3, .int v3)] dX2_meetsAt_87 rfl (by decide) rfl ?_
      refine sm_aload_n X 90 2 dX2_meetsAt_89 rfl rfl rfl ?_
      refine sm_geti X 93 rfl fd_2_0 dX2_meetsAt_90 rfl q_216 ?_
      refine sm_if_eq X 96 115 dX2_meetsAt_93 rfl (by decide) (fun h93 => ?_) (fun h93 => ?_)
      · exact sm_sub [2, 0] rfl (J115 ((v1 + v3) / (2 : Int32))  σ)
      · refine sm_aload_n X 97 2 dX2_meetsAt_96 rfl rfl rfl ?_
        refine sm_getf X 100 62 rfl fd_2_3 rfl dX2_meetsAt_97 rfl q_221 ?_
        refine sm_geti X 103 rfl fd_6_2 dX2_meetsAt_100 rfl q_67 ?_
        refine sm_iload X 105 0 dX2_meetsAt_103 rfl rfl ?_
        refine sm_aload_n X 106 2 dX2_meetsAt_105 rfl rfl rfl ?_
        refine sm_geti X 109 rfl fd_2_1 dX2_meetsAt_106 rfl q_218 ?_
        refine sm_bind (fun r109 h109 => ?_)
        refine sm_callSN0 X 112 (host := RX8) [.int (σ.1 62 2), .int ((v1 + v3) / (2 : Int32)), .int (σ.1 60 1)] [] [.int (b2i r109)] (c_X8_isBetter l G σ (σ.1 62 2) ((v1 + v3) / (2 : Int32)) (σ.1 60 1) r109 h109) cw_X8_isBetter q_709 (by simp [NW]) rfl rfl rfl (Nat.le_of_ble_eq_true rfl) ⟨Nat.le_of_ble_eq_true rfl, Nat.le_of_ble_eq_true rfl⟩ ⟨Nat.le_refl _, Nat.le_refl _⟩ dX2_meetsAt_109 rfl ?_
        refine sm_ifz_eq X 115 143 dX2_meetsAt_112 rfl (by decide) (fun h112 => ?_) (fun h112 => ?_)
        · exact sm_sub [2, 0] rfl (J115 ((v1 + v3) / (2 : Int32))  σ)
        · refine sm_iconst X 144 (1) dX2_meetsAt_143 rfl rfl ?_
          exact sm_zret X (v := true) hr dX2_meetsAt_144 rfl
    · refine sm_iconst X 81 (0) dX2_meetsAt_80 rfl rfl ?_
      exact sm_zret X (v := false) hr dX2_meetsAt_81 rfl
  unfold f_X2_meetsAt
  refine sm_aload_n X 1 0 dX2_meetsAt_0 rfl rfl rfl ?_
  refine sm_getrN X 4 rfl fd_2_6 dX2_meetsAt_1 rfl q_224 (fun r1 e1 => ?_)
  clear e1
  refine sm_ifnull X 7 41 dX2_meetsAt_4 rfl (by decide) (fun hn => ?_) (fun k4 hn => ?_)
  · subst hn
    refine sm_iconst X 42 (0) dX2_meetsAt_41 rfl rfl ?_
    exact sm_zret X (v := false) hr dX2_meetsAt_42 rfl
  · subst hn
    refine sm_iload_n X 8 2 dX2_meetsAt_7 rfl rfl rfl ?_
    refine sm_iconst X 9 (0) dX2_meetsAt_8 rfl rfl ?_
    refine sm_aload_n X 10 0 dX2_meetsAt_9 rfl rfl rfl ?_
    refine sm_getf X 13 64 rfl fd_2_4 rfl dX2_meetsAt_10 rfl q_222 ?_
    refine sm_alen X 14 60 (Or.inl rfl) rfl dX2_meetsAt_13 rfl ?_
    refine sm_iconst X 15 (1) dX2_meetsAt_14 rfl rfl ?_
    refine sm_isub X 16 dX2_meetsAt_15 rfl ?_
    refine sm_bind (fun r16 h16 => ?_)
    refine sm_callSN0 X 19 (host := RX8) [.int a2, .int 0, .int ((60 : Int32) - (1 : Int32))] [] [.int (b2i r16)] (c_X8_isOutside l G σ a2 (0 : Int32) ((60 : Int32) - (1 : Int32)) r16 h16) cw_X8_isOutside q_328 (by simp [NW]) rfl rfl rfl (Nat.le_of_ble_eq_true rfl) ⟨Nat.le_of_ble_eq_true rfl, Nat.le_of_ble_eq_true rfl⟩ ⟨Nat.le_refl _, Nat.le_refl _⟩ dX2_meetsAt_16 rfl ?_
    refine sm_ifz_ne X 22 41 dX2_meetsAt_19 rfl (by decide) (fun h19 => ?_) (fun h19 => ?_)
    · refine sm_iconst X 42 (0) dX2_meetsAt_41 rfl rfl ?_
      exact sm_zret X (v := false) hr dX2_meetsAt_42 rfl
    · refine sm_aload_n X 23 0 dX2_meetsAt_22 rfl rfl rfl ?_
      refine sm_getf X 26 62 rfl fd_2_3 rfl dX2_meetsAt_23 rfl q_221 ?_
      refine sm_iload_n X 27 2 dX2_meetsAt_26 rfl rfl rfl ?_
      refine sm_bind (fun r27 h27 => ?_)
      refine sm_callV0 X 30 [.int a2] [] [.int r27] (c_X6_laneIn l G σ 62 rfl a2 r27 h27) cw_X6_laneIn q_621 q_622 q_707 rfl (by decide) rfl rfl rfl rfl rfl (Nat.le_of_ble_eq_true rfl) ⟨Nat.le_of_ble_eq_true rfl, Nat.le_of_ble_eq_true rfl⟩ ⟨Nat.le_refl _, Nat.le_refl _⟩ dX2_meetsAt_27 rfl ?_
      refine sm_aload_n X 31 0 dX2_meetsAt_30 rfl rfl rfl ?_
      refine sm_getrN X 34 rfl fd_2_6 dX2_meetsAt_31 rfl q_224 (fun r31 e31 => ?_)
      clear e31
      refine sm_iload_n X 35 2 dX2_meetsAt_34 rfl rfl rfl ?_
      refine sm_deref (fun k35 h hk35 => ?_)
      subst h
      refine sm_bind (fun r35 h35 => ?_)
      refine sm_callV0 X 38 [.int a2] [.int r27] [.int r35, .int r27] (c_X6_laneIn l G σ k35 hk35 a2 r35 h35) cw_X6_laneIn q_621 q_622 q_707 hk35 (by decide) rfl rfl rfl rfl rfl (Nat.le_of_ble_eq_true rfl) ⟨Nat.le_of_ble_eq_true rfl, Nat.le_of_ble_eq_true rfl⟩ ⟨Nat.le_refl _, Nat.le_refl _⟩ dX2_meetsAt_35 rfl ?_
      refine sm_icmp_eq X 41 43 dX2_meetsAt_38 rfl (by decide) (fun h38 => ?_) (fun h38 => ?_)
      · refine sm_aload_n X 44 0 dX2_meetsAt_43 rfl rfl rfl ?_
        refine sm_getf X 47 64 rfl fd_2_4 rfl dX2_meetsAt_44 rfl q_222 ?_
        refine sm_iload_n X 48 2 dX2_meetsAt_47 rfl rfl rfl ?_
        refine sm_iald X 49 rfl dX2_meetsAt_48 rfl (fun r48 e48 => ?_)
        clear e48
        refine sm_istore_n X 50 [(3, .int r48), (0, .ref (gad G 60)), (1, .int a1), (2, .int a2)] dX2_meetsAt_49 rfl rfl (by decide) rfl ?_
        refine sm_aload_n X 51 1 dX2_meetsAt_50 rfl rfl rfl ?_
        refine sm_getf X 54 62 rfl fd_2_3 rfl dX2_meetsAt_51 rfl q_221 ?_
        refine sm_geti X 57 rfl fd_6_2 dX2_meetsAt_54 rfl q_67 ?_
        refine sm_if_ne X 60 66 dX2_meetsAt_57 rfl (by decide) (fun h57 => ?_) (fun h57 => ?_)
        · refine sm_iload_n X 61 0 dX2_meetsAt_60 rfl rfl rfl ?_
          refine sm_iload_n X 62 2 dX2_meetsAt_61 rfl rfl rfl ?_
          refine sm_isub X 63 dX2_meetsAt_62 rfl ?_
          refine sm_goto X 69 dX2_meetsAt_63 (by decide) ?_
          exact sm_sub [1, 2, 0] rfl (J69 a1 r48 (r48 - a1)  σ)
        · refine sm_iload_n X 67 2 dX2_meetsAt_66 rfl rfl rfl ?_
          refine sm_iload_n X 68 0 dX2_meetsAt_67 rfl rfl rfl ?_
          refine sm_isub X 69 dX2_meetsAt_68 rfl ?_
          exact sm_sub [1, 2, 0] rfl (J69 a1 r48 (a1 - r48)  σ)
      · refine sm_iconst X 42 (0) dX2_meetsAt_41 rfl rfl ?_
        exact sm_zret X (v := false) hr dX2_meetsAt_42 rfl
set_option maxRecDepth 20000 in
theorem dX2_tryLanes_0 : decode cX2_tryLanes 0 = .ok (.iload_n 1, 1) := by decide +kernel
set_option maxRecDepth 20000 in
theorem dX2_tryLanes_1 : decode cX2_tryLanes 1 = .ok (.iconst 0, 1) := by decide +kernel
set_option maxRecDepth 20000 in
theorem dX2_tryLanes_2 : decode cX2_tryLanes 2 = .ok (.iconst 3, 1) := by decide +kernel
set_option maxRecDepth 20000 in
theorem dX2_tryLanes_3 : decode cX2_tryLanes 3 = .ok (.invokestatic 43, 3) := by decide +kernel
set_option maxRecDepth 20000 in
theorem dX2_tryLanes_6 : decode cX2_tryLanes 6 = .ok (.ifCond .ne 17, 3) := by decide +kernel
set_option maxRecDepth 20000 in
theorem dX2_tryLanes_9 : decode cX2_tryLanes 9 = .ok (.aload_n 0, 1) := by decide +kernel
set_option maxRecDepth 20000 in
theorem dX2_tryLanes_10 : decode cX2_tryLanes 10 = .ok (.getfield 33, 3) := by decide +kernel
set_option maxRecDepth 20000 in
theorem dX2_tryLanes_13 : decode cX2_tryLanes 13 = .ok (.ifnull 10, 3) := by decide +kernel
set_option maxRecDepth 20000 in
theorem dX2_tryLanes_16 : decode cX2_tryLanes 16 = .ok (.aload_n 0, 1) := by decide +kernel
set_option maxRecDepth 20000 in
theorem dX2_tryLanes_17 : decode cX2_tryLanes 17 = .ok (.getfield 37, 3) := by decide +kernel
set_option maxRecDepth 20000 in
theorem dX2_tryLanes_20 : decode cX2_tryLanes 20 = .ok (.ifnonnull 4, 3) := by decide +kernel
set_option maxRecDepth 20000 in
theorem dX2_tryLanes_23 : decode cX2_tryLanes 23 = .ok (.return_, 1) := by decide +kernel
set_option maxRecDepth 20000 in
theorem dX2_tryLanes_24 : decode cX2_tryLanes 24 = .ok (.iload_n 1, 1) := by decide +kernel
set_option maxRecDepth 20000 in
theorem dX2_tryLanes_25 : decode cX2_tryLanes 25 = .ok (.iconst 3, 1) := by decide +kernel
set_option maxRecDepth 20000 in
theorem dX2_tryLanes_26 : decode cX2_tryLanes 26 = .ok (.if_icmp .ne 7, 3) := by decide +kernel
set_option maxRecDepth 20000 in
theorem dX2_tryLanes_29 : decode cX2_tryLanes 29 = .ok (.iconst 1, 1) := by decide +kernel
set_option maxRecDepth 20000 in
theorem dX2_tryLanes_30 : decode cX2_tryLanes 30 = .ok (.goto 4, 3) := by decide +kernel
set_option maxRecDepth 20000 in
theorem dX2_tryLanes_33 : decode cX2_tryLanes 33 = .ok (.iconst 0, 1) := by decide +kernel
set_option maxRecDepth 20000 in
theorem dX2_tryLanes_34 : decode cX2_tryLanes 34 = .ok (.istore_n 3, 1) := by decide +kernel
set_option maxRecDepth 20000 in
theorem dX2_tryLanes_35 : decode cX2_tryLanes 35 = .ok (.iconst 0, 1) := by decide +kernel
set_option maxRecDepth 20000 in
theorem dX2_tryLanes_36 : decode cX2_tryLanes 36 = .ok (.istore 4, 2) := by decide +kernel
set_option maxRecDepth 20000 in
theorem dX2_tryLanes_38 : decode cX2_tryLanes 38 = .ok (.iload 4, 2) := by decide +kernel
set_option maxRecDepth 20000 in
theorem dX2_tryLanes_40 : decode cX2_tryLanes 40 = .ok (.bipush 6, 2) := by decide +kernel
set_option maxRecDepth 20000 in
theorem dX2_tryLanes_42 : decode cX2_tryLanes 42 = .ok (.if_icmp .ge 128, 3) := by decide +kernel
set_option maxRecDepth 20000 in
theorem dX2_tryLanes_45 : decode cX2_tryLanes 45 = .ok (.iload_n 3, 1) := by decide +kernel
set_option maxRecDepth 20000 in
theorem dX2_tryLanes_46 : decode cX2_tryLanes 46 = .ok (.ifCond .eq 19, 3) := by decide +kernel
set_option maxRecDepth 20000 in
theorem dX2_tryLanes_49 : decode cX2_tryLanes 49 = .ok (.iload 4, 2) := by decide +kernel
set_option maxRecDepth 20000 in
theorem dX2_tryLanes_51 : decode cX2_tryLanes 51 = .ok (.aload_n 0, 1) := by decide +kernel
set_option maxRecDepth 20000 in
theorem dX2_tryLanes_52 : decode cX2_tryLanes 52 = .ok (.getfield 37, 3) := by decide +kernel
set_option maxRecDepth 20000 in
theorem dX2_tryLanes_55 : decode cX2_tryLanes 55 = .ok (.iload_n 1, 1) := by decide +kernel
set_option maxRecDepth 20000 in
theorem dX2_tryLanes_56 : decode cX2_tryLanes 56 = .ok (.invokevirtual 65, 3) := by decide +kernel
set_option maxRecDepth 20000 in
theorem dX2_tryLanes_59 : decode cX2_tryLanes 59 = .ok (.if_icmp .eq 6, 3) := by decide +kernel
set_option maxRecDepth 20000 in
theorem dX2_tryLanes_62 : decode cX2_tryLanes 62 = .ok (.goto 102, 3) := by decide +kernel
set_option maxRecDepth 20000 in
theorem dX2_tryLanes_65 : decode cX2_tryLanes 65 = .ok (.aload_n 0, 1) := by decide +kernel
set_option maxRecDepth 20000 in
theorem dX2_tryLanes_66 : decode cX2_tryLanes 66 = .ok (.iload_n 1, 1) := by decide +kernel
set_option maxRecDepth 20000 in
theorem dX2_tryLanes_67 : decode cX2_tryLanes 67 = .ok (.iload 4, 2) := by decide +kernel
set_option maxRecDepth 20000 in
theorem dX2_tryLanes_69 : decode cX2_tryLanes 69 = .ok (.invokevirtual 69, 3) := by decide +kernel
set_option maxRecDepth 20000 in
theorem dX2_tryLanes_72 : decode cX2_tryLanes 72 = .ok (.iload_n 2, 1) := by decide +kernel
set_option maxRecDepth 20000 in
theorem dX2_tryLanes_73 : decode cX2_tryLanes 73 = .ok (.istore 5, 2) := by decide +kernel
set_option maxRecDepth 20000 in
theorem dX2_tryLanes_75 : decode cX2_tryLanes 75 = .ok (.iconst 0, 1) := by decide +kernel
set_option maxRecDepth 20000 in
theorem dX2_tryLanes_76 : decode cX2_tryLanes 76 = .ok (.istore 6, 2) := by decide +kernel
set_option maxRecDepth 20000 in
theorem dX2_tryLanes_78 : decode cX2_tryLanes 78 = .ok (.iload_n 3, 1) := by decide +kernel
set_option maxRecDepth 20000 in
theorem dX2_tryLanes_79 : decode cX2_tryLanes 79 = .ok (.ifCond .eq 8, 3) := by decide +kernel
set_option maxRecDepth 20000 in
theorem dX2_tryLanes_82 : decode cX2_tryLanes 82 = .ok (.bipush 60, 2) := by decide +kernel
set_option maxRecDepth 20000 in
theorem dX2_tryLanes_84 : decode cX2_tryLanes 84 = .ok (.goto 9, 3) := by decide +kernel
set_option maxRecDepth 20000 in
theorem dX2_tryLanes_87 : decode cX2_tryLanes 87 = .ok (.iload_n 1, 1) := by decide +kernel
set_option maxRecDepth 20000 in
theorem dX2_tryLanes_88 : decode cX2_tryLanes 88 = .ok (.iconst 1, 1) := by decide +kernel
set_option maxRecDepth 20000 in
theorem dX2_tryLanes_89 : decode cX2_tryLanes 89 = .ok (.iadd, 1) := by decide +kernel
set_option maxRecDepth 20000 in
theorem dX2_tryLanes_90 : decode cX2_tryLanes 90 = .ok (.bipush 10, 2) := by decide +kernel
set_option maxRecDepth 20000 in
theorem dX2_tryLanes_92 : decode cX2_tryLanes 92 = .ok (.imul, 1) := by decide +kernel
set_option maxRecDepth 20000 in
theorem dX2_tryLanes_93 : decode cX2_tryLanes 93 = .ok (.istore 7, 2) := by decide +kernel
set_option maxRecDepth 20000 in
theorem dX2_tryLanes_95 : decode cX2_tryLanes 95 = .ok (.iload_n 1, 1) := by decide +kernel
set_option maxRecDepth 20000 in
theorem dX2_tryLanes_96 : decode cX2_tryLanes 96 = .ok (.bipush 10, 2) := by decide +kernel
set_option maxRecDepth 20000 in
theorem dX2_tryLanes_98 : decode cX2_tryLanes 98 = .ok (.imul, 1) := by decide +kernel
set_option maxRecDepth 20000 in
theorem dX2_tryLanes_99 : decode cX2_tryLanes 99 = .ok (.istore 8, 2) := by decide +kernel
set_option maxRecDepth 20000 in
theorem dX2_tryLanes_101 : decode cX2_tryLanes 101 = .ok (.iload 8, 2) := by decide +kernel
set_option maxRecDepth 20000 in
theorem dX2_tryLanes_103 : decode cX2_tryLanes 103 = .ok (.iload 7, 2) := by decide +kernel
set_option maxRecDepth 20000 in
theorem dX2_tryLanes_105 : decode cX2_tryLanes 105 = .ok (.if_icmp .ge 41, 3) := by decide +kernel
set_option maxRecDepth 20000 in
theorem dX2_tryLanes_108 : decode cX2_tryLanes 108 = .ok (.iload 6, 2) := by decide +kernel
set_option maxRecDepth 20000 in
theorem dX2_tryLanes_110 : decode cX2_tryLanes 110 = .ok (.ifCond .ne 36, 3) := by decide +kernel
set_option maxRecDepth 20000 in
theorem dX2_tryLanes_113 : decode cX2_tryLanes 113 = .ok (.aload_n 0, 1) := by decide +kernel
set_option maxRecDepth 20000 in
theorem dX2_tryLanes_114 : decode cX2_tryLanes 114 = .ok (.getfield 33, 3) := by decide +kernel
set_option maxRecDepth 20000 in
theorem dX2_tryLanes_117 : decode cX2_tryLanes 117 = .ok (.aload_n 0, 1) := by decide +kernel
set_option maxRecDepth 20000 in
theorem dX2_tryLanes_118 : decode cX2_tryLanes 118 = .ok (.getfield 26, 3) := by decide +kernel
set_option maxRecDepth 20000 in
theorem dX2_tryLanes_121 : decode cX2_tryLanes 121 = .ok (.iload 5, 2) := by decide +kernel
set_option maxRecDepth 20000 in
theorem dX2_tryLanes_123 : decode cX2_tryLanes 123 = .ok (.iload 8, 2) := by decide +kernel
set_option maxRecDepth 20000 in
theorem dX2_tryLanes_125 : decode cX2_tryLanes 125 = .ok (.invokevirtual 55, 3) := by decide +kernel
set_option maxRecDepth 20000 in
theorem dX2_tryLanes_128 : decode cX2_tryLanes 128 = .ok (.istore 5, 2) := by decide +kernel
set_option maxRecDepth 20000 in
theorem dX2_tryLanes_130 : decode cX2_tryLanes 130 = .ok (.aload_n 0, 1) := by decide +kernel
set_option maxRecDepth 20000 in
theorem dX2_tryLanes_131 : decode cX2_tryLanes 131 = .ok (.iload 5, 2) := by decide +kernel
set_option maxRecDepth 20000 in
theorem dX2_tryLanes_133 : decode cX2_tryLanes 133 = .ok (.iload 8, 2) := by decide +kernel
set_option maxRecDepth 20000 in
theorem dX2_tryLanes_135 : decode cX2_tryLanes 135 = .ok (.invokevirtual 72, 3) := by decide +kernel
set_option maxRecDepth 20000 in
theorem dX2_tryLanes_138 : decode cX2_tryLanes 138 = .ok (.istore 6, 2) := by decide +kernel
set_option maxRecDepth 20000 in
theorem dX2_tryLanes_140 : decode cX2_tryLanes 140 = .ok (.iinc 8 1, 3) := by decide +kernel
set_option maxRecDepth 20000 in
theorem dX2_tryLanes_143 : decode cX2_tryLanes 143 = .ok (.goto (-42), 3) := by decide +kernel
set_option maxRecDepth 20000 in
theorem dX2_tryLanes_146 : decode cX2_tryLanes 146 = .ok (.iload 6, 2) := by decide +kernel
set_option maxRecDepth 20000 in
theorem dX2_tryLanes_148 : decode cX2_tryLanes 148 = .ok (.ifCond .ne 16, 3) := by decide +kernel
set_option maxRecDepth 20000 in
theorem dX2_tryLanes_151 : decode cX2_tryLanes 151 = .ok (.iload_n 3, 1) := by decide +kernel
set_option maxRecDepth 20000 in
theorem dX2_tryLanes_152 : decode cX2_tryLanes 152 = .ok (.ifCond .ne 12, 3) := by decide +kernel
set_option maxRecDepth 20000 in
theorem dX2_tryLanes_155 : decode cX2_tryLanes 155 = .ok (.aload_n 0, 1) := by decide +kernel
set_option maxRecDepth 20000 in
theorem dX2_tryLanes_156 : decode cX2_tryLanes 156 = .ok (.iload_n 1, 1) := by decide +kernel
set_option maxRecDepth 20000 in
theorem dX2_tryLanes_157 : decode cX2_tryLanes 157 = .ok (.iconst 1, 1) := by decide +kernel
set_option maxRecDepth 20000 in
theorem dX2_tryLanes_158 : decode cX2_tryLanes 158 = .ok (.iadd, 1) := by decide +kernel
set_option maxRecDepth 20000 in
theorem dX2_tryLanes_159 : decode cX2_tryLanes 159 = .ok (.iload 5, 2) := by decide +kernel
set_option maxRecDepth 20000 in
theorem dX2_tryLanes_161 : decode cX2_tryLanes 161 = .ok (.invokevirtual 61, 3) := by decide +kernel
set_option maxRecDepth 20000 in
theorem dX2_tryLanes_164 : decode cX2_tryLanes 164 = .ok (.iinc 4 1, 3) := by decide +kernel
set_option maxRecDepth 20000 in
theorem dX2_tryLanes_167 : decode cX2_tryLanes 167 = .ok (.goto (-129), 3) := by decide +kernel
set_option maxRecDepth 20000 in
theorem dX2_tryLanes_170 : decode cX2_tryLanes 170 = .ok (.return_, 1) := by decide +kernel
set_option maxHeartbeats 4000000 in
set_option maxRecDepth 100000 in
theorem cg_X2_tryLanes (l : Launch) (G : GT) : ∀ d, (∀ (σ : Sto) (a1 : Int32) (a2 : Int32) (r : Sto) (_ : g_X2_tryLanes d 0 a1 a2 σ = some r), MW l G (6 + d) (198 + 64 * d) 0 0 yX2_tryLanes cX2_tryLanes 9 (Option.none : Option Jvm.ClassFile.FieldType) [.ref (gad G 60), .int a1, .int a2] (wl G σ) (none) (wl G r)) := by
  intro d
  induction d with
  | zero => exact fun _ _ _ _ => by intro h; cases h
  | succ d ih =>
    intro σ a1 a2 r h
    rw [g_X2_tryLanes] at h
    refine mw_of RX2 (fiV G) [(0, .ref (gad G 60)), (1, .int a1), (2, .int a2)] (by decide +kernel) rfl (Nat.le_of_ble_eq_true rfl) rfl h rfl (fun p e s m args below meth c X hr hnm => ?_)
    have J164 : ∀ (v1 : Int32) (v2 : Int32) (v3 : Bool) (v4 : Int32) (K38 : Int32 → Sto → Option Sto) (hK38 : ∀ (v4' : Int32) (σ' : Sto), Sm p l e { frames := 6 + (d + 1), cells := 0, slots := 0, locals := 198 + 64 * (d + 1) } s m args below meth c G 9 (Qm below args s G 0 0 (fiV G)) 0 0 (wl G σ') 38 [(0, .ref (gad G 60)), (1, .int v1), (2, .int v2), (3, .int (b2i v3)), (4, .int v4')] [] (K38 v4' σ')) (σ : Sto), Sm p l e { frames := 6 + (d + 1), cells := 0, slots := 0, locals := 198 + 64 * (d + 1) } s m args below meth c G 9 (Qm below args s G 0 0 (fiV G)) 0 0 (wl G σ) 164 [(0, .ref (gad G 60)), (1, .int v1), (2, .int v2), (3, .int (b2i v3)), (4, .int v4)] [] (f_X2_tryLanes_L164 (g_X2_tryLanes d) K38 v1 v2 v3 v4 σ) := by
      intro v1 v2 v3 v4 K38 hK38 σ
      rw [f_X2_tryLanes_L164]
      refine sm_iinc X 167 4 (1 : Int32) [(4, .int (v4 + (1 : Int32))), (0, .ref (gad G 60)), (1, .int v1), (2, .int v2), (3, .int (b2i v3))] dX2_tryLanes_164 rfl rfl rfl (by decide) rfl ?_
      refine sm_goto X 38 dX2_tryLanes_167 (by decide) ?_
      exact sm_sub [1, 2, 3, 4, 0] rfl (hK38 (v4 + (1 : Int32)) σ)
    have J146 : ∀ (v1 : Int32) (v2 : Int32) (v3 : Bool) (v4 : Int32) (v5 : Int32) (v6 : Bool) (K38 : Int32 → Sto → Option Sto) (hK38 : ∀ (v4' : Int32) (σ' : Sto), Sm p l e { frames := 6 + (d + 1), cells := 0, slots := 0, locals := 198 + 64 * (d + 1) } s m args below meth c G 9 (Qm below args s G 0 0 (fiV G)) 0 0 (wl G σ') 38 [(0, .ref (gad G 60)), (1, .int v1), (2, .int v2), (3, .int (b2i v3)), (4, .int v4')] [] (K38 v4' σ')) (σ : Sto), Sm p l e { frames := 6 + (d + 1), cells := 0, slots := 0, locals := 198 + 64 * (d + 1) } s m args below meth c G 9 (Qm below args s G 0 0 (fiV G)) 0 0 (wl G σ) 146 [(0, .ref (gad G 60)), (1, .int v1), (2, .int v2), (3, .int (b2i v3)), (4, .int v4), (5, .int v5), (6, .int (b2i v6))] [] (f_X2_tryLanes_L146 (g_X2_tryLanes d) K38 v1 v2 v3 v4 v5 v6 σ) := by
      intro v1 v2 v3 v4 v5 v6 K38 hK38 σ
      rw [f_X2_tryLanes_L146]
      refine sm_iload X 148 6 dX2_tryLanes_146 rfl rfl ?_
      refine sm_ifz_ne X 151 164 dX2_tryLanes_148 rfl (by decide) (fun h148 => ?_) (fun h148 => ?_)
      · exact sm_sub [0, 1, 2, 3, 4] rfl (J164 v1 v2 v3 v4 K38 hK38 σ)
      · refine sm_iload_n X 152 3 dX2_tryLanes_151 rfl rfl rfl ?_
        refine sm_ifz_ne X 155 164 dX2_tryLanes_152 rfl (by decide) (fun h152 => ?_) (fun h152 => ?_)
        · exact sm_sub [0, 1, 2, 3, 4] rfl (J164 v1 v2 v3 v4 K38 hK38 σ)
        · refine sm_aload_n X 156 0 dX2_tryLanes_155 rfl rfl rfl ?_
          refine sm_iload_n X 157 1 dX2_tryLanes_156 rfl rfl rfl ?_
          refine sm_iconst X 158 (1) dX2_tryLanes_157 rfl rfl ?_
          refine sm_iadd X 159 dX2_tryLanes_158 rfl ?_
          refine sm_iload X 161 5 dX2_tryLanes_159 rfl rfl ?_
          refine sm_bind (fun r161 h161 => ?_)
          refine sm_callV0 X 164 [.int (v1 + (1 : Int32)), .int v5] [] [] (ih σ (v1 + (1 : Int32)) v5 r161 h161) cw_X2_tryLanes q_694 qs_18 q_692 rfl (by decide) rfl rfl rfl rfl rfl (Nat.le_of_ble_eq_true rfl) ⟨by show _ + _ + 1 ≤ _ + (_ + 1); omega, by show _ + (_ + 64 * _) ≤ _ + 64 * (_ + 1); omega⟩ ⟨Nat.le_refl _, Nat.le_refl _⟩ dX2_tryLanes_161 rfl ?_
          exact sm_sub [0, 1, 2, 3, 4] rfl (J164 v1 v2 v3 v4 K38 hK38 r161)
    have J101 : ∀ (v1 : Int32) (v2 : Int32) (v3 : Bool) (v4 : Int32) (v7 : Int32) (K38 : Int32 → Sto → Option Sto) (hK38 : ∀ (v4' : Int32) (σ' : Sto), Sm p l e { frames := 6 + (d + 1), cells := 0, slots := 0, locals := 198 + 64 * (d + 1) } s m args below meth c G 9 (Qm below args s G 0 0 (fiV G)) 0 0 (wl G σ') 38 [(0, .ref (gad G 60)), (1, .int v1), (2, .int v2), (3, .int (b2i v3)), (4, .int v4')] [] (K38 v4' σ')) (n : Nat) (v5 : Int32) (v6 : Bool) (v8 : Int32) (σ : Sto), Sm p l e { frames := 6 + (d + 1), cells := 0, slots := 0, locals := 198 + 64 * (d + 1) } s m args below meth c G 9 (Qm below args s G 0 0 (fiV G)) 0 0 (wl G σ) 101 [(0, .ref (gad G 60)), (1, .int v1), (2, .int v2), (3, .int (b2i v3)), (4, .int v4), (5, .int v5), (6, .int (b2i v6)), (7, .int v7), (8, .int v8)] [] (f_X2_tryLanes_L101 (g_X2_tryLanes d) K38 v1 v2 v3 v4 v7 n v5 v6 v8 σ) := by
      intro v1 v2 v3 v4 v7 K38 hK38 n
      induction n with
      | zero => intro v5 v6 v8 σ; rw [f_X2_tryLanes_L101]; exact sm_none
      | succ n ihl =>
        intro v5 v6 v8 σ
        rw [f_X2_tryLanes_L101]
        refine sm_iload X 103 8 dX2_tryLanes_101 rfl rfl ?_
        refine sm_iload X 105 7 dX2_tryLanes_103 rfl rfl ?_
        refine sm_icmp_ge X 108 146 dX2_tryLanes_105 rfl (by decide) (fun h105 => ?_) (fun h105 => ?_)
        · exact sm_sub [0, 1, 2, 3, 4, 5, 6] rfl (J146 v1 v2 v3 v4 v5 v6 K38 hK38 σ)
        · refine sm_iload X 110 6 dX2_tryLanes_108 rfl rfl ?_
          refine sm_ifz_ne X 113 146 dX2_tryLanes_110 rfl (by decide) (fun h110 => ?_) (fun h110 => ?_)
          · exact sm_sub [0, 1, 2, 3, 4, 5, 6] rfl (J146 v1 v2 v3 v4 v5 v6 K38 hK38 σ)
          · refine sm_aload_n X 114 0 dX2_tryLanes_113 rfl rfl rfl ?_
            refine sm_getrN X 117 rfl fd_2_5 dX2_tryLanes_114 rfl q_223 (fun r114 e114 => ?_)
            clear e114
            refine sm_aload_n X 118 0 dX2_tryLanes_117 rfl rfl rfl ?_
            refine sm_getf X 121 62 rfl fd_2_3 rfl dX2_tryLanes_118 rfl q_221 ?_
            refine sm_iload X 123 5 dX2_tryLanes_121 rfl rfl ?_
            refine sm_iload X 125 8 dX2_tryLanes_123 rfl rfl ?_
            refine sm_deref (fun k125 h hk125 => ?_)
            subst h
            obtain rfl := sg_5 hk125
            clear hk125
            refine sm_bind (fun r125 h125 => ?_)
            refine sm_callV0 X 128 [.ref (gad G 62), .int v5, .int v8] [] [.int r125] (c_X5_placeNext l G σ 62 rfl v5 v8 r125 h125) cw_X5_placeNext q_616 q_617 q_691 rfl (by decide) rfl rfl rfl rfl rfl (Nat.le_of_ble_eq_true rfl) ⟨by show _ + 1 ≤ _ + (_ + 1); omega, by show _ ≤ _ + 64 * (_ + 1); omega⟩ ⟨Nat.le_refl _, Nat.le_refl _⟩ dX2_tryLanes_125 rfl ?_
            refine sm_istore X 130 [(5, .int r125), (0, .ref (gad G 60)), (1, .int v1), (2, .int v2), (3, .int (b2i v3)), (4, .int v4), (6, .int (b2i v6)), (7, .int v7), (8, .int v8)] dX2_tryLanes_128 rfl (by decide) rfl ?_
            refine sm_aload_n X 131 1 dX2_tryLanes_130 rfl rfl rfl ?_
            refine sm_iload X 133 0 dX2_tryLanes_131 rfl rfl ?_
            refine sm_iload X 135 8 dX2_tryLanes_133 rfl rfl ?_
            refine sm_bind (fun r135 h135 => ?_)
            refine sm_callV0 X 138 [.int r125, .int v8] [] [.int (b2i r135.1)] (c_X2_meetsAt l G σ r125 v8 r135 h135) cw_X2_meetsAt q_705 qs_20 q_703 rfl (by decide) rfl rfl rfl rfl rfl (Nat.le_of_ble_eq_true rfl) ⟨by show _ + 1 ≤ _ + (_ + 1); omega, by show _ ≤ _ + 64 * (_ + 1); omega⟩ ⟨Nat.le_refl _, Nat.le_refl _⟩ dX2_tryLanes_135 rfl ?_
            refine sm_istore X 140 [(6, .int (b2i r135.1)), (5, .int r125), (0, .ref (gad G 60)), (1, .int v1), (2, .int v2), (3, .int (b2i v3)), (4, .int v4), (7, .int v7), (8, .int v8)] dX2_tryLanes_138 rfl (by decide) rfl ?_
            refine sm_iinc X 143 8 (1 : Int32) [(8, .int (v8 + (1 : Int32))), (6, .int (b2i r135.1)), (5, .int r125), (0, .ref (gad G 60)), (1, .int v1), (2, .int v2), (3, .int (b2i v3)), (4, .int v4), (7, .int v7)] dX2_tryLanes_140 rfl rfl rfl (by decide) rfl ?_
            refine sm_goto X 101 dX2_tryLanes_143 (by decide) ?_
            exact sm_sub [3, 4, 5, 6, 7, 2, 1, 8, 0] rfl (ihl r125 r135.1 (v8 + (1 : Int32)) r135.2)
    have J93 : ∀ (v1 : Int32) (v2 : Int32) (v3 : Bool) (v4 : Int32) (v5 : Int32) (v6 : Bool) (vs0 : Int32) (K38 : Int32 → Sto → Option Sto) (hK38 : ∀ (v4' : Int32) (σ' : Sto), Sm p l e { frames := 6 + (d + 1), cells := 0, slots := 0, locals := 198 + 64 * (d + 1) } s m args below meth c G 9 (Qm below args s G 0 0 (fiV G)) 0 0 (wl G σ') 38 [(0, .ref (gad G 60)), (1, .int v1), (2, .int v2), (3, .int (b2i v3)), (4, .int v4')] [] (K38 v4' σ')) (σ : Sto), Sm p l e { frames := 6 + (d + 1), cells := 0, slots := 0, locals := 198 + 64 * (d + 1) } s m args below meth c G 9 (Qm below args s G 0 0 (fiV G)) 0 0 (wl G σ) 93 [(0, .ref (gad G 60)), (1, .int v1), (2, .int v2), (3, .int (b2i v3)), (4, .int v4), (5, .int v5), (6, .int (b2i v6))] [.int vs0] (f_X2_tryLanes_L93 (g_X2_tryLanes d) K38 v1 v2 v3 v4 v5 v6 vs0 σ) := by
      intro v1 v2 v3 v4 v5 v6 vs0 K38 hK38 σ
      rw [f_X2_tryLanes_L93]
      refine sm_istore X 95 [(7, .int vs0), (0, .ref (gad G 60)), (1, .int v1), (2, .int v2), (3, .int (b2i v3)), (4, .int v4), (5, .int v5), (6, .int (b2i v6))] dX2_tryLanes_93 rfl (by decide) rfl ?_
      refine sm_iload_n X 96 2 dX2_tryLanes_95 rfl rfl rfl ?_
      refine sm_bipush X 98 (10) dX2_tryLanes_96 rfl rfl ?_
      refine sm_imul X 99 dX2_tryLanes_98 rfl ?_
      refine sm_istore X 101 [(8, .int (v1 * (10 : Int32))), (7, .int vs0), (0, .ref (gad G 60)), (1, .int v1), (2, .int v2), (3, .int (b2i v3)), (4, .int v4), (5, .int v5), (6, .int (b2i v6))] dX2_tryLanes_99 rfl (by decide) rfl ?_
      exact sm_sub [2, 3, 4, 5, 6, 7, 8, 1, 0] rfl (J101 v1 v2 v3 v4 vs0 K38 hK38 FU v5 v6 (v1 * (10 : Int32)) σ)
    have J65 : ∀ (v1 : Int32) (v2 : Int32) (v3 : Bool) (v4 : Int32) (K38 : Int32 → Sto → Option Sto) (hK38 : ∀ (v4' : Int32) (σ' : Sto), Sm p l e { frames := 6 + (d + 1), cells := 0, slots := 0, locals := 198 + 64 * (d + 1) } s m args below meth c G 9 (Qm below args s G 0 0 (fiV G)) 0 0 (wl G σ') 38 [(0, .ref (gad G 60)), (1, .int v1), (2, .int v2), (3, .int (b2i v3)), (4, .int v4')] [] (K38 v4' σ')) (σ : Sto), Sm p l e { frames := 6 + (d + 1), cells := 0, slots := 0, locals := 198 + 64 * (d + 1) } s m args below meth c G 9 (Qm below args s G 0 0 (fiV G)) 0 0 (wl G σ) 65 [(0, .ref (gad G 60)), (1, .int v1), (2, .int v2), (3, .int (b2i v3)), (4, .int v4)] [] (f_X2_tryLanes_L65 (g_X2_tryLanes d) K38 v1 v2 v3 v4 σ) := by
      intro v1 v2 v3 v4 K38 hK38 σ
      rw [f_X2_tryLanes_L65]
      refine sm_aload_n X 66 0 dX2_tryLanes_65 rfl rfl rfl ?_
      refine sm_iload_n X 67 1 dX2_tryLanes_66 rfl rfl rfl ?_
      refine sm_iload X 69 4 dX2_tryLanes_67 rfl rfl ?_
      refine sm_bind (fun r69 h69 => ?_)
      refine sm_callV0 X 72 [.int v1, .int v4] [] [] (c_X2_setLane l G σ v1 v4 r69 h69) cw_X2_setLane q_700 qs_19 q_698 rfl (by decide) rfl rfl rfl rfl rfl (Nat.le_of_ble_eq_true rfl) ⟨by show _ + 1 ≤ _ + (_ + 1); omega, by show _ ≤ _ + 64 * (_ + 1); omega⟩ ⟨Nat.le_refl _, Nat.le_refl _⟩ dX2_tryLanes_69 rfl ?_
      refine sm_iload_n X 73 2 dX2_tryLanes_72 rfl rfl rfl ?_
      refine sm_istore X 75 [(5, .int v2), (0, .ref (gad G 60)), (1, .int v1), (2, .int v2), (3, .int (b2i v3)), (4, .int v4)] dX2_tryLanes_73 rfl (by decide) rfl ?_
      refine sm_iconst X 76 (0) dX2_tryLanes_75 rfl rfl ?_
      refine sm_istore X 78 [(6, .int 0), (5, .int v2), (0, .ref (gad G 60)), (1, .int v1), (2, .int v2), (3, .int (b2i v3)), (4, .int v4)] dX2_tryLanes_76 rfl (by decide) rfl ?_
      refine sm_iload_n X 79 5 dX2_tryLanes_78 rfl rfl rfl ?_
      refine sm_ifz_eq X 82 87 dX2_tryLanes_79 rfl (by decide) (fun h79 => ?_) (fun h79 => ?_)
      · refine sm_bipush X 84 (60) dX2_tryLanes_82 rfl rfl ?_
        refine sm_goto X 93 dX2_tryLanes_84 (by decide) ?_
        exact sm_sub [2, 3, 4, 5, 6, 1, 0] rfl (J93 v1 v2 v3 v4 v2 false (60 : Int32) K38 hK38 r69)
      · refine sm_iload_n X 88 3 dX2_tryLanes_87 rfl rfl rfl ?_
        refine sm_iconst X 89 (1) dX2_tryLanes_88 rfl rfl ?_
        refine sm_iadd X 90 dX2_tryLanes_89 rfl ?_
        refine sm_bipush X 92 (10) dX2_tryLanes_90 rfl rfl ?_
        refine sm_imul X 93 dX2_tryLanes_92 rfl ?_
        exact sm_sub [2, 3, 4, 5, 6, 1, 0] rfl (J93 v1 v2 v3 v4 v2 false ((v1 + (1 : Int32)) * (10 : Int32)) K38 hK38 r69)
    have J38 : ∀ (v1 : Int32) (v2 : Int32) (v3 : Bool)  (n : Nat) (v4 : Int32) (σ : Sto), Sm p l e { frames := 6 + (d + 1), cells := 0, slots := 0, locals := 198 + 64 * (d + 1) } s m args below meth c G 9 (Qm below args s G 0 0 (fiV G)) 0 0 (wl G σ) 38 [(0, .ref (gad G 60)), (1, .int v1), (2, .int v2), (3, .int (b2i v3)), (4, .int v4)] [] (f_X2_tryLanes_L38 (g_X2_tryLanes d)  v1 v2 v3 n v4 σ) := by
      intro v1 v2 v3 n
      induction n with
      | zero => intro v4 σ; rw [f_X2_tryLanes_L38]; exact sm_none
      | succ n ihl =>
        intro v4 σ
        rw [f_X2_tryLanes_L38]
        refine sm_iload X 40 4 dX2_tryLanes_38 rfl rfl ?_
        refine sm_bipush X 42 (6) dX2_tryLanes_40 rfl rfl ?_
        refine sm_icmp_ge X 45 170 dX2_tryLanes_42 rfl (by decide) (fun h42 => ?_) (fun h42 => ?_)
        · exact sm_vret X hr dX2_tryLanes_170 rfl
        · refine sm_iload_n X 46 3 dX2_tryLanes_45 rfl rfl rfl ?_
          refine sm_ifz_eq X 49 65 dX2_tryLanes_46 rfl (by decide) (fun h46 => ?_) (fun h46 => ?_)
          · refine sm_iload X 51 4 dX2_tryLanes_49 rfl rfl ?_
            refine sm_aload_n X 52 0 dX2_tryLanes_51 rfl rfl rfl ?_
            refine sm_getrN X 55 rfl fd_2_6 dX2_tryLanes_52 rfl q_224 (fun r52 e52 => ?_)
            clear e52
            refine sm_iload_n X 56 1 dX2_tryLanes_55 rfl rfl rfl ?_
            refine sm_deref (fun k56 h hk56 => ?_)
            subst h
            refine sm_bind (fun r56 h56 => ?_)
            refine sm_callV0 X 59 [.int v1] [.int v4] [.int r56, .int v4] (c_X6_laneOf l G σ k56 hk56 v1 r56 h56) cw_X6_laneOf q_396 q_397 q_697 hk56 (by decide) rfl rfl rfl rfl rfl (Nat.le_of_ble_eq_true rfl) ⟨by show _ + 1 ≤ _ + (_ + 1); omega, by show _ ≤ _ + 64 * (_ + 1); omega⟩ ⟨Nat.le_refl _, Nat.le_refl _⟩ dX2_tryLanes_56 rfl ?_
            refine sm_icmp_eq X 62 65 dX2_tryLanes_59 rfl (by decide) (fun h59 => ?_) (fun h59 => ?_)
            · exact sm_sub [0, 1, 2, 3, 4] rfl (J65 v1 v2 v3 v4 (f_X2_tryLanes_L38 (g_X2_tryLanes d)  v1 v2 v3 n) ihl σ)
            · refine sm_goto X 164 dX2_tryLanes_62 (by decide) ?_
              exact sm_sub [0, 1, 2, 3, 4] rfl (J164 v1 v2 v3 v4 (f_X2_tryLanes_L38 (g_X2_tryLanes d)  v1 v2 v3 n) ihl σ)
          · exact sm_sub [0, 1, 2, 3, 4] rfl (J65 v1 v2 v3 v4 (f_X2_tryLanes_L38 (g_X2_tryLanes d)  v1 v2 v3 n) ihl σ)
    have J34 : ∀ (v1 : Int32) (v2 : Int32) (vs0 : Bool)  (σ : Sto), Sm p l e { frames := 6 + (d + 1), cells := 0, slots := 0, locals := 198 + 64 * (d + 1) } s m args below meth c G 9 (Qm below args s G 0 0 (fiV G)) 0 0 (wl G σ) 34 [(0, .ref (gad G 60)), (1, .int v1), (2, .int v2)] [.int (b2i vs0)] (f_X2_tryLanes_L34 (g_X2_tryLanes d)  v1 v2 vs0 σ) := by
      intro v1 v2 vs0 σ
      rw [f_X2_tryLanes_L34]
      refine sm_istore_n X 35 [(3, .int (b2i vs0)), (0, .ref (gad G 60)), (1, .int v1), (2, .int v2)] dX2_tryLanes_34 rfl rfl (by decide) rfl ?_
      refine sm_iconst X 36 (0) dX2_tryLanes_35 rfl rfl ?_
      refine sm_istore X 38 [(4, .int 0), (3, .int (b2i vs0)), (0, .ref (gad G 60)), (1, .int v1), (2, .int v2)] dX2_tryLanes_36 rfl (by decide) rfl ?_
      exact sm_sub [2, 3, 4, 1, 0] rfl (J38 v1 v2 vs0  FU (0 : Int32) σ)
    unfold b_X2_tryLanes
    refine sm_iload_n X 1 1 dX2_tryLanes_0 rfl rfl rfl ?_
    refine sm_iconst X 2 (0) dX2_tryLanes_1 rfl rfl ?_
    refine sm_iconst X 3 (3) dX2_tryLanes_2 rfl rfl ?_
    refine sm_bind (fun r3 h3 => ?_)
    refine sm_callSN0 X 6 (host := RX8) [.int a1, .int 0, .int 3] [] [.int (b2i r3)] (c_X8_isOutside l G σ a1 (0 : Int32) (3 : Int32) r3 h3) cw_X8_isOutside q_328 (by simp [NW]) rfl rfl rfl (Nat.le_of_ble_eq_true rfl) ⟨by show _ + 1 ≤ _ + (_ + 1); omega, by show _ ≤ _ + 64 * (_ + 1); omega⟩ ⟨Nat.le_refl _, Nat.le_refl _⟩ dX2_tryLanes_3 rfl ?_
    refine sm_ifz_ne X 9 23 dX2_tryLanes_6 rfl (by decide) (fun h6 => ?_) (fun h6 => ?_)
    · exact sm_vret X hr dX2_tryLanes_23 rfl
    · refine sm_aload_n X 10 0 dX2_tryLanes_9 rfl rfl rfl ?_
      refine sm_getrN X 13 rfl fd_2_5 dX2_tryLanes_10 rfl q_223 (fun r10 e10 => ?_)
      clear e10
      refine sm_ifnull X 16 23 dX2_tryLanes_13 rfl (by decide) (fun hn => ?_) (fun k13 hn => ?_)
      · subst hn
        exact sm_vret X hr dX2_tryLanes_23 rfl
      · subst hn
        refine sm_aload_n X 17 0 dX2_tryLanes_16 rfl rfl rfl ?_
        refine sm_getrN X 20 rfl fd_2_6 dX2_tryLanes_17 rfl q_224 (fun r17 e17 => ?_)
        clear e17
        refine sm_ifnonnull X 23 24 dX2_tryLanes_20 rfl (by decide) (fun hn => ?_) (fun k20 hn => ?_)
        · subst hn
          exact sm_vret X hr dX2_tryLanes_23 rfl
        · subst hn
          refine sm_iload_n X 25 1 dX2_tryLanes_24 rfl rfl rfl ?_
          refine sm_iconst X 26 (3) dX2_tryLanes_25 rfl rfl ?_
          refine sm_icmp_ne X 29 33 dX2_tryLanes_26 rfl (by decide) (fun h26 => ?_) (fun h26 => ?_)
          · refine sm_iconst X 30 (1) dX2_tryLanes_29 rfl rfl ?_
            refine sm_goto X 34 dX2_tryLanes_30 (by decide) ?_
            exact sm_sub [0, 1, 2] rfl (J34 a1 a2 true  σ)
          · refine sm_iconst X 34 (0) dX2_tryLanes_33 rfl rfl ?_
            exact sm_sub [0, 1, 2] rfl (J34 a1 a2 false  σ)
set_option maxHeartbeats 4000000 in
set_option maxRecDepth 100000 in
theorem c_X2_tryLanes (l : Launch) (G : GT) (σ : Sto) (a1 : Int32) (a2 : Int32) (r : Sto) (h : g_X2_tryLanes 8 0 a1 a2 σ = some r) : MW l G (14) (710) 0 0 yX2_tryLanes cX2_tryLanes 9 (Option.none : Option Jvm.ClassFile.FieldType) [.ref (gad G 60), .int a1, .int a2] (wl G σ) (none) (wl G r) := (cg_X2_tryLanes l G 8) σ a1 a2 r h
set_option maxRecDepth 20000 in
theorem dX2_seek_0 : decode cX2_seek 0 = .ok (.aload_n 0, 1) := by decide +kernel
set_option maxRecDepth 20000 in
theorem dX2_seek_1 : decode cX2_seek 1 = .ok (.aload_n 1, 1) := by decide +kernel
set_option maxRecDepth 20000 in
theorem dX2_seek_2 : decode cX2_seek 2 = .ok (.putfield 33, 3) := by decide +kernel
set_option maxRecDepth 20000 in
theorem dX2_seek_5 : decode cX2_seek 5 = .ok (.aload_n 0, 1) := by decide +kernel
set_option maxRecDepth 20000 in
theorem dX2_seek_6 : decode cX2_seek 6 = .ok (.aload_n 3, 1) := by decide +kernel
set_option maxRecDepth 20000 in
theorem dX2_seek_7 : decode cX2_seek 7 = .ok (.putfield 37, 3) := by decide +kernel
set_option maxRecDepth 20000 in
theorem dX2_seek_10 : decode cX2_seek 10 = .ok (.aload_n 0, 1) := by decide +kernel
set_option maxRecDepth 20000 in
theorem dX2_seek_11 : decode cX2_seek 11 = .ok (.iload 4, 2) := by decide +kernel
set_option maxRecDepth 20000 in
theorem dX2_seek_13 : decode cX2_seek 13 = .ok (.putfield 40, 3) := by decide +kernel
set_option maxRecDepth 20000 in
theorem dX2_seek_16 : decode cX2_seek 16 = .ok (.aload_n 0, 1) := by decide +kernel
set_option maxRecDepth 20000 in
theorem dX2_seek_17 : decode cX2_seek 17 = .ok (.iconst 0, 1) := by decide +kernel
set_option maxRecDepth 20000 in
theorem dX2_seek_18 : decode cX2_seek 18 = .ok (.putfield 9, 3) := by decide +kernel
set_option maxRecDepth 20000 in
theorem dX2_seek_21 : decode cX2_seek 21 = .ok (.aload_n 0, 1) := by decide +kernel
set_option maxRecDepth 20000 in
theorem dX2_seek_22 : decode cX2_seek 22 = .ok (.iconst 0, 1) := by decide +kernel
set_option maxRecDepth 20000 in
theorem dX2_seek_23 : decode cX2_seek 23 = .ok (.putfield 15, 3) := by decide +kernel
set_option maxRecDepth 20000 in
theorem dX2_seek_26 : decode cX2_seek 26 = .ok (.aload_n 0, 1) := by decide +kernel
set_option maxRecDepth 20000 in
theorem dX2_seek_27 : decode cX2_seek 27 = .ok (.getfield 26, 3) := by decide +kernel
set_option maxRecDepth 20000 in
theorem dX2_seek_30 : decode cX2_seek 30 = .ok (.aload_n 2, 1) := by decide +kernel
set_option maxRecDepth 20000 in
theorem dX2_seek_31 : decode cX2_seek 31 = .ok (.invokevirtual 47, 3) := by decide +kernel
set_option maxRecDepth 20000 in
theorem dX2_seek_34 : decode cX2_seek 34 = .ok (.aload_n 3, 1) := by decide +kernel
set_option maxRecDepth 20000 in
theorem dX2_seek_35 : decode cX2_seek 35 = .ok (.invokevirtual 51, 3) := by decide +kernel
set_option maxRecDepth 20000 in
theorem dX2_seek_38 : decode cX2_seek 38 = .ok (.istore 5, 2) := by decide +kernel
set_option maxRecDepth 20000 in
theorem dX2_seek_40 : decode cX2_seek 40 = .ok (.iconst 0, 1) := by decide +kernel
set_option maxRecDepth 20000 in
theorem dX2_seek_41 : decode cX2_seek 41 = .ok (.istore 6, 2) := by decide +kernel
set_option maxRecDepth 20000 in
theorem dX2_seek_43 : decode cX2_seek 43 = .ok (.iload 6, 2) := by decide +kernel
set_option maxRecDepth 20000 in
theorem dX2_seek_45 : decode cX2_seek 45 = .ok (.aload_n 0, 1) := by decide +kernel
set_option maxRecDepth 20000 in
theorem dX2_seek_46 : decode cX2_seek 46 = .ok (.getfield 30, 3) := by decide +kernel
set_option maxRecDepth 20000 in
theorem dX2_seek_49 : decode cX2_seek 49 = .ok (.arraylength, 1) := by decide +kernel
set_option maxRecDepth 20000 in
theorem dX2_seek_50 : decode cX2_seek 50 = .ok (.if_icmp .ge 29, 3) := by decide +kernel
set_option maxRecDepth 20000 in
theorem dX2_seek_53 : decode cX2_seek 53 = .ok (.aload_n 1, 1) := by decide +kernel
set_option maxRecDepth 20000 in
theorem dX2_seek_54 : decode cX2_seek 54 = .ok (.aload_n 3, 1) := by decide +kernel
set_option maxRecDepth 20000 in
theorem dX2_seek_55 : decode cX2_seek 55 = .ok (.iload 5, 2) := by decide +kernel
set_option maxRecDepth 20000 in
theorem dX2_seek_57 : decode cX2_seek 57 = .ok (.iload 6, 2) := by decide +kernel
set_option maxRecDepth 20000 in
theorem dX2_seek_59 : decode cX2_seek 59 = .ok (.invokevirtual 55, 3) := by decide +kernel
set_option maxRecDepth 20000 in
theorem dX2_seek_62 : decode cX2_seek 62 = .ok (.istore 5, 2) := by decide +kernel
set_option maxRecDepth 20000 in
theorem dX2_seek_64 : decode cX2_seek 64 = .ok (.aload_n 0, 1) := by decide +kernel
set_option maxRecDepth 20000 in
theorem dX2_seek_65 : decode cX2_seek 65 = .ok (.getfield 30, 3) := by decide +kernel
set_option maxRecDepth 20000 in
theorem dX2_seek_68 : decode cX2_seek 68 = .ok (.iload 6, 2) := by decide +kernel
set_option maxRecDepth 20000 in
theorem dX2_seek_70 : decode cX2_seek 70 = .ok (.iload 5, 2) := by decide +kernel
set_option maxRecDepth 20000 in
theorem dX2_seek_72 : decode cX2_seek 72 = .ok (.iastore, 1) := by decide +kernel
set_option maxRecDepth 20000 in
theorem dX2_seek_73 : decode cX2_seek 73 = .ok (.iinc 6 1, 3) := by decide +kernel
set_option maxRecDepth 20000 in
theorem dX2_seek_76 : decode cX2_seek 76 = .ok (.goto (-33), 3) := by decide +kernel
set_option maxRecDepth 20000 in
theorem dX2_seek_79 : decode cX2_seek 79 = .ok (.aload_n 0, 1) := by decide +kernel
set_option maxRecDepth 20000 in
theorem dX2_seek_80 : decode cX2_seek 80 = .ok (.iconst 0, 1) := by decide +kernel
set_option maxRecDepth 20000 in
theorem dX2_seek_81 : decode cX2_seek 81 = .ok (.aload_n 0, 1) := by decide +kernel
set_option maxRecDepth 20000 in
theorem dX2_seek_82 : decode cX2_seek 82 = .ok (.getfield 26, 3) := by decide +kernel
set_option maxRecDepth 20000 in
theorem dX2_seek_85 : decode cX2_seek 85 = .ok (.invokevirtual 51, 3) := by decide +kernel
set_option maxRecDepth 20000 in
theorem dX2_seek_88 : decode cX2_seek 88 = .ok (.invokevirtual 61, 3) := by decide +kernel
set_option maxRecDepth 20000 in
theorem dX2_seek_91 : decode cX2_seek 91 = .ok (.return_, 1) := by decide +kernel
set_option maxHeartbeats 4000000 in
set_option maxRecDepth 100000 in
theorem c_X2_seek (l : Launch) (G : GT) (σ : Sto) (a2 : Nat) (ha2 : K0 a2 = 6) (a3 : Nat) (ha3 : K0 a3 = 6) (a4 : Int32) (r : Sto) (h : f_X2_seek σ a2 a3 a4 = some r) : MW l G (15) (738) 0 0 yX2_seek cX2_seek 7 (Option.none : Option Jvm.ClassFile.FieldType) [.ref (gad G 60), .ref (gad G 58), .ref (gad G a2), .ref (gad G a3), .int a4] (wl G σ) (none) (wl G r) := by
  refine mw_of RX2 (fiV G) [(0, .ref (gad G 60)), (1, .ref (gad G 58)), (2, .ref (gad G a2)), (3, .ref (gad G a3)), (4, .int a4)] (by decide +kernel) rfl (Nat.le_of_ble_eq_true rfl) rfl h rfl (fun p e s m args below meth c X hr hnm => ?_)
  have J43 : ∀ (k3 : Nat) (hk3 : K0 k3 = 6)  (n : Nat) (v5 : Int32) (v6 : Int32) (σ : Sto), Sm p l e { frames := 15, cells := 0, slots := 0, locals := 738 } s m args below meth c G 7 (Qm below args s G 0 0 (fiV G)) 0 0 (wl G σ) 43 [(0, .ref (gad G 60)), (1, .ref (gad G 58)), (3, .ref (gad G k3)), (5, .int v5), (6, .int v6)] [] (f_X2_seek_L43  k3 n v5 v6 σ) := by
    intro k3 hk3 n
    induction n with
    | zero => intro v5 v6 σ; rw [f_X2_seek_L43]; exact sm_none
    | succ n ihl =>
      intro v5 v6 σ
      rw [f_X2_seek_L43]
      refine sm_iload X 45 4 dX2_seek_43 rfl rfl ?_
      refine sm_aload_n X 46 0 dX2_seek_45 rfl rfl rfl ?_
      refine sm_getf X 49 64 rfl fd_2_4 rfl dX2_seek_46 rfl q_222 ?_
      refine sm_alen X 50 60 (Or.inl rfl) rfl dX2_seek_49 rfl ?_
      refine sm_icmp_ge X 53 79 dX2_seek_50 rfl (by decide) (fun h50 => ?_) (fun h50 => ?_)
      · refine sm_aload_n X 80 0 dX2_seek_79 rfl rfl rfl ?_
        refine sm_iconst X 81 (0) dX2_seek_80 rfl rfl ?_
        refine sm_aload_n X 82 0 dX2_seek_81 rfl rfl rfl ?_
        refine sm_getf X 85 62 rfl fd_2_3 rfl dX2_seek_82 rfl q_221 ?_
        refine sm_bind (fun r85 h85 => ?_)
        refine sm_callV0 X 88 [] [.int 0, .ref (gad G 60)] [.int r85, .int 0, .ref (gad G 60)] (c_X6_shore l G σ 62 rfl r85 h85) cw_X6_shore q_612 q_613 q_690 rfl (by decide) rfl rfl rfl rfl rfl (Nat.le_of_ble_eq_true rfl) ⟨Nat.le_of_ble_eq_true rfl, Nat.le_of_ble_eq_true rfl⟩ ⟨Nat.le_refl _, Nat.le_refl _⟩ dX2_seek_85 rfl ?_
        refine sm_bind (fun r88 h88 => ?_)
        refine sm_callV0 X 91 [.int 0, .int r85] [] [] (c_X2_tryLanes l G σ (0 : Int32) r85 r88 h88) cw_X2_tryLanes q_694 qs_18 q_692 rfl (by decide) rfl rfl rfl rfl rfl (Nat.le_of_ble_eq_true rfl) ⟨Nat.le_of_ble_eq_true rfl, Nat.le_of_ble_eq_true rfl⟩ ⟨Nat.le_refl _, Nat.le_refl _⟩ dX2_seek_88 rfl ?_
        exact sm_vret X hr dX2_seek_91 rfl
      · refine sm_aload_n X 54 1 dX2_seek_53 rfl rfl rfl ?_
        refine sm_aload_n X 55 2 dX2_seek_54 rfl rfl rfl ?_
        refine sm_iload X 57 3 dX2_seek_55 rfl rfl ?_
        refine sm_iload X 59 4 dX2_seek_57 rfl rfl ?_
        refine sm_bind (fun r59 h59 => ?_)
        refine sm_callV0 X 62 [.ref (gad G k3), .int v5, .int v6] [] [.int r59] (c_X5_placeNext l G σ k3 hk3 v5 v6 r59 h59) cw_X5_placeNext q_616 q_617 q_691 rfl (by decide) rfl rfl rfl rfl rfl (Nat.le_of_ble_eq_true rfl) ⟨Nat.le_of_ble_eq_true rfl, Nat.le_of_ble_eq_true rfl⟩ ⟨Nat.le_refl _, Nat.le_refl _⟩ dX2_seek_59 rfl ?_
        refine sm_istore X 64 [(5, .int r59), (0, .ref (gad G 60)), (1, .ref (gad G 58)), (3, .ref (gad G k3)), (6, .int v6)] dX2_seek_62 rfl (by decide) rfl ?_
        refine sm_aload_n X 65 1 dX2_seek_64 rfl rfl rfl ?_
        refine sm_getf X 68 64 rfl fd_2_4 rfl dX2_seek_65 rfl q_222 ?_
        refine sm_iload X 70 4 dX2_seek_68 rfl rfl ?_
        refine sm_iload X 72 0 dX2_seek_70 rfl rfl ?_
        refine sm_iast X 73 rfl dX2_seek_72 rfl (fun σ72 e72 => ?_)
        clear e72
        refine sm_iinc X 76 4 (1 : Int32) [(6, .int (v6 + (1 : Int32))), (5, .int r59), (0, .ref (gad G 60)), (1, .ref (gad G 58)), (3, .ref (gad G k3))] dX2_seek_73 rfl rfl rfl (by decide) rfl ?_
        refine sm_goto X 43 dX2_seek_76 (by decide) ?_
        exact sm_sub [2, 3, 4, 1, 0] rfl (ihl r59 (v6 + (1 : Int32)) σ72)
  unfold f_X2_seek
  refine sm_aload_n X 1 0 dX2_seek_0 rfl rfl rfl ?_
  refine sm_aload_n X 2 1 dX2_seek_1 rfl rfl rfl ?_
  refine sm_putr X 5 (r := (some 58)) (.object "LakeSwimmers$Swim") rfl fd_2_5 rfl (retZ _ _) dX2_seek_2 rfl q_223 (fun σ2 e2 => ?_)
  clear e2
  refine sm_aload_n X 6 0 dX2_seek_5 rfl rfl rfl ?_
  refine sm_aload_n X 7 3 dX2_seek_6 rfl rfl rfl ?_
  refine sm_putr X 10 (r := (some a3)) (.object "LakeSwimmers$Swimmer") rfl fd_2_6 rfl (retZ _ _) dX2_seek_7 rfl q_224 (fun σ7 e7 => ?_)
  clear e7
  refine sm_aload_n X 11 0 dX2_seek_10 rfl rfl rfl ?_
  refine sm_iload X 13 4 dX2_seek_11 rfl rfl ?_
  refine sm_puti X 16 .int rfl fd_2_7 (by decide) rfl rfl rfl dX2_seek_13 rfl q_225 (fun σ13 e13 => ?_)
  clear e13
  refine sm_aload_n X 17 0 dX2_seek_16 rfl rfl rfl ?_
  refine sm_iconst X 18 (0) dX2_seek_17 rfl rfl ?_
  refine sm_puti X 21 .boolean rfl fd_2_0 (by decide) rfl rfl rfl dX2_seek_18 rfl q_216 (fun σ18 e18 => ?_)
  clear e18
  refine sm_aload_n X 22 0 dX2_seek_21 rfl rfl rfl ?_
  refine sm_iconst X 23 (0) dX2_seek_22 rfl rfl ?_
  refine sm_puti X 26 .int rfl fd_2_1 (by decide) rfl rfl rfl dX2_seek_23 rfl q_218 (fun σ23 e23 => ?_)
  clear e23
  refine sm_aload_n X 27 0 dX2_seek_26 rfl rfl rfl ?_
  refine sm_getf X 30 62 rfl fd_2_3 rfl dX2_seek_27 rfl q_221 ?_
  refine sm_aload_n X 31 2 dX2_seek_30 rfl rfl rfl ?_
  refine sm_bind (fun r31 h31 => ?_)
  refine sm_callV0 X 34 [.ref (gad G a2)] [] [] (c_X6_copy l G σ23 62 rfl a2 ha2 r31 h31) cw_X6_copy q_686 q_687 q_685 rfl (by decide) rfl rfl rfl rfl rfl (Nat.le_of_ble_eq_true rfl) ⟨Nat.le_of_ble_eq_true rfl, Nat.le_of_ble_eq_true rfl⟩ ⟨Nat.le_refl _, Nat.le_refl _⟩ dX2_seek_31 rfl ?_
  refine sm_aload_n X 35 3 dX2_seek_34 rfl rfl rfl ?_
  refine sm_bind (fun r35 h35 => ?_)
  refine sm_callV0 X 38 [] [] [.int r35] (c_X6_shore l G r31 a3 ha3 r35 h35) cw_X6_shore q_612 q_613 q_690 ha3 (by decide) rfl rfl rfl rfl rfl (Nat.le_of_ble_eq_true rfl) ⟨Nat.le_of_ble_eq_true rfl, Nat.le_of_ble_eq_true rfl⟩ ⟨Nat.le_refl _, Nat.le_refl _⟩ dX2_seek_35 rfl ?_
  refine sm_istore X 40 [(5, .int r35), (0, .ref (gad G 60)), (1, .ref (gad G 58)), (2, .ref (gad G a2)), (3, .ref (gad G a3)), (4, .int a4)] dX2_seek_38 rfl (by decide) rfl ?_
  refine sm_iconst X 41 (0) dX2_seek_40 rfl rfl ?_
  refine sm_istore X 43 [(6, .int 0), (5, .int r35), (0, .ref (gad G 60)), (1, .ref (gad G 58)), (2, .ref (gad G a2)), (3, .ref (gad G a3)), (4, .int a4)] dX2_seek_41 rfl (by decide) rfl ?_
  exact sm_sub [2, 3, 5, 1, 0] rfl (J43 a3 ha3  FU r35 (0 : Int32) r31)
set_option maxRecDepth 20000 in
theorem dX3_next_0 : decode cX3_next 0 = .ok (.aload_n 0, 1) := by decide +kernel
set_option maxRecDepth 20000 in
theorem dX3_next_1 : decode cX3_next 1 = .ok (.getfield 25, 3) := by decide +kernel
set_option maxRecDepth 20000 in
theorem dX3_next_4 : decode cX3_next 4 = .ok (.ifCond .lt 26, 3) := by decide +kernel
set_option maxRecDepth 20000 in
theorem dX3_next_7 : decode cX3_next 7 = .ok (.aload_n 0, 1) := by decide +kernel
set_option maxRecDepth 20000 in
theorem dX3_next_8 : decode cX3_next 8 = .ok (.getfield 25, 3) := by decide +kernel
set_option maxRecDepth 20000 in
theorem dX3_next_11 : decode cX3_next 11 = .ok (.aload_n 0, 1) := by decide +kernel
set_option maxRecDepth 20000 in
theorem dX3_next_12 : decode cX3_next 12 = .ok (.getfield 22, 3) := by decide +kernel
set_option maxRecDepth 20000 in
theorem dX3_next_15 : decode cX3_next 15 = .ok (.if_icmp .ge 15, 3) := by decide +kernel
set_option maxRecDepth 20000 in
theorem dX3_next_18 : decode cX3_next 18 = .ok (.aload_n 0, 1) := by decide +kernel
set_option maxRecDepth 20000 in
theorem dX3_next_19 : decode cX3_next 19 = .ok (.getfield 25, 3) := by decide +kernel
set_option maxRecDepth 20000 in
theorem dX3_next_22 : decode cX3_next 22 = .ok (.aload_n 0, 1) := by decide +kernel
set_option maxRecDepth 20000 in
theorem dX3_next_23 : decode cX3_next 23 = .ok (.getfield 19, 3) := by decide +kernel
set_option maxRecDepth 20000 in
theorem dX3_next_26 : decode cX3_next 26 = .ok (.arraylength, 1) := by decide +kernel
set_option maxRecDepth 20000 in
theorem dX3_next_27 : decode cX3_next 27 = .ok (.if_icmp .lt 7, 3) := by decide +kernel
set_option maxRecDepth 20000 in
theorem dX3_next_30 : decode cX3_next 30 = .ok (.iconst (-1), 1) := by decide +kernel
set_option maxRecDepth 20000 in
theorem dX3_next_31 : decode cX3_next 31 = .ok (.goto 12, 3) := by decide +kernel
set_option maxRecDepth 20000 in
theorem dX3_next_34 : decode cX3_next 34 = .ok (.aload_n 0, 1) := by decide +kernel
set_option maxRecDepth 20000 in
theorem dX3_next_35 : decode cX3_next 35 = .ok (.getfield 19, 3) := by decide +kernel
set_option maxRecDepth 20000 in
theorem dX3_next_38 : decode cX3_next 38 = .ok (.aload_n 0, 1) := by decide +kernel
set_option maxRecDepth 20000 in
theorem dX3_next_39 : decode cX3_next 39 = .ok (.getfield 25, 3) := by decide +kernel
set_option maxRecDepth 20000 in
theorem dX3_next_42 : decode cX3_next 42 = .ok (.iaload, 1) := by decide +kernel
set_option maxRecDepth 20000 in
theorem dX3_next_43 : decode cX3_next 43 = .ok (.ireturn, 1) := by decide +kernel
set_option maxHeartbeats 4000000 in
set_option maxRecDepth 100000 in
theorem c_X3_next (l : Launch) (G : GT) (σ : Sto)  (r : Int32) (h : f_X3_next σ  = some r) : MW l G (2) (64) 0 0 yX3_next cX3_next 1 (Option.some Jvm.ClassFile.FieldType.int) [.ref (gad G 55)] (wl G σ) (some (.int r)) (wl G σ) := by
  refine mw_of RX3 (fpI G σ) [(0, .ref (gad G 55))] (by decide +kernel) rfl (Nat.le_of_ble_eq_true rfl) rfl h rfl (fun p e s m args below meth c X hr hnm => ?_)
  have J30 : ∀ (_ : Unit), Sm p l e { frames := 2, cells := 0, slots := 0, locals := 64 } s m args below meth c G 1 (Qm below args s G 0 0 (fpI G σ)) 0 0 (wl G σ) 30 [] [] (f_X3_next_L30 σ  ) := by
    intro _
    rw [f_X3_next_L30]
    refine sm_iconst X 31 (-1) dX3_next_30 rfl rfl ?_
    refine sm_goto X 43 dX3_next_31 (by decide) ?_
    exact sm_iret X hr dX3_next_43 rfl
  unfold f_X3_next
  refine sm_aload_n X 1 0 dX3_next_0 rfl rfl rfl ?_
  refine sm_geti X 4 rfl fd_3_4 dX3_next_1 rfl q_164 ?_
  refine sm_if_lt X 7 30 dX3_next_4 rfl (by decide) (fun h4 => ?_) (fun h4 => ?_)
  · exact sm_sub [] rfl (J30 ())
  · refine sm_aload_n X 8 0 dX3_next_7 rfl rfl rfl ?_
    refine sm_geti X 11 rfl fd_3_4 dX3_next_8 rfl q_164 ?_
    refine sm_aload_n X 12 0 dX3_next_11 rfl rfl rfl ?_
    refine sm_geti X 15 rfl fd_3_3 dX3_next_12 rfl q_163 ?_
    refine sm_icmp_ge X 18 30 dX3_next_15 rfl (by decide) (fun h15 => ?_) (fun h15 => ?_)
    · exact sm_sub [] rfl (J30 ())
    · refine sm_aload_n X 19 0 dX3_next_18 rfl rfl rfl ?_
      refine sm_geti X 22 rfl fd_3_4 dX3_next_19 rfl q_164 ?_
      refine sm_aload_n X 23 0 dX3_next_22 rfl rfl rfl ?_
      refine sm_getf X 26 57 rfl fd_3_2 rfl dX3_next_23 rfl q_162 ?_
      refine sm_alen X 27 50 (Or.inl rfl) rfl dX3_next_26 rfl ?_
      refine sm_icmp_lt X 30 34 dX3_next_27 rfl (by decide) (fun h27 => ?_) (fun h27 => ?_)
      · refine sm_aload_n X 35 0 dX3_next_34 rfl rfl rfl ?_
        refine sm_getf X 38 57 rfl fd_3_2 rfl dX3_next_35 rfl q_162 ?_
        refine sm_aload_n X 39 0 dX3_next_38 rfl rfl rfl ?_
        refine sm_geti X 42 rfl fd_3_4 dX3_next_39 rfl q_164 ?_
        refine sm_iald X 43 rfl dX3_next_42 rfl (fun r42 e42 => ?_)
        clear e42
        exact sm_iret X hr dX3_next_43 rfl
      · exact sm_sub [] rfl (J30 ())
set_option maxRecDepth 20000 in
theorem dX3_isDigit_0 : decode cX3_isDigit 0 = .ok (.iload_n 0, 1) := by decide +kernel
set_option maxRecDepth 20000 in
theorem dX3_isDigit_1 : decode cX3_isDigit 1 = .ok (.bipush 48, 2) := by decide +kernel
set_option maxRecDepth 20000 in
theorem dX3_isDigit_3 : decode cX3_isDigit 3 = .ok (.if_icmp .lt 13, 3) := by decide +kernel
set_option maxRecDepth 20000 in
theorem dX3_isDigit_6 : decode cX3_isDigit 6 = .ok (.iload_n 0, 1) := by decide +kernel
set_option maxRecDepth 20000 in
theorem dX3_isDigit_7 : decode cX3_isDigit 7 = .ok (.bipush 57, 2) := by decide +kernel
set_option maxRecDepth 20000 in
theorem dX3_isDigit_9 : decode cX3_isDigit 9 = .ok (.if_icmp .gt 7, 3) := by decide +kernel
set_option maxRecDepth 20000 in
theorem dX3_isDigit_12 : decode cX3_isDigit 12 = .ok (.iconst 1, 1) := by decide +kernel
set_option maxRecDepth 20000 in
theorem dX3_isDigit_13 : decode cX3_isDigit 13 = .ok (.goto 4, 3) := by decide +kernel
set_option maxRecDepth 20000 in
theorem dX3_isDigit_16 : decode cX3_isDigit 16 = .ok (.iconst 0, 1) := by decide +kernel
set_option maxRecDepth 20000 in
theorem dX3_isDigit_17 : decode cX3_isDigit 17 = .ok (.ireturn, 1) := by decide +kernel
set_option maxHeartbeats 4000000 in
set_option maxRecDepth 100000 in
theorem c_X3_isDigit (l : Launch) (G : GT) (σ : Sto) (a0 : Int32) (r : Bool) (h : f_X3_isDigit a0 = some r) : MW l G (2) (64) 0 0 yX3_isDigit cX3_isDigit 1 (Option.some Jvm.ClassFile.FieldType.boolean) [.int a0] (wl G σ) (some (.int (b2i r))) (wl G σ) := by
  refine mw_of RX3 (fpZ G σ) [(0, .int a0)] (by decide +kernel) rfl (Nat.le_of_ble_eq_true rfl) rfl h rfl (fun p e s m args below meth c X hr hnm => ?_)
  unfold f_X3_isDigit
  refine sm_iload_n X 1 0 dX3_isDigit_0 rfl rfl rfl ?_
  refine sm_bipush X 3 (48) dX3_isDigit_1 rfl rfl ?_
  refine sm_icmp_lt X 6 16 dX3_isDigit_3 rfl (by decide) (fun h3 => ?_) (fun h3 => ?_)
  · refine sm_iconst X 17 (0) dX3_isDigit_16 rfl rfl ?_
    exact sm_zret X (v := false) hr dX3_isDigit_17 rfl
  · refine sm_iload_n X 7 0 dX3_isDigit_6 rfl rfl rfl ?_
    refine sm_bipush X 9 (57) dX3_isDigit_7 rfl rfl ?_
    refine sm_icmp_gt X 12 16 dX3_isDigit_9 rfl (by decide) (fun h9 => ?_) (fun h9 => ?_)
    · refine sm_iconst X 17 (0) dX3_isDigit_16 rfl rfl ?_
      exact sm_zret X (v := false) hr dX3_isDigit_17 rfl
    · refine sm_iconst X 13 (1) dX3_isDigit_12 rfl rfl ?_
      refine sm_goto X 17 dX3_isDigit_13 (by decide) ?_
      exact sm_zret X (v := true) hr dX3_isDigit_17 rfl
set_option maxRecDepth 20000 in
theorem dX3_add_0 : decode cX3_add 0 = .ok (.aload_n 0, 1) := by decide +kernel
set_option maxRecDepth 20000 in
theorem dX3_add_1 : decode cX3_add 1 = .ok (.getfield 15, 3) := by decide +kernel
set_option maxRecDepth 20000 in
theorem dX3_add_4 : decode cX3_add 4 = .ok (.aload_n 0, 1) := by decide +kernel
set_option maxRecDepth 20000 in
theorem dX3_add_5 : decode cX3_add 5 = .ok (.getfield 9, 3) := by decide +kernel
set_option maxRecDepth 20000 in
theorem dX3_add_8 : decode cX3_add 8 = .ok (.arraylength, 1) := by decide +kernel
set_option maxRecDepth 20000 in
theorem dX3_add_9 : decode cX3_add 9 = .ok (.if_icmp .ge 23, 3) := by decide +kernel
set_option maxRecDepth 20000 in
theorem dX3_add_12 : decode cX3_add 12 = .ok (.aload_n 0, 1) := by decide +kernel
set_option maxRecDepth 20000 in
theorem dX3_add_13 : decode cX3_add 13 = .ok (.getfield 9, 3) := by decide +kernel
set_option maxRecDepth 20000 in
theorem dX3_add_16 : decode cX3_add 16 = .ok (.aload_n 0, 1) := by decide +kernel
set_option maxRecDepth 20000 in
theorem dX3_add_17 : decode cX3_add 17 = .ok (.getfield 15, 3) := by decide +kernel
set_option maxRecDepth 20000 in
theorem dX3_add_20 : decode cX3_add 20 = .ok (.iload_n 1, 1) := by decide +kernel
set_option maxRecDepth 20000 in
theorem dX3_add_21 : decode cX3_add 21 = .ok (.iastore, 1) := by decide +kernel
set_option maxRecDepth 20000 in
theorem dX3_add_22 : decode cX3_add 22 = .ok (.aload_n 0, 1) := by decide +kernel
set_option maxRecDepth 20000 in
theorem dX3_add_23 : decode cX3_add 23 = .ok (.dup, 1) := by decide +kernel
set_option maxRecDepth 20000 in
theorem dX3_add_24 : decode cX3_add 24 = .ok (.getfield 15, 3) := by decide +kernel
set_option maxRecDepth 20000 in
theorem dX3_add_27 : decode cX3_add 27 = .ok (.iconst 1, 1) := by decide +kernel
set_option maxRecDepth 20000 in
theorem dX3_add_28 : decode cX3_add 28 = .ok (.iadd, 1) := by decide +kernel
set_option maxRecDepth 20000 in
theorem dX3_add_29 : decode cX3_add 29 = .ok (.putfield 15, 3) := by decide +kernel
set_option maxRecDepth 20000 in
theorem dX3_add_32 : decode cX3_add 32 = .ok (.return_, 1) := by decide +kernel
set_option maxHeartbeats 4000000 in
set_option maxRecDepth 100000 in
theorem c_X3_add (l : Launch) (G : GT) (σ : Sto) (a1 : Int32) (r : Sto) (h : f_X3_add σ a1 = some r) : MW l G (2) (64) 0 0 yX3_add cX3_add 2 (Option.none : Option Jvm.ClassFile.FieldType) [.ref (gad G 55), .int a1] (wl G σ) (none) (wl G r) := by
  refine mw_of RX3 (fiV G) [(0, .ref (gad G 55)), (1, .int a1)] (by decide +kernel) rfl (Nat.le_of_ble_eq_true rfl) rfl h rfl (fun p e s m args below meth c X hr hnm => ?_)
  unfold f_X3_add
  refine sm_aload_n X 1 0 dX3_add_0 rfl rfl rfl ?_
  refine sm_geti X 4 rfl fd_3_1 dX3_add_1 rfl q_160 ?_
  refine sm_aload_n X 5 0 dX3_add_4 rfl rfl rfl ?_
  refine sm_getf X 8 56 rfl fd_3_0 rfl dX3_add_5 rfl q_158 ?_
  refine sm_alen X 9 50 (Or.inl rfl) rfl dX3_add_8 rfl ?_
  refine sm_icmp_ge X 12 32 dX3_add_9 rfl (by decide) (fun h9 => ?_) (fun h9 => ?_)
  · exact sm_vret X hr dX3_add_32 rfl
  · refine sm_aload_n X 13 0 dX3_add_12 rfl rfl rfl ?_
    refine sm_getf X 16 56 rfl fd_3_0 rfl dX3_add_13 rfl q_158 ?_
    refine sm_aload_n X 17 0 dX3_add_16 rfl rfl rfl ?_
    refine sm_geti X 20 rfl fd_3_1 dX3_add_17 rfl q_160 ?_
    refine sm_iload_n X 21 1 dX3_add_20 rfl rfl rfl ?_
    refine sm_iast X 22 rfl dX3_add_21 rfl (fun σ21 e21 => ?_)
    clear e21
    refine sm_aload_n X 23 0 dX3_add_22 rfl rfl rfl ?_
    refine sm_dup X 24 dX3_add_23 rfl rfl ?_
    refine sm_geti X 27 rfl fd_3_1 dX3_add_24 rfl q_160 ?_
    refine sm_iconst X 28 (1) dX3_add_27 rfl rfl ?_
    refine sm_iadd X 29 dX3_add_28 rfl ?_
    refine sm_puti X 32 .int rfl fd_3_1 (by decide) rfl rfl rfl dX3_add_29 rfl q_160 (fun σ29 e29 => ?_)
    clear e29
    exact sm_vret X hr dX3_add_32 rfl
set_option maxRecDepth 20000 in
theorem dX3_readNumber_0 : decode cX3_readNumber 0 = .ok (.iconst 0, 1) := by decide +kernel
set_option maxRecDepth 20000 in
theorem dX3_readNumber_1 : decode cX3_readNumber 1 = .ok (.istore_n 1, 1) := by decide +kernel
set_option maxRecDepth 20000 in
theorem dX3_readNumber_2 : decode cX3_readNumber 2 = .ok (.iconst 0, 1) := by decide +kernel
set_option maxRecDepth 20000 in
theorem dX3_readNumber_3 : decode cX3_readNumber 3 = .ok (.istore_n 2, 1) := by decide +kernel
set_option maxRecDepth 20000 in
theorem dX3_readNumber_4 : decode cX3_readNumber 4 = .ok (.iload_n 2, 1) := by decide +kernel
set_option maxRecDepth 20000 in
theorem dX3_readNumber_5 : decode cX3_readNumber 5 = .ok (.iconst 4, 1) := by decide +kernel
set_option maxRecDepth 20000 in
theorem dX3_readNumber_6 : decode cX3_readNumber 6 = .ok (.if_icmp .ge 42, 3) := by decide +kernel
set_option maxRecDepth 20000 in
theorem dX3_readNumber_9 : decode cX3_readNumber 9 = .ok (.aload_n 0, 1) := by decide +kernel
set_option maxRecDepth 20000 in
theorem dX3_readNumber_10 : decode cX3_readNumber 10 = .ok (.invokevirtual 57, 3) := by decide +kernel
set_option maxRecDepth 20000 in
theorem dX3_readNumber_13 : decode cX3_readNumber 13 = .ok (.invokestatic 77, 3) := by decide +kernel
set_option maxRecDepth 20000 in
theorem dX3_readNumber_16 : decode cX3_readNumber 16 = .ok (.ifCond .eq 32, 3) := by decide +kernel
set_option maxRecDepth 20000 in
theorem dX3_readNumber_19 : decode cX3_readNumber 19 = .ok (.iload_n 1, 1) := by decide +kernel
set_option maxRecDepth 20000 in
theorem dX3_readNumber_20 : decode cX3_readNumber 20 = .ok (.bipush 10, 2) := by decide +kernel
set_option maxRecDepth 20000 in
theorem dX3_readNumber_22 : decode cX3_readNumber 22 = .ok (.imul, 1) := by decide +kernel
set_option maxRecDepth 20000 in
theorem dX3_readNumber_23 : decode cX3_readNumber 23 = .ok (.aload_n 0, 1) := by decide +kernel
set_option maxRecDepth 20000 in
theorem dX3_readNumber_24 : decode cX3_readNumber 24 = .ok (.invokevirtual 57, 3) := by decide +kernel
set_option maxRecDepth 20000 in
theorem dX3_readNumber_27 : decode cX3_readNumber 27 = .ok (.iadd, 1) := by decide +kernel
set_option maxRecDepth 20000 in
theorem dX3_readNumber_28 : decode cX3_readNumber 28 = .ok (.bipush 48, 2) := by decide +kernel
set_option maxRecDepth 20000 in
theorem dX3_readNumber_30 : decode cX3_readNumber 30 = .ok (.isub, 1) := by decide +kernel
set_option maxRecDepth 20000 in
theorem dX3_readNumber_31 : decode cX3_readNumber 31 = .ok (.istore_n 1, 1) := by decide +kernel
set_option maxRecDepth 20000 in
theorem dX3_readNumber_32 : decode cX3_readNumber 32 = .ok (.aload_n 0, 1) := by decide +kernel
set_option maxRecDepth 20000 in
theorem dX3_readNumber_33 : decode cX3_readNumber 33 = .ok (.dup, 1) := by decide +kernel
set_option maxRecDepth 20000 in
theorem dX3_readNumber_34 : decode cX3_readNumber 34 = .ok (.getfield 25, 3) := by decide +kernel
set_option maxRecDepth 20000 in
theorem dX3_readNumber_37 : decode cX3_readNumber 37 = .ok (.iconst 1, 1) := by decide +kernel
set_option maxRecDepth 20000 in
theorem dX3_readNumber_38 : decode cX3_readNumber 38 = .ok (.iadd, 1) := by decide +kernel
set_option maxRecDepth 20000 in
theorem dX3_readNumber_39 : decode cX3_readNumber 39 = .ok (.putfield 25, 3) := by decide +kernel
set_option maxRecDepth 20000 in
theorem dX3_readNumber_42 : decode cX3_readNumber 42 = .ok (.iinc 2 1, 3) := by decide +kernel
set_option maxRecDepth 20000 in
theorem dX3_readNumber_45 : decode cX3_readNumber 45 = .ok (.goto (-41), 3) := by decide +kernel
set_option maxRecDepth 20000 in
theorem dX3_readNumber_48 : decode cX3_readNumber 48 = .ok (.aload_n 0, 1) := by decide +kernel
set_option maxRecDepth 20000 in
theorem dX3_readNumber_49 : decode cX3_readNumber 49 = .ok (.iload_n 1, 1) := by decide +kernel
set_option maxRecDepth 20000 in
theorem dX3_readNumber_50 : decode cX3_readNumber 50 = .ok (.invokevirtual 61, 3) := by decide +kernel
set_option maxRecDepth 20000 in
theorem dX3_readNumber_53 : decode cX3_readNumber 53 = .ok (.return_, 1) := by decide +kernel
set_option maxHeartbeats 4000000 in
set_option maxRecDepth 100000 in
theorem c_X3_readNumber (l : Launch) (G : GT) (σ : Sto)  (r : Sto) (h : f_X3_readNumber σ  = some r) : MW l G (3) (85) 0 0 yX3_readNumber cX3_readNumber 3 (Option.none : Option Jvm.ClassFile.FieldType) [.ref (gad G 55)] (wl G σ) (none) (wl G r) := by
  refine mw_of RX3 (fiV G) [(0, .ref (gad G 55))] (by decide +kernel) rfl (Nat.le_of_ble_eq_true rfl) rfl h rfl (fun p e s m args below meth c X hr hnm => ?_)
  have J4 : ∀   (n : Nat) (v1 : Int32) (v2 : Int32) (σ : Sto), Sm p l e { frames := 3, cells := 0, slots := 0, locals := 85 } s m args below meth c G 3 (Qm below args s G 0 0 (fiV G)) 0 0 (wl G σ) 4 [(0, .ref (gad G 55)), (1, .int v1), (2, .int v2)] [] (f_X3_readNumber_L4   n v1 v2 σ) := by
    intro  n
    induction n with
    | zero => intro v1 v2 σ; rw [f_X3_readNumber_L4]; exact sm_none
    | succ n ihl =>
      intro v1 v2 σ
      rw [f_X3_readNumber_L4]
      refine sm_iload_n X 5 2 dX3_readNumber_4 rfl rfl rfl ?_
      refine sm_iconst X 6 (4) dX3_readNumber_5 rfl rfl ?_
      refine sm_icmp_ge X 9 48 dX3_readNumber_6 rfl (by decide) (fun h6 => ?_) (fun h6 => ?_)
      · refine sm_aload_n X 49 0 dX3_readNumber_48 rfl rfl rfl ?_
        refine sm_iload_n X 50 1 dX3_readNumber_49 rfl rfl rfl ?_
        refine sm_bind (fun r50 h50 => ?_)
        refine sm_callV0 X 53 [.int v1] [] [] (c_X3_add l G σ v1 r50 h50) cw_X3_add q_496 qs_11 q_494 rfl (by decide) rfl rfl rfl rfl rfl (Nat.le_of_ble_eq_true rfl) ⟨Nat.le_of_ble_eq_true rfl, Nat.le_of_ble_eq_true rfl⟩ ⟨Nat.le_refl _, Nat.le_refl _⟩ dX3_readNumber_50 rfl ?_
        exact sm_vret X hr dX3_readNumber_53 rfl
      · refine sm_aload_n X 10 0 dX3_readNumber_9 rfl rfl rfl ?_
        refine sm_bind (fun r10 h10 => ?_)
        refine sm_callV0 X 13 [] [] [.int r10] (c_X3_next l G σ  r10 h10) cw_X3_next q_485 qs_9 q_483 rfl (by decide) rfl rfl rfl rfl rfl (Nat.le_of_ble_eq_true rfl) ⟨Nat.le_of_ble_eq_true rfl, Nat.le_of_ble_eq_true rfl⟩ ⟨Nat.le_refl _, Nat.le_refl _⟩ dX3_readNumber_10 rfl ?_
        refine sm_bind (fun r13 h13 => ?_)
        refine sm_callS0 X 16 [.int r10] [] [.int (b2i r13)] (c_X3_isDigit l G σ r10 r13 h13) cw_X3_isDigit q_488 q_487 rfl rfl rfl (Nat.le_of_ble_eq_true rfl) ⟨Nat.le_of_ble_eq_true rfl, Nat.le_of_ble_eq_true rfl⟩ ⟨Nat.le_refl _, Nat.le_refl _⟩ dX3_readNumber_13 rfl ?_
        refine sm_ifz_eq X 19 48 dX3_readNumber_16 rfl (by decide) (fun h16 => ?_) (fun h16 => ?_)
        · refine sm_iload_n X 20 1 dX3_readNumber_19 rfl rfl rfl ?_
          refine sm_bipush X 22 (10) dX3_readNumber_20 rfl rfl ?_
          refine sm_imul X 23 dX3_readNumber_22 rfl ?_
          refine sm_aload_n X 24 0 dX3_readNumber_23 rfl rfl rfl ?_
          refine sm_bind (fun r24 h24 => ?_)
          refine sm_callV0 X 27 [] [.int (v1 * (10 : Int32))] [.int r24, .int (v1 * (10 : Int32))] (c_X3_next l G σ  r24 h24) cw_X3_next q_485 qs_9 q_483 rfl (by decide) rfl rfl rfl rfl rfl (Nat.le_of_ble_eq_true rfl) ⟨Nat.le_of_ble_eq_true rfl, Nat.le_of_ble_eq_true rfl⟩ ⟨Nat.le_refl _, Nat.le_refl _⟩ dX3_readNumber_24 rfl ?_
          refine sm_iadd X 28 dX3_readNumber_27 rfl ?_
          refine sm_bipush X 30 (48) dX3_readNumber_28 rfl rfl ?_
          refine sm_isub X 31 dX3_readNumber_30 rfl ?_
          refine sm_istore_n X 32 [(1, .int (((v1 * (10 : Int32)) + r24) - (48 : Int32))), (0, .ref (gad G 55)), (2, .int v2)] dX3_readNumber_31 rfl rfl (by decide) rfl ?_
          refine sm_aload_n X 33 1 dX3_readNumber_32 rfl rfl rfl ?_
          refine sm_dup X 34 dX3_readNumber_33 rfl rfl ?_
          refine sm_geti X 37 rfl fd_3_4 dX3_readNumber_34 rfl q_164 ?_
          refine sm_iconst X 38 (1) dX3_readNumber_37 rfl rfl ?_
          refine sm_iadd X 39 dX3_readNumber_38 rfl ?_
          refine sm_puti X 42 .int rfl fd_3_4 (by decide) rfl rfl rfl dX3_readNumber_39 rfl q_164 (fun σ39 e39 => ?_)
          clear e39
          refine sm_iinc X 45 2 (1 : Int32) [(2, .int (v2 + (1 : Int32))), (1, .int (((v1 * (10 : Int32)) + r24) - (48 : Int32))), (0, .ref (gad G 55))] dX3_readNumber_42 rfl rfl rfl (by decide) rfl ?_
          refine sm_goto X 4 dX3_readNumber_45 (by decide) ?_
          exact sm_sub [2, 1, 0] rfl (ihl (((v1 * (10 : Int32)) + r24) - (48 : Int32)) (v2 + (1 : Int32)) σ39)
        · refine sm_aload_n X 49 0 dX3_readNumber_48 rfl rfl rfl ?_
          refine sm_iload_n X 50 1 dX3_readNumber_49 rfl rfl rfl ?_
          refine sm_bind (fun r50 h50 => ?_)
          refine sm_callV0 X 53 [.int v1] [] [] (c_X3_add l G σ v1 r50 h50) cw_X3_add q_496 qs_11 q_494 rfl (by decide) rfl rfl rfl rfl rfl (Nat.le_of_ble_eq_true rfl) ⟨Nat.le_of_ble_eq_true rfl, Nat.le_of_ble_eq_true rfl⟩ ⟨Nat.le_refl _, Nat.le_refl _⟩ dX3_readNumber_50 rfl ?_
          exact sm_vret X hr dX3_readNumber_53 rfl
  unfold f_X3_readNumber
  refine sm_iconst X 1 (0) dX3_readNumber_0 rfl rfl ?_
  refine sm_istore_n X 2 [(1, .int 0), (0, .ref (gad G 55))] dX3_readNumber_1 rfl rfl (by decide) rfl ?_
  refine sm_iconst X 3 (0) dX3_readNumber_2 rfl rfl ?_
  refine sm_istore_n X 4 [(2, .int 0), (1, .int 0), (0, .ref (gad G 55))] dX3_readNumber_3 rfl rfl (by decide) rfl ?_
  exact sm_sub [2, 1, 0] rfl (J4   FU (0 : Int32) (0 : Int32) σ)
set_option maxRecDepth 20000 in
theorem dX3_readBracket_0 : decode cX3_readBracket 0 = .ok (.aload_n 0, 1) := by decide +kernel
set_option maxRecDepth 20000 in
theorem dX3_readBracket_1 : decode cX3_readBracket 1 = .ok (.iload_n 1, 1) := by decide +kernel
set_option maxRecDepth 20000 in
theorem dX3_readBracket_2 : decode cX3_readBracket 2 = .ok (.invokevirtual 50, 3) := by decide +kernel
set_option maxRecDepth 20000 in
theorem dX3_readBracket_5 : decode cX3_readBracket 5 = .ok (.ifCond .eq 12, 3) := by decide +kernel
set_option maxRecDepth 20000 in
theorem dX3_readBracket_8 : decode cX3_readBracket 8 = .ok (.aload_n 0, 1) := by decide +kernel
set_option maxRecDepth 20000 in
theorem dX3_readBracket_9 : decode cX3_readBracket 9 = .ok (.invokevirtual 57, 3) := by decide +kernel
set_option maxRecDepth 20000 in
theorem dX3_readBracket_12 : decode cX3_readBracket 12 = .ok (.bipush 41, 2) := by decide +kernel
set_option maxRecDepth 20000 in
theorem dX3_readBracket_14 : decode cX3_readBracket 14 = .ok (.if_icmp .eq 5, 3) := by decide +kernel
set_option maxRecDepth 20000 in
theorem dX3_readBracket_17 : decode cX3_readBracket 17 = .ok (.iconst 0, 1) := by decide +kernel
set_option maxRecDepth 20000 in
theorem dX3_readBracket_18 : decode cX3_readBracket 18 = .ok (.ireturn, 1) := by decide +kernel
set_option maxRecDepth 20000 in
theorem dX3_readBracket_19 : decode cX3_readBracket 19 = .ok (.aload_n 0, 1) := by decide +kernel
set_option maxRecDepth 20000 in
theorem dX3_readBracket_20 : decode cX3_readBracket 20 = .ok (.dup, 1) := by decide +kernel
set_option maxRecDepth 20000 in
theorem dX3_readBracket_21 : decode cX3_readBracket 21 = .ok (.getfield 25, 3) := by decide +kernel
set_option maxRecDepth 20000 in
theorem dX3_readBracket_24 : decode cX3_readBracket 24 = .ok (.iconst 1, 1) := by decide +kernel
set_option maxRecDepth 20000 in
theorem dX3_readBracket_25 : decode cX3_readBracket 25 = .ok (.iadd, 1) := by decide +kernel
set_option maxRecDepth 20000 in
theorem dX3_readBracket_26 : decode cX3_readBracket 26 = .ok (.putfield 25, 3) := by decide +kernel
set_option maxRecDepth 20000 in
theorem dX3_readBracket_29 : decode cX3_readBracket 29 = .ok (.iconst 1, 1) := by decide +kernel
set_option maxRecDepth 20000 in
theorem dX3_readBracket_30 : decode cX3_readBracket 30 = .ok (.ireturn, 1) := by decide +kernel
set_option maxRecDepth 20000 in
theorem dX3_readNot_0 : decode cX3_readNot 0 = .ok (.aload_n 0, 1) := by decide +kernel
set_option maxRecDepth 20000 in
theorem dX3_readNot_1 : decode cX3_readNot 1 = .ok (.iload_n 1, 1) := by decide +kernel
set_option maxRecDepth 20000 in
theorem dX3_readNot_2 : decode cX3_readNot 2 = .ok (.invokevirtual 74, 3) := by decide +kernel
set_option maxRecDepth 20000 in
theorem dX3_readNot_5 : decode cX3_readNot 5 = .ok (.ifCond .ne 5, 3) := by decide +kernel
set_option maxRecDepth 20000 in
theorem dX3_readNot_8 : decode cX3_readNot 8 = .ok (.iconst 0, 1) := by decide +kernel
set_option maxRecDepth 20000 in
theorem dX3_readNot_9 : decode cX3_readNot 9 = .ok (.ireturn, 1) := by decide +kernel
set_option maxRecDepth 20000 in
theorem dX3_readNot_10 : decode cX3_readNot 10 = .ok (.aload_n 0, 1) := by decide +kernel
set_option maxRecDepth 20000 in
theorem dX3_readNot_11 : decode cX3_readNot 11 = .ok (.bipush (-33), 2) := by decide +kernel
set_option maxRecDepth 20000 in
theorem dX3_readNot_13 : decode cX3_readNot 13 = .ok (.invokevirtual 61, 3) := by decide +kernel
set_option maxRecDepth 20000 in
theorem dX3_readNot_16 : decode cX3_readNot 16 = .ok (.iconst 1, 1) := by decide +kernel
set_option maxRecDepth 20000 in
theorem dX3_readNot_17 : decode cX3_readNot 17 = .ok (.ireturn, 1) := by decide +kernel
set_option maxRecDepth 20000 in
theorem dX3_readPart_0 : decode cX3_readPart 0 = .ok (.aload_n 0, 1) := by decide +kernel
set_option maxRecDepth 20000 in
theorem dX3_readPart_1 : decode cX3_readPart 1 = .ok (.invokevirtual 57, 3) := by decide +kernel
set_option maxRecDepth 20000 in
theorem dX3_readPart_4 : decode cX3_readPart 4 = .ok (.istore_n 2, 1) := by decide +kernel
set_option maxRecDepth 20000 in
theorem dX3_readPart_5 : decode cX3_readPart 5 = .ok (.iload_n 2, 1) := by decide +kernel
set_option maxRecDepth 20000 in
theorem dX3_readPart_6 : decode cX3_readPart 6 = .ok (.invokestatic 77, 3) := by decide +kernel
set_option maxRecDepth 20000 in
theorem dX3_readPart_9 : decode cX3_readPart 9 = .ok (.ifCond .eq 9, 3) := by decide +kernel
set_option maxRecDepth 20000 in
theorem dX3_readPart_12 : decode cX3_readPart 12 = .ok (.aload_n 0, 1) := by decide +kernel
set_option maxRecDepth 20000 in
theorem dX3_readPart_13 : decode cX3_readPart 13 = .ok (.invokevirtual 80, 3) := by decide +kernel
set_option maxRecDepth 20000 in
theorem dX3_readPart_16 : decode cX3_readPart 16 = .ok (.iconst 1, 1) := by decide +kernel
set_option maxRecDepth 20000 in
theorem dX3_readPart_17 : decode cX3_readPart 17 = .ok (.ireturn, 1) := by decide +kernel
set_option maxRecDepth 20000 in
theorem dX3_readPart_18 : decode cX3_readPart 18 = .ok (.iload_n 2, 1) := by decide +kernel
set_option maxRecDepth 20000 in
theorem dX3_readPart_19 : decode cX3_readPart 19 = .ok (.ifCond .ge 7, 3) := by decide +kernel
set_option maxRecDepth 20000 in
theorem dX3_readPart_22 : decode cX3_readPart 22 = .ok (.iconst (-1), 1) := by decide +kernel
set_option maxRecDepth 20000 in
theorem dX3_readPart_23 : decode cX3_readPart 23 = .ok (.goto 12, 3) := by decide +kernel
set_option maxRecDepth 20000 in
theorem dX3_readPart_26 : decode cX3_readPart 26 = .ok (.aload_n 0, 1) := by decide +kernel
set_option maxRecDepth 20000 in
theorem dX3_readPart_27 : decode cX3_readPart 27 = .ok (.getfield 30, 3) := by decide +kernel
set_option maxRecDepth 20000 in
theorem dX3_readPart_30 : decode cX3_readPart 30 = .ok (.iload_n 2, 1) := by decide +kernel
set_option maxRecDepth 20000 in
theorem dX3_readPart_31 : decode cX3_readPart 31 = .ok (.i2c, 1) := by decide +kernel
set_option maxRecDepth 20000 in
theorem dX3_readPart_32 : decode cX3_readPart 32 = .ok (.invokevirtual 83, 3) := by decide +kernel
set_option maxRecDepth 20000 in
theorem dX3_readPart_35 : decode cX3_readPart 35 = .ok (.istore_n 3, 1) := by decide +kernel
set_option maxRecDepth 20000 in
theorem dX3_readPart_36 : decode cX3_readPart 36 = .ok (.iload_n 3, 1) := by decide +kernel
set_option maxRecDepth 20000 in
theorem dX3_readPart_37 : decode cX3_readPart 37 = .ok (.ifCond .lt 22, 3) := by decide +kernel
set_option maxRecDepth 20000 in
theorem dX3_readPart_40 : decode cX3_readPart 40 = .ok (.aload_n 0, 1) := by decide +kernel
set_option maxRecDepth 20000 in
theorem dX3_readPart_41 : decode cX3_readPart 41 = .ok (.dup, 1) := by decide +kernel
set_option maxRecDepth 20000 in
theorem dX3_readPart_42 : decode cX3_readPart 42 = .ok (.getfield 25, 3) := by decide +kernel
set_option maxRecDepth 20000 in
theorem dX3_readPart_45 : decode cX3_readPart 45 = .ok (.iconst 1, 1) := by decide +kernel
set_option maxRecDepth 20000 in
theorem dX3_readPart_46 : decode cX3_readPart 46 = .ok (.iadd, 1) := by decide +kernel
set_option maxRecDepth 20000 in
theorem dX3_readPart_47 : decode cX3_readPart 47 = .ok (.putfield 25, 3) := by decide +kernel
set_option maxRecDepth 20000 in
theorem dX3_readPart_50 : decode cX3_readPart 50 = .ok (.aload_n 0, 1) := by decide +kernel
set_option maxRecDepth 20000 in
theorem dX3_readPart_51 : decode cX3_readPart 51 = .ok (.iconst (-1), 1) := by decide +kernel
set_option maxRecDepth 20000 in
theorem dX3_readPart_52 : decode cX3_readPart 52 = .ok (.iload_n 3, 1) := by decide +kernel
set_option maxRecDepth 20000 in
theorem dX3_readPart_53 : decode cX3_readPart 53 = .ok (.isub, 1) := by decide +kernel
set_option maxRecDepth 20000 in
theorem dX3_readPart_54 : decode cX3_readPart 54 = .ok (.invokevirtual 61, 3) := by decide +kernel
set_option maxRecDepth 20000 in
theorem dX3_readPart_57 : decode cX3_readPart 57 = .ok (.iconst 1, 1) := by decide +kernel
set_option maxRecDepth 20000 in
theorem dX3_readPart_58 : decode cX3_readPart 58 = .ok (.ireturn, 1) := by decide +kernel
set_option maxRecDepth 20000 in
theorem dX3_readPart_59 : decode cX3_readPart 59 = .ok (.iload_n 1, 1) := by decide +kernel
set_option maxRecDepth 20000 in
theorem dX3_readPart_60 : decode cX3_readPart 60 = .ok (.iconst 5, 1) := by decide +kernel
set_option maxRecDepth 20000 in
theorem dX3_readPart_61 : decode cX3_readPart 61 = .ok (.if_icmp .ge 15, 3) := by decide +kernel
set_option maxRecDepth 20000 in
theorem dX3_readPart_64 : decode cX3_readPart 64 = .ok (.iload_n 2, 1) := by decide +kernel
set_option maxRecDepth 20000 in
theorem dX3_readPart_65 : decode cX3_readPart 65 = .ok (.bipush 33, 2) := by decide +kernel
set_option maxRecDepth 20000 in
theorem dX3_readPart_67 : decode cX3_readPart 67 = .ok (.if_icmp .eq 11, 3) := by decide +kernel
set_option maxRecDepth 20000 in
theorem dX3_readPart_70 : decode cX3_readPart 70 = .ok (.iload_n 2, 1) := by decide +kernel
set_option maxRecDepth 20000 in
theorem dX3_readPart_71 : decode cX3_readPart 71 = .ok (.bipush 40, 2) := by decide +kernel
set_option maxRecDepth 20000 in
theorem dX3_readPart_73 : decode cX3_readPart 73 = .ok (.if_icmp .eq 5, 3) := by decide +kernel
set_option maxRecDepth 20000 in
theorem dX3_readPart_76 : decode cX3_readPart 76 = .ok (.iconst 0, 1) := by decide +kernel
set_option maxRecDepth 20000 in
theorem dX3_readPart_77 : decode cX3_readPart 77 = .ok (.ireturn, 1) := by decide +kernel
set_option maxRecDepth 20000 in
theorem dX3_readPart_78 : decode cX3_readPart 78 = .ok (.aload_n 0, 1) := by decide +kernel
set_option maxRecDepth 20000 in
theorem dX3_readPart_79 : decode cX3_readPart 79 = .ok (.dup, 1) := by decide +kernel
set_option maxRecDepth 20000 in
theorem dX3_readPart_80 : decode cX3_readPart 80 = .ok (.getfield 25, 3) := by decide +kernel
set_option maxRecDepth 20000 in
theorem dX3_readPart_83 : decode cX3_readPart 83 = .ok (.iconst 1, 1) := by decide +kernel
set_option maxRecDepth 20000 in
theorem dX3_readPart_84 : decode cX3_readPart 84 = .ok (.iadd, 1) := by decide +kernel
set_option maxRecDepth 20000 in
theorem dX3_readPart_85 : decode cX3_readPart 85 = .ok (.putfield 25, 3) := by decide +kernel
set_option maxRecDepth 20000 in
theorem dX3_readPart_88 : decode cX3_readPart 88 = .ok (.iload_n 2, 1) := by decide +kernel
set_option maxRecDepth 20000 in
theorem dX3_readPart_89 : decode cX3_readPart 89 = .ok (.bipush 33, 2) := by decide +kernel
set_option maxRecDepth 20000 in
theorem dX3_readPart_91 : decode cX3_readPart 91 = .ok (.if_icmp .ne 11, 3) := by decide +kernel
set_option maxRecDepth 20000 in
theorem dX3_readPart_94 : decode cX3_readPart 94 = .ok (.aload_n 0, 1) := by decide +kernel
set_option maxRecDepth 20000 in
theorem dX3_readPart_95 : decode cX3_readPart 95 = .ok (.iload_n 1, 1) := by decide +kernel
set_option maxRecDepth 20000 in
theorem dX3_readPart_96 : decode cX3_readPart 96 = .ok (.iconst 1, 1) := by decide +kernel
set_option maxRecDepth 20000 in
theorem dX3_readPart_97 : decode cX3_readPart 97 = .ok (.iadd, 1) := by decide +kernel
set_option maxRecDepth 20000 in
theorem dX3_readPart_98 : decode cX3_readPart 98 = .ok (.invokevirtual 89, 3) := by decide +kernel
set_option maxRecDepth 20000 in
theorem dX3_readPart_101 : decode cX3_readPart 101 = .ok (.ireturn, 1) := by decide +kernel
set_option maxRecDepth 20000 in
theorem dX3_readPart_102 : decode cX3_readPart 102 = .ok (.aload_n 0, 1) := by decide +kernel
set_option maxRecDepth 20000 in
theorem dX3_readPart_103 : decode cX3_readPart 103 = .ok (.iload_n 1, 1) := by decide +kernel
set_option maxRecDepth 20000 in
theorem dX3_readPart_104 : decode cX3_readPart 104 = .ok (.iconst 1, 1) := by decide +kernel
set_option maxRecDepth 20000 in
theorem dX3_readPart_105 : decode cX3_readPart 105 = .ok (.iadd, 1) := by decide +kernel
set_option maxRecDepth 20000 in
theorem dX3_readPart_106 : decode cX3_readPart 106 = .ok (.invokevirtual 92, 3) := by decide +kernel
set_option maxRecDepth 20000 in
theorem dX3_readPart_109 : decode cX3_readPart 109 = .ok (.ireturn, 1) := by decide +kernel
set_option maxRecDepth 20000 in
theorem dX3_readProduct_0 : decode cX3_readProduct 0 = .ok (.aload_n 0, 1) := by decide +kernel
set_option maxRecDepth 20000 in
theorem dX3_readProduct_1 : decode cX3_readProduct 1 = .ok (.iload_n 1, 1) := by decide +kernel
set_option maxRecDepth 20000 in
theorem dX3_readProduct_2 : decode cX3_readProduct 2 = .ok (.invokevirtual 74, 3) := by decide +kernel
set_option maxRecDepth 20000 in
theorem dX3_readProduct_5 : decode cX3_readProduct 5 = .ok (.ifCond .ne 5, 3) := by decide +kernel
set_option maxRecDepth 20000 in
theorem dX3_readProduct_8 : decode cX3_readProduct 8 = .ok (.iconst 0, 1) := by decide +kernel
set_option maxRecDepth 20000 in
theorem dX3_readProduct_9 : decode cX3_readProduct 9 = .ok (.ireturn, 1) := by decide +kernel
set_option maxRecDepth 20000 in
theorem dX3_readProduct_10 : decode cX3_readProduct 10 = .ok (.aload_n 0, 1) := by decide +kernel
set_option maxRecDepth 20000 in
theorem dX3_readProduct_11 : decode cX3_readProduct 11 = .ok (.getfield 25, 3) := by decide +kernel
set_option maxRecDepth 20000 in
theorem dX3_readProduct_14 : decode cX3_readProduct 14 = .ok (.aload_n 0, 1) := by decide +kernel
set_option maxRecDepth 20000 in
theorem dX3_readProduct_15 : decode cX3_readProduct 15 = .ok (.getfield 22, 3) := by decide +kernel
set_option maxRecDepth 20000 in
theorem dX3_readProduct_18 : decode cX3_readProduct 18 = .ok (.if_icmp .ge 64, 3) := by decide +kernel
set_option maxRecDepth 20000 in
theorem dX3_readProduct_21 : decode cX3_readProduct 21 = .ok (.aload_n 0, 1) := by decide +kernel
set_option maxRecDepth 20000 in
theorem dX3_readProduct_22 : decode cX3_readProduct 22 = .ok (.invokevirtual 57, 3) := by decide +kernel
set_option maxRecDepth 20000 in
theorem dX3_readProduct_25 : decode cX3_readProduct 25 = .ok (.bipush 42, 2) := by decide +kernel
set_option maxRecDepth 20000 in
theorem dX3_readProduct_27 : decode cX3_readProduct 27 = .ok (.if_icmp .eq 21, 3) := by decide +kernel
set_option maxRecDepth 20000 in
theorem dX3_readProduct_30 : decode cX3_readProduct 30 = .ok (.aload_n 0, 1) := by decide +kernel
set_option maxRecDepth 20000 in
theorem dX3_readProduct_31 : decode cX3_readProduct 31 = .ok (.invokevirtual 57, 3) := by decide +kernel
set_option maxRecDepth 20000 in
theorem dX3_readProduct_34 : decode cX3_readProduct 34 = .ok (.bipush 47, 2) := by decide +kernel
set_option maxRecDepth 20000 in
theorem dX3_readProduct_36 : decode cX3_readProduct 36 = .ok (.if_icmp .eq 12, 3) := by decide +kernel
set_option maxRecDepth 20000 in
theorem dX3_readProduct_39 : decode cX3_readProduct 39 = .ok (.aload_n 0, 1) := by decide +kernel
set_option maxRecDepth 20000 in
theorem dX3_readProduct_40 : decode cX3_readProduct 40 = .ok (.invokevirtual 57, 3) := by decide +kernel
set_option maxRecDepth 20000 in
theorem dX3_readProduct_43 : decode cX3_readProduct 43 = .ok (.bipush 37, 2) := by decide +kernel
set_option maxRecDepth 20000 in
theorem dX3_readProduct_45 : decode cX3_readProduct 45 = .ok (.if_icmp .ne 37, 3) := by decide +kernel
set_option maxRecDepth 20000 in
theorem dX3_readProduct_48 : decode cX3_readProduct 48 = .ok (.aload_n 0, 1) := by decide +kernel
set_option maxRecDepth 20000 in
theorem dX3_readProduct_49 : decode cX3_readProduct 49 = .ok (.invokevirtual 57, 3) := by decide +kernel
set_option maxRecDepth 20000 in
theorem dX3_readProduct_52 : decode cX3_readProduct 52 = .ok (.istore_n 2, 1) := by decide +kernel
set_option maxRecDepth 20000 in
theorem dX3_readProduct_53 : decode cX3_readProduct 53 = .ok (.aload_n 0, 1) := by decide +kernel
set_option maxRecDepth 20000 in
theorem dX3_readProduct_54 : decode cX3_readProduct 54 = .ok (.dup, 1) := by decide +kernel
set_option maxRecDepth 20000 in
theorem dX3_readProduct_55 : decode cX3_readProduct 55 = .ok (.getfield 25, 3) := by decide +kernel
set_option maxRecDepth 20000 in
theorem dX3_readProduct_58 : decode cX3_readProduct 58 = .ok (.iconst 1, 1) := by decide +kernel
set_option maxRecDepth 20000 in
theorem dX3_readProduct_59 : decode cX3_readProduct 59 = .ok (.iadd, 1) := by decide +kernel
set_option maxRecDepth 20000 in
theorem dX3_readProduct_60 : decode cX3_readProduct 60 = .ok (.putfield 25, 3) := by decide +kernel
set_option maxRecDepth 20000 in
theorem dX3_readProduct_63 : decode cX3_readProduct 63 = .ok (.aload_n 0, 1) := by decide +kernel
set_option maxRecDepth 20000 in
theorem dX3_readProduct_64 : decode cX3_readProduct 64 = .ok (.iload_n 1, 1) := by decide +kernel
set_option maxRecDepth 20000 in
theorem dX3_readProduct_65 : decode cX3_readProduct 65 = .ok (.invokevirtual 74, 3) := by decide +kernel
set_option maxRecDepth 20000 in
theorem dX3_readProduct_68 : decode cX3_readProduct 68 = .ok (.ifCond .ne 5, 3) := by decide +kernel
set_option maxRecDepth 20000 in
theorem dX3_readProduct_71 : decode cX3_readProduct 71 = .ok (.iconst 0, 1) := by decide +kernel
set_option maxRecDepth 20000 in
theorem dX3_readProduct_72 : decode cX3_readProduct 72 = .ok (.ireturn, 1) := by decide +kernel
set_option maxRecDepth 20000 in
theorem dX3_readProduct_73 : decode cX3_readProduct 73 = .ok (.aload_n 0, 1) := by decide +kernel
set_option maxRecDepth 20000 in
theorem dX3_readProduct_74 : decode cX3_readProduct 74 = .ok (.iload_n 2, 1) := by decide +kernel
set_option maxRecDepth 20000 in
theorem dX3_readProduct_75 : decode cX3_readProduct 75 = .ok (.ineg, 1) := by decide +kernel
set_option maxRecDepth 20000 in
theorem dX3_readProduct_76 : decode cX3_readProduct 76 = .ok (.invokevirtual 61, 3) := by decide +kernel
set_option maxRecDepth 20000 in
theorem dX3_readProduct_79 : decode cX3_readProduct 79 = .ok (.goto (-69), 3) := by decide +kernel
set_option maxRecDepth 20000 in
theorem dX3_readProduct_82 : decode cX3_readProduct 82 = .ok (.iconst 1, 1) := by decide +kernel
set_option maxRecDepth 20000 in
theorem dX3_readProduct_83 : decode cX3_readProduct 83 = .ok (.ireturn, 1) := by decide +kernel
set_option maxRecDepth 20000 in
theorem dX3_readSum_0 : decode cX3_readSum 0 = .ok (.aload_n 0, 1) := by decide +kernel
set_option maxRecDepth 20000 in
theorem dX3_readSum_1 : decode cX3_readSum 1 = .ok (.iload_n 1, 1) := by decide +kernel
set_option maxRecDepth 20000 in
theorem dX3_readSum_2 : decode cX3_readSum 2 = .ok (.invokevirtual 71, 3) := by decide +kernel
set_option maxRecDepth 20000 in
theorem dX3_readSum_5 : decode cX3_readSum 5 = .ok (.ifCond .ne 5, 3) := by decide +kernel
set_option maxRecDepth 20000 in
theorem dX3_readSum_8 : decode cX3_readSum 8 = .ok (.iconst 0, 1) := by decide +kernel
set_option maxRecDepth 20000 in
theorem dX3_readSum_9 : decode cX3_readSum 9 = .ok (.ireturn, 1) := by decide +kernel
set_option maxRecDepth 20000 in
theorem dX3_readSum_10 : decode cX3_readSum 10 = .ok (.aload_n 0, 1) := by decide +kernel
set_option maxRecDepth 20000 in
theorem dX3_readSum_11 : decode cX3_readSum 11 = .ok (.getfield 25, 3) := by decide +kernel
set_option maxRecDepth 20000 in
theorem dX3_readSum_14 : decode cX3_readSum 14 = .ok (.aload_n 0, 1) := by decide +kernel
set_option maxRecDepth 20000 in
theorem dX3_readSum_15 : decode cX3_readSum 15 = .ok (.getfield 22, 3) := by decide +kernel
set_option maxRecDepth 20000 in
theorem dX3_readSum_18 : decode cX3_readSum 18 = .ok (.if_icmp .ge 55, 3) := by decide +kernel
set_option maxRecDepth 20000 in
theorem dX3_readSum_21 : decode cX3_readSum 21 = .ok (.aload_n 0, 1) := by decide +kernel
set_option maxRecDepth 20000 in
theorem dX3_readSum_22 : decode cX3_readSum 22 = .ok (.invokevirtual 57, 3) := by decide +kernel
set_option maxRecDepth 20000 in
theorem dX3_readSum_25 : decode cX3_readSum 25 = .ok (.bipush 43, 2) := by decide +kernel
set_option maxRecDepth 20000 in
theorem dX3_readSum_27 : decode cX3_readSum 27 = .ok (.if_icmp .eq 12, 3) := by decide +kernel
set_option maxRecDepth 20000 in
theorem dX3_readSum_30 : decode cX3_readSum 30 = .ok (.aload_n 0, 1) := by decide +kernel
set_option maxRecDepth 20000 in
theorem dX3_readSum_31 : decode cX3_readSum 31 = .ok (.invokevirtual 57, 3) := by decide +kernel
set_option maxRecDepth 20000 in
theorem dX3_readSum_34 : decode cX3_readSum 34 = .ok (.bipush 45, 2) := by decide +kernel
set_option maxRecDepth 20000 in
theorem dX3_readSum_36 : decode cX3_readSum 36 = .ok (.if_icmp .ne 37, 3) := by decide +kernel
set_option maxRecDepth 20000 in
theorem dX3_readSum_39 : decode cX3_readSum 39 = .ok (.aload_n 0, 1) := by decide +kernel
set_option maxRecDepth 20000 in
theorem dX3_readSum_40 : decode cX3_readSum 40 = .ok (.invokevirtual 57, 3) := by decide +kernel
set_option maxRecDepth 20000 in
theorem dX3_readSum_43 : decode cX3_readSum 43 = .ok (.istore_n 2, 1) := by decide +kernel
set_option maxRecDepth 20000 in
theorem dX3_readSum_44 : decode cX3_readSum 44 = .ok (.aload_n 0, 1) := by decide +kernel
set_option maxRecDepth 20000 in
theorem dX3_readSum_45 : decode cX3_readSum 45 = .ok (.dup, 1) := by decide +kernel
set_option maxRecDepth 20000 in
theorem dX3_readSum_46 : decode cX3_readSum 46 = .ok (.getfield 25, 3) := by decide +kernel
set_option maxRecDepth 20000 in
theorem dX3_readSum_49 : decode cX3_readSum 49 = .ok (.iconst 1, 1) := by decide +kernel
set_option maxRecDepth 20000 in
theorem dX3_readSum_50 : decode cX3_readSum 50 = .ok (.iadd, 1) := by decide +kernel
set_option maxRecDepth 20000 in
theorem dX3_readSum_51 : decode cX3_readSum 51 = .ok (.putfield 25, 3) := by decide +kernel
set_option maxRecDepth 20000 in
theorem dX3_readSum_54 : decode cX3_readSum 54 = .ok (.aload_n 0, 1) := by decide +kernel
set_option maxRecDepth 20000 in
theorem dX3_readSum_55 : decode cX3_readSum 55 = .ok (.iload_n 1, 1) := by decide +kernel
set_option maxRecDepth 20000 in
theorem dX3_readSum_56 : decode cX3_readSum 56 = .ok (.invokevirtual 71, 3) := by decide +kernel
set_option maxRecDepth 20000 in
theorem dX3_readSum_59 : decode cX3_readSum 59 = .ok (.ifCond .ne 5, 3) := by decide +kernel
set_option maxRecDepth 20000 in
theorem dX3_readSum_62 : decode cX3_readSum 62 = .ok (.iconst 0, 1) := by decide +kernel
set_option maxRecDepth 20000 in
theorem dX3_readSum_63 : decode cX3_readSum 63 = .ok (.ireturn, 1) := by decide +kernel
set_option maxRecDepth 20000 in
theorem dX3_readSum_64 : decode cX3_readSum 64 = .ok (.aload_n 0, 1) := by decide +kernel
set_option maxRecDepth 20000 in
theorem dX3_readSum_65 : decode cX3_readSum 65 = .ok (.iload_n 2, 1) := by decide +kernel
set_option maxRecDepth 20000 in
theorem dX3_readSum_66 : decode cX3_readSum 66 = .ok (.ineg, 1) := by decide +kernel
set_option maxRecDepth 20000 in
theorem dX3_readSum_67 : decode cX3_readSum 67 = .ok (.invokevirtual 61, 3) := by decide +kernel
set_option maxRecDepth 20000 in
theorem dX3_readSum_70 : decode cX3_readSum 70 = .ok (.goto (-60), 3) := by decide +kernel
set_option maxRecDepth 20000 in
theorem dX3_readSum_73 : decode cX3_readSum 73 = .ok (.iconst 1, 1) := by decide +kernel
set_option maxRecDepth 20000 in
theorem dX3_readSum_74 : decode cX3_readSum 74 = .ok (.ireturn, 1) := by decide +kernel
set_option maxRecDepth 20000 in
theorem dX3_readComparison_0 : decode cX3_readComparison 0 = .ok (.aload_n 0, 1) := by decide +kernel
set_option maxRecDepth 20000 in
theorem dX3_readComparison_1 : decode cX3_readComparison 1 = .ok (.iload_n 1, 1) := by decide +kernel
set_option maxRecDepth 20000 in
theorem dX3_readComparison_2 : decode cX3_readComparison 2 = .ok (.invokevirtual 68, 3) := by decide +kernel
set_option maxRecDepth 20000 in
theorem dX3_readComparison_5 : decode cX3_readComparison 5 = .ok (.ifCond .ne 5, 3) := by decide +kernel
set_option maxRecDepth 20000 in
theorem dX3_readComparison_8 : decode cX3_readComparison 8 = .ok (.iconst 0, 1) := by decide +kernel
set_option maxRecDepth 20000 in
theorem dX3_readComparison_9 : decode cX3_readComparison 9 = .ok (.ireturn, 1) := by decide +kernel
set_option maxRecDepth 20000 in
theorem dX3_readComparison_10 : decode cX3_readComparison 10 = .ok (.aload_n 0, 1) := by decide +kernel
set_option maxRecDepth 20000 in
theorem dX3_readComparison_11 : decode cX3_readComparison 11 = .ok (.invokevirtual 57, 3) := by decide +kernel
set_option maxRecDepth 20000 in
theorem dX3_readComparison_14 : decode cX3_readComparison 14 = .ok (.istore_n 2, 1) := by decide +kernel
set_option maxRecDepth 20000 in
theorem dX3_readComparison_15 : decode cX3_readComparison 15 = .ok (.iload_n 2, 1) := by decide +kernel
set_option maxRecDepth 20000 in
theorem dX3_readComparison_16 : decode cX3_readComparison 16 = .ok (.bipush 60, 2) := by decide +kernel
set_option maxRecDepth 20000 in
theorem dX3_readComparison_18 : decode cX3_readComparison 18 = .ok (.if_icmp .eq 15, 3) := by decide +kernel
set_option maxRecDepth 20000 in
theorem dX3_readComparison_21 : decode cX3_readComparison 21 = .ok (.iload_n 2, 1) := by decide +kernel
set_option maxRecDepth 20000 in
theorem dX3_readComparison_22 : decode cX3_readComparison 22 = .ok (.bipush 61, 2) := by decide +kernel
set_option maxRecDepth 20000 in
theorem dX3_readComparison_24 : decode cX3_readComparison 24 = .ok (.if_icmp .eq 9, 3) := by decide +kernel
set_option maxRecDepth 20000 in
theorem dX3_readComparison_27 : decode cX3_readComparison 27 = .ok (.iload_n 2, 1) := by decide +kernel
set_option maxRecDepth 20000 in
theorem dX3_readComparison_28 : decode cX3_readComparison 28 = .ok (.bipush 62, 2) := by decide +kernel
set_option maxRecDepth 20000 in
theorem dX3_readComparison_30 : decode cX3_readComparison 30 = .ok (.if_icmp .ne 29, 3) := by decide +kernel
set_option maxRecDepth 20000 in
theorem dX3_readComparison_33 : decode cX3_readComparison 33 = .ok (.aload_n 0, 1) := by decide +kernel
set_option maxRecDepth 20000 in
theorem dX3_readComparison_34 : decode cX3_readComparison 34 = .ok (.dup, 1) := by decide +kernel
set_option maxRecDepth 20000 in
theorem dX3_readComparison_35 : decode cX3_readComparison 35 = .ok (.getfield 25, 3) := by decide +kernel
set_option maxRecDepth 20000 in
theorem dX3_readComparison_38 : decode cX3_readComparison 38 = .ok (.iconst 1, 1) := by decide +kernel
set_option maxRecDepth 20000 in
theorem dX3_readComparison_39 : decode cX3_readComparison 39 = .ok (.iadd, 1) := by decide +kernel
set_option maxRecDepth 20000 in
theorem dX3_readComparison_40 : decode cX3_readComparison 40 = .ok (.putfield 25, 3) := by decide +kernel
set_option maxRecDepth 20000 in
theorem dX3_readComparison_43 : decode cX3_readComparison 43 = .ok (.aload_n 0, 1) := by decide +kernel
set_option maxRecDepth 20000 in
theorem dX3_readComparison_44 : decode cX3_readComparison 44 = .ok (.iload_n 1, 1) := by decide +kernel
set_option maxRecDepth 20000 in
theorem dX3_readComparison_45 : decode cX3_readComparison 45 = .ok (.invokevirtual 68, 3) := by decide +kernel
set_option maxRecDepth 20000 in
theorem dX3_readComparison_48 : decode cX3_readComparison 48 = .ok (.ifCond .ne 5, 3) := by decide +kernel
set_option maxRecDepth 20000 in
theorem dX3_readComparison_51 : decode cX3_readComparison 51 = .ok (.iconst 0, 1) := by decide +kernel
set_option maxRecDepth 20000 in
theorem dX3_readComparison_52 : decode cX3_readComparison 52 = .ok (.ireturn, 1) := by decide +kernel
set_option maxRecDepth 20000 in
theorem dX3_readComparison_53 : decode cX3_readComparison 53 = .ok (.aload_n 0, 1) := by decide +kernel
set_option maxRecDepth 20000 in
theorem dX3_readComparison_54 : decode cX3_readComparison 54 = .ok (.iload_n 2, 1) := by decide +kernel
set_option maxRecDepth 20000 in
theorem dX3_readComparison_55 : decode cX3_readComparison 55 = .ok (.ineg, 1) := by decide +kernel
set_option maxRecDepth 20000 in
theorem dX3_readComparison_56 : decode cX3_readComparison 56 = .ok (.invokevirtual 61, 3) := by decide +kernel
set_option maxRecDepth 20000 in
theorem dX3_readComparison_59 : decode cX3_readComparison 59 = .ok (.iconst 1, 1) := by decide +kernel
set_option maxRecDepth 20000 in
theorem dX3_readComparison_60 : decode cX3_readComparison 60 = .ok (.ireturn, 1) := by decide +kernel
set_option maxRecDepth 20000 in
theorem dX3_readAll_0 : decode cX3_readAll 0 = .ok (.aload_n 0, 1) := by decide +kernel
set_option maxRecDepth 20000 in
theorem dX3_readAll_1 : decode cX3_readAll 1 = .ok (.iload_n 1, 1) := by decide +kernel
set_option maxRecDepth 20000 in
theorem dX3_readAll_2 : decode cX3_readAll 2 = .ok (.invokevirtual 65, 3) := by decide +kernel
set_option maxRecDepth 20000 in
theorem dX3_readAll_5 : decode cX3_readAll 5 = .ok (.ifCond .ne 5, 3) := by decide +kernel
set_option maxRecDepth 20000 in
theorem dX3_readAll_8 : decode cX3_readAll 8 = .ok (.iconst 0, 1) := by decide +kernel
set_option maxRecDepth 20000 in
theorem dX3_readAll_9 : decode cX3_readAll 9 = .ok (.ireturn, 1) := by decide +kernel
set_option maxRecDepth 20000 in
theorem dX3_readAll_10 : decode cX3_readAll 10 = .ok (.aload_n 0, 1) := by decide +kernel
set_option maxRecDepth 20000 in
theorem dX3_readAll_11 : decode cX3_readAll 11 = .ok (.getfield 25, 3) := by decide +kernel
set_option maxRecDepth 20000 in
theorem dX3_readAll_14 : decode cX3_readAll 14 = .ok (.aload_n 0, 1) := by decide +kernel
set_option maxRecDepth 20000 in
theorem dX3_readAll_15 : decode cX3_readAll 15 = .ok (.getfield 22, 3) := by decide +kernel
set_option maxRecDepth 20000 in
theorem dX3_readAll_18 : decode cX3_readAll 18 = .ok (.if_icmp .ge 41, 3) := by decide +kernel
set_option maxRecDepth 20000 in
theorem dX3_readAll_21 : decode cX3_readAll 21 = .ok (.aload_n 0, 1) := by decide +kernel
set_option maxRecDepth 20000 in
theorem dX3_readAll_22 : decode cX3_readAll 22 = .ok (.invokevirtual 57, 3) := by decide +kernel
set_option maxRecDepth 20000 in
theorem dX3_readAll_25 : decode cX3_readAll 25 = .ok (.bipush 38, 2) := by decide +kernel
set_option maxRecDepth 20000 in
theorem dX3_readAll_27 : decode cX3_readAll 27 = .ok (.if_icmp .ne 32, 3) := by decide +kernel
set_option maxRecDepth 20000 in
theorem dX3_readAll_30 : decode cX3_readAll 30 = .ok (.aload_n 0, 1) := by decide +kernel
set_option maxRecDepth 20000 in
theorem dX3_readAll_31 : decode cX3_readAll 31 = .ok (.dup, 1) := by decide +kernel
set_option maxRecDepth 20000 in
theorem dX3_readAll_32 : decode cX3_readAll 32 = .ok (.getfield 25, 3) := by decide +kernel
set_option maxRecDepth 20000 in
theorem dX3_readAll_35 : decode cX3_readAll 35 = .ok (.iconst 1, 1) := by decide +kernel
set_option maxRecDepth 20000 in
theorem dX3_readAll_36 : decode cX3_readAll 36 = .ok (.iadd, 1) := by decide +kernel
set_option maxRecDepth 20000 in
theorem dX3_readAll_37 : decode cX3_readAll 37 = .ok (.putfield 25, 3) := by decide +kernel
set_option maxRecDepth 20000 in
theorem dX3_readAll_40 : decode cX3_readAll 40 = .ok (.aload_n 0, 1) := by decide +kernel
set_option maxRecDepth 20000 in
theorem dX3_readAll_41 : decode cX3_readAll 41 = .ok (.iload_n 1, 1) := by decide +kernel
set_option maxRecDepth 20000 in
theorem dX3_readAll_42 : decode cX3_readAll 42 = .ok (.invokevirtual 65, 3) := by decide +kernel
set_option maxRecDepth 20000 in
theorem dX3_readAll_45 : decode cX3_readAll 45 = .ok (.ifCond .ne 5, 3) := by decide +kernel
set_option maxRecDepth 20000 in
theorem dX3_readAll_48 : decode cX3_readAll 48 = .ok (.iconst 0, 1) := by decide +kernel
set_option maxRecDepth 20000 in
theorem dX3_readAll_49 : decode cX3_readAll 49 = .ok (.ireturn, 1) := by decide +kernel
set_option maxRecDepth 20000 in
theorem dX3_readAll_50 : decode cX3_readAll 50 = .ok (.aload_n 0, 1) := by decide +kernel
set_option maxRecDepth 20000 in
theorem dX3_readAll_51 : decode cX3_readAll 51 = .ok (.bipush (-38), 2) := by decide +kernel
set_option maxRecDepth 20000 in
theorem dX3_readAll_53 : decode cX3_readAll 53 = .ok (.invokevirtual 61, 3) := by decide +kernel
set_option maxRecDepth 20000 in
theorem dX3_readAll_56 : decode cX3_readAll 56 = .ok (.goto (-46), 3) := by decide +kernel
set_option maxRecDepth 20000 in
theorem dX3_readAll_59 : decode cX3_readAll 59 = .ok (.iconst 1, 1) := by decide +kernel
set_option maxRecDepth 20000 in
theorem dX3_readAll_60 : decode cX3_readAll 60 = .ok (.ireturn, 1) := by decide +kernel
set_option maxRecDepth 20000 in
theorem dX3_readAny_0 : decode cX3_readAny 0 = .ok (.aload_n 0, 1) := by decide +kernel
set_option maxRecDepth 20000 in
theorem dX3_readAny_1 : decode cX3_readAny 1 = .ok (.iload_n 1, 1) := by decide +kernel
set_option maxRecDepth 20000 in
theorem dX3_readAny_2 : decode cX3_readAny 2 = .ok (.invokevirtual 54, 3) := by decide +kernel
set_option maxRecDepth 20000 in
theorem dX3_readAny_5 : decode cX3_readAny 5 = .ok (.ifCond .ne 5, 3) := by decide +kernel
set_option maxRecDepth 20000 in
theorem dX3_readAny_8 : decode cX3_readAny 8 = .ok (.iconst 0, 1) := by decide +kernel
set_option maxRecDepth 20000 in
theorem dX3_readAny_9 : decode cX3_readAny 9 = .ok (.ireturn, 1) := by decide +kernel
set_option maxRecDepth 20000 in
theorem dX3_readAny_10 : decode cX3_readAny 10 = .ok (.aload_n 0, 1) := by decide +kernel
set_option maxRecDepth 20000 in
theorem dX3_readAny_11 : decode cX3_readAny 11 = .ok (.getfield 25, 3) := by decide +kernel
set_option maxRecDepth 20000 in
theorem dX3_readAny_14 : decode cX3_readAny 14 = .ok (.aload_n 0, 1) := by decide +kernel
set_option maxRecDepth 20000 in
theorem dX3_readAny_15 : decode cX3_readAny 15 = .ok (.getfield 22, 3) := by decide +kernel
set_option maxRecDepth 20000 in
theorem dX3_readAny_18 : decode cX3_readAny 18 = .ok (.if_icmp .ge 41, 3) := by decide +kernel
set_option maxRecDepth 20000 in
theorem dX3_readAny_21 : decode cX3_readAny 21 = .ok (.aload_n 0, 1) := by decide +kernel
set_option maxRecDepth 20000 in
theorem dX3_readAny_22 : decode cX3_readAny 22 = .ok (.invokevirtual 57, 3) := by decide +kernel
set_option maxRecDepth 20000 in
theorem dX3_readAny_25 : decode cX3_readAny 25 = .ok (.bipush 124, 2) := by decide +kernel
set_option maxRecDepth 20000 in
theorem dX3_readAny_27 : decode cX3_readAny 27 = .ok (.if_icmp .ne 32, 3) := by decide +kernel
set_option maxRecDepth 20000 in
theorem dX3_readAny_30 : decode cX3_readAny 30 = .ok (.aload_n 0, 1) := by decide +kernel
set_option maxRecDepth 20000 in
theorem dX3_readAny_31 : decode cX3_readAny 31 = .ok (.dup, 1) := by decide +kernel
set_option maxRecDepth 20000 in
theorem dX3_readAny_32 : decode cX3_readAny 32 = .ok (.getfield 25, 3) := by decide +kernel
set_option maxRecDepth 20000 in
theorem dX3_readAny_35 : decode cX3_readAny 35 = .ok (.iconst 1, 1) := by decide +kernel
set_option maxRecDepth 20000 in
theorem dX3_readAny_36 : decode cX3_readAny 36 = .ok (.iadd, 1) := by decide +kernel
set_option maxRecDepth 20000 in
theorem dX3_readAny_37 : decode cX3_readAny 37 = .ok (.putfield 25, 3) := by decide +kernel
set_option maxRecDepth 20000 in
theorem dX3_readAny_40 : decode cX3_readAny 40 = .ok (.aload_n 0, 1) := by decide +kernel
set_option maxRecDepth 20000 in
theorem dX3_readAny_41 : decode cX3_readAny 41 = .ok (.iload_n 1, 1) := by decide +kernel
set_option maxRecDepth 20000 in
theorem dX3_readAny_42 : decode cX3_readAny 42 = .ok (.invokevirtual 54, 3) := by decide +kernel
set_option maxRecDepth 20000 in
theorem dX3_readAny_45 : decode cX3_readAny 45 = .ok (.ifCond .ne 5, 3) := by decide +kernel
set_option maxRecDepth 20000 in
theorem dX3_readAny_48 : decode cX3_readAny 48 = .ok (.iconst 0, 1) := by decide +kernel
set_option maxRecDepth 20000 in
theorem dX3_readAny_49 : decode cX3_readAny 49 = .ok (.ireturn, 1) := by decide +kernel
set_option maxRecDepth 20000 in
theorem dX3_readAny_50 : decode cX3_readAny 50 = .ok (.aload_n 0, 1) := by decide +kernel
set_option maxRecDepth 20000 in
theorem dX3_readAny_51 : decode cX3_readAny 51 = .ok (.bipush (-124), 2) := by decide +kernel
set_option maxRecDepth 20000 in
theorem dX3_readAny_53 : decode cX3_readAny 53 = .ok (.invokevirtual 61, 3) := by decide +kernel
set_option maxRecDepth 20000 in
theorem dX3_readAny_56 : decode cX3_readAny 56 = .ok (.goto (-46), 3) := by decide +kernel
set_option maxRecDepth 20000 in
theorem dX3_readAny_59 : decode cX3_readAny 59 = .ok (.iconst 1, 1) := by decide +kernel
set_option maxRecDepth 20000 in
theorem dX3_readAny_60 : decode cX3_readAny 60 = .ok (.ireturn, 1) := by decide +kernel
set_option maxHeartbeats 4000000 in
set_option maxRecDepth 100000 in
theorem cg_X3_readAll (l : Launch) (G : GT) : ∀ d, (∀ (σ : Sto) (a1 : Int32) (r : (Bool × Sto)) (_ : g_X3_readAll d 0 a1 σ = some r), MW l G (10 + d) (485 + 64 * d) 0 0 yX3_readAll cX3_readAll 2 (Option.some Jvm.ClassFile.FieldType.boolean) [.ref (gad G 55), .int a1] (wl G σ) (some (.int (b2i r.1))) (wl G r.2)) ∧ (∀ (σ : Sto) (a1 : Int32) (r : (Bool × Sto)) (_ : g_X3_readAll d 1 a1 σ = some r), MW l G (10 + d) (485 + 64 * d) 0 0 yX3_readAny cX3_readAny 2 (Option.some Jvm.ClassFile.FieldType.boolean) [.ref (gad G 55), .int a1] (wl G σ) (some (.int (b2i r.1))) (wl G r.2)) ∧ (∀ (σ : Sto) (a1 : Int32) (r : (Bool × Sto)) (_ : g_X3_readAll d 2 a1 σ = some r), MW l G (10 + d) (485 + 64 * d) 0 0 yX3_readBracket cX3_readBracket 2 (Option.some Jvm.ClassFile.FieldType.boolean) [.ref (gad G 55), .int a1] (wl G σ) (some (.int (b2i r.1))) (wl G r.2)) ∧ (∀ (σ : Sto) (a1 : Int32) (r : (Bool × Sto)) (_ : g_X3_readAll d 3 a1 σ = some r), MW l G (10 + d) (485 + 64 * d) 0 0 yX3_readComparison cX3_readComparison 3 (Option.some Jvm.ClassFile.FieldType.boolean) [.ref (gad G 55), .int a1] (wl G σ) (some (.int (b2i r.1))) (wl G r.2)) ∧ (∀ (σ : Sto) (a1 : Int32) (r : (Bool × Sto)) (_ : g_X3_readAll d 4 a1 σ = some r), MW l G (10 + d) (485 + 64 * d) 0 0 yX3_readNot cX3_readNot 2 (Option.some Jvm.ClassFile.FieldType.boolean) [.ref (gad G 55), .int a1] (wl G σ) (some (.int (b2i r.1))) (wl G r.2)) ∧ (∀ (σ : Sto) (a1 : Int32) (r : (Bool × Sto)) (_ : g_X3_readAll d 5 a1 σ = some r), MW l G (10 + d) (485 + 64 * d) 0 0 yX3_readPart cX3_readPart 4 (Option.some Jvm.ClassFile.FieldType.boolean) [.ref (gad G 55), .int a1] (wl G σ) (some (.int (b2i r.1))) (wl G r.2)) ∧ (∀ (σ : Sto) (a1 : Int32) (r : (Bool × Sto)) (_ : g_X3_readAll d 6 a1 σ = some r), MW l G (10 + d) (485 + 64 * d) 0 0 yX3_readProduct cX3_readProduct 3 (Option.some Jvm.ClassFile.FieldType.boolean) [.ref (gad G 55), .int a1] (wl G σ) (some (.int (b2i r.1))) (wl G r.2)) ∧ (∀ (σ : Sto) (a1 : Int32) (r : (Bool × Sto)) (_ : g_X3_readAll d 7 a1 σ = some r), MW l G (10 + d) (485 + 64 * d) 0 0 yX3_readSum cX3_readSum 3 (Option.some Jvm.ClassFile.FieldType.boolean) [.ref (gad G 55), .int a1] (wl G σ) (some (.int (b2i r.1))) (wl G r.2)) := by
  intro d
  induction d with
  | zero => exact ⟨(fun _ _ _ => by intro h; cases h), (fun _ _ _ => by intro h; cases h), (fun _ _ _ => by intro h; cases h), (fun _ _ _ => by intro h; cases h), (fun _ _ _ => by intro h; cases h), (fun _ _ _ => by intro h; cases h), (fun _ _ _ => by intro h; cases h), (fun _ _ _ => by intro h; cases h)⟩
  | succ d ih =>
    refine ⟨?_, ?_, ?_, ?_, ?_, ?_, ?_, ?_⟩
    · intro σ a1 r h
      rw [g_X3_readAll] at h
      refine mw_of RX3 (fiZ G) [(0, .ref (gad G 55)), (1, .int a1)] (by decide +kernel) rfl (Nat.le_of_ble_eq_true rfl) rfl h rfl (fun p e s m args below meth c X hr hnm => ?_)
      have J10 : ∀ (v1 : Int32)  (n : Nat)  (σ : Sto), Sm p l e { frames := 10 + (d + 1), cells := 0, slots := 0, locals := 485 + 64 * (d + 1) } s m args below meth c G 2 (Qm below args s G 0 0 (fiZ G)) 0 0 (wl G σ) 10 [(0, .ref (gad G 55)), (1, .int v1)] [] (f_X3_readAll_L10 (g_X3_readAll d)  v1 n σ) := by
        intro v1 n
        induction n with
        | zero => intro σ; rw [f_X3_readAll_L10]; exact sm_none
        | succ n ihl =>
          intro σ
          rw [f_X3_readAll_L10]
          refine sm_aload_n X 11 0 dX3_readAll_10 rfl rfl rfl ?_
          refine sm_geti X 14 rfl fd_3_4 dX3_readAll_11 rfl q_164 ?_
          refine sm_aload_n X 15 0 dX3_readAll_14 rfl rfl rfl ?_
          refine sm_geti X 18 rfl fd_3_3 dX3_readAll_15 rfl q_163 ?_
          refine sm_icmp_ge X 21 59 dX3_readAll_18 rfl (by decide) (fun h18 => ?_) (fun h18 => ?_)
          · refine sm_iconst X 60 (1) dX3_readAll_59 rfl rfl ?_
            exact sm_zret X (v := true) hr dX3_readAll_60 rfl
          · refine sm_aload_n X 22 0 dX3_readAll_21 rfl rfl rfl ?_
            refine sm_bind (fun r22 h22 => ?_)
            refine sm_callV0 X 25 [] [] [.int r22] (c_X3_next l G σ  r22 h22) cw_X3_next q_485 qs_9 q_483 rfl (by decide) rfl rfl rfl rfl rfl (Nat.le_of_ble_eq_true rfl) ⟨by show _ + 1 ≤ _ + (_ + 1); omega, by show _ ≤ _ + 64 * (_ + 1); omega⟩ ⟨Nat.le_refl _, Nat.le_refl _⟩ dX3_readAll_22 rfl ?_
            refine sm_bipush X 27 (38) dX3_readAll_25 rfl rfl ?_
            refine sm_icmp_ne X 30 59 dX3_readAll_27 rfl (by decide) (fun h27 => ?_) (fun h27 => ?_)
            · refine sm_aload_n X 31 0 dX3_readAll_30 rfl rfl rfl ?_
              refine sm_dup X 32 dX3_readAll_31 rfl rfl ?_
              refine sm_geti X 35 rfl fd_3_4 dX3_readAll_32 rfl q_164 ?_
              refine sm_iconst X 36 (1) dX3_readAll_35 rfl rfl ?_
              refine sm_iadd X 37 dX3_readAll_36 rfl ?_
              refine sm_puti X 40 .int rfl fd_3_4 (by decide) rfl rfl rfl dX3_readAll_37 rfl q_164 (fun σ37 e37 => ?_)
              clear e37
              refine sm_aload_n X 41 0 dX3_readAll_40 rfl rfl rfl ?_
              refine sm_iload_n X 42 1 dX3_readAll_41 rfl rfl rfl ?_
              refine sm_bind (fun r42 h42 => ?_)
              refine sm_callV0 X 45 [.int v1] [] [.int (b2i r42.1)] (ih.2.2.2.1 σ37 v1 r42 h42) cw_X3_readComparison q_469 qs_5 q_467 rfl (by decide) rfl rfl rfl rfl rfl (Nat.le_of_ble_eq_true rfl) ⟨by show _ + _ + 1 ≤ _ + (_ + 1); omega, by show _ + (_ + 64 * _) ≤ _ + 64 * (_ + 1); omega⟩ ⟨Nat.le_refl _, Nat.le_refl _⟩ dX3_readAll_42 rfl ?_
              refine sm_ifz_ne X 48 50 dX3_readAll_45 rfl (by decide) (fun h45 => ?_) (fun h45 => ?_)
              · refine sm_aload_n X 51 0 dX3_readAll_50 rfl rfl rfl ?_
                refine sm_bipush X 53 (-38) dX3_readAll_51 rfl rfl ?_
                refine sm_bind (fun r53 h53 => ?_)
                refine sm_callV0 X 56 [.int (-38)] [] [] (c_X3_add l G r42.2 (-38 : Int32) r53 h53) cw_X3_add q_496 qs_11 q_494 rfl (by decide) rfl rfl rfl rfl rfl (Nat.le_of_ble_eq_true rfl) ⟨by show _ + 1 ≤ _ + (_ + 1); omega, by show _ ≤ _ + 64 * (_ + 1); omega⟩ ⟨Nat.le_refl _, Nat.le_refl _⟩ dX3_readAll_53 rfl ?_
                refine sm_goto X 10 dX3_readAll_56 (by decide) ?_
                exact sm_sub [0, 1] rfl (ihl r53)
              · refine sm_iconst X 49 (0) dX3_readAll_48 rfl rfl ?_
                exact sm_zret X (v := false) hr dX3_readAll_49 rfl
            · refine sm_iconst X 60 (1) dX3_readAll_59 rfl rfl ?_
              exact sm_zret X (v := true) hr dX3_readAll_60 rfl
      unfold b_X3_readAll
      refine sm_aload_n X 1 0 dX3_readAll_0 rfl rfl rfl ?_
      refine sm_iload_n X 2 1 dX3_readAll_1 rfl rfl rfl ?_
      refine sm_bind (fun r2 h2 => ?_)
      refine sm_callV0 X 5 [.int a1] [] [.int (b2i r2.1)] (ih.2.2.2.1 σ a1 r2 h2) cw_X3_readComparison q_469 qs_5 q_467 rfl (by decide) rfl rfl rfl rfl rfl (Nat.le_of_ble_eq_true rfl) ⟨by show _ + _ + 1 ≤ _ + (_ + 1); omega, by show _ + (_ + 64 * _) ≤ _ + 64 * (_ + 1); omega⟩ ⟨Nat.le_refl _, Nat.le_refl _⟩ dX3_readAll_2 rfl ?_
      refine sm_ifz_ne X 8 10 dX3_readAll_5 rfl (by decide) (fun h5 => ?_) (fun h5 => ?_)
      · exact sm_sub [0, 1] rfl (J10 a1  FU r2.2)
      · refine sm_iconst X 9 (0) dX3_readAll_8 rfl rfl ?_
        exact sm_zret X (v := false) hr dX3_readAll_9 rfl
    · intro σ a1 r h
      rw [g_X3_readAll] at h
      refine mw_of RX3 (fiZ G) [(0, .ref (gad G 55)), (1, .int a1)] (by decide +kernel) rfl (Nat.le_of_ble_eq_true rfl) rfl h rfl (fun p e s m args below meth c X hr hnm => ?_)
      have J10 : ∀ (v1 : Int32)  (n : Nat)  (σ : Sto), Sm p l e { frames := 10 + (d + 1), cells := 0, slots := 0, locals := 485 + 64 * (d + 1) } s m args below meth c G 2 (Qm below args s G 0 0 (fiZ G)) 0 0 (wl G σ) 10 [(0, .ref (gad G 55)), (1, .int v1)] [] (f_X3_readAny_L10 (g_X3_readAll d)  v1 n σ) := by
        intro v1 n
        induction n with
        | zero => intro σ; rw [f_X3_readAny_L10]; exact sm_none
        | succ n ihl =>
          intro σ
          rw [f_X3_readAny_L10]
          refine sm_aload_n X 11 0 dX3_readAny_10 rfl rfl rfl ?_
          refine sm_geti X 14 rfl fd_3_4 dX3_readAny_11 rfl q_164 ?_
          refine sm_aload_n X 15 0 dX3_readAny_14 rfl rfl rfl ?_
          refine sm_geti X 18 rfl fd_3_3 dX3_readAny_15 rfl q_163 ?_
          refine sm_icmp_ge X 21 59 dX3_readAny_18 rfl (by decide) (fun h18 => ?_) (fun h18 => ?_)
          · refine sm_iconst X 60 (1) dX3_readAny_59 rfl rfl ?_
            exact sm_zret X (v := true) hr dX3_readAny_60 rfl
          · refine sm_aload_n X 22 0 dX3_readAny_21 rfl rfl rfl ?_
            refine sm_bind (fun r22 h22 => ?_)
            refine sm_callV0 X 25 [] [] [.int r22] (c_X3_next l G σ  r22 h22) cw_X3_next q_485 qs_9 q_483 rfl (by decide) rfl rfl rfl rfl rfl (Nat.le_of_ble_eq_true rfl) ⟨by show _ + 1 ≤ _ + (_ + 1); omega, by show _ ≤ _ + 64 * (_ + 1); omega⟩ ⟨Nat.le_refl _, Nat.le_refl _⟩ dX3_readAny_22 rfl ?_
            refine sm_bipush X 27 (124) dX3_readAny_25 rfl rfl ?_
            refine sm_icmp_ne X 30 59 dX3_readAny_27 rfl (by decide) (fun h27 => ?_) (fun h27 => ?_)
            · refine sm_aload_n X 31 0 dX3_readAny_30 rfl rfl rfl ?_
              refine sm_dup X 32 dX3_readAny_31 rfl rfl ?_
              refine sm_geti X 35 rfl fd_3_4 dX3_readAny_32 rfl q_164 ?_
              refine sm_iconst X 36 (1) dX3_readAny_35 rfl rfl ?_
              refine sm_iadd X 37 dX3_readAny_36 rfl ?_
              refine sm_puti X 40 .int rfl fd_3_4 (by decide) rfl rfl rfl dX3_readAny_37 rfl q_164 (fun σ37 e37 => ?_)
              clear e37
              refine sm_aload_n X 41 0 dX3_readAny_40 rfl rfl rfl ?_
              refine sm_iload_n X 42 1 dX3_readAny_41 rfl rfl rfl ?_
              refine sm_bind (fun r42 h42 => ?_)
              refine sm_callV0 X 45 [.int v1] [] [.int (b2i r42.1)] (ih.1 σ37 v1 r42 h42) cw_X3_readAll q_465 qs_4 q_463 rfl (by decide) rfl rfl rfl rfl rfl (Nat.le_of_ble_eq_true rfl) ⟨by show _ + _ + 1 ≤ _ + (_ + 1); omega, by show _ + (_ + 64 * _) ≤ _ + 64 * (_ + 1); omega⟩ ⟨Nat.le_refl _, Nat.le_refl _⟩ dX3_readAny_42 rfl ?_
              refine sm_ifz_ne X 48 50 dX3_readAny_45 rfl (by decide) (fun h45 => ?_) (fun h45 => ?_)
              · refine sm_aload_n X 51 0 dX3_readAny_50 rfl rfl rfl ?_
                refine sm_bipush X 53 (-124) dX3_readAny_51 rfl rfl ?_
                refine sm_bind (fun r53 h53 => ?_)
                refine sm_callV0 X 56 [.int (-124)] [] [] (c_X3_add l G r42.2 (-124 : Int32) r53 h53) cw_X3_add q_496 qs_11 q_494 rfl (by decide) rfl rfl rfl rfl rfl (Nat.le_of_ble_eq_true rfl) ⟨by show _ + 1 ≤ _ + (_ + 1); omega, by show _ ≤ _ + 64 * (_ + 1); omega⟩ ⟨Nat.le_refl _, Nat.le_refl _⟩ dX3_readAny_53 rfl ?_
                refine sm_goto X 10 dX3_readAny_56 (by decide) ?_
                exact sm_sub [0, 1] rfl (ihl r53)
              · refine sm_iconst X 49 (0) dX3_readAny_48 rfl rfl ?_
                exact sm_zret X (v := false) hr dX3_readAny_49 rfl
            · refine sm_iconst X 60 (1) dX3_readAny_59 rfl rfl ?_
              exact sm_zret X (v := true) hr dX3_readAny_60 rfl
      unfold b_X3_readAny
      refine sm_aload_n X 1 0 dX3_readAny_0 rfl rfl rfl ?_
      refine sm_iload_n X 2 1 dX3_readAny_1 rfl rfl rfl ?_
      refine sm_bind (fun r2 h2 => ?_)
      refine sm_callV0 X 5 [.int a1] [] [.int (b2i r2.1)] (ih.1 σ a1 r2 h2) cw_X3_readAll q_465 qs_4 q_463 rfl (by decide) rfl rfl rfl rfl rfl (Nat.le_of_ble_eq_true rfl) ⟨by show _ + _ + 1 ≤ _ + (_ + 1); omega, by show _ + (_ + 64 * _) ≤ _ + 64 * (_ + 1); omega⟩ ⟨Nat.le_refl _, Nat.le_refl _⟩ dX3_readAny_2 rfl ?_
      refine sm_ifz_ne X 8 10 dX3_readAny_5 rfl (by decide) (fun h5 => ?_) (fun h5 => ?_)
      · exact sm_sub [0, 1] rfl (J10 a1  FU r2.2)
      · refine sm_iconst X 9 (0) dX3_readAny_8 rfl rfl ?_
        exact sm_zret X (v := false) hr dX3_readAny_9 rfl
    · intro σ a1 r h
      rw [g_X3_readAll] at h
      refine mw_of RX3 (fiZ G) [(0, .ref (gad G 55)), (1, .int a1)] (by decide +kernel) rfl (Nat.le_of_ble_eq_true rfl) rfl h rfl (fun p e s m args below meth c X hr hnm => ?_)
      unfold b_X3_readBracket
      refine sm_aload_n X 1 0 dX3_readBracket_0 rfl rfl rfl ?_
      refine sm_iload_n X 2 1 dX3_readBracket_1 rfl rfl rfl ?_
      refine sm_bind (fun r2 h2 => ?_)
      refine sm_callV0 X 5 [.int a1] [] [.int (b2i r2.1)] (ih.2.1 σ a1 r2 h2) cw_X3_readAny q_461 qs_3 q_459 rfl (by decide) rfl rfl rfl rfl rfl (Nat.le_of_ble_eq_true rfl) ⟨by show _ + _ + 1 ≤ _ + (_ + 1); omega, by show _ + (_ + 64 * _) ≤ _ + 64 * (_ + 1); omega⟩ ⟨Nat.le_refl _, Nat.le_refl _⟩ dX3_readBracket_2 rfl ?_
      refine sm_ifz_eq X 8 17 dX3_readBracket_5 rfl (by decide) (fun h5 => ?_) (fun h5 => ?_)
      · refine sm_aload_n X 9 0 dX3_readBracket_8 rfl rfl rfl ?_
        refine sm_bind (fun r9 h9 => ?_)
        refine sm_callV0 X 12 [] [] [.int r9] (c_X3_next l G r2.2  r9 h9) cw_X3_next q_485 qs_9 q_483 rfl (by decide) rfl rfl rfl rfl rfl (Nat.le_of_ble_eq_true rfl) ⟨by show _ + 1 ≤ _ + (_ + 1); omega, by show _ ≤ _ + 64 * (_ + 1); omega⟩ ⟨Nat.le_refl _, Nat.le_refl _⟩ dX3_readBracket_9 rfl ?_
        refine sm_bipush X 14 (41) dX3_readBracket_12 rfl rfl ?_
        refine sm_icmp_eq X 17 19 dX3_readBracket_14 rfl (by decide) (fun h14 => ?_) (fun h14 => ?_)
        · refine sm_aload_n X 20 0 dX3_readBracket_19 rfl rfl rfl ?_
          refine sm_dup X 21 dX3_readBracket_20 rfl rfl ?_
          refine sm_geti X 24 rfl fd_3_4 dX3_readBracket_21 rfl q_164 ?_
          refine sm_iconst X 25 (1) dX3_readBracket_24 rfl rfl ?_
          refine sm_iadd X 26 dX3_readBracket_25 rfl ?_
          refine sm_puti X 29 .int rfl fd_3_4 (by decide) rfl rfl rfl dX3_readBracket_26 rfl q_164 (fun σ26 e26 => ?_)
          clear e26
          refine sm_iconst X 30 (1) dX3_readBracket_29 rfl rfl ?_
          exact sm_zret X (v := true) hr dX3_readBracket_30 rfl
        · refine sm_iconst X 18 (0) dX3_readBracket_17 rfl rfl ?_
          exact sm_zret X (v := false) hr dX3_readBracket_18 rfl
      · refine sm_iconst X 18 (0) dX3_readBracket_17 rfl rfl ?_
        exact sm_zret X (v := false) hr dX3_readBracket_18 rfl
    · intro σ a1 r h
      rw [g_X3_readAll] at h
      refine mw_of RX3 (fiZ G) [(0, .ref (gad G 55)), (1, .int a1)] (by decide +kernel) rfl (Nat.le_of_ble_eq_true rfl) rfl h rfl (fun p e s m args below meth c X hr hnm => ?_)
      have J33 : ∀ (v1 : Int32) (v2 : Int32)  (σ : Sto), Sm p l e { frames := 10 + (d + 1), cells := 0, slots := 0, locals := 485 + 64 * (d + 1) } s m args below meth c G 3 (Qm below args s G 0 0 (fiZ G)) 0 0 (wl G σ) 33 [(0, .ref (gad G 55)), (1, .int v1), (2, .int v2)] [] (f_X3_readComparison_L33 (g_X3_readAll d)  v1 v2 σ) := by
        intro v1 v2 σ
        rw [f_X3_readComparison_L33]
        refine sm_aload_n X 34 0 dX3_readComparison_33 rfl rfl rfl ?_
        refine sm_dup X 35 dX3_readComparison_34 rfl rfl ?_
        refine sm_geti X 38 rfl fd_3_4 dX3_readComparison_35 rfl q_164 ?_
        refine sm_iconst X 39 (1) dX3_readComparison_38 rfl rfl ?_
        refine sm_iadd X 40 dX3_readComparison_39 rfl ?_
        refine sm_puti X 43 .int rfl fd_3_4 (by decide) rfl rfl rfl dX3_readComparison_40 rfl q_164 (fun σ40 e40 => ?_)
        clear e40
        refine sm_aload_n X 44 0 dX3_readComparison_43 rfl rfl rfl ?_
        refine sm_iload_n X 45 1 dX3_readComparison_44 rfl rfl rfl ?_
        refine sm_bind (fun r45 h45 => ?_)
        refine sm_callV0 X 48 [.int v1] [] [.int (b2i r45.1)] (ih.2.2.2.2.2.2.2 σ40 v1 r45 h45) cw_X3_readSum q_473 qs_6 q_471 rfl (by decide) rfl rfl rfl rfl rfl (Nat.le_of_ble_eq_true rfl) ⟨by show _ + _ + 1 ≤ _ + (_ + 1); omega, by show _ + (_ + 64 * _) ≤ _ + 64 * (_ + 1); omega⟩ ⟨Nat.le_refl _, Nat.le_refl _⟩ dX3_readComparison_45 rfl ?_
        refine sm_ifz_ne X 51 53 dX3_readComparison_48 rfl (by decide) (fun h48 => ?_) (fun h48 => ?_)
        · refine sm_aload_n X 54 0 dX3_readComparison_53 rfl rfl rfl ?_
          refine sm_iload_n X 55 2 dX3_readComparison_54 rfl rfl rfl ?_
          refine sm_ineg X 56 dX3_readComparison_55 rfl ?_
          refine sm_bind (fun r56 h56 => ?_)
          refine sm_callV0 X 59 [.int (-v2)] [] [] (c_X3_add l G r45.2 (-v2) r56 h56) cw_X3_add q_496 qs_11 q_494 rfl (by decide) rfl rfl rfl rfl rfl (Nat.le_of_ble_eq_true rfl) ⟨by show _ + 1 ≤ _ + (_ + 1); omega, by show _ ≤ _ + 64 * (_ + 1); omega⟩ ⟨Nat.le_refl _, Nat.le_refl _⟩ dX3_readComparison_56 rfl ?_
          refine sm_iconst X 60 (1) dX3_readComparison_59 rfl rfl ?_
          exact sm_zret X (v := true) hr dX3_readComparison_60 rfl
        · refine sm_iconst X 52 (0) dX3_readComparison_51 rfl rfl ?_
          exact sm_zret X (v := false) hr dX3_readComparison_52 rfl
      unfold b_X3_readComparison
      refine sm_aload_n X 1 0 dX3_readComparison_0 rfl rfl rfl ?_
      refine sm_iload_n X 2 1 dX3_readComparison_1 rfl rfl rfl ?_
      refine sm_bind (fun r2 h2 => ?_)
      refine sm_callV0 X 5 [.int a1] [] [.int (b2i r2.1)] (ih.2.2.2.2.2.2.2 σ a1 r2 h2) cw_X3_readSum q_473 qs_6 q_471 rfl (by decide) rfl rfl rfl rfl rfl (Nat.le_of_ble_eq_true rfl) ⟨by show _ + _ + 1 ≤ _ + (_ + 1); omega, by show _ + (_ + 64 * _) ≤ _ + 64 * (_ + 1); omega⟩ ⟨Nat.le_refl _, Nat.le_refl _⟩ dX3_readComparison_2 rfl ?_
      refine sm_ifz_ne X 8 10 dX3_readComparison_5 rfl (by decide) (fun h5 => ?_) (fun h5 => ?_)
      · refine sm_aload_n X 11 0 dX3_readComparison_10 rfl rfl rfl ?_
        refine sm_bind (fun r11 h11 => ?_)
        refine sm_callV0 X 14 [] [] [.int r11] (c_X3_next l G r2.2  r11 h11) cw_X3_next q_485 qs_9 q_483 rfl (by decide) rfl rfl rfl rfl rfl (Nat.le_of_ble_eq_true rfl) ⟨by show _ + 1 ≤ _ + (_ + 1); omega, by show _ ≤ _ + 64 * (_ + 1); omega⟩ ⟨Nat.le_refl _, Nat.le_refl _⟩ dX3_readComparison_11 rfl ?_
        refine sm_istore_n X 15 [(2, .int r11), (0, .ref (gad G 55)), (1, .int a1)] dX3_readComparison_14 rfl rfl (by decide) rfl ?_
        refine sm_iload_n X 16 0 dX3_readComparison_15 rfl rfl rfl ?_
        refine sm_bipush X 18 (60) dX3_readComparison_16 rfl rfl ?_
        refine sm_icmp_eq X 21 33 dX3_readComparison_18 rfl (by decide) (fun h18 => ?_) (fun h18 => ?_)
        · exact sm_sub [1, 2, 0] rfl (J33 a1 r11  r2.2)
        · refine sm_iload_n X 22 0 dX3_readComparison_21 rfl rfl rfl ?_
          refine sm_bipush X 24 (61) dX3_readComparison_22 rfl rfl ?_
          refine sm_icmp_eq X 27 33 dX3_readComparison_24 rfl (by decide) (fun h24 => ?_) (fun h24 => ?_)
          · exact sm_sub [1, 2, 0] rfl (J33 a1 r11  r2.2)
          · refine sm_iload_n X 28 0 dX3_readComparison_27 rfl rfl rfl ?_
            refine sm_bipush X 30 (62) dX3_readComparison_28 rfl rfl ?_
            refine sm_icmp_ne X 33 59 dX3_readComparison_30 rfl (by decide) (fun h30 => ?_) (fun h30 => ?_)
            · exact sm_sub [1, 2, 0] rfl (J33 a1 r11  r2.2)
            · refine sm_iconst X 60 (1) dX3_readComparison_59 rfl rfl ?_
              exact sm_zret X (v := true) hr dX3_readComparison_60 rfl
      · refine sm_iconst X 9 (0) dX3_readComparison_8 rfl rfl ?_
        exact sm_zret X (v := false) hr dX3_readComparison_9 rfl
    · intro σ a1 r h
      rw [g_X3_readAll] at h
      refine mw_of RX3 (fiZ G) [(0, .ref (gad G 55)), (1, .int a1)] (by decide +kernel) rfl (Nat.le_of_ble_eq_true rfl) rfl h rfl (fun p e s m args below meth c X hr hnm => ?_)
      unfold b_X3_readNot
      refine sm_aload_n X 1 0 dX3_readNot_0 rfl rfl rfl ?_
      refine sm_iload_n X 2 1 dX3_readNot_1 rfl rfl rfl ?_
      refine sm_bind (fun r2 h2 => ?_)
      refine sm_callV0 X 5 [.int a1] [] [.int (b2i r2.1)] (ih.2.2.2.2.2.1 σ a1 r2 h2) cw_X3_readPart q_481 qs_8 q_479 rfl (by decide) rfl rfl rfl rfl rfl (Nat.le_of_ble_eq_true rfl) ⟨by show _ + _ + 1 ≤ _ + (_ + 1); omega, by show _ + (_ + 64 * _) ≤ _ + 64 * (_ + 1); omega⟩ ⟨Nat.le_refl _, Nat.le_refl _⟩ dX3_readNot_2 rfl ?_
      refine sm_ifz_ne X 8 10 dX3_readNot_5 rfl (by decide) (fun h5 => ?_) (fun h5 => ?_)
      · refine sm_aload_n X 11 0 dX3_readNot_10 rfl rfl rfl ?_
        refine sm_bipush X 13 (-33) dX3_readNot_11 rfl rfl ?_
        refine sm_bind (fun r13 h13 => ?_)
        refine sm_callV0 X 16 [.int (-33)] [] [] (c_X3_add l G r2.2 (-33 : Int32) r13 h13) cw_X3_add q_496 qs_11 q_494 rfl (by decide) rfl rfl rfl rfl rfl (Nat.le_of_ble_eq_true rfl) ⟨by show _ + 1 ≤ _ + (_ + 1); omega, by show _ ≤ _ + 64 * (_ + 1); omega⟩ ⟨Nat.le_refl _, Nat.le_refl _⟩ dX3_readNot_13 rfl ?_
        refine sm_iconst X 17 (1) dX3_readNot_16 rfl rfl ?_
        exact sm_zret X (v := true) hr dX3_readNot_17 rfl
      · refine sm_iconst X 9 (0) dX3_readNot_8 rfl rfl ?_
        exact sm_zret X (v := false) hr dX3_readNot_9 rfl
    · intro σ a1 r h
      rw [g_X3_readAll] at h
      refine mw_of RX3 (fiZ G) [(0, .ref (gad G 55)), (1, .int a1)] (by decide +kernel) rfl (Nat.le_of_ble_eq_true rfl) rfl h rfl (fun p e s m args below meth c X hr hnm => ?_)
      have J78 : ∀ (v1 : Int32) (v2 : Int32)  (σ : Sto), Sm p l e { frames := 10 + (d + 1), cells := 0, slots := 0, locals := 485 + 64 * (d + 1) } s m args below meth c G 4 (Qm below args s G 0 0 (fiZ G)) 0 0 (wl G σ) 78 [(0, .ref (gad G 55)), (1, .int v1), (2, .int v2)] [] (f_X3_readPart_L78 (g_X3_readAll d)  v1 v2 σ) := by
        intro v1 v2 σ
        rw [f_X3_readPart_L78]
        refine sm_aload_n X 79 0 dX3_readPart_78 rfl rfl rfl ?_
        refine sm_dup X 80 dX3_readPart_79 rfl rfl ?_
        refine sm_geti X 83 rfl fd_3_4 dX3_readPart_80 rfl q_164 ?_
        refine sm_iconst X 84 (1) dX3_readPart_83 rfl rfl ?_
        refine sm_iadd X 85 dX3_readPart_84 rfl ?_
        refine sm_puti X 88 .int rfl fd_3_4 (by decide) rfl rfl rfl dX3_readPart_85 rfl q_164 (fun σ85 e85 => ?_)
        clear e85
        refine sm_iload_n X 89 2 dX3_readPart_88 rfl rfl rfl ?_
        refine sm_bipush X 91 (33) dX3_readPart_89 rfl rfl ?_
        refine sm_icmp_ne X 94 102 dX3_readPart_91 rfl (by decide) (fun h91 => ?_) (fun h91 => ?_)
        · refine sm_aload_n X 95 0 dX3_readPart_94 rfl rfl rfl ?_
          refine sm_iload_n X 96 1 dX3_readPart_95 rfl rfl rfl ?_
          refine sm_iconst X 97 (1) dX3_readPart_96 rfl rfl ?_
          refine sm_iadd X 98 dX3_readPart_97 rfl ?_
          refine sm_bind (fun r98 h98 => ?_)
          refine sm_callV0 X 101 [.int (v1 + (1 : Int32))] [] [.int (b2i r98.1)] (ih.2.2.2.2.1 σ85 (v1 + (1 : Int32)) r98 h98) cw_X3_readNot q_582 qs_12 q_580 rfl (by decide) rfl rfl rfl rfl rfl (Nat.le_of_ble_eq_true rfl) ⟨by show _ + _ + 1 ≤ _ + (_ + 1); omega, by show _ + (_ + 64 * _) ≤ _ + 64 * (_ + 1); omega⟩ ⟨Nat.le_refl _, Nat.le_refl _⟩ dX3_readPart_98 rfl ?_
          exact sm_zret X (v := r98.1) hr dX3_readPart_101 rfl
        · refine sm_aload_n X 103 0 dX3_readPart_102 rfl rfl rfl ?_
          refine sm_iload_n X 104 1 dX3_readPart_103 rfl rfl rfl ?_
          refine sm_iconst X 105 (1) dX3_readPart_104 rfl rfl ?_
          refine sm_iadd X 106 dX3_readPart_105 rfl ?_
          refine sm_bind (fun r106 h106 => ?_)
          refine sm_callV0 X 109 [.int (v1 + (1 : Int32))] [] [.int (b2i r106.1)] (ih.2.2.1 σ85 (v1 + (1 : Int32)) r106 h106) cw_X3_readBracket q_586 qs_13 q_584 rfl (by decide) rfl rfl rfl rfl rfl (Nat.le_of_ble_eq_true rfl) ⟨by show _ + _ + 1 ≤ _ + (_ + 1); omega, by show _ + (_ + 64 * _) ≤ _ + 64 * (_ + 1); omega⟩ ⟨Nat.le_refl _, Nat.le_refl _⟩ dX3_readPart_106 rfl ?_
          exact sm_zret X (v := r106.1) hr dX3_readPart_109 rfl
      have J35 : ∀ (v1 : Int32) (v2 : Int32) (vs0 : Int32)  (σ : Sto), Sm p l e { frames := 10 + (d + 1), cells := 0, slots := 0, locals := 485 + 64 * (d + 1) } s m args below meth c G 4 (Qm below args s G 0 0 (fiZ G)) 0 0 (wl G σ) 35 [(0, .ref (gad G 55)), (1, .int v1), (2, .int v2)] [.int vs0] (f_X3_readPart_L35 (g_X3_readAll d)  v1 v2 vs0 σ) := by
        intro v1 v2 vs0 σ
        rw [f_X3_readPart_L35]
        refine sm_istore_n X 36 [(3, .int vs0), (0, .ref (gad G 55)), (1, .int v1), (2, .int v2)] dX3_readPart_35 rfl rfl (by decide) rfl ?_
        refine sm_iload_n X 37 0 dX3_readPart_36 rfl rfl rfl ?_
        refine sm_if_lt X 40 59 dX3_readPart_37 rfl (by decide) (fun h37 => ?_) (fun h37 => ?_)
        · refine sm_iload_n X 60 2 dX3_readPart_59 rfl rfl rfl ?_
          refine sm_iconst X 61 (5) dX3_readPart_60 rfl rfl ?_
          refine sm_icmp_ge X 64 76 dX3_readPart_61 rfl (by decide) (fun h61 => ?_) (fun h61 => ?_)
          · refine sm_iconst X 77 (0) dX3_readPart_76 rfl rfl ?_
            exact sm_zret X (v := false) hr dX3_readPart_77 rfl
          · refine sm_iload_n X 65 3 dX3_readPart_64 rfl rfl rfl ?_
            refine sm_bipush X 67 (33) dX3_readPart_65 rfl rfl ?_
            refine sm_icmp_eq X 70 78 dX3_readPart_67 rfl (by decide) (fun h67 => ?_) (fun h67 => ?_)
            · exact sm_sub [1, 2, 3] rfl (J78 v1 v2  σ)
            · refine sm_iload_n X 71 3 dX3_readPart_70 rfl rfl rfl ?_
              refine sm_bipush X 73 (40) dX3_readPart_71 rfl rfl ?_
              refine sm_icmp_eq X 76 78 dX3_readPart_73 rfl (by decide) (fun h73 => ?_) (fun h73 => ?_)
              · exact sm_sub [1, 2, 3] rfl (J78 v1 v2  σ)
              · refine sm_iconst X 77 (0) dX3_readPart_76 rfl rfl ?_
                exact sm_zret X (v := false) hr dX3_readPart_77 rfl
        · refine sm_aload_n X 41 1 dX3_readPart_40 rfl rfl rfl ?_
          refine sm_dup X 42 dX3_readPart_41 rfl rfl ?_
          refine sm_geti X 45 rfl fd_3_4 dX3_readPart_42 rfl q_164 ?_
          refine sm_iconst X 46 (1) dX3_readPart_45 rfl rfl ?_
          refine sm_iadd X 47 dX3_readPart_46 rfl ?_
          refine sm_puti X 50 .int rfl fd_3_4 (by decide) rfl rfl rfl dX3_readPart_47 rfl q_164 (fun σ47 e47 => ?_)
          clear e47
          refine sm_aload_n X 51 1 dX3_readPart_50 rfl rfl rfl ?_
          refine sm_iconst X 52 (-1) dX3_readPart_51 rfl rfl ?_
          refine sm_iload_n X 53 0 dX3_readPart_52 rfl rfl rfl ?_
          refine sm_isub X 54 dX3_readPart_53 rfl ?_
          refine sm_bind (fun r54 h54 => ?_)
          refine sm_callV0 X 57 [.int ((-1 : Int32) - vs0)] [] [] (c_X3_add l G σ47 ((-1 : Int32) - vs0) r54 h54) cw_X3_add q_496 qs_11 q_494 rfl (by decide) rfl rfl rfl rfl rfl (Nat.le_of_ble_eq_true rfl) ⟨by show _ + 1 ≤ _ + (_ + 1); omega, by show _ ≤ _ + 64 * (_ + 1); omega⟩ ⟨Nat.le_refl _, Nat.le_refl _⟩ dX3_readPart_54 rfl ?_
          refine sm_iconst X 58 (1) dX3_readPart_57 rfl rfl ?_
          exact sm_zret X (v := true) hr dX3_readPart_58 rfl
      unfold b_X3_readPart
      refine sm_aload_n X 1 0 dX3_readPart_0 rfl rfl rfl ?_
      refine sm_bind (fun r1 h1 => ?_)
      refine sm_callV0 X 4 [] [] [.int r1] (c_X3_next l G σ  r1 h1) cw_X3_next q_485 qs_9 q_483 rfl (by decide) rfl rfl rfl rfl rfl (Nat.le_of_ble_eq_true rfl) ⟨by show _ + 1 ≤ _ + (_ + 1); omega, by show _ ≤ _ + 64 * (_ + 1); omega⟩ ⟨Nat.le_refl _, Nat.le_refl _⟩ dX3_readPart_1 rfl ?_
      refine sm_istore_n X 5 [(2, .int r1), (0, .ref (gad G 55)), (1, .int a1)] dX3_readPart_4 rfl rfl (by decide) rfl ?_
      refine sm_iload_n X 6 0 dX3_readPart_5 rfl rfl rfl ?_
      refine sm_bind (fun r6 h6 => ?_)
      refine sm_callS0 X 9 [.int r1] [] [.int (b2i r6)] (c_X3_isDigit l G σ r1 r6 h6) cw_X3_isDigit q_488 q_487 rfl rfl rfl (Nat.le_of_ble_eq_true rfl) ⟨by show _ + 1 ≤ _ + (_ + 1); omega, by show _ ≤ _ + 64 * (_ + 1); omega⟩ ⟨Nat.le_refl _, Nat.le_refl _⟩ dX3_readPart_6 rfl ?_
      refine sm_ifz_eq X 12 18 dX3_readPart_9 rfl (by decide) (fun h9 => ?_) (fun h9 => ?_)
      · refine sm_aload_n X 13 1 dX3_readPart_12 rfl rfl rfl ?_
        refine sm_bind (fun r13 h13 => ?_)
        refine sm_callV0 X 16 [] [] [] (c_X3_readNumber l G σ  r13 h13) cw_X3_readNumber q_492 qs_10 q_490 rfl (by decide) rfl rfl rfl rfl rfl (Nat.le_of_ble_eq_true rfl) ⟨by show _ + 1 ≤ _ + (_ + 1); omega, by show _ ≤ _ + 64 * (_ + 1); omega⟩ ⟨Nat.le_refl _, Nat.le_refl _⟩ dX3_readPart_13 rfl ?_
        refine sm_iconst X 17 (1) dX3_readPart_16 rfl rfl ?_
        exact sm_zret X (v := true) hr dX3_readPart_17 rfl
      · refine sm_iload_n X 19 0 dX3_readPart_18 rfl rfl rfl ?_
        refine sm_if_ge X 22 26 dX3_readPart_19 rfl (by decide) (fun h19 => ?_) (fun h19 => ?_)
        · refine sm_aload_n X 27 1 dX3_readPart_26 rfl rfl rfl ?_
          refine sm_getrN X 30 rfl fd_3_5 dX3_readPart_27 rfl q_165 (fun r27 e27 => ?_)
          clear e27
          refine sm_iload_n X 31 0 dX3_readPart_30 rfl rfl rfl ?_
          refine sm_i2c X 32 dX3_readPart_31 rfl ?_
          refine sm_derefS (fun i32 hi32 h => ?_)
          subst h
          refine sm_bind (fun r32 h32 => ?_)
          refine sm_callStr X 35 [.int (i2c r1)] [] [.int r32] (c_ixS l G σ i32 (i2c r1) r32 hi32 h32) hi32 cw_ixS q_499 q_500 q_498 rfl rfl rfl rfl (Nat.le_of_ble_eq_true rfl) ⟨by show _ + 1 ≤ _ + (_ + 1); omega, by show _ ≤ _ + 64 * (_ + 1); omega⟩ ⟨Nat.le_refl _, Nat.le_refl _⟩ dX3_readPart_32 rfl ?_
          exact sm_sub [1, 2, 0] rfl (J35 a1 r1 r32  σ)
        · refine sm_iconst X 23 (-1) dX3_readPart_22 rfl rfl ?_
          refine sm_goto X 35 dX3_readPart_23 (by decide) ?_
          exact sm_sub [1, 2, 0] rfl (J35 a1 r1 (-1 : Int32)  σ)
    · intro σ a1 r h
      rw [g_X3_readAll] at h
      refine mw_of RX3 (fiZ G) [(0, .ref (gad G 55)), (1, .int a1)] (by decide +kernel) rfl (Nat.le_of_ble_eq_true rfl) rfl h rfl (fun p e s m args below meth c X hr hnm => ?_)
      have J48 : ∀ (v1 : Int32) (K10 : Sto → Option (Bool × Sto)) (hK10 : ∀ (σ' : Sto), Sm p l e { frames := 10 + (d + 1), cells := 0, slots := 0, locals := 485 + 64 * (d + 1) } s m args below meth c G 3 (Qm below args s G 0 0 (fiZ G)) 0 0 (wl G σ') 10 [(0, .ref (gad G 55)), (1, .int v1)] [] (K10 σ')) (σ : Sto), Sm p l e { frames := 10 + (d + 1), cells := 0, slots := 0, locals := 485 + 64 * (d + 1) } s m args below meth c G 3 (Qm below args s G 0 0 (fiZ G)) 0 0 (wl G σ) 48 [(0, .ref (gad G 55)), (1, .int v1)] [] (f_X3_readProduct_L48 (g_X3_readAll d) K10 v1 σ) := by
        intro v1 K10 hK10 σ
        rw [f_X3_readProduct_L48]
        refine sm_aload_n X 49 0 dX3_readProduct_48 rfl rfl rfl ?_
        refine sm_bind (fun r49 h49 => ?_)
        refine sm_callV0 X 52 [] [] [.int r49] (c_X3_next l G σ  r49 h49) cw_X3_next q_485 qs_9 q_483 rfl (by decide) rfl rfl rfl rfl rfl (Nat.le_of_ble_eq_true rfl) ⟨by show _ + 1 ≤ _ + (_ + 1); omega, by show _ ≤ _ + 64 * (_ + 1); omega⟩ ⟨Nat.le_refl _, Nat.le_refl _⟩ dX3_readProduct_49 rfl ?_
        refine sm_istore_n X 53 [(2, .int r49), (0, .ref (gad G 55)), (1, .int v1)] dX3_readProduct_52 rfl rfl (by decide) rfl ?_
        refine sm_aload_n X 54 1 dX3_readProduct_53 rfl rfl rfl ?_
        refine sm_dup X 55 dX3_readProduct_54 rfl rfl ?_
        refine sm_geti X 58 rfl fd_3_4 dX3_readProduct_55 rfl q_164 ?_
        refine sm_iconst X 59 (1) dX3_readProduct_58 rfl rfl ?_
        refine sm_iadd X 60 dX3_readProduct_59 rfl ?_
        refine sm_puti X 63 .int rfl fd_3_4 (by decide) rfl rfl rfl dX3_readProduct_60 rfl q_164 (fun σ60 e60 => ?_)
        clear e60
        refine sm_aload_n X 64 1 dX3_readProduct_63 rfl rfl rfl ?_
        refine sm_iload_n X 65 2 dX3_readProduct_64 rfl rfl rfl ?_
        refine sm_bind (fun r65 h65 => ?_)
        refine sm_callV0 X 68 [.int v1] [] [.int (b2i r65.1)] (ih.2.2.2.2.2.1 σ60 v1 r65 h65) cw_X3_readPart q_481 qs_8 q_479 rfl (by decide) rfl rfl rfl rfl rfl (Nat.le_of_ble_eq_true rfl) ⟨by show _ + _ + 1 ≤ _ + (_ + 1); omega, by show _ + (_ + 64 * _) ≤ _ + 64 * (_ + 1); omega⟩ ⟨Nat.le_refl _, Nat.le_refl _⟩ dX3_readProduct_65 rfl ?_
        refine sm_ifz_ne X 71 73 dX3_readProduct_68 rfl (by decide) (fun h68 => ?_) (fun h68 => ?_)
        · refine sm_aload_n X 74 1 dX3_readProduct_73 rfl rfl rfl ?_
          refine sm_iload_n X 75 0 dX3_readProduct_74 rfl rfl rfl ?_
          refine sm_ineg X 76 dX3_readProduct_75 rfl ?_
          refine sm_bind (fun r76 h76 => ?_)
          refine sm_callV0 X 79 [.int (-r49)] [] [] (c_X3_add l G r65.2 (-r49) r76 h76) cw_X3_add q_496 qs_11 q_494 rfl (by decide) rfl rfl rfl rfl rfl (Nat.le_of_ble_eq_true rfl) ⟨by show _ + 1 ≤ _ + (_ + 1); omega, by show _ ≤ _ + 64 * (_ + 1); omega⟩ ⟨Nat.le_refl _, Nat.le_refl _⟩ dX3_readProduct_76 rfl ?_
          refine sm_goto X 10 dX3_readProduct_79 (by decide) ?_
          exact sm_sub [1, 2] rfl (hK10 r76)
        · refine sm_iconst X 72 (0) dX3_readProduct_71 rfl rfl ?_
          exact sm_zret X (v := false) hr dX3_readProduct_72 rfl
      have J10 : ∀ (v1 : Int32)  (n : Nat)  (σ : Sto), Sm p l e { frames := 10 + (d + 1), cells := 0, slots := 0, locals := 485 + 64 * (d + 1) } s m args below meth c G 3 (Qm below args s G 0 0 (fiZ G)) 0 0 (wl G σ) 10 [(0, .ref (gad G 55)), (1, .int v1)] [] (f_X3_readProduct_L10 (g_X3_readAll d)  v1 n σ) := by
        intro v1 n
        induction n with
        | zero => intro σ; rw [f_X3_readProduct_L10]; exact sm_none
        | succ n ihl =>
          intro σ
          rw [f_X3_readProduct_L10]
          refine sm_aload_n X 11 0 dX3_readProduct_10 rfl rfl rfl ?_
          refine sm_geti X 14 rfl fd_3_4 dX3_readProduct_11 rfl q_164 ?_
          refine sm_aload_n X 15 0 dX3_readProduct_14 rfl rfl rfl ?_
          refine sm_geti X 18 rfl fd_3_3 dX3_readProduct_15 rfl q_163 ?_
          refine sm_icmp_ge X 21 82 dX3_readProduct_18 rfl (by decide) (fun h18 => ?_) (fun h18 => ?_)
          · refine sm_iconst X 83 (1) dX3_readProduct_82 rfl rfl ?_
            exact sm_zret X (v := true) hr dX3_readProduct_83 rfl
          · refine sm_aload_n X 22 0 dX3_readProduct_21 rfl rfl rfl ?_
            refine sm_bind (fun r22 h22 => ?_)
            refine sm_callV0 X 25 [] [] [.int r22] (c_X3_next l G σ  r22 h22) cw_X3_next q_485 qs_9 q_483 rfl (by decide) rfl rfl rfl rfl rfl (Nat.le_of_ble_eq_true rfl) ⟨by show _ + 1 ≤ _ + (_ + 1); omega, by show _ ≤ _ + 64 * (_ + 1); omega⟩ ⟨Nat.le_refl _, Nat.le_refl _⟩ dX3_readProduct_22 rfl ?_
            refine sm_bipush X 27 (42) dX3_readProduct_25 rfl rfl ?_
            refine sm_icmp_eq X 30 48 dX3_readProduct_27 rfl (by decide) (fun h27 => ?_) (fun h27 => ?_)
            · exact sm_sub [0, 1] rfl (J48 v1 (f_X3_readProduct_L10 (g_X3_readAll d)  v1 n) ihl σ)
            · refine sm_aload_n X 31 0 dX3_readProduct_30 rfl rfl rfl ?_
              refine sm_bind (fun r31 h31 => ?_)
              refine sm_callV0 X 34 [] [] [.int r31] (c_X3_next l G σ  r31 h31) cw_X3_next q_485 qs_9 q_483 rfl (by decide) rfl rfl rfl rfl rfl (Nat.le_of_ble_eq_true rfl) ⟨by show _ + 1 ≤ _ + (_ + 1); omega, by show _ ≤ _ + 64 * (_ + 1); omega⟩ ⟨Nat.le_refl _, Nat.le_refl _⟩ dX3_readProduct_31 rfl ?_
              refine sm_bipush X 36 (47) dX3_readProduct_34 rfl rfl ?_
              refine sm_icmp_eq X 39 48 dX3_readProduct_36 rfl (by decide) (fun h36 => ?_) (fun h36 => ?_)
              · exact sm_sub [0, 1] rfl (J48 v1 (f_X3_readProduct_L10 (g_X3_readAll d)  v1 n) ihl σ)
              · refine sm_aload_n X 40 0 dX3_readProduct_39 rfl rfl rfl ?_
                refine sm_bind (fun r40 h40 => ?_)
                refine sm_callV0 X 43 [] [] [.int r40] (c_X3_next l G σ  r40 h40) cw_X3_next q_485 qs_9 q_483 rfl (by decide) rfl rfl rfl rfl rfl (Nat.le_of_ble_eq_true rfl) ⟨by show _ + 1 ≤ _ + (_ + 1); omega, by show _ ≤ _ + 64 * (_ + 1); omega⟩ ⟨Nat.le_refl _, Nat.le_refl _⟩ dX3_readProduct_40 rfl ?_
                refine sm_bipush X 45 (37) dX3_readProduct_43 rfl rfl ?_
                refine sm_icmp_ne X 48 82 dX3_readProduct_45 rfl (by decide) (fun h45 => ?_) (fun h45 => ?_)
                · exact sm_sub [0, 1] rfl (J48 v1 (f_X3_readProduct_L10 (g_X3_readAll d)  v1 n) ihl σ)
                · refine sm_iconst X 83 (1) dX3_readProduct_82 rfl rfl ?_
                  exact sm_zret X (v := true) hr dX3_readProduct_83 rfl
      unfold b_X3_readProduct
      refine sm_aload_n X 1 0 dX3_readProduct_0 rfl rfl rfl ?_
      refine sm_iload_n X 2 1 dX3_readProduct_1 rfl rfl rfl ?_
      refine sm_bind (fun r2 h2 => ?_)
      refine sm_callV0 X 5 [.int a1] [] [.int (b2i r2.1)] (ih.2.2.2.2.2.1 σ a1 r2 h2) cw_X3_readPart q_481 qs_8 q_479 rfl (by decide) rfl rfl rfl rfl rfl (Nat.le_of_ble_eq_true rfl) ⟨by show _ + _ + 1 ≤ _ + (_ + 1); omega, by show _ + (_ + 64 * _) ≤ _ + 64 * (_ + 1); omega⟩ ⟨Nat.le_refl _, Nat.le_refl _⟩ dX3_readProduct_2 rfl ?_
      refine sm_ifz_ne X 8 10 dX3_readProduct_5 rfl (by decide) (fun h5 => ?_) (fun h5 => ?_)
      · exact sm_sub [0, 1] rfl (J10 a1  FU r2.2)
      · refine sm_iconst X 9 (0) dX3_readProduct_8 rfl rfl ?_
        exact sm_zret X (v := false) hr dX3_readProduct_9 rfl
    · intro σ a1 r h
      rw [g_X3_readAll] at h
      refine mw_of RX3 (fiZ G) [(0, .ref (gad G 55)), (1, .int a1)] (by decide +kernel) rfl (Nat.le_of_ble_eq_true rfl) rfl h rfl (fun p e s m args below meth c X hr hnm => ?_)
      have J39 : ∀ (v1 : Int32) (K10 : Sto → Option (Bool × Sto)) (hK10 : ∀ (σ' : Sto), Sm p l e { frames := 10 + (d + 1), cells := 0, slots := 0, locals := 485 + 64 * (d + 1) } s m args below meth c G 3 (Qm below args s G 0 0 (fiZ G)) 0 0 (wl G σ') 10 [(0, .ref (gad G 55)), (1, .int v1)] [] (K10 σ')) (σ : Sto), Sm p l e { frames := 10 + (d + 1), cells := 0, slots := 0, locals := 485 + 64 * (d + 1) } s m args below meth c G 3 (Qm below args s G 0 0 (fiZ G)) 0 0 (wl G σ) 39 [(0, .ref (gad G 55)), (1, .int v1)] [] (f_X3_readSum_L39 (g_X3_readAll d) K10 v1 σ) := by
        intro v1 K10 hK10 σ
        rw [f_X3_readSum_L39]
        refine sm_aload_n X 40 0 dX3_readSum_39 rfl rfl rfl ?_
        refine sm_bind (fun r40 h40 => ?_)
        refine sm_callV0 X 43 [] [] [.int r40] (c_X3_next l G σ  r40 h40) cw_X3_next q_485 qs_9 q_483 rfl (by decide) rfl rfl rfl rfl rfl (Nat.le_of_ble_eq_true rfl) ⟨by show _ + 1 ≤ _ + (_ + 1); omega, by show _ ≤ _ + 64 * (_ + 1); omega⟩ ⟨Nat.le_refl _, Nat.le_refl _⟩ dX3_readSum_40 rfl ?_
        refine sm_istore_n X 44 [(2, .int r40), (0, .ref (gad G 55)), (1, .int v1)] dX3_readSum_43 rfl rfl (by decide) rfl ?_
        refine sm_aload_n X 45 1 dX3_readSum_44 rfl rfl rfl ?_
        refine sm_dup X 46 dX3_readSum_45 rfl rfl ?_
        refine sm_geti X 49 rfl fd_3_4 dX3_readSum_46 rfl q_164 ?_
        refine sm_iconst X 50 (1) dX3_readSum_49 rfl rfl ?_
        refine sm_iadd X 51 dX3_readSum_50 rfl ?_
        refine sm_puti X 54 .int rfl fd_3_4 (by decide) rfl rfl rfl dX3_readSum_51 rfl q_164 (fun σ51 e51 => ?_)
        clear e51
        refine sm_aload_n X 55 1 dX3_readSum_54 rfl rfl rfl ?_
        refine sm_iload_n X 56 2 dX3_readSum_55 rfl rfl rfl ?_
        refine sm_bind (fun r56 h56 => ?_)
        refine sm_callV0 X 59 [.int v1] [] [.int (b2i r56.1)] (ih.2.2.2.2.2.2.1 σ51 v1 r56 h56) cw_X3_readProduct q_477 qs_7 q_475 rfl (by decide) rfl rfl rfl rfl rfl (Nat.le_of_ble_eq_true rfl) ⟨by show _ + _ + 1 ≤ _ + (_ + 1); omega, by show _ + (_ + 64 * _) ≤ _ + 64 * (_ + 1); omega⟩ ⟨Nat.le_refl _, Nat.le_refl _⟩ dX3_readSum_56 rfl ?_
        refine sm_ifz_ne X 62 64 dX3_readSum_59 rfl (by decide) (fun h59 => ?_) (fun h59 => ?_)
        · refine sm_aload_n X 65 1 dX3_readSum_64 rfl rfl rfl ?_
          refine sm_iload_n X 66 0 dX3_readSum_65 rfl rfl rfl ?_
          refine sm_ineg X 67 dX3_readSum_66 rfl ?_
          refine sm_bind (fun r67 h67 => ?_)
          refine sm_callV0 X 70 [.int (-r40)] [] [] (c_X3_add l G r56.2 (-r40) r67 h67) cw_X3_add q_496 qs_11 q_494 rfl (by decide) rfl rfl rfl rfl rfl (Nat.le_of_ble_eq_true rfl) ⟨by show _ + 1 ≤ _ + (_ + 1); omega, by show _ ≤ _ + 64 * (_ + 1); omega⟩ ⟨Nat.le_refl _, Nat.le_refl _⟩ dX3_readSum_67 rfl ?_
          refine sm_goto X 10 dX3_readSum_70 (by decide) ?_
          exact sm_sub [1, 2] rfl (hK10 r67)
        · refine sm_iconst X 63 (0) dX3_readSum_62 rfl rfl ?_
          exact sm_zret X (v := false) hr dX3_readSum_63 rfl
      have J10 : ∀ (v1 : Int32)  (n : Nat)  (σ : Sto), Sm p l e { frames := 10 + (d + 1), cells := 0, slots := 0, locals := 485 + 64 * (d + 1) } s m args below meth c G 3 (Qm below args s G 0 0 (fiZ G)) 0 0 (wl G σ) 10 [(0, .ref (gad G 55)), (1, .int v1)] [] (f_X3_readSum_L10 (g_X3_readAll d)  v1 n σ) := by
        intro v1 n
        induction n with
        | zero => intro σ; rw [f_X3_readSum_L10]; exact sm_none
        | succ n ihl =>
          intro σ
          rw [f_X3_readSum_L10]
          refine sm_aload_n X 11 0 dX3_readSum_10 rfl rfl rfl ?_
          refine sm_geti X 14 rfl fd_3_4 dX3_readSum_11 rfl q_164 ?_
          refine sm_aload_n X 15 0 dX3_readSum_14 rfl rfl rfl ?_
          refine sm_geti X 18 rfl fd_3_3 dX3_readSum_15 rfl q_163 ?_
          refine sm_icmp_ge X 21 73 dX3_readSum_18 rfl (by decide) (fun h18 => ?_) (fun h18 => ?_)
          · refine sm_iconst X 74 (1) dX3_readSum_73 rfl rfl ?_
            exact sm_zret X (v := true) hr dX3_readSum_74 rfl
          · refine sm_aload_n X 22 0 dX3_readSum_21 rfl rfl rfl ?_
            refine sm_bind (fun r22 h22 => ?_)
            refine sm_callV0 X 25 [] [] [.int r22] (c_X3_next l G σ  r22 h22) cw_X3_next q_485 qs_9 q_483 rfl (by decide) rfl rfl rfl rfl rfl (Nat.le_of_ble_eq_true rfl) ⟨by show _ + 1 ≤ _ + (_ + 1); omega, by show _ ≤ _ + 64 * (_ + 1); omega⟩ ⟨Nat.le_refl _, Nat.le_refl _⟩ dX3_readSum_22 rfl ?_
            refine sm_bipush X 27 (43) dX3_readSum_25 rfl rfl ?_
            refine sm_icmp_eq X 30 39 dX3_readSum_27 rfl (by decide) (fun h27 => ?_) (fun h27 => ?_)
            · exact sm_sub [0, 1] rfl (J39 v1 (f_X3_readSum_L10 (g_X3_readAll d)  v1 n) ihl σ)
            · refine sm_aload_n X 31 0 dX3_readSum_30 rfl rfl rfl ?_
              refine sm_bind (fun r31 h31 => ?_)
              refine sm_callV0 X 34 [] [] [.int r31] (c_X3_next l G σ  r31 h31) cw_X3_next q_485 qs_9 q_483 rfl (by decide) rfl rfl rfl rfl rfl (Nat.le_of_ble_eq_true rfl) ⟨by show _ + 1 ≤ _ + (_ + 1); omega, by show _ ≤ _ + 64 * (_ + 1); omega⟩ ⟨Nat.le_refl _, Nat.le_refl _⟩ dX3_readSum_31 rfl ?_
              refine sm_bipush X 36 (45) dX3_readSum_34 rfl rfl ?_
              refine sm_icmp_ne X 39 73 dX3_readSum_36 rfl (by decide) (fun h36 => ?_) (fun h36 => ?_)
              · exact sm_sub [0, 1] rfl (J39 v1 (f_X3_readSum_L10 (g_X3_readAll d)  v1 n) ihl σ)
              · refine sm_iconst X 74 (1) dX3_readSum_73 rfl rfl ?_
                exact sm_zret X (v := true) hr dX3_readSum_74 rfl
      unfold b_X3_readSum
      refine sm_aload_n X 1 0 dX3_readSum_0 rfl rfl rfl ?_
      refine sm_iload_n X 2 1 dX3_readSum_1 rfl rfl rfl ?_
      refine sm_bind (fun r2 h2 => ?_)
      refine sm_callV0 X 5 [.int a1] [] [.int (b2i r2.1)] (ih.2.2.2.2.2.2.1 σ a1 r2 h2) cw_X3_readProduct q_477 qs_7 q_475 rfl (by decide) rfl rfl rfl rfl rfl (Nat.le_of_ble_eq_true rfl) ⟨by show _ + _ + 1 ≤ _ + (_ + 1); omega, by show _ + (_ + 64 * _) ≤ _ + 64 * (_ + 1); omega⟩ ⟨Nat.le_refl _, Nat.le_refl _⟩ dX3_readSum_2 rfl ?_
      refine sm_ifz_ne X 8 10 dX3_readSum_5 rfl (by decide) (fun h5 => ?_) (fun h5 => ?_)
      · exact sm_sub [0, 1] rfl (J10 a1  FU r2.2)
      · refine sm_iconst X 9 (0) dX3_readSum_8 rfl rfl ?_
        exact sm_zret X (v := false) hr dX3_readSum_9 rfl
end
