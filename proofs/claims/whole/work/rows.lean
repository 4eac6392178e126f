section
/-- a private method of a class that the tables say can be made, by its rows of tables_1 -/
def lw_okq (q : MethodName × Nat) : Prop := (q.1.cls ≠ "java/lang/invoke/MethodHandle" ∧ q.1.cls ≠ "java/lang/invoke/VarHandle") ∧ Cond.instantiable q.1.cls q.2 ∈ tables_1 ∧ Cond.privateMethod q.1 ∈ tables_1 ∧ Cond.instanceMethod q.1 ∈ tables_1
theorem lw_p0 : lw_okq (⟨"OldReckoner", "isWithin", "(II)Z"⟩, 14) := ⟨⟨by decide +kernel, by decide +kernel⟩, List.mem_of_getElem? (i := 19) (by decide +kernel), List.mem_of_getElem? (i := 284) (by decide +kernel), List.mem_of_getElem? (i := 285) (by decide +kernel)⟩
theorem lw_p1 : lw_okq (⟨"OldReckoner", "find", "(I)LOldReckoner$Likeness;"⟩, 14) := ⟨⟨by decide +kernel, by decide +kernel⟩, List.mem_of_getElem? (i := 19) (by decide +kernel), List.mem_of_getElem? (i := 385) (by decide +kernel), List.mem_of_getElem? (i := 386) (by decide +kernel)⟩
theorem lw_p2 : lw_okq (⟨"OldReckoner", "countsAt", "(LOldReckoner$Likeness;II)Z"⟩, 14) := ⟨⟨by decide +kernel, by decide +kernel⟩, List.mem_of_getElem? (i := 19) (by decide +kernel), List.mem_of_getElem? (i := 430) (by decide +kernel), List.mem_of_getElem? (i := 431) (by decide +kernel)⟩
theorem lw_p3 : lw_okq (⟨"OldReckoner", "gather", "(I)V"⟩, 14) := ⟨⟨by decide +kernel, by decide +kernel⟩, List.mem_of_getElem? (i := 19) (by decide +kernel), List.mem_of_getElem? (i := 442) (by decide +kernel), List.mem_of_getElem? (i := 443) (by decide +kernel)⟩
theorem lw_p4 : lw_okq (⟨"OldReckoner$Trail", "aim", "(II)V"⟩, 11) := ⟨⟨by decide +kernel, by decide +kernel⟩, List.mem_of_getElem? (i := 33) (by decide +kernel), List.mem_of_getElem? (i := 454) (by decide +kernel), List.mem_of_getElem? (i := 455) (by decide +kernel)⟩
theorem lw_p5 : lw_okq (⟨"OldReckoner$Trail", "measureDistances", "()V"⟩, 11) := ⟨⟨by decide +kernel, by decide +kernel⟩, List.mem_of_getElem? (i := 33) (by decide +kernel), List.mem_of_getElem? (i := 458) (by decide +kernel), List.mem_of_getElem? (i := 459) (by decide +kernel)⟩
theorem lw_p6 : lw_okq (⟨"OldReckoner$Trail", "draw", "(II)Z"⟩, 11) := ⟨⟨by decide +kernel, by decide +kernel⟩, List.mem_of_getElem? (i := 33) (by decide +kernel), List.mem_of_getElem? (i := 463) (by decide +kernel), List.mem_of_getElem? (i := 464) (by decide +kernel)⟩
theorem lw_p7 : lw_okq (⟨"OldReckoner$Judging", "choicesIn", "(LOldReckoner$Trail;)I"⟩, 7) := ⟨⟨by decide +kernel, by decide +kernel⟩, List.mem_of_getElem? (i := 173) (by decide +kernel), List.mem_of_getElem? (i := 491) (by decide +kernel), List.mem_of_getElem? (i := 492) (by decide +kernel)⟩
theorem lw_p8 : lw_okq (⟨"OldReckoner$Judging", "isAhead", "(LOldReckoner$Trail;)Z"⟩, 7) := ⟨⟨by decide +kernel, by decide +kernel⟩, List.mem_of_getElem? (i := 173) (by decide +kernel), List.mem_of_getElem? (i := 499) (by decide +kernel), List.mem_of_getElem? (i := 500) (by decide +kernel)⟩
theorem lw_p9 : lw_okq (⟨"OldReckoner$Trail", "take", "(LOldReckoner$Likeness;ZI)V"⟩, 11) := ⟨⟨by decide +kernel, by decide +kernel⟩, List.mem_of_getElem? (i := 33) (by decide +kernel), List.mem_of_getElem? (i := 526) (by decide +kernel), List.mem_of_getElem? (i := 527) (by decide +kernel)⟩
theorem lw_p10 : lw_okq (⟨"OldReckoner$Fraction", "settle", "(ZJJ)V"⟩, 3) := ⟨⟨by decide +kernel, by decide +kernel⟩, List.mem_of_getElem? (i := 41) (by decide +kernel), List.mem_of_getElem? (i := 538) (by decide +kernel), List.mem_of_getElem? (i := 539) (by decide +kernel)⟩
theorem lw_p11 : lw_okq (⟨"OldReckoner", "findCure", "(I)J"⟩, 14) := ⟨⟨by decide +kernel, by decide +kernel⟩, List.mem_of_getElem? (i := 19) (by decide +kernel), List.mem_of_getElem? (i := 578) (by decide +kernel), List.mem_of_getElem? (i := 579) (by decide +kernel)⟩
theorem lw_p12 : lw_okq (⟨"OldReckoner$Judging", "spreadToMore", "()V"⟩, 7) := ⟨⟨by decide +kernel, by decide +kernel⟩, List.mem_of_getElem? (i := 173) (by decide +kernel), List.mem_of_getElem? (i := 591) (by decide +kernel), List.mem_of_getElem? (i := 592) (by decide +kernel)⟩
theorem lw_p13 : lw_okq (⟨"OldReckoner$Judging", "isCheaper", "(II)Z"⟩, 7) := ⟨⟨by decide +kernel, by decide +kernel⟩, List.mem_of_getElem? (i := 173) (by decide +kernel), List.mem_of_getElem? (i := 595) (by decide +kernel), List.mem_of_getElem? (i := 596) (by decide +kernel)⟩
theorem lw_p14 : lw_okq (⟨"OldReckoner$Judging", "worthOf", "(I)I"⟩, 7) := ⟨⟨by decide +kernel, by decide +kernel⟩, List.mem_of_getElem? (i := 173) (by decide +kernel), List.mem_of_getElem? (i := 599) (by decide +kernel), List.mem_of_getElem? (i := 600) (by decide +kernel)⟩
theorem lw_p15 : lw_okq (⟨"OldReckoner$Judging", "byNumbers", "(I)J"⟩, 7) := ⟨⟨by decide +kernel, by decide +kernel⟩, List.mem_of_getElem? (i := 173) (by decide +kernel), List.mem_of_getElem? (i := 610) (by decide +kernel), List.mem_of_getElem? (i := 611) (by decide +kernel)⟩
def lw_privs_1 : List (MethodName × Nat) := [(⟨"OldReckoner", "isWithin", "(II)Z"⟩, 14), (⟨"OldReckoner", "find", "(I)LOldReckoner$Likeness;"⟩, 14), (⟨"OldReckoner", "countsAt", "(LOldReckoner$Likeness;II)Z"⟩, 14), (⟨"OldReckoner", "gather", "(I)V"⟩, 14), (⟨"OldReckoner$Trail", "aim", "(II)V"⟩, 11), (⟨"OldReckoner$Trail", "measureDistances", "()V"⟩, 11), (⟨"OldReckoner$Trail", "draw", "(II)Z"⟩, 11), (⟨"OldReckoner$Judging", "choicesIn", "(LOldReckoner$Trail;)I"⟩, 7), (⟨"OldReckoner$Judging", "isAhead", "(LOldReckoner$Trail;)Z"⟩, 7), (⟨"OldReckoner$Trail", "take", "(LOldReckoner$Likeness;ZI)V"⟩, 11), (⟨"OldReckoner$Fraction", "settle", "(ZJJ)V"⟩, 3), (⟨"OldReckoner", "findCure", "(I)J"⟩, 14), (⟨"OldReckoner$Judging", "spreadToMore", "()V"⟩, 7), (⟨"OldReckoner$Judging", "isCheaper", "(II)Z"⟩, 7), (⟨"OldReckoner$Judging", "worthOf", "(I)I"⟩, 7), (⟨"OldReckoner$Judging", "byNumbers", "(I)J"⟩, 7)]
theorem lw_r1 : ∀ q ∈ lw_privs_1, lw_okq q := List.forall_mem_cons.mpr ⟨lw_p0, List.forall_mem_cons.mpr ⟨lw_p1, List.forall_mem_cons.mpr ⟨lw_p2, List.forall_mem_cons.mpr ⟨lw_p3, List.forall_mem_cons.mpr ⟨lw_p4, List.forall_mem_cons.mpr ⟨lw_p5, List.forall_mem_cons.mpr ⟨lw_p6, List.forall_mem_cons.mpr ⟨lw_p7, List.forall_mem_cons.mpr ⟨lw_p8, List.forall_mem_cons.mpr ⟨lw_p9, List.forall_mem_cons.mpr ⟨lw_p10, List.forall_mem_cons.mpr ⟨lw_p11, List.forall_mem_cons.mpr ⟨lw_p12, List.forall_mem_cons.mpr ⟨lw_p13, List.forall_mem_cons.mpr ⟨lw_p14, List.forall_mem_cons.mpr ⟨lw_p15, fun _ h => absurd h List.not_mem_nil⟩⟩⟩⟩⟩⟩⟩⟩⟩⟩⟩⟩⟩⟩⟩⟩
theorem lw_p16 : lw_okq (⟨"OldReckoner", "findCustom", "(I)LOldReckoner$Custom;"⟩, 14) := ⟨⟨by decide +kernel, by decide +kernel⟩, List.mem_of_getElem? (i := 19) (by decide +kernel), List.mem_of_getElem? (i := 628) (by decide +kernel), List.mem_of_getElem? (i := 629) (by decide +kernel)⟩
theorem lw_p17 : lw_okq (⟨"OldReckoner", "findLine", "(I)LOldReckoner$Line;"⟩, 14) := ⟨⟨by decide +kernel, by decide +kernel⟩, List.mem_of_getElem? (i := 19) (by decide +kernel), List.mem_of_getElem? (i := 715) (by decide +kernel), List.mem_of_getElem? (i := 716) (by decide +kernel)⟩
theorem lw_p18 : lw_okq (⟨"OldReckoner", "weighLines", "(I)Z"⟩, 14) := ⟨⟨by decide +kernel, by decide +kernel⟩, List.mem_of_getElem? (i := 19) (by decide +kernel), List.mem_of_getElem? (i := 727) (by decide +kernel), List.mem_of_getElem? (i := 728) (by decide +kernel)⟩
theorem lw_p19 : lw_okq (⟨"OldReckoner", "sumLines", "(IJ)V"⟩, 14) := ⟨⟨by decide +kernel, by decide +kernel⟩, List.mem_of_getElem? (i := 19) (by decide +kernel), List.mem_of_getElem? (i := 732) (by decide +kernel), List.mem_of_getElem? (i := 733) (by decide +kernel)⟩
theorem lw_p20 : lw_okq (⟨"OldReckoner", "tryAmount", "(IJI)J"⟩, 14) := ⟨⟨by decide +kernel, by decide +kernel⟩, List.mem_of_getElem? (i := 19) (by decide +kernel), List.mem_of_getElem? (i := 749) (by decide +kernel), List.mem_of_getElem? (i := 750) (by decide +kernel)⟩
theorem lw_p21 : lw_okq (⟨"OldReckoner", "firstSlip", "(I)J"⟩, 14) := ⟨⟨by decide +kernel, by decide +kernel⟩, List.mem_of_getElem? (i := 19) (by decide +kernel), List.mem_of_getElem? (i := 764) (by decide +kernel), List.mem_of_getElem? (i := 765) (by decide +kernel)⟩
theorem lw_p22 : lw_okq (⟨"OldReckoner", "slipOfLine", "(IIII)J"⟩, 14) := ⟨⟨by decide +kernel, by decide +kernel⟩, List.mem_of_getElem? (i := 19) (by decide +kernel), List.mem_of_getElem? (i := 768) (by decide +kernel), List.mem_of_getElem? (i := 769) (by decide +kernel)⟩
theorem lw_p23 : lw_okq (⟨"OldReckoner", "droppedOnes", "()I"⟩, 14) := ⟨⟨by decide +kernel, by decide +kernel⟩, List.mem_of_getElem? (i := 19) (by decide +kernel), List.mem_of_getElem? (i := 786) (by decide +kernel), List.mem_of_getElem? (i := 787) (by decide +kernel)⟩
theorem lw_p24 : lw_okq (⟨"OldReckoner", "customsThere", "()I"⟩, 14) := ⟨⟨by decide +kernel, by decide +kernel⟩, List.mem_of_getElem? (i := 19) (by decide +kernel), List.mem_of_getElem? (i := 790) (by decide +kernel), List.mem_of_getElem? (i := 791) (by decide +kernel)⟩
theorem lw_p25 : lw_okq (⟨"OldReckoner", "measuresNamed", "()I"⟩, 14) := ⟨⟨by decide +kernel, by decide +kernel⟩, List.mem_of_getElem? (i := 19) (by decide +kernel), List.mem_of_getElem? (i := 794) (by decide +kernel), List.mem_of_getElem? (i := 795) (by decide +kernel)⟩
theorem lw_p26 : lw_okq (⟨"OldReckonerModel", "isWithin", "(II)Z"⟩, 46) := ⟨⟨by decide +kernel, by decide +kernel⟩, List.mem_of_getElem? (i := 799) (by decide +kernel), List.mem_of_getElem? (i := 961) (by decide +kernel), List.mem_of_getElem? (i := 962) (by decide +kernel)⟩
theorem lw_p27 : lw_okq (⟨"OldReckonerModel", "isOne", "(I)Z"⟩, 46) := ⟨⟨by decide +kernel, by decide +kernel⟩, List.mem_of_getElem? (i := 799) (by decide +kernel), List.mem_of_getElem? (i := 977) (by decide +kernel), List.mem_of_getElem? (i := 978) (by decide +kernel)⟩
theorem lw_p28 : lw_okq (⟨"OldReckonerModel", "isDoubtful", "(I)Z"⟩, 46) := ⟨⟨by decide +kernel, by decide +kernel⟩, List.mem_of_getElem? (i := 799) (by decide +kernel), List.mem_of_getElem? (i := 992) (by decide +kernel), List.mem_of_getElem? (i := 993) (by decide +kernel)⟩
theorem lw_p29 : lw_okq (⟨"OldReckonerModel", "isHeaped", "(I)Z"⟩, 46) := ⟨⟨by decide +kernel, by decide +kernel⟩, List.mem_of_getElem? (i := 799) (by decide +kernel), List.mem_of_getElem? (i := 1010) (by decide +kernel), List.mem_of_getElem? (i := 1011) (by decide +kernel)⟩
theorem lw_p30 : lw_okq (⟨"OldReckonerModel", "endOf", "(II)V"⟩, 46) := ⟨⟨by decide +kernel, by decide +kernel⟩, List.mem_of_getElem? (i := 799) (by decide +kernel), List.mem_of_getElem? (i := 1018) (by decide +kernel), List.mem_of_getElem? (i := 1019) (by decide +kernel)⟩
theorem lw_p31 : lw_okq (⟨"OldReckonerModel", "set", "(JJ)V"⟩, 46) := ⟨⟨by decide +kernel, by decide +kernel⟩, List.mem_of_getElem? (i := 799) (by decide +kernel), List.mem_of_getElem? (i := 1022) (by decide +kernel), List.mem_of_getElem? (i := 1023) (by decide +kernel)⟩
def lw_privs_2 : List (MethodName × Nat) := [(⟨"OldReckoner", "findCustom", "(I)LOldReckoner$Custom;"⟩, 14), (⟨"OldReckoner", "findLine", "(I)LOldReckoner$Line;"⟩, 14), (⟨"OldReckoner", "weighLines", "(I)Z"⟩, 14), (⟨"OldReckoner", "sumLines", "(IJ)V"⟩, 14), (⟨"OldReckoner", "tryAmount", "(IJI)J"⟩, 14), (⟨"OldReckoner", "firstSlip", "(I)J"⟩, 14), (⟨"OldReckoner", "slipOfLine", "(IIII)J"⟩, 14), (⟨"OldReckoner", "droppedOnes", "()I"⟩, 14), (⟨"OldReckoner", "customsThere", "()I"⟩, 14), (⟨"OldReckoner", "measuresNamed", "()I"⟩, 14), (⟨"OldReckonerModel", "isWithin", "(II)Z"⟩, 46), (⟨"OldReckonerModel", "isOne", "(I)Z"⟩, 46), (⟨"OldReckonerModel", "isDoubtful", "(I)Z"⟩, 46), (⟨"OldReckonerModel", "isHeaped", "(I)Z"⟩, 46), (⟨"OldReckonerModel", "endOf", "(II)V"⟩, 46), (⟨"OldReckonerModel", "set", "(JJ)V"⟩, 46)]
theorem lw_r2 : ∀ q ∈ lw_privs_2, lw_okq q := List.forall_mem_cons.mpr ⟨lw_p16, List.forall_mem_cons.mpr ⟨lw_p17, List.forall_mem_cons.mpr ⟨lw_p18, List.forall_mem_cons.mpr ⟨lw_p19, List.forall_mem_cons.mpr ⟨lw_p20, List.forall_mem_cons.mpr ⟨lw_p21, List.forall_mem_cons.mpr ⟨lw_p22, List.forall_mem_cons.mpr ⟨lw_p23, List.forall_mem_cons.mpr ⟨lw_p24, List.forall_mem_cons.mpr ⟨lw_p25, List.forall_mem_cons.mpr ⟨lw_p26, List.forall_mem_cons.mpr ⟨lw_p27, List.forall_mem_cons.mpr ⟨lw_p28, List.forall_mem_cons.mpr ⟨lw_p29, List.forall_mem_cons.mpr ⟨lw_p30, List.forall_mem_cons.mpr ⟨lw_p31, fun _ h => absurd h List.not_mem_nil⟩⟩⟩⟩⟩⟩⟩⟩⟩⟩⟩⟩⟩⟩⟩⟩
theorem lw_p32 : lw_okq (⟨"OldReckonerModel", "doesCount", "(III)Z"⟩, 46) := ⟨⟨by decide +kernel, by decide +kernel⟩, List.mem_of_getElem? (i := 799) (by decide +kernel), List.mem_of_getElem? (i := 1037) (by decide +kernel), List.mem_of_getElem? (i := 1038) (by decide +kernel)⟩
theorem lw_p33 : lw_okq (⟨"OldReckonerModel", "findCounted", "(II)V"⟩, 46) := ⟨⟨by decide +kernel, by decide +kernel⟩, List.mem_of_getElem? (i := 799) (by decide +kernel), List.mem_of_getElem? (i := 1052) (by decide +kernel), List.mem_of_getElem? (i := 1053) (by decide +kernel)⟩
theorem lw_p34 : lw_okq (⟨"OldReckonerModel", "seek", "(IIIZ)V"⟩, 46) := ⟨⟨by decide +kernel, by decide +kernel⟩, List.mem_of_getElem? (i := 799) (by decide +kernel), List.mem_of_getElem? (i := 1056) (by decide +kernel), List.mem_of_getElem? (i := 1057) (by decide +kernel)⟩
theorem lw_p35 : lw_okq (⟨"OldReckonerModel", "go", "(II)V"⟩, 46) := ⟨⟨by decide +kernel, by decide +kernel⟩, List.mem_of_getElem? (i := 799) (by decide +kernel), List.mem_of_getElem? (i := 1060) (by decide +kernel), List.mem_of_getElem? (i := 1061) (by decide +kernel)⟩
theorem lw_p36 : lw_okq (⟨"OldReckonerModel", "widen", "()V"⟩, 46) := ⟨⟨by decide +kernel, by decide +kernel⟩, List.mem_of_getElem? (i := 799) (by decide +kernel), List.mem_of_getElem? (i := 1064) (by decide +kernel), List.mem_of_getElem? (i := 1065) (by decide +kernel)⟩
theorem lw_p37 : lw_okq (⟨"OldReckonerModel", "product", "([III)V"⟩, 46) := ⟨⟨by decide +kernel, by decide +kernel⟩, List.mem_of_getElem? (i := 799) (by decide +kernel), List.mem_of_getElem? (i := 1068) (by decide +kernel), List.mem_of_getElem? (i := 1069) (by decide +kernel)⟩
theorem lw_p38 : lw_okq (⟨"OldReckonerModel", "times", "(JJ)V"⟩, 46) := ⟨⟨by decide +kernel, by decide +kernel⟩, List.mem_of_getElem? (i := 799) (by decide +kernel), List.mem_of_getElem? (i := 1072) (by decide +kernel), List.mem_of_getElem? (i := 1073) (by decide +kernel)⟩
theorem lw_p39 : lw_okq (⟨"OldReckonerModel", "below", "(JJ)J"⟩, 46) := ⟨⟨by decide +kernel, by decide +kernel⟩, List.mem_of_getElem? (i := 799) (by decide +kernel), List.mem_of_getElem? (i := 1076) (by decide +kernel), List.mem_of_getElem? (i := 1077) (by decide +kernel)⟩
theorem lw_p40 : lw_okq (⟨"OldReckonerModel", "isLess", "(JJJJ)Z"⟩, 46) := ⟨⟨by decide +kernel, by decide +kernel⟩, List.mem_of_getElem? (i := 799) (by decide +kernel), List.mem_of_getElem? (i := 1081) (by decide +kernel), List.mem_of_getElem? (i := 1082) (by decide +kernel)⟩
theorem lw_p41 : lw_okq (⟨"OldReckonerModel", "multiply", "(JJ)V"⟩, 46) := ⟨⟨by decide +kernel, by decide +kernel⟩, List.mem_of_getElem? (i := 799) (by decide +kernel), List.mem_of_getElem? (i := 1085) (by decide +kernel), List.mem_of_getElem? (i := 1086) (by decide +kernel)⟩
theorem lw_p42 : lw_okq (⟨"OldReckonerModel", "isMet", "(II)Z"⟩, 46) := ⟨⟨by decide +kernel, by decide +kernel⟩, List.mem_of_getElem? (i := 799) (by decide +kernel), List.mem_of_getElem? (i := 1092) (by decide +kernel), List.mem_of_getElem? (i := 1093) (by decide +kernel)⟩
theorem lw_p43 : lw_okq (⟨"OldReckonerModel", "theWay", "(IIII)J"⟩, 46) := ⟨⟨by decide +kernel, by decide +kernel⟩, List.mem_of_getElem? (i := 799) (by decide +kernel), List.mem_of_getElem? (i := 1108) (by decide +kernel), List.mem_of_getElem? (i := 1109) (by decide +kernel)⟩
theorem lw_p44 : lw_okq (⟨"OldReckonerModel", "endTold", "(II)J"⟩, 46) := ⟨⟨by decide +kernel, by decide +kernel⟩, List.mem_of_getElem? (i := 799) (by decide +kernel), List.mem_of_getElem? (i := 1113) (by decide +kernel), List.mem_of_getElem? (i := 1114) (by decide +kernel)⟩
theorem lw_p45 : lw_okq (⟨"OldReckonerModel", "findRings", "(IIZ)Z"⟩, 46) := ⟨⟨by decide +kernel, by decide +kernel⟩, List.mem_of_getElem? (i := 799) (by decide +kernel), List.mem_of_getElem? (i := 1125) (by decide +kernel), List.mem_of_getElem? (i := 1126) (by decide +kernel)⟩
theorem lw_p46 : lw_okq (⟨"OldReckonerModel", "begin", "(IZ)V"⟩, 46) := ⟨⟨by decide +kernel, by decide +kernel⟩, List.mem_of_getElem? (i := 799) (by decide +kernel), List.mem_of_getElem? (i := 1129) (by decide +kernel), List.mem_of_getElem? (i := 1130) (by decide +kernel)⟩
theorem lw_p47 : lw_okq (⟨"OldReckonerModel", "ring", "()V"⟩, 46) := ⟨⟨by decide +kernel, by decide +kernel⟩, List.mem_of_getElem? (i := 799) (by decide +kernel), List.mem_of_getElem? (i := 1133) (by decide +kernel), List.mem_of_getElem? (i := 1134) (by decide +kernel)⟩
def lw_privs_3 : List (MethodName × Nat) := [(⟨"OldReckonerModel", "doesCount", "(III)Z"⟩, 46), (⟨"OldReckonerModel", "findCounted", "(II)V"⟩, 46), (⟨"OldReckonerModel", "seek", "(IIIZ)V"⟩, 46), (⟨"OldReckonerModel", "go", "(II)V"⟩, 46), (⟨"OldReckonerModel", "widen", "()V"⟩, 46), (⟨"OldReckonerModel", "product", "([III)V"⟩, 46), (⟨"OldReckonerModel", "times", "(JJ)V"⟩, 46), (⟨"OldReckonerModel", "below", "(JJ)J"⟩, 46), (⟨"OldReckonerModel", "isLess", "(JJJJ)Z"⟩, 46), (⟨"OldReckonerModel", "multiply", "(JJ)V"⟩, 46), (⟨"OldReckonerModel", "isMet", "(II)Z"⟩, 46), (⟨"OldReckonerModel", "theWay", "(IIII)J"⟩, 46), (⟨"OldReckonerModel", "endTold", "(II)J"⟩, 46), (⟨"OldReckonerModel", "findRings", "(IIZ)Z"⟩, 46), (⟨"OldReckonerModel", "begin", "(IZ)V"⟩, 46), (⟨"OldReckonerModel", "ring", "()V"⟩, 46)]
theorem lw_r3 : ∀ q ∈ lw_privs_3, lw_okq q := List.forall_mem_cons.mpr ⟨lw_p32, List.forall_mem_cons.mpr ⟨lw_p33, List.forall_mem_cons.mpr ⟨lw_p34, List.forall_mem_cons.mpr ⟨lw_p35, List.forall_mem_cons.mpr ⟨lw_p36, List.forall_mem_cons.mpr ⟨lw_p37, List.forall_mem_cons.mpr ⟨lw_p38, List.forall_mem_cons.mpr ⟨lw_p39, List.forall_mem_cons.mpr ⟨lw_p40, List.forall_mem_cons.mpr ⟨lw_p41, List.forall_mem_cons.mpr ⟨lw_p42, List.forall_mem_cons.mpr ⟨lw_p43, List.forall_mem_cons.mpr ⟨lw_p44, List.forall_mem_cons.mpr ⟨lw_p45, List.forall_mem_cons.mpr ⟨lw_p46, List.forall_mem_cons.mpr ⟨lw_p47, fun _ h => absurd h List.not_mem_nil⟩⟩⟩⟩⟩⟩⟩⟩⟩⟩⟩⟩⟩⟩⟩⟩
theorem lw_p48 : lw_okq (⟨"OldReckonerModel", "isAhead", "()Z"⟩, 46) := ⟨⟨by decide +kernel, by decide +kernel⟩, List.mem_of_getElem? (i := 799) (by decide +kernel), List.mem_of_getElem? (i := 1137) (by decide +kernel), List.mem_of_getElem? (i := 1138) (by decide +kernel)⟩
theorem lw_p49 : lw_okq (⟨"OldReckonerModel", "round", "(II)V"⟩, 46) := ⟨⟨by decide +kernel, by decide +kernel⟩, List.mem_of_getElem? (i := 799) (by decide +kernel), List.mem_of_getElem? (i := 1141) (by decide +kernel), List.mem_of_getElem? (i := 1142) (by decide +kernel)⟩
theorem lw_p50 : lw_okq (⟨"OldReckonerModel", "isUsed", "(II)Z"⟩, 46) := ⟨⟨by decide +kernel, by decide +kernel⟩, List.mem_of_getElem? (i := 799) (by decide +kernel), List.mem_of_getElem? (i := 1145) (by decide +kernel), List.mem_of_getElem? (i := 1146) (by decide +kernel)⟩
theorem lw_p51 : lw_okq (⟨"OldReckonerModel", "cureOf", "(II)J"⟩, 46) := ⟨⟨by decide +kernel, by decide +kernel⟩, List.mem_of_getElem? (i := 799) (by decide +kernel), List.mem_of_getElem? (i := 1153) (by decide +kernel), List.mem_of_getElem? (i := 1154) (by decide +kernel)⟩
theorem lw_p52 : lw_okq (⟨"OldReckonerModel", "findEnds", "(I)J"⟩, 46) := ⟨⟨by decide +kernel, by decide +kernel⟩, List.mem_of_getElem? (i := 799) (by decide +kernel), List.mem_of_getElem? (i := 1209) (by decide +kernel), List.mem_of_getElem? (i := 1210) (by decide +kernel)⟩
theorem lw_p53 : lw_okq (⟨"OldReckonerModel", "bothEnds", "(II)J"⟩, 46) := ⟨⟨by decide +kernel, by decide +kernel⟩, List.mem_of_getElem? (i := 799) (by decide +kernel), List.mem_of_getElem? (i := 1213) (by decide +kernel), List.mem_of_getElem? (i := 1214) (by decide +kernel)⟩
theorem lw_p54 : lw_okq (⟨"OldReckonerModel", "totalOf", "(III)V"⟩, 46) := ⟨⟨by decide +kernel, by decide +kernel⟩, List.mem_of_getElem? (i := 799) (by decide +kernel), List.mem_of_getElem? (i := 1217) (by decide +kernel), List.mem_of_getElem? (i := 1218) (by decide +kernel)⟩
theorem lw_p55 : lw_okq (⟨"OldReckonerModel", "plus", "(JJ)V"⟩, 46) := ⟨⟨by decide +kernel, by decide +kernel⟩, List.mem_of_getElem? (i := 799) (by decide +kernel), List.mem_of_getElem? (i := 1221) (by decide +kernel), List.mem_of_getElem? (i := 1222) (by decide +kernel)⟩
theorem lw_p56 : lw_okq (⟨"OldReckonerModel", "bound", "()V"⟩, 46) := ⟨⟨by decide +kernel, by decide +kernel⟩, List.mem_of_getElem? (i := 799) (by decide +kernel), List.mem_of_getElem? (i := 1225) (by decide +kernel), List.mem_of_getElem? (i := 1226) (by decide +kernel)⟩
theorem lw_p57 : lw_okq (⟨"OldReckonerModel", "spell", "(JJ)V"⟩, 46) := ⟨⟨by decide +kernel, by decide +kernel⟩, List.mem_of_getElem? (i := 799) (by decide +kernel), List.mem_of_getElem? (i := 1229) (by decide +kernel), List.mem_of_getElem? (i := 1230) (by decide +kernel)⟩
theorem lw_p58 : lw_okq (⟨"OldReckonerModel", "restBy", "(J)J"⟩, 46) := ⟨⟨by decide +kernel, by decide +kernel⟩, List.mem_of_getElem? (i := 799) (by decide +kernel), List.mem_of_getElem? (i := 1233) (by decide +kernel), List.mem_of_getElem? (i := 1234) (by decide +kernel)⟩
theorem lw_p59 : lw_okq (⟨"OldReckonerModel", "divided", "(J)J"⟩, 46) := ⟨⟨by decide +kernel, by decide +kernel⟩, List.mem_of_getElem? (i := 799) (by decide +kernel), List.mem_of_getElem? (i := 1237) (by decide +kernel), List.mem_of_getElem? (i := 1238) (by decide +kernel)⟩
theorem lw_p60 : lw_okq (⟨"OldReckonerModel", "isRight", "(I)Z"⟩, 46) := ⟨⟨by decide +kernel, by decide +kernel⟩, List.mem_of_getElem? (i := 799) (by decide +kernel), List.mem_of_getElem? (i := 1247) (by decide +kernel), List.mem_of_getElem? (i := 1248) (by decide +kernel)⟩
def lw_privs_4 : List (MethodName × Nat) := [(⟨"OldReckonerModel", "isAhead", "()Z"⟩, 46), (⟨"OldReckonerModel", "round", "(II)V"⟩, 46), (⟨"OldReckonerModel", "isUsed", "(II)Z"⟩, 46), (⟨"OldReckonerModel", "cureOf", "(II)J"⟩, 46), (⟨"OldReckonerModel", "findEnds", "(I)J"⟩, 46), (⟨"OldReckonerModel", "bothEnds", "(II)J"⟩, 46), (⟨"OldReckonerModel", "totalOf", "(III)V"⟩, 46), (⟨"OldReckonerModel", "plus", "(JJ)V"⟩, 46), (⟨"OldReckonerModel", "bound", "()V"⟩, 46), (⟨"OldReckonerModel", "spell", "(JJ)V"⟩, 46), (⟨"OldReckonerModel", "restBy", "(J)J"⟩, 46), (⟨"OldReckonerModel", "divided", "(J)J"⟩, 46), (⟨"OldReckonerModel", "isRight", "(I)Z"⟩, 46)]
theorem lw_r4 : ∀ q ∈ lw_privs_4, lw_okq q := List.forall_mem_cons.mpr ⟨lw_p48, List.forall_mem_cons.mpr ⟨lw_p49, List.forall_mem_cons.mpr ⟨lw_p50, List.forall_mem_cons.mpr ⟨lw_p51, List.forall_mem_cons.mpr ⟨lw_p52, List.forall_mem_cons.mpr ⟨lw_p53, List.forall_mem_cons.mpr ⟨lw_p54, List.forall_mem_cons.mpr ⟨lw_p55, List.forall_mem_cons.mpr ⟨lw_p56, List.forall_mem_cons.mpr ⟨lw_p57, List.forall_mem_cons.mpr ⟨lw_p58, List.forall_mem_cons.mpr ⟨lw_p59, List.forall_mem_cons.mpr ⟨lw_p60, fun _ h => absurd h List.not_mem_nil⟩⟩⟩⟩⟩⟩⟩⟩⟩⟩⟩⟩⟩
def lw_privs : List (MethodName × Nat) := lw_privs_1 ++ (lw_privs_2 ++ (lw_privs_3 ++ (lw_privs_4)))
def lw_tbl : List Cond := k2_sels lw_privs ++ tables_1
theorem lw_privs_ok : ∀ q ∈ lw_privs, lw_okq q := by
  show ∀ q ∈ lw_privs_1 ++ (lw_privs_2 ++ (lw_privs_3 ++ (lw_privs_4))), lw_okq q
  exact List.forall_mem_append.mpr ⟨lw_r1, List.forall_mem_append.mpr ⟨lw_r2, List.forall_mem_append.mpr ⟨lw_r3, lw_r4⟩⟩⟩
end
section
def RX0 : String := "OldReckoner$Counting"
def TX0 : u_T := fun k => match k with
  | _ => ("OldReckoner$Counting", "found", "J", false)
def tyX0 : Nat → FieldType := fun k => match k with
  | _ => .long
abbrev wsX00 : List Cond := u_ws RX0 TX0 1
theorem nmX0 : ∀ a, a < 1 → ∀ b, b < 1 → a ≠ b → (TX0 a).2.1 ≠ (TX0 b).2.1 := by decide +kernel
theorem tyX0_ok : ∀ k, k < 1 → parseFieldDescriptor (TX0 k).2.2.1 = some (tyX0 k) := by decide +kernel
abbrev cX0_init : ByteArray := prog_2_method_1_code
def yX0_init : MethodName := ⟨RX0, "<init>", "()V"⟩
abbrev cX0_arrived : ByteArray := prog_2_method_2_code
def yX0_arrived : MethodName := ⟨RX0, "arrived", "(LOldReckoner$Trail;)V"⟩
def RX1 : String := "OldReckoner$Custom"
def TX1 : u_T := fun k => match k with
  | 0 => ("OldReckoner$Custom", "steps", "[I", true)
  | 1 => ("OldReckoner$Custom", "size", "I", false)
  | _ => ("OldReckoner$Custom", "missing", "Z", false)
def tyX1 : Nat → FieldType := fun k => match k with
  | 0 => .array .int
  | 1 => .int
  | _ => .boolean
abbrev wsX10 : List Cond := u_ws RX1 TX1 3
theorem nmX1 : ∀ a, a < 3 → ∀ b, b < 3 → a ≠ b → (TX1 a).2.1 ≠ (TX1 b).2.1 := by decide +kernel
theorem tyX1_ok : ∀ k, k < 3 → parseFieldDescriptor (TX1 k).2.2.1 = some (tyX1 k) := by decide +kernel
abbrev cX1_init : ByteArray := prog_3_method_1_code
def yX1_init : MethodName := ⟨RX1, "<init>", "()V"⟩
abbrev cX1_begin : ByteArray := prog_3_method_2_code
def yX1_begin : MethodName := ⟨RX1, "begin", "(I)V"⟩
abbrev cX1_partOf : ByteArray := prog_3_method_3_code
def yX1_partOf : MethodName := ⟨RX1, "partOf", "(JI)J"⟩
abbrev cX1_putTogether : ByteArray := prog_3_method_4_code
def yX1_putTogether : MethodName := ⟨RX1, "putTogether", "(J)J"⟩
def RX2 : String := "OldReckoner$Fraction"
def TX2 : u_T := fun k => match k with
  | 0 => ("OldReckoner$Fraction", "above", "J", false)
  | 1 => ("OldReckoner$Fraction", "below", "J", false)
  | _ => ("OldReckoner$Fraction", "large", "Z", false)
def tyX2 : Nat → FieldType := fun k => match k with
  | 0 => .long
  | 1 => .long
  | _ => .boolean
abbrev wsX20 : List Cond := u_ws RX2 TX2 3
theorem nmX2 : ∀ a, a < 3 → ∀ b, b < 3 → a ≠ b → (TX2 a).2.1 ≠ (TX2 b).2.1 := by decide +kernel
theorem tyX2_ok : ∀ k, k < 3 → parseFieldDescriptor (TX2 k).2.2.1 = some (tyX2 k) := by decide +kernel
abbrev cX2_init : ByteArray := prog_4_method_1_code
def yX2_init : MethodName := ⟨RX2, "<init>", "()V"⟩
abbrev cX2_become : ByteArray := prog_4_method_2_code
def yX2_become : MethodName := ⟨RX2, "become", "(JJ)V"⟩
abbrev cX2_become_ : ByteArray := prog_4_method_3_code
def yX2_become_ : MethodName := ⟨RX2, "become", "(LOldReckoner$Fraction;)V"⟩
abbrev cX2_becomeProduct : ByteArray := prog_4_method_4_code
def yX2_becomeProduct : MethodName := ⟨RX2, "becomeProduct", "(LOldReckoner$Fraction;JJ)V"⟩
abbrev cX2_add : ByteArray := prog_4_method_5_code
def yX2_add : MethodName := ⟨RX2, "add", "(LOldReckoner$Fraction;)V"⟩
abbrev cX2_isAboveOne : ByteArray := prog_4_method_6_code
def yX2_isAboveOne : MethodName := ⟨RX2, "isAboveOne", "()Z"⟩
abbrev cX2_isLess : ByteArray := prog_4_method_7_code
def yX2_isLess : MethodName := ⟨RX2, "isLess", "(LOldReckoner$Fraction;)Z"⟩
abbrev cX2_floor : ByteArray := prog_4_method_8_code
def yX2_floor : MethodName := ⟨RX2, "floor", "()J"⟩
abbrev cX2_ceiling : ByteArray := prog_4_method_9_code
def yX2_ceiling : MethodName := ⟨RX2, "ceiling", "()J"⟩
abbrev cX2_settle : ByteArray := prog_4_method_10_code
def yX2_settle : MethodName := ⟨RX2, "settle", "(ZJJ)V"⟩
abbrev cX2_reaches : ByteArray := prog_4_method_11_code
def yX2_reaches : MethodName := ⟨RX2, "reaches", "(JJJ)Z"⟩
abbrev cX2_commonDivisor : ByteArray := prog_4_method_12_code
def yX2_commonDivisor : MethodName := ⟨RX2, "commonDivisor", "(JJ)J"⟩
def RX3 : String := "OldReckoner$Goal"
def TX3 : u_T := fun k => match k with
  | _ => ("", "", "", false)
def tyX3 : Nat → FieldType := fun k => match k with
  | _ => .int
abbrev wsX30 : List Cond := u_ws RX3 TX3 0
theorem nmX3 : ∀ a, a < 0 → ∀ b, b < 0 → a ≠ b → (TX3 a).2.1 ≠ (TX3 b).2.1 := by decide +kernel
theorem tyX3_ok : ∀ k, k < 0 → parseFieldDescriptor (TX3 k).2.2.1 = some (tyX3 k) := by decide +kernel
abbrev cX3_init : ByteArray := prog_5_method_1_code
def yX3_init : MethodName := ⟨RX3, "<init>", "()V"⟩
def RX4 : String := "OldReckoner$Judging"
def TX4 : u_T := fun k => match k with
  | 0 => ("OldReckoner$Judging", "row", "[I", true)
  | 1 => ("OldReckoner$Judging", "length", "I", false)
  | 2 => ("OldReckoner$Judging", "large", "Z", false)
  | 3 => ("OldReckoner$Judging", "choices", "[LOldReckoner$Likeness;", true)
  | 4 => ("OldReckoner$Judging", "chosen", "I", false)
  | 5 => ("OldReckoner$Judging", "bitOf", "[I", true)
  | _ => ("OldReckoner$Judging", "quarrels", "[Z", true)
def tyX4 : Nat → FieldType := fun k => match k with
  | 0 => .array .int
  | 1 => .int
  | 2 => .boolean
  | 3 => .array (.object "OldReckoner$Likeness")
  | 4 => .int
  | 5 => .array .int
  | _ => .array .boolean
abbrev wsX40 : List Cond := u_ws RX4 TX4 7
theorem nmX4 : ∀ a, a < 7 → ∀ b, b < 7 → a ≠ b → (TX4 a).2.1 ≠ (TX4 b).2.1 := by decide +kernel
theorem tyX4_ok : ∀ k, k < 7 → parseFieldDescriptor (TX4 k).2.2.1 = some (tyX4 k) := by decide +kernel
abbrev cX4_init : ByteArray := prog_6_method_1_code
def yX4_init : MethodName := ⟨RX4, "<init>", "()V"⟩
abbrev cX4_begin : ByteArray := prog_6_method_2_code
def yX4_begin : MethodName := ⟨RX4, "begin", "()V"⟩
abbrev cX4_choose : ByteArray := prog_6_method_3_code
def yX4_choose : MethodName := ⟨RX4, "choose", "(LOldReckoner$Trail;)Z"⟩
abbrev cX4_arrived : ByteArray := prog_6_method_4_code
def yX4_arrived : MethodName := ⟨RX4, "arrived", "(LOldReckoner$Trail;)V"⟩
abbrev cX4_choicesIn : ByteArray := prog_6_method_5_code
def yX4_choicesIn : MethodName := ⟨RX4, "choicesIn", "(LOldReckoner$Trail;)I"⟩
abbrev cX4_isAhead : ByteArray := prog_6_method_6_code
def yX4_isAhead : MethodName := ⟨RX4, "isAhead", "(LOldReckoner$Trail;)Z"⟩
abbrev cX4_cheapest : ByteArray := prog_6_method_7_code
def yX4_cheapest : MethodName := ⟨RX4, "cheapest", "()J"⟩
abbrev cX4_spreadToMore : ByteArray := prog_6_method_8_code
def yX4_spreadToMore : MethodName := ⟨RX4, "spreadToMore", "()V"⟩
abbrev cX4_isCheaper : ByteArray := prog_6_method_9_code
def yX4_isCheaper : MethodName := ⟨RX4, "isCheaper", "(II)Z"⟩
abbrev cX4_worthOf : ByteArray := prog_6_method_10_code
def yX4_worthOf : MethodName := ⟨RX4, "worthOf", "(I)I"⟩
abbrev cX4_byNumbers : ByteArray := prog_6_method_11_code
def yX4_byNumbers : MethodName := ⟨RX4, "byNumbers", "(I)J"⟩
def RX5 : String := "OldReckoner$Likeness"
def TX5 : u_T := fun k => match k with
  | 0 => ("OldReckoner$Likeness", "number", "I", true)
  | 1 => ("OldReckoner$Likeness", "kind", "I", true)
  | 2 => ("OldReckoner$Likeness", "a", "I", true)
  | 3 => ("OldReckoner$Likeness", "b", "I", true)
  | 4 => ("OldReckoner$Likeness", "p", "I", true)
  | 5 => ("OldReckoner$Likeness", "q", "I", true)
  | 6 => ("OldReckoner$Likeness", "low", "LOldReckoner$Fraction;", true)
  | 7 => ("OldReckoner$Likeness", "high", "LOldReckoner$Fraction;", true)
  | 8 => ("OldReckoner$Likeness", "place", "I", false)
  | 9 => ("OldReckoner$Likeness", "first", "I", false)
  | 10 => ("OldReckoner$Likeness", "last", "I", false)
  | 11 => ("OldReckoner$Likeness", "worth", "I", false)
  | 12 => ("OldReckoner$Likeness", "spread", "I", false)
  | _ => ("OldReckoner$Likeness", "dropped", "Z", false)
def tyX5 : Nat → FieldType := fun k => match k with
  | 0 => .int
  | 1 => .int
  | 2 => .int
  | 3 => .int
  | 4 => .int
  | 5 => .int
  | 6 => .object "OldReckoner$Fraction"
  | 7 => .object "OldReckoner$Fraction"
  | 8 => .int
  | 9 => .int
  | 10 => .int
  | 11 => .int
  | 12 => .int
  | _ => .boolean
abbrev wsX50 : List Cond := u_ws RX5 TX5 14
theorem nmX5 : ∀ a, a < 14 → ∀ b, b < 14 → a ≠ b → (TX5 a).2.1 ≠ (TX5 b).2.1 := by decide +kernel
theorem tyX5_ok : ∀ k, k < 14 → parseFieldDescriptor (TX5 k).2.2.1 = some (tyX5 k) := by decide +kernel
abbrev cX5_init : ByteArray := prog_7_method_1_code
def yX5_init : MethodName := ⟨RX5, "<init>", "(IIIII)V"⟩
abbrev cX5_is : ByteArray := prog_7_method_2_code
def yX5_is : MethodName := ⟨RX5, "is", "(I)Z"⟩
abbrev cX5_reckonEnds : ByteArray := prog_7_method_3_code
def yX5_reckonEnds : MethodName := ⟨RX5, "reckonEnds", "()V"⟩
abbrev cX5_across : ByteArray := prog_7_method_4_code
def yX5_across : MethodName := ⟨RX5, "across", "(I)I"⟩
def RX6 : String := "OldReckoner$Line"
def TX6 : u_T := fun k => match k with
  | 0 => ("OldReckoner$Line", "measure", "I", true)
  | 1 => ("OldReckoner$Line", "place", "I", true)
  | 2 => ("OldReckoner$Line", "day", "I", true)
  | 3 => ("OldReckoner$Line", "low", "LOldReckoner$Fraction;", true)
  | 4 => ("OldReckoner$Line", "high", "LOldReckoner$Fraction;", true)
  | _ => ("OldReckoner$Line", "amount", "I", false)
def tyX6 : Nat → FieldType := fun k => match k with
  | 0 => .int
  | 1 => .int
  | 2 => .int
  | 3 => .object "OldReckoner$Fraction"
  | 4 => .object "OldReckoner$Fraction"
  | _ => .int
abbrev wsX60 : List Cond := u_ws RX6 TX6 6
theorem nmX6 : ∀ a, a < 6 → ∀ b, b < 6 → a ≠ b → (TX6 a).2.1 ≠ (TX6 b).2.1 := by decide +kernel
theorem tyX6_ok : ∀ k, k < 6 → parseFieldDescriptor (TX6 k).2.2.1 = some (tyX6 k) := by decide +kernel
abbrev cX6_init : ByteArray := prog_8_method_1_code
def yX6_init : MethodName := ⟨RX6, "<init>", "(IIII)V"⟩
abbrev cX6_canBe : ByteArray := prog_8_method_2_code
def yX6_canBe : MethodName := ⟨RX6, "canBe", "(II)Z"⟩
abbrev cX6_amended : ByteArray := prog_8_method_3_code
def yX6_amended : MethodName := ⟨RX6, "amended", "(II)J"⟩
def RX7 : String := "OldReckoner$Picking"
def TX7 : u_T := fun k => match k with
  | 0 => ("OldReckoner$Picking", "wanted", "I", false)
  | _ => ("OldReckoner$Picking", "passed", "I", false)
def tyX7 : Nat → FieldType := fun k => match k with
  | 0 => .int
  | _ => .int
abbrev wsX70 : List Cond := u_ws RX7 TX7 2
theorem nmX7 : ∀ a, a < 2 → ∀ b, b < 2 → a ≠ b → (TX7 a).2.1 ≠ (TX7 b).2.1 := by decide +kernel
theorem tyX7_ok : ∀ k, k < 2 → parseFieldDescriptor (TX7 k).2.2.1 = some (tyX7 k) := by decide +kernel
abbrev cX7_init : ByteArray := prog_9_method_1_code
def yX7_init : MethodName := ⟨RX7, "<init>", "()V"⟩
abbrev cX7_arrived : ByteArray := prog_9_method_2_code
def yX7_arrived : MethodName := ⟨RX7, "arrived", "(LOldReckoner$Trail;)V"⟩
def RX8 : String := "OldReckoner$Spanning"
def TX8 : u_T := fun k => match k with
  | 0 => ("OldReckoner$Spanning", "low", "LOldReckoner$Fraction;", true)
  | 1 => ("OldReckoner$Spanning", "high", "LOldReckoner$Fraction;", true)
  | _ => ("OldReckoner$Spanning", "found", "Z", false)
def tyX8 : Nat → FieldType := fun k => match k with
  | 0 => .object "OldReckoner$Fraction"
  | 1 => .object "OldReckoner$Fraction"
  | _ => .boolean
abbrev wsX80 : List Cond := u_ws RX8 TX8 3
theorem nmX8 : ∀ a, a < 3 → ∀ b, b < 3 → a ≠ b → (TX8 a).2.1 ≠ (TX8 b).2.1 := by decide +kernel
theorem tyX8_ok : ∀ k, k < 3 → parseFieldDescriptor (TX8 k).2.2.1 = some (tyX8 k) := by decide +kernel
abbrev cX8_init : ByteArray := prog_10_method_1_code
def yX8_init : MethodName := ⟨RX8, "<init>", "()V"⟩
abbrev cX8_arrived : ByteArray := prog_10_method_2_code
def yX8_arrived : MethodName := ⟨RX8, "arrived", "(LOldReckoner$Trail;)V"⟩
def RX9 : String := "OldReckoner$Trail"
def TX9 : u_T := fun k => match k with
  | 0 => ("OldReckoner$Trail", "open", "[LOldReckoner$Likeness;", true)
  | 1 => ("OldReckoner$Trail", "opened", "I", false)
  | 2 => ("OldReckoner$Trail", "row", "[I", true)
  | 3 => ("OldReckoner$Trail", "length", "I", false)
  | 4 => ("OldReckoner$Trail", "over", "Z", false)
  | 5 => ("OldReckoner$Trail", "lows", "[LOldReckoner$Fraction;", true)
  | 6 => ("OldReckoner$Trail", "highs", "[LOldReckoner$Fraction;", true)
  | 7 => ("OldReckoner$Trail", "distance", "[I", true)
  | 8 => ("OldReckoner$Trail", "target", "I", false)
  | 9 => ("OldReckoner$Trail", "firstOpen", "I", false)
  | _ => ("OldReckoner$Trail", "limit", "I", false)
def tyX9 : Nat → FieldType := fun k => match k with
  | 0 => .array (.object "OldReckoner$Likeness")
  | 1 => .int
  | 2 => .array .int
  | 3 => .int
  | 4 => .boolean
  | 5 => .array (.object "OldReckoner$Fraction")
  | 6 => .array (.object "OldReckoner$Fraction")
  | 7 => .array .int
  | 8 => .int
  | 9 => .int
  | _ => .int
abbrev wsX90 : List Cond := u_ws RX9 TX9 11
theorem nmX9 : ∀ a, a < 11 → ∀ b, b < 11 → a ≠ b → (TX9 a).2.1 ≠ (TX9 b).2.1 := by decide +kernel
theorem tyX9_ok : ∀ k, k < 11 → parseFieldDescriptor (TX9 k).2.2.1 = some (tyX9 k) := by decide +kernel
abbrev cX9_init : ByteArray := prog_11_method_1_code
def yX9_init : MethodName := ⟨RX9, "<init>", "()V"⟩
abbrev cX9_admit : ByteArray := prog_11_method_2_code
def yX9_admit : MethodName := ⟨RX9, "admit", "(LOldReckoner$Likeness;)V"⟩
abbrev cX9_low : ByteArray := prog_11_method_3_code
def yX9_low : MethodName := ⟨RX9, "low", "()LOldReckoner$Fraction;"⟩
abbrev cX9_high : ByteArray := prog_11_method_4_code
def yX9_high : MethodName := ⟨RX9, "high", "()LOldReckoner$Fraction;"⟩
abbrev cX9_numberAt : ByteArray := prog_11_method_5_code
def yX9_numberAt : MethodName := ⟨RX9, "numberAt", "(I)I"⟩
abbrev cX9_seekWays : ByteArray := prog_11_method_6_code
def yX9_seekWays : MethodName := ⟨RX9, "seekWays", "(IILOldReckoner$Goal;)V"⟩
abbrev cX9_pickWay : ByteArray := prog_11_method_7_code
def yX9_pickWay : MethodName := ⟨RX9, "pickWay", "(IIILOldReckoner$Picking;)Z"⟩
abbrev cX9_seekRings : ByteArray := prog_11_method_8_code
def yX9_seekRings : MethodName := ⟨RX9, "seekRings", "(LOldReckoner$Goal;)V"⟩
abbrev cX9_aim : ByteArray := prog_11_method_9_code
def yX9_aim : MethodName := ⟨RX9, "aim", "(II)V"⟩
abbrev cX9_measureDistances : ByteArray := prog_11_method_10_code
def yX9_measureDistances : MethodName := ⟨RX9, "measureDistances", "()V"⟩
abbrev cX9_draw : ByteArray := prog_11_method_11_code
def yX9_draw : MethodName := ⟨RX9, "draw", "(II)Z"⟩
abbrev cX9_take : ByteArray := prog_11_method_12_code
def yX9_take : MethodName := ⟨RX9, "take", "(LOldReckoner$Likeness;ZI)V"⟩
abbrev cX9_extend : ByteArray := prog_11_method_13_code
def yX9_extend : MethodName := ⟨RX9, "extend", "(LOldReckoner$Trail;LOldReckoner$Goal;III)V"⟩
def RX10 : String := "OldReckoner"
def TX10 : u_T := fun k => match k with
  | 0 => ("OldReckoner", "liesIn", "[I", true)
  | 1 => ("OldReckoner", "likenesses", "[LOldReckoner$Likeness;", true)
  | 2 => ("OldReckoner", "likenessCount", "I", false)
  | 3 => ("OldReckoner", "customs", "[LOldReckoner$Custom;", true)
  | 4 => ("OldReckoner", "lines", "[LOldReckoner$Line;", true)
  | 5 => ("OldReckoner", "lineCount", "I", false)
  | 6 => ("OldReckoner", "trail", "LOldReckoner$Trail;", true)
  | 7 => ("OldReckoner", "counting", "LOldReckoner$Counting;", true)
  | 8 => ("OldReckoner", "picking", "LOldReckoner$Picking;", true)
  | 9 => ("OldReckoner", "spanning", "LOldReckoner$Spanning;", true)
  | 10 => ("OldReckoner", "judging", "LOldReckoner$Judging;", true)
  | 11 => ("OldReckoner", "sumLow", "LOldReckoner$Fraction;", true)
  | 12 => ("OldReckoner", "sumHigh", "LOldReckoner$Fraction;", true)
  | _ => ("OldReckoner", "term", "LOldReckoner$Fraction;", true)
def tyX10 : Nat → FieldType := fun k => match k with
  | 0 => .array .int
  | 1 => .array (.object "OldReckoner$Likeness")
  | 2 => .int
  | 3 => .array (.object "OldReckoner$Custom")
  | 4 => .array (.object "OldReckoner$Line")
  | 5 => .int
  | 6 => .object "OldReckoner$Trail"
  | 7 => .object "OldReckoner$Counting"
  | 8 => .object "OldReckoner$Picking"
  | 9 => .object "OldReckoner$Spanning"
  | 10 => .object "OldReckoner$Judging"
  | 11 => .object "OldReckoner$Fraction"
  | 12 => .object "OldReckoner$Fraction"
  | _ => .object "OldReckoner$Fraction"
abbrev wsX100 : List Cond := u_ws RX10 TX10 14
theorem nmX10 : ∀ a, a < 14 → ∀ b, b < 14 → a ≠ b → (TX10 a).2.1 ≠ (TX10 b).2.1 := by decide +kernel
theorem tyX10_ok : ∀ k, k < 14 → parseFieldDescriptor (TX10 k).2.2.1 = some (tyX10 k) := by decide +kernel
abbrev cX10_init : ByteArray := prog_1_method_1_code
def yX10_init : MethodName := ⟨RX10, "<init>", "()V"⟩
abbrev cX10_lies : ByteArray := prog_1_method_2_code
def yX10_lies : MethodName := ⟨RX10, "lies", "(II)J"⟩
abbrev cX10_within : ByteArray := prog_1_method_3_code
def yX10_within : MethodName := ⟨RX10, "within", "(II)J"⟩
abbrev cX10_likeness : ByteArray := prog_1_method_4_code
def yX10_likeness : MethodName := ⟨RX10, "likeness", "(IIII)J"⟩
abbrev cX10_holds : ByteArray := prog_1_method_5_code
def yX10_holds : MethodName := ⟨RX10, "holds", "(IIII)J"⟩
abbrev cX10_doubt : ByteArray := prog_1_method_6_code
def yX10_doubt : MethodName := ⟨RX10, "doubt", "(III)J"⟩
abbrev cX10_drop : ByteArray := prog_1_method_7_code
def yX10_drop : MethodName := ⟨RX10, "drop", "(II)J"⟩
abbrev cX10_forget : ByteArray := prog_1_method_8_code
def yX10_forget : MethodName := ⟨RX10, "forget", "()J"⟩
abbrev cX10_told : ByteArray := prog_1_method_9_code
def yX10_told : MethodName := ⟨RX10, "told", "(II)J"⟩
abbrev cX10_isOf : ByteArray := prog_1_method_10_code
def yX10_isOf : MethodName := ⟨RX10, "isOf", "(II)J"⟩
abbrev cX10_end : ByteArray := prog_1_method_11_code
def yX10_end : MethodName := ⟨RX10, "end", "(III)J"⟩
abbrev cX10_counts : ByteArray := prog_1_method_12_code
def yX10_counts : MethodName := ⟨RX10, "counts", "(III)J"⟩
abbrev cX10_ways : ByteArray := prog_1_method_13_code
def yX10_ways : MethodName := ⟨RX10, "ways", "(II)J"⟩
abbrev cX10_way : ByteArray := prog_1_method_14_code
def yX10_way : MethodName := ⟨RX10, "way", "(IIII)J"⟩
abbrev cX10_factor : ByteArray := prog_1_method_15_code
def yX10_factor : MethodName := ⟨RX10, "factor", "(IIII)J"⟩
abbrev cX10_span : ByteArray := prog_1_method_16_code
def yX10_span : MethodName := ⟨RX10, "span", "(IIII)J"⟩
abbrev cX10_quarrel : ByteArray := prog_1_method_17_code
def yX10_quarrel : MethodName := ⟨RX10, "quarrel", "(II)J"⟩
abbrev cX10_cure : ByteArray := prog_1_method_18_code
def yX10_cure : MethodName := ⟨RX10, "cure", "(I)J"⟩
abbrev cX10_heal : ByteArray := prog_1_method_19_code
def yX10_heal : MethodName := ⟨RX10, "heal", "(I)J"⟩
abbrev cX10_custom : ByteArray := prog_1_method_20_code
def yX10_custom : MethodName := ⟨RX10, "custom", "(II)J"⟩
abbrev cX10_step : ByteArray := prog_1_method_21_code
def yX10_step : MethodName := ⟨RX10, "step", "(III)J"⟩
abbrev cX10_copy : ByteArray := prog_1_method_22_code
def yX10_copy : MethodName := ⟨RX10, "copy", "(III)J"⟩
abbrev cX10_part : ByteArray := prog_1_method_23_code
def yX10_part : MethodName := ⟨RX10, "part", "(IJI)J"⟩
abbrev cX10_whole : ByteArray := prog_1_method_24_code
def yX10_whole : MethodName := ⟨RX10, "whole", "(IJ)J"⟩
abbrev cX10_line : ByteArray := prog_1_method_25_code
def yX10_line : MethodName := ⟨RX10, "line", "(IIII)J"⟩
abbrev cX10_amend : ByteArray := prog_1_method_26_code
def yX10_amend : MethodName := ⟨RX10, "amend", "(II)J"⟩
abbrev cX10_clear : ByteArray := prog_1_method_27_code
def yX10_clear : MethodName := ⟨RX10, "clear", "()J"⟩
abbrev cX10_total : ByteArray := prog_1_method_28_code
def yX10_total : MethodName := ⟨RX10, "total", "(III)J"⟩
abbrev cX10_slip : ByteArray := prog_1_method_29_code
def yX10_slip : MethodName := ⟨RX10, "slip", "(II)J"⟩
abbrev cX10_count : ByteArray := prog_1_method_30_code
def yX10_count : MethodName := ⟨RX10, "count", "(I)J"⟩
abbrev cX10_isPlace : ByteArray := prog_1_method_31_code
def yX10_isPlace : MethodName := ⟨RX10, "isPlace", "(I)Z"⟩
abbrev cX10_isDay : ByteArray := prog_1_method_32_code
def yX10_isDay : MethodName := ⟨RX10, "isDay", "(I)Z"⟩
abbrev cX10_isMeasure : ByteArray := prog_1_method_33_code
def yX10_isMeasure : MethodName := ⟨RX10, "isMeasure", "(I)Z"⟩
abbrev cX10_isKind : ByteArray := prog_1_method_34_code
def yX10_isKind : MethodName := ⟨RX10, "isKind", "(I)Z"⟩
abbrev cX10_isPair : ByteArray := prog_1_method_35_code
def yX10_isPair : MethodName := ⟨RX10, "isPair", "(I)Z"⟩
abbrev cX10_isPlaceAndDay : ByteArray := prog_1_method_36_code
def yX10_isPlaceAndDay : MethodName := ⟨RX10, "isPlaceAndDay", "(I)Z"⟩
abbrev cX10_isTerm : ByteArray := prog_1_method_37_code
def yX10_isTerm : MethodName := ⟨RX10, "isTerm", "(I)Z"⟩
abbrev cX10_isEither : ByteArray := prog_1_method_38_code
def yX10_isEither : MethodName := ⟨RX10, "isEither", "(I)Z"⟩
abbrev cX10_isAmount : ByteArray := prog_1_method_39_code
def yX10_isAmount : MethodName := ⟨RX10, "isAmount", "(I)Z"⟩
abbrev cX10_find : ByteArray := prog_1_method_40_code
def yX10_find : MethodName := ⟨RX10, "find", "(I)LOldReckoner$Likeness;"⟩
abbrev cX10_findCustom : ByteArray := prog_1_method_41_code
def yX10_findCustom : MethodName := ⟨RX10, "findCustom", "(I)LOldReckoner$Custom;"⟩
abbrev cX10_findLine : ByteArray := prog_1_method_42_code
def yX10_findLine : MethodName := ⟨RX10, "findLine", "(I)LOldReckoner$Line;"⟩
abbrev cX10_isWithin : ByteArray := prog_1_method_43_code
def yX10_isWithin : MethodName := ⟨RX10, "isWithin", "(II)Z"⟩
abbrev cX10_countsAt : ByteArray := prog_1_method_44_code
def yX10_countsAt : MethodName := ⟨RX10, "countsAt", "(LOldReckoner$Likeness;II)Z"⟩
abbrev cX10_gather : ByteArray := prog_1_method_45_code
def yX10_gather : MethodName := ⟨RX10, "gather", "(I)V"⟩
abbrev cX10_endOf : ByteArray := prog_1_method_46_code
def yX10_endOf : MethodName := ⟨RX10, "endOf", "(LOldReckoner$Fraction;LOldReckoner$Fraction;II)J"⟩
abbrev cX10_findCure : ByteArray := prog_1_method_47_code
def yX10_findCure : MethodName := ⟨RX10, "findCure", "(I)J"⟩
abbrev cX10_droppedOnes : ByteArray := prog_1_method_48_code
def yX10_droppedOnes : MethodName := ⟨RX10, "droppedOnes", "()I"⟩
abbrev cX10_customsThere : ByteArray := prog_1_method_49_code
def yX10_customsThere : MethodName := ⟨RX10, "customsThere", "()I"⟩
abbrev cX10_measuresNamed : ByteArray := prog_1_method_50_code
def yX10_measuresNamed : MethodName := ⟨RX10, "measuresNamed", "()I"⟩
abbrev cX10_weighLines : ByteArray := prog_1_method_51_code
def yX10_weighLines : MethodName := ⟨RX10, "weighLines", "(I)Z"⟩
abbrev cX10_sumLines : ByteArray := prog_1_method_52_code
def yX10_sumLines : MethodName := ⟨RX10, "sumLines", "(IJ)V"⟩
abbrev cX10_tryAmount : ByteArray := prog_1_method_53_code
def yX10_tryAmount : MethodName := ⟨RX10, "tryAmount", "(IJI)J"⟩
abbrev cX10_firstSlip : ByteArray := prog_1_method_54_code
def yX10_firstSlip : MethodName := ⟨RX10, "firstSlip", "(I)J"⟩
abbrev cX10_slipOfLine : ByteArray := prog_1_method_55_code
def yX10_slipOfLine : MethodName := ⟨RX10, "slipOfLine", "(IIII)J"⟩
def RX11 : String := "OldReckonerModel"
def TX11 : u_T := fun k => match k with
  | 0 => ("OldReckonerModel", "lies", "[I", true)
  | 1 => ("OldReckonerModel", "many", "I", false)
  | 2 => ("OldReckonerModel", "kind", "[I", true)
  | 3 => ("OldReckonerModel", "from", "[I", true)
  | 4 => ("OldReckonerModel", "to", "[I", true)
  | 5 => ("OldReckonerModel", "over", "[I", true)
  | 6 => ("OldReckonerModel", "under", "[I", true)
  | 7 => ("OldReckonerModel", "place", "[I", true)
  | 8 => ("OldReckonerModel", "first", "[I", true)
  | 9 => ("OldReckonerModel", "last", "[I", true)
  | 10 => ("OldReckonerModel", "worth", "[I", true)
  | 11 => ("OldReckonerModel", "spread", "[I", true)
  | 12 => ("OldReckonerModel", "isDropped", "[Z", true)
  | 13 => ("OldReckonerModel", "customs", "[I", true)
  | 14 => ("OldReckonerModel", "steps", "[I", true)
  | 15 => ("OldReckonerModel", "lines", "I", false)
  | 16 => ("OldReckonerModel", "amounts", "[I", true)
  | 17 => ("OldReckonerModel", "measures", "[I", true)
  | 18 => ("OldReckonerModel", "where", "[I", true)
  | 19 => ("OldReckonerModel", "when", "[I", true)
  | 20 => ("OldReckonerModel", "up", "J", false)
  | 21 => ("OldReckonerModel", "down", "J", false)
  | 22 => ("OldReckonerModel", "isLarge", "Z", false)
  | 23 => ("OldReckonerModel", "high", "J", false)
  | 24 => ("OldReckonerModel", "low", "J", false)
  | 25 => ("OldReckonerModel", "digits", "[J", true)
  | 26 => ("OldReckonerModel", "counted", "[Z", true)
  | 27 => ("OldReckonerModel", "at", "[I", true)
  | 28 => ("OldReckonerModel", "row", "[I", true)
  | 29 => ("OldReckonerModel", "length", "I", false)
  | 30 => ("OldReckonerModel", "found", "I", false)
  | 31 => ("OldReckonerModel", "wanted", "I", false)
  | 32 => ("OldReckonerModel", "kept", "[I", true)
  | 33 => ("OldReckonerModel", "keptLength", "I", false)
  | 34 => ("OldReckonerModel", "isKept", "Z", false)
  | 35 => ("OldReckonerModel", "spans", "Z", false)
  | 36 => ("OldReckonerModel", "anySpan", "Z", false)
  | 37 => ("OldReckonerModel", "lowUp", "J", false)
  | 38 => ("OldReckonerModel", "lowDown", "J", false)
  | 39 => ("OldReckonerModel", "highUp", "J", false)
  | 40 => ("OldReckonerModel", "highDown", "J", false)
  | 41 => ("OldReckonerModel", "isQuarrel", "Z", false)
  | 42 => ("OldReckonerModel", "isSet", "[Z", true)
  | 43 => ("OldReckonerModel", "choice", "[I", true)
  | 44 => ("OldReckonerModel", "choices", "I", false)
  | _ => ("OldReckonerModel", "ends", "[J", true)
def tyX11 : Nat → FieldType := fun k => match k with
  | 0 => .array .int
  | 1 => .int
  | 2 => .array .int
  | 3 => .array .int
  | 4 => .array .int
  | 5 => .array .int
  | 6 => .array .int
  | 7 => .array .int
  | 8 => .array .int
  | 9 => .array .int
  | 10 => .array .int
  | 11 => .array .int
  | 12 => .array .boolean
  | 13 => .array .int
  | 14 => .array .int
  | 15 => .int
  | 16 => .array .int
  | 17 => .array .int
  | 18 => .array .int
  | 19 => .array .int
  | 20 => .long
  | 21 => .long
  | 22 => .boolean
  | 23 => .long
  | 24 => .long
  | 25 => .array .long
  | 26 => .array .boolean
  | 27 => .array .int
  | 28 => .array .int
  | 29 => .int
  | 30 => .int
  | 31 => .int
  | 32 => .array .int
  | 33 => .int
  | 34 => .boolean
  | 35 => .boolean
  | 36 => .boolean
  | 37 => .long
  | 38 => .long
  | 39 => .long
  | 40 => .long
  | 41 => .boolean
  | 42 => .array .boolean
  | 43 => .array .int
  | 44 => .int
  | _ => .array .long
abbrev wsX110 : List Cond := u_ws RX11 TX11 46
theorem nmX11 : ∀ a, a < 46 → ∀ b, b < 46 → a ≠ b → (TX11 a).2.1 ≠ (TX11 b).2.1 := by decide +kernel
theorem tyX11_ok : ∀ k, k < 46 → parseFieldDescriptor (TX11 k).2.2.1 = some (tyX11 k) := by decide +kernel
abbrev cX11_init : ByteArray := prog_13_method_1_code
def yX11_init : MethodName := ⟨RX11, "<init>", "()V"⟩
abbrev cX11_isIn : ByteArray := prog_13_method_2_code
def yX11_isIn : MethodName := ⟨RX11, "isIn", "(JJJ)Z"⟩
abbrev cX11_common : ByteArray := prog_13_method_3_code
def yX11_common : MethodName := ⟨RX11, "common", "(JJ)J"⟩
abbrev cX11_set : ByteArray := prog_13_method_4_code
def yX11_set : MethodName := ⟨RX11, "set", "(JJ)V"⟩
abbrev cX11_below : ByteArray := prog_13_method_5_code
def yX11_below : MethodName := ⟨RX11, "below", "(JJ)J"⟩
abbrev cX11_times : ByteArray := prog_13_method_6_code
def yX11_times : MethodName := ⟨RX11, "times", "(JJ)V"⟩
abbrev cX11_multiply : ByteArray := prog_13_method_7_code
def yX11_multiply : MethodName := ⟨RX11, "multiply", "(JJ)V"⟩
abbrev cX11_spell : ByteArray := prog_13_method_8_code
def yX11_spell : MethodName := ⟨RX11, "spell", "(JJ)V"⟩
abbrev cX11_restBy : ByteArray := prog_13_method_9_code
def yX11_restBy : MethodName := ⟨RX11, "restBy", "(J)J"⟩
abbrev cX11_divided : ByteArray := prog_13_method_10_code
def yX11_divided : MethodName := ⟨RX11, "divided", "(J)J"⟩
abbrev cX11_bound : ByteArray := prog_13_method_11_code
def yX11_bound : MethodName := ⟨RX11, "bound", "()V"⟩
abbrev cX11_plus : ByteArray := prog_13_method_12_code
def yX11_plus : MethodName := ⟨RX11, "plus", "(JJ)V"⟩
abbrev cX11_isLess : ByteArray := prog_13_method_13_code
def yX11_isLess : MethodName := ⟨RX11, "isLess", "(JJJJ)Z"⟩
abbrev cX11_lies : ByteArray := prog_13_method_14_code
def yX11_lies : MethodName := ⟨RX11, "lies", "(II)J"⟩
abbrev cX11_isWithin : ByteArray := prog_13_method_15_code
def yX11_isWithin : MethodName := ⟨RX11, "isWithin", "(II)Z"⟩
abbrev cX11_isPlace : ByteArray := prog_13_method_16_code
def yX11_isPlace : MethodName := ⟨RX11, "isPlace", "(I)Z"⟩
abbrev cX11_within : ByteArray := prog_13_method_17_code
def yX11_within : MethodName := ⟨RX11, "within", "(II)J"⟩
abbrev cX11_isOne : ByteArray := prog_13_method_18_code
def yX11_isOne : MethodName := ⟨RX11, "isOne", "(I)Z"⟩
abbrev cX11_likeness : ByteArray := prog_13_method_19_code
def yX11_likeness : MethodName := ⟨RX11, "likeness", "(IIII)J"⟩
abbrev cX11_holds : ByteArray := prog_13_method_20_code
def yX11_holds : MethodName := ⟨RX11, "holds", "(IIII)J"⟩
abbrev cX11_doubt : ByteArray := prog_13_method_21_code
def yX11_doubt : MethodName := ⟨RX11, "doubt", "(III)J"⟩
abbrev cX11_isDoubtful : ByteArray := prog_13_method_22_code
def yX11_isDoubtful : MethodName := ⟨RX11, "isDoubtful", "(I)Z"⟩
abbrev cX11_isHeaped : ByteArray := prog_13_method_23_code
def yX11_isHeaped : MethodName := ⟨RX11, "isHeaped", "(I)Z"⟩
abbrev cX11_drop : ByteArray := prog_13_method_24_code
def yX11_drop : MethodName := ⟨RX11, "drop", "(II)J"⟩
abbrev cX11_forget : ByteArray := prog_13_method_25_code
def yX11_forget : MethodName := ⟨RX11, "forget", "()J"⟩
abbrev cX11_told : ByteArray := prog_13_method_26_code
def yX11_told : MethodName := ⟨RX11, "told", "(II)J"⟩
abbrev cX11_isOf : ByteArray := prog_13_method_27_code
def yX11_isOf : MethodName := ⟨RX11, "isOf", "(II)J"⟩
abbrev cX11_endOf : ByteArray := prog_13_method_28_code
def yX11_endOf : MethodName := ⟨RX11, "endOf", "(II)V"⟩
abbrev cX11_end : ByteArray := prog_13_method_29_code
def yX11_end : MethodName := ⟨RX11, "end", "(III)J"⟩
abbrev cX11_doesCount : ByteArray := prog_13_method_30_code
def yX11_doesCount : MethodName := ⟨RX11, "doesCount", "(III)Z"⟩
abbrev cX11_isDay : ByteArray := prog_13_method_31_code
def yX11_isDay : MethodName := ⟨RX11, "isDay", "(I)Z"⟩
abbrev cX11_counts : ByteArray := prog_13_method_32_code
def yX11_counts : MethodName := ⟨RX11, "counts", "(III)J"⟩
abbrev cX11_findCounted : ByteArray := prog_13_method_33_code
def yX11_findCounted : MethodName := ⟨RX11, "findCounted", "(II)V"⟩
abbrev cX11_product : ByteArray := prog_13_method_34_code
def yX11_product : MethodName := ⟨RX11, "product", "([III)V"⟩
abbrev cX11_widen : ByteArray := prog_13_method_35_code
def yX11_widen : MethodName := ⟨RX11, "widen", "()V"⟩
abbrev cX11_isMet : ByteArray := prog_13_method_36_code
def yX11_isMet : MethodName := ⟨RX11, "isMet", "(II)Z"⟩
abbrev cX11_go : ByteArray := prog_13_method_37_code
def yX11_go : MethodName := ⟨RX11, "go", "(II)V"⟩
abbrev cX11_seek : ByteArray := prog_13_method_38_code
def yX11_seek : MethodName := ⟨RX11, "seek", "(IIIZ)V"⟩
abbrev cX11_isPair : ByteArray := prog_13_method_39_code
def yX11_isPair : MethodName := ⟨RX11, "isPair", "(I)Z"⟩
abbrev cX11_isTime : ByteArray := prog_13_method_40_code
def yX11_isTime : MethodName := ⟨RX11, "isTime", "(I)Z"⟩
abbrev cX11_ways : ByteArray := prog_13_method_41_code
def yX11_ways : MethodName := ⟨RX11, "ways", "(II)J"⟩
abbrev cX11_way : ByteArray := prog_13_method_42_code
def yX11_way : MethodName := ⟨RX11, "way", "(IIII)J"⟩
abbrev cX11_theWay : ByteArray := prog_13_method_43_code
def yX11_theWay : MethodName := ⟨RX11, "theWay", "(IIII)J"⟩
abbrev cX11_endTold : ByteArray := prog_13_method_44_code
def yX11_endTold : MethodName := ⟨RX11, "endTold", "(II)J"⟩
abbrev cX11_isEnd : ByteArray := prog_13_method_45_code
def yX11_isEnd : MethodName := ⟨RX11, "isEnd", "(II)Z"⟩
abbrev cX11_factor : ByteArray := prog_13_method_46_code
def yX11_factor : MethodName := ⟨RX11, "factor", "(IIII)J"⟩
abbrev cX11_span : ByteArray := prog_13_method_47_code
def yX11_span : MethodName := ⟨RX11, "span", "(IIII)J"⟩
abbrev cX11_ring : ByteArray := prog_13_method_48_code
def yX11_ring : MethodName := ⟨RX11, "ring", "()V"⟩
abbrev cX11_isAhead : ByteArray := prog_13_method_49_code
def yX11_isAhead : MethodName := ⟨RX11, "isAhead", "()Z"⟩
abbrev cX11_round : ByteArray := prog_13_method_50_code
def yX11_round : MethodName := ⟨RX11, "round", "(II)V"⟩
abbrev cX11_isUsed : ByteArray := prog_13_method_51_code
def yX11_isUsed : MethodName := ⟨RX11, "isUsed", "(II)Z"⟩
abbrev cX11_findRings : ByteArray := prog_13_method_52_code
def yX11_findRings : MethodName := ⟨RX11, "findRings", "(IIZ)Z"⟩
abbrev cX11_begin : ByteArray := prog_13_method_53_code
def yX11_begin : MethodName := ⟨RX11, "begin", "(IZ)V"⟩
abbrev cX11_quarrel : ByteArray := prog_13_method_54_code
def yX11_quarrel : MethodName := ⟨RX11, "quarrel", "(II)J"⟩
abbrev cX11_cureOf : ByteArray := prog_13_method_55_code
def yX11_cureOf : MethodName := ⟨RX11, "cureOf", "(II)J"⟩
abbrev cX11_cure : ByteArray := prog_13_method_56_code
def yX11_cure : MethodName := ⟨RX11, "cure", "(I)J"⟩
abbrev cX11_heal : ByteArray := prog_13_method_57_code
def yX11_heal : MethodName := ⟨RX11, "heal", "(I)J"⟩
abbrev cX11_isCustom : ByteArray := prog_13_method_58_code
def yX11_isCustom : MethodName := ⟨RX11, "isCustom", "(I)Z"⟩
abbrev cX11_custom : ByteArray := prog_13_method_59_code
def yX11_custom : MethodName := ⟨RX11, "custom", "(II)J"⟩
abbrev cX11_step : ByteArray := prog_13_method_60_code
def yX11_step : MethodName := ⟨RX11, "step", "(III)J"⟩
abbrev cX11_copy : ByteArray := prog_13_method_61_code
def yX11_copy : MethodName := ⟨RX11, "copy", "(III)J"⟩
abbrev cX11_part : ByteArray := prog_13_method_62_code
def yX11_part : MethodName := ⟨RX11, "part", "(IJI)J"⟩
abbrev cX11_whole : ByteArray := prog_13_method_63_code
def yX11_whole : MethodName := ⟨RX11, "whole", "(IJ)J"⟩
abbrev cX11_line : ByteArray := prog_13_method_64_code
def yX11_line : MethodName := ⟨RX11, "line", "(IIII)J"⟩
abbrev cX11_amend : ByteArray := prog_13_method_65_code
def yX11_amend : MethodName := ⟨RX11, "amend", "(II)J"⟩
abbrev cX11_clear : ByteArray := prog_13_method_66_code
def yX11_clear : MethodName := ⟨RX11, "clear", "()J"⟩
abbrev cX11_findEnds : ByteArray := prog_13_method_67_code
def yX11_findEnds : MethodName := ⟨RX11, "findEnds", "(I)J"⟩
abbrev cX11_totalOf : ByteArray := prog_13_method_68_code
def yX11_totalOf : MethodName := ⟨RX11, "totalOf", "(III)V"⟩
abbrev cX11_bothEnds : ByteArray := prog_13_method_69_code
def yX11_bothEnds : MethodName := ⟨RX11, "bothEnds", "(II)J"⟩
abbrev cX11_total : ByteArray := prog_13_method_70_code
def yX11_total : MethodName := ⟨RX11, "total", "(III)J"⟩
abbrev cX11_isRight : ByteArray := prog_13_method_71_code
def yX11_isRight : MethodName := ⟨RX11, "isRight", "(I)Z"⟩
abbrev cX11_slip : ByteArray := prog_13_method_72_code
def yX11_slip : MethodName := ⟨RX11, "slip", "(II)J"⟩
abbrev cX11_count : ByteArray := prog_13_method_73_code
def yX11_count : MethodName := ⟨RX11, "count", "(I)J"⟩
def RJ6 : String := "java/lang/Integer"
def TJ6 : u_T := fun k => match k with
  | _ => ("", "", "", false)
def tyJ6 : Nat → FieldType := fun k => match k with
  | _ => .int
abbrev wsJ60 : List Cond := u_ws RJ6 TJ6 0
theorem nmJ6 : ∀ a, a < 0 → ∀ b, b < 0 → a ≠ b → (TJ6 a).2.1 ≠ (TJ6 b).2.1 := by decide +kernel
theorem tyJ6_ok : ∀ k, k < 0 → parseFieldDescriptor (TJ6 k).2.2.1 = some (tyJ6 k) := by decide +kernel
abbrev cJ6_bitCount_0f7a4 : ByteArray := prog_14_method_49_code
def yJ6_bitCount_0f7a4 : MethodName := ⟨RJ6, "bitCount", "(I)I"⟩
def RJ13 : String := "java/lang/Long"
def TJ13 : u_T := fun k => match k with
  | _ => ("", "", "", false)
def tyJ13 : Nat → FieldType := fun k => match k with
  | _ => .int
abbrev wsJ130 : List Cond := u_ws RJ13 TJ13 0
theorem nmJ13 : ∀ a, a < 0 → ∀ b, b < 0 → a ≠ b → (TJ13 a).2.1 ≠ (TJ13 b).2.1 := by decide +kernel
theorem tyJ13_ok : ∀ k, k < 0 → parseFieldDescriptor (TJ13 k).2.2.1 = some (tyJ13 k) := by decide +kernel
abbrev cJ13_bitCount_95d88 : ByteArray := prog_15_method_50_code
def yJ13_bitCount_95d88 : MethodName := ⟨RJ13, "bitCount", "(J)I"⟩
def RJ9 : String := "java/lang/Math"
def TJ9 : u_T := fun k => match k with
  | _ => ("", "", "", false)
def tyJ9 : Nat → FieldType := fun k => match k with
  | _ => .int
abbrev wsJ90 : List Cond := u_ws RJ9 TJ9 0
theorem nmJ9 : ∀ a, a < 0 → ∀ b, b < 0 → a ≠ b → (TJ9 a).2.1 ≠ (TJ9 b).2.1 := by decide +kernel
theorem tyJ9_ok : ∀ k, k < 0 → parseFieldDescriptor (TJ9 k).2.2.1 = some (tyJ9 k) := by decide +kernel
abbrev cJ9_floorDiv_f86c9 : ByteArray := prog_16_method_49_code
def yJ9_floorDiv_f86c9 : MethodName := ⟨RJ9, "floorDiv", "(JJ)J"⟩
abbrev cJ9_abs_067f4 : ByteArray := prog_16_method_61_code
def yJ9_abs_067f4 : MethodName := ⟨RJ9, "abs", "(J)J"⟩
abbrev cJ9_max_f86c9 : ByteArray := prog_16_method_66_code
def yJ9_max_f86c9 : MethodName := ⟨RJ9, "max", "(JJ)J"⟩
def RJ10 : String := "java/lang/System"
def TJ10 : u_T := fun k => match k with
  | _ => ("", "", "", false)
def tyJ10 : Nat → FieldType := fun k => match k with
  | _ => .int
abbrev wsJ100 : List Cond := u_ws RJ10 TJ10 0
theorem nmJ10 : ∀ a, a < 0 → ∀ b, b < 0 → a ≠ b → (TJ10 a).2.1 ≠ (TJ10 b).2.1 := by decide +kernel
theorem tyJ10_ok : ∀ k, k < 0 → parseFieldDescriptor (TJ10 k).2.2.1 = some (tyJ10 k) := by decide +kernel
def RJ7 : String := "java/util/Arrays"
def TJ7 : u_T := fun k => match k with
  | _ => ("", "", "", false)
def tyJ7 : Nat → FieldType := fun k => match k with
  | _ => .int
abbrev wsJ70 : List Cond := u_ws RJ7 TJ7 0
theorem nmJ7 : ∀ a, a < 0 → ∀ b, b < 0 → a ≠ b → (TJ7 a).2.1 ≠ (TJ7 b).2.1 := by decide +kernel
theorem tyJ7_ok : ∀ k, k < 0 → parseFieldDescriptor (TJ7 k).2.2.1 = some (tyJ7 k) := by decide +kernel
abbrev cJ7_fill_53178 : ByteArray := prog_18_method_103_code
def yJ7_fill_53178 : MethodName := ⟨RJ7, "fill", "([II)V"⟩
def RL : String := "OldReckonerLaw"
abbrev cL_law : ByteArray := code
def yL_law : MethodName := ⟨RL, "law", "([I)Z"⟩
abbrev vwCl : List vw_C := [(RX0, TX0, 1), (RX1, TX1, 3), (RX2, TX2, 3), (RX4, TX4, 7), (RX5, TX5, 14), (RX6, TX6, 6), (RX7, TX7, 2), (RX8, TX8, 3), (RX9, TX9, 11), (RX10, TX10, 14), (RX11, TX11, 46)]
end
section
theorem dX0_init_0 : decode cX0_init 0 = .ok (.aload_n 0, 1) := by decide +kernel
theorem dX0_init_1 : decode cX0_init 1 = .ok (.invokespecial 1, 3) := by decide +kernel
theorem dX0_init_4 : decode cX0_init 4 = .ok (.return_, 1) := by decide +kernel
theorem dX0_arrived_0 : decode cX0_arrived 0 = .ok (.aload_n 0, 1) := by decide +kernel
theorem dX0_arrived_1 : decode cX0_arrived 1 = .ok (.dup, 1) := by decide +kernel
theorem dX0_arrived_2 : decode cX0_arrived 2 = .ok (.getfield 7, 3) := by decide +kernel
theorem dX0_arrived_5 : decode cX0_arrived 5 = .ok (.lconst 1, 1) := by decide +kernel
theorem dX0_arrived_6 : decode cX0_arrived 6 = .ok (.ladd, 1) := by decide +kernel
theorem dX0_arrived_7 : decode cX0_arrived 7 = .ok (.putfield 7, 3) := by decide +kernel
theorem dX0_arrived_10 : decode cX0_arrived 10 = .ok (.return_, 1) := by decide +kernel
theorem dX1_init_0 : decode cX1_init 0 = .ok (.aload_n 0, 1) := by decide +kernel
theorem dX1_init_1 : decode cX1_init 1 = .ok (.invokespecial 3, 3) := by decide +kernel
theorem dX1_init_4 : decode cX1_init 4 = .ok (.aload_n 0, 1) := by decide +kernel
theorem dX1_init_5 : decode cX1_init 5 = .ok (.iconst 5, 1) := by decide +kernel
theorem dX1_init_6 : decode cX1_init 6 = .ok (.newarray .int, 2) := by decide +kernel
theorem dX1_init_8 : decode cX1_init 8 = .ok (.putfield 9, 3) := by decide +kernel
theorem dX1_init_11 : decode cX1_init 11 = .ok (.aload_n 0, 1) := by decide +kernel
theorem dX1_init_12 : decode cX1_init 12 = .ok (.iconst 1, 1) := by decide +kernel
theorem dX1_init_13 : decode cX1_init 13 = .ok (.putfield 15, 3) := by decide +kernel
theorem dX1_init_16 : decode cX1_init 16 = .ok (.aload_n 0, 1) := by decide +kernel
theorem dX1_init_17 : decode cX1_init 17 = .ok (.getfield 9, 3) := by decide +kernel
theorem dX1_init_20 : decode cX1_init 20 = .ok (.iconst 2, 1) := by decide +kernel
theorem dX1_init_21 : decode cX1_init 21 = .ok (.invokestatic 19, 3) := by decide +kernel
theorem dX1_init_24 : decode cX1_init 24 = .ok (.return_, 1) := by decide +kernel
theorem dX1_begin_0 : decode cX1_begin 0 = .ok (.aload_n 0, 1) := by decide +kernel
theorem dX1_begin_1 : decode cX1_begin 1 = .ok (.iconst 0, 1) := by decide +kernel
theorem dX1_begin_2 : decode cX1_begin 2 = .ok (.putfield 15, 3) := by decide +kernel
theorem dX1_begin_5 : decode cX1_begin 5 = .ok (.aload_n 0, 1) := by decide +kernel
theorem dX1_begin_6 : decode cX1_begin 6 = .ok (.iload_n 1, 1) := by decide +kernel
theorem dX1_begin_7 : decode cX1_begin 7 = .ok (.putfield 25, 3) := by decide +kernel
theorem dX1_begin_10 : decode cX1_begin 10 = .ok (.aload_n 0, 1) := by decide +kernel
theorem dX1_begin_11 : decode cX1_begin 11 = .ok (.getfield 9, 3) := by decide +kernel
theorem dX1_begin_14 : decode cX1_begin 14 = .ok (.iconst 2, 1) := by decide +kernel
theorem dX1_begin_15 : decode cX1_begin 15 = .ok (.invokestatic 19, 3) := by decide +kernel
theorem dX1_begin_18 : decode cX1_begin 18 = .ok (.return_, 1) := by decide +kernel
theorem dX1_partOf_0 : decode cX1_partOf 0 = .ok (.lload_n 1, 1) := by decide +kernel
theorem dX1_partOf_1 : decode cX1_partOf 1 = .ok (.lstore 4, 2) := by decide +kernel
theorem dX1_partOf_3 : decode cX1_partOf 3 = .ok (.aload_n 0, 1) := by decide +kernel
theorem dX1_partOf_4 : decode cX1_partOf 4 = .ok (.getfield 25, 3) := by decide +kernel
theorem dX1_partOf_7 : decode cX1_partOf 7 = .ok (.iconst 1, 1) := by decide +kernel
theorem dX1_partOf_8 : decode cX1_partOf 8 = .ok (.isub, 1) := by decide +kernel
theorem dX1_partOf_9 : decode cX1_partOf 9 = .ok (.istore 6, 2) := by decide +kernel
theorem dX1_partOf_11 : decode cX1_partOf 11 = .ok (.iload 6, 2) := by decide +kernel
theorem dX1_partOf_13 : decode cX1_partOf 13 = .ok (.iload_n 3, 1) := by decide +kernel
theorem dX1_partOf_14 : decode cX1_partOf 14 = .ok (.if_icmp .lt 22, 3) := by decide +kernel
theorem dX1_partOf_17 : decode cX1_partOf 17 = .ok (.lload 4, 2) := by decide +kernel
theorem dX1_partOf_19 : decode cX1_partOf 19 = .ok (.aload_n 0, 1) := by decide +kernel
theorem dX1_partOf_20 : decode cX1_partOf 20 = .ok (.getfield 9, 3) := by decide +kernel
theorem dX1_partOf_23 : decode cX1_partOf 23 = .ok (.iload 6, 2) := by decide +kernel
theorem dX1_partOf_25 : decode cX1_partOf 25 = .ok (.iaload, 1) := by decide +kernel
theorem dX1_partOf_26 : decode cX1_partOf 26 = .ok (.i2l, 1) := by decide +kernel
theorem dX1_partOf_27 : decode cX1_partOf 27 = .ok (.ldiv, 1) := by decide +kernel
theorem dX1_partOf_28 : decode cX1_partOf 28 = .ok (.lstore 4, 2) := by decide +kernel
theorem dX1_partOf_30 : decode cX1_partOf 30 = .ok (.iinc 6 (-1), 3) := by decide +kernel
theorem dX1_partOf_33 : decode cX1_partOf 33 = .ok (.goto (-22), 3) := by decide +kernel
theorem dX1_partOf_36 : decode cX1_partOf 36 = .ok (.iload_n 3, 1) := by decide +kernel
theorem dX1_partOf_37 : decode cX1_partOf 37 = .ok (.ifCond .ne 8, 3) := by decide +kernel
theorem dX1_partOf_40 : decode cX1_partOf 40 = .ok (.lload 4, 2) := by decide +kernel
theorem dX1_partOf_42 : decode cX1_partOf 42 = .ok (.goto 15, 3) := by decide +kernel
theorem dX1_partOf_45 : decode cX1_partOf 45 = .ok (.lload 4, 2) := by decide +kernel
theorem dX1_partOf_47 : decode cX1_partOf 47 = .ok (.aload_n 0, 1) := by decide +kernel
theorem dX1_partOf_48 : decode cX1_partOf 48 = .ok (.getfield 9, 3) := by decide +kernel
theorem dX1_partOf_51 : decode cX1_partOf 51 = .ok (.iload_n 3, 1) := by decide +kernel
theorem dX1_partOf_52 : decode cX1_partOf 52 = .ok (.iconst 1, 1) := by decide +kernel
theorem dX1_partOf_53 : decode cX1_partOf 53 = .ok (.isub, 1) := by decide +kernel
theorem dX1_partOf_54 : decode cX1_partOf 54 = .ok (.iaload, 1) := by decide +kernel
theorem dX1_partOf_55 : decode cX1_partOf 55 = .ok (.i2l, 1) := by decide +kernel
theorem dX1_partOf_56 : decode cX1_partOf 56 = .ok (.lrem, 1) := by decide +kernel
theorem dX1_partOf_57 : decode cX1_partOf 57 = .ok (.lreturn, 1) := by decide +kernel
theorem dX1_putTogether_0 : decode cX1_putTogether 0 = .ok (.lload_n 1, 1) := by decide +kernel
theorem dX1_putTogether_1 : decode cX1_putTogether 1 = .ok (.lstore_n 3, 1) := by decide +kernel
theorem dX1_putTogether_2 : decode cX1_putTogether 2 = .ok (.lconst 1, 1) := by decide +kernel
theorem dX1_putTogether_3 : decode cX1_putTogether 3 = .ok (.lstore 5, 2) := by decide +kernel
theorem dX1_putTogether_5 : decode cX1_putTogether 5 = .ok (.lconst 0, 1) := by decide +kernel
theorem dX1_putTogether_6 : decode cX1_putTogether 6 = .ok (.lstore 7, 2) := by decide +kernel
theorem dX1_putTogether_8 : decode cX1_putTogether 8 = .ok (.aload_n 0, 1) := by decide +kernel
theorem dX1_putTogether_9 : decode cX1_putTogether 9 = .ok (.getfield 25, 3) := by decide +kernel
theorem dX1_putTogether_12 : decode cX1_putTogether 12 = .ok (.istore 9, 2) := by decide +kernel
theorem dX1_putTogether_14 : decode cX1_putTogether 14 = .ok (.iload 9, 2) := by decide +kernel
theorem dX1_putTogether_16 : decode cX1_putTogether 16 = .ok (.ifCond .lt 48, 3) := by decide +kernel
theorem dX1_putTogether_19 : decode cX1_putTogether 19 = .ok (.lload 7, 2) := by decide +kernel
theorem dX1_putTogether_21 : decode cX1_putTogether 21 = .ok (.lload_n 3, 1) := by decide +kernel
theorem dX1_putTogether_22 : decode cX1_putTogether 22 = .ok (.ldc2_w 29, 3) := by decide +kernel
theorem dX1_putTogether_25 : decode cX1_putTogether 25 = .ok (.lrem, 1) := by decide +kernel
theorem dX1_putTogether_26 : decode cX1_putTogether 26 = .ok (.lload 5, 2) := by decide +kernel
theorem dX1_putTogether_28 : decode cX1_putTogether 28 = .ok (.lmul, 1) := by decide +kernel
theorem dX1_putTogether_29 : decode cX1_putTogether 29 = .ok (.ladd, 1) := by decide +kernel
theorem dX1_putTogether_30 : decode cX1_putTogether 30 = .ok (.lstore 7, 2) := by decide +kernel
theorem dX1_putTogether_32 : decode cX1_putTogether 32 = .ok (.lload_n 3, 1) := by decide +kernel
theorem dX1_putTogether_33 : decode cX1_putTogether 33 = .ok (.ldc2_w 29, 3) := by decide +kernel
theorem dX1_putTogether_36 : decode cX1_putTogether 36 = .ok (.ldiv, 1) := by decide +kernel
theorem dX1_putTogether_37 : decode cX1_putTogether 37 = .ok (.lstore_n 3, 1) := by decide +kernel
theorem dX1_putTogether_38 : decode cX1_putTogether 38 = .ok (.iload 9, 2) := by decide +kernel
theorem dX1_putTogether_40 : decode cX1_putTogether 40 = .ok (.ifCond .le 18, 3) := by decide +kernel
theorem dX1_putTogether_43 : decode cX1_putTogether 43 = .ok (.lload 5, 2) := by decide +kernel
theorem dX1_putTogether_45 : decode cX1_putTogether 45 = .ok (.aload_n 0, 1) := by decide +kernel
theorem dX1_putTogether_46 : decode cX1_putTogether 46 = .ok (.getfield 9, 3) := by decide +kernel
theorem dX1_putTogether_49 : decode cX1_putTogether 49 = .ok (.iload 9, 2) := by decide +kernel
theorem dX1_putTogether_51 : decode cX1_putTogether 51 = .ok (.iconst 1, 1) := by decide +kernel
theorem dX1_putTogether_52 : decode cX1_putTogether 52 = .ok (.isub, 1) := by decide +kernel
theorem dX1_putTogether_53 : decode cX1_putTogether 53 = .ok (.iaload, 1) := by decide +kernel
theorem dX1_putTogether_54 : decode cX1_putTogether 54 = .ok (.i2l, 1) := by decide +kernel
theorem dX1_putTogether_55 : decode cX1_putTogether 55 = .ok (.lmul, 1) := by decide +kernel
theorem dX1_putTogether_56 : decode cX1_putTogether 56 = .ok (.lstore 5, 2) := by decide +kernel
theorem dX1_putTogether_58 : decode cX1_putTogether 58 = .ok (.iinc 9 (-1), 3) := by decide +kernel
theorem dX1_putTogether_61 : decode cX1_putTogether 61 = .ok (.goto (-47), 3) := by decide +kernel
theorem dX1_putTogether_64 : decode cX1_putTogether 64 = .ok (.lload 7, 2) := by decide +kernel
theorem dX1_putTogether_66 : decode cX1_putTogether 66 = .ok (.lreturn, 1) := by decide +kernel
theorem dX2_init_0 : decode cX2_init 0 = .ok (.aload_n 0, 1) := by decide +kernel
theorem dX2_init_1 : decode cX2_init 1 = .ok (.invokespecial 1, 3) := by decide +kernel
theorem dX2_init_4 : decode cX2_init 4 = .ok (.aload_n 0, 1) := by decide +kernel
theorem dX2_init_5 : decode cX2_init 5 = .ok (.lconst 1, 1) := by decide +kernel
theorem dX2_init_6 : decode cX2_init 6 = .ok (.putfield 7, 3) := by decide +kernel
theorem dX2_init_9 : decode cX2_init 9 = .ok (.return_, 1) := by decide +kernel
theorem dX2_become_0 : decode cX2_become 0 = .ok (.lload_n 1, 1) := by decide +kernel
theorem dX2_become_1 : decode cX2_become 1 = .ok (.lload_n 3, 1) := by decide +kernel
theorem dX2_become_2 : decode cX2_become 2 = .ok (.invokestatic 13, 3) := by decide +kernel
theorem dX2_become_5 : decode cX2_become 5 = .ok (.lstore 5, 2) := by decide +kernel
theorem dX2_become_7 : decode cX2_become 7 = .ok (.aload_n 0, 1) := by decide +kernel
theorem dX2_become_8 : decode cX2_become 8 = .ok (.iconst 0, 1) := by decide +kernel
theorem dX2_become_9 : decode cX2_become 9 = .ok (.putfield 17, 3) := by decide +kernel
theorem dX2_become_12 : decode cX2_become 12 = .ok (.aload_n 0, 1) := by decide +kernel
theorem dX2_become_13 : decode cX2_become 13 = .ok (.lload_n 1, 1) := by decide +kernel
theorem dX2_become_14 : decode cX2_become 14 = .ok (.lload 5, 2) := by decide +kernel
theorem dX2_become_16 : decode cX2_become 16 = .ok (.ldiv, 1) := by decide +kernel
theorem dX2_become_17 : decode cX2_become 17 = .ok (.putfield 21, 3) := by decide +kernel
theorem dX2_become_20 : decode cX2_become 20 = .ok (.aload_n 0, 1) := by decide +kernel
theorem dX2_become_21 : decode cX2_become 21 = .ok (.lload_n 3, 1) := by decide +kernel
theorem dX2_become_22 : decode cX2_become 22 = .ok (.lload 5, 2) := by decide +kernel
theorem dX2_become_24 : decode cX2_become 24 = .ok (.ldiv, 1) := by decide +kernel
theorem dX2_become_25 : decode cX2_become 25 = .ok (.putfield 7, 3) := by decide +kernel
theorem dX2_become_28 : decode cX2_become 28 = .ok (.return_, 1) := by decide +kernel
theorem dX2_become__0 : decode cX2_become_ 0 = .ok (.aload_n 0, 1) := by decide +kernel
theorem dX2_become__1 : decode cX2_become_ 1 = .ok (.aload_n 1, 1) := by decide +kernel
theorem dX2_become__2 : decode cX2_become_ 2 = .ok (.getfield 17, 3) := by decide +kernel
theorem dX2_become__5 : decode cX2_become_ 5 = .ok (.putfield 17, 3) := by decide +kernel
theorem dX2_become__8 : decode cX2_become_ 8 = .ok (.aload_n 0, 1) := by decide +kernel
theorem dX2_become__9 : decode cX2_become_ 9 = .ok (.aload_n 1, 1) := by decide +kernel
theorem dX2_become__10 : decode cX2_become_ 10 = .ok (.getfield 21, 3) := by decide +kernel
theorem dX2_become__13 : decode cX2_become_ 13 = .ok (.putfield 21, 3) := by decide +kernel
theorem dX2_become__16 : decode cX2_become_ 16 = .ok (.aload_n 0, 1) := by decide +kernel
theorem dX2_become__17 : decode cX2_become_ 17 = .ok (.aload_n 1, 1) := by decide +kernel
theorem dX2_become__18 : decode cX2_become_ 18 = .ok (.getfield 7, 3) := by decide +kernel
theorem dX2_become__21 : decode cX2_become_ 21 = .ok (.putfield 7, 3) := by decide +kernel
theorem dX2_become__24 : decode cX2_become_ 24 = .ok (.return_, 1) := by decide +kernel
theorem dX2_becomeProduct_0 : decode cX2_becomeProduct 0 = .ok (.aload_n 1, 1) := by decide +kernel
theorem dX2_becomeProduct_1 : decode cX2_becomeProduct 1 = .ok (.getfield 21, 3) := by decide +kernel
theorem dX2_becomeProduct_4 : decode cX2_becomeProduct 4 = .ok (.lload 4, 2) := by decide +kernel
theorem dX2_becomeProduct_6 : decode cX2_becomeProduct 6 = .ok (.invokestatic 13, 3) := by decide +kernel
theorem dX2_becomeProduct_9 : decode cX2_becomeProduct 9 = .ok (.lstore 6, 2) := by decide +kernel
theorem dX2_becomeProduct_11 : decode cX2_becomeProduct 11 = .ok (.aload_n 1, 1) := by decide +kernel
theorem dX2_becomeProduct_12 : decode cX2_becomeProduct 12 = .ok (.getfield 7, 3) := by decide +kernel
theorem dX2_becomeProduct_15 : decode cX2_becomeProduct 15 = .ok (.lload_n 2, 1) := by decide +kernel
theorem dX2_becomeProduct_16 : decode cX2_becomeProduct 16 = .ok (.invokestatic 13, 3) := by decide +kernel
theorem dX2_becomeProduct_19 : decode cX2_becomeProduct 19 = .ok (.lstore 8, 2) := by decide +kernel
theorem dX2_becomeProduct_21 : decode cX2_becomeProduct 21 = .ok (.aload_n 0, 1) := by decide +kernel
theorem dX2_becomeProduct_22 : decode cX2_becomeProduct 22 = .ok (.aload_n 1, 1) := by decide +kernel
theorem dX2_becomeProduct_23 : decode cX2_becomeProduct 23 = .ok (.getfield 17, 3) := by decide +kernel
theorem dX2_becomeProduct_26 : decode cX2_becomeProduct 26 = .ok (.ifCond .ne 44, 3) := by decide +kernel
theorem dX2_becomeProduct_29 : decode cX2_becomeProduct 29 = .ok (.aload_n 1, 1) := by decide +kernel
theorem dX2_becomeProduct_30 : decode cX2_becomeProduct 30 = .ok (.getfield 21, 3) := by decide +kernel
theorem dX2_becomeProduct_33 : decode cX2_becomeProduct 33 = .ok (.lload 6, 2) := by decide +kernel
theorem dX2_becomeProduct_35 : decode cX2_becomeProduct 35 = .ok (.ldiv, 1) := by decide +kernel
theorem dX2_becomeProduct_36 : decode cX2_becomeProduct 36 = .ok (.lload_n 2, 1) := by decide +kernel
theorem dX2_becomeProduct_37 : decode cX2_becomeProduct 37 = .ok (.lload 8, 2) := by decide +kernel
theorem dX2_becomeProduct_39 : decode cX2_becomeProduct 39 = .ok (.ldiv, 1) := by decide +kernel
theorem dX2_becomeProduct_40 : decode cX2_becomeProduct 40 = .ok (.ldc2_w 24, 3) := by decide +kernel
theorem dX2_becomeProduct_43 : decode cX2_becomeProduct 43 = .ok (.invokestatic 26, 3) := by decide +kernel
theorem dX2_becomeProduct_46 : decode cX2_becomeProduct 46 = .ok (.ifCond .ne 24, 3) := by decide +kernel
theorem dX2_becomeProduct_49 : decode cX2_becomeProduct 49 = .ok (.aload_n 1, 1) := by decide +kernel
theorem dX2_becomeProduct_50 : decode cX2_becomeProduct 50 = .ok (.getfield 7, 3) := by decide +kernel
theorem dX2_becomeProduct_53 : decode cX2_becomeProduct 53 = .ok (.lload 8, 2) := by decide +kernel
theorem dX2_becomeProduct_55 : decode cX2_becomeProduct 55 = .ok (.ldiv, 1) := by decide +kernel
theorem dX2_becomeProduct_56 : decode cX2_becomeProduct 56 = .ok (.lload 4, 2) := by decide +kernel
theorem dX2_becomeProduct_58 : decode cX2_becomeProduct 58 = .ok (.lload 6, 2) := by decide +kernel
theorem dX2_becomeProduct_60 : decode cX2_becomeProduct 60 = .ok (.ldiv, 1) := by decide +kernel
theorem dX2_becomeProduct_61 : decode cX2_becomeProduct 61 = .ok (.ldc2_w 24, 3) := by decide +kernel
theorem dX2_becomeProduct_64 : decode cX2_becomeProduct 64 = .ok (.invokestatic 26, 3) := by decide +kernel
theorem dX2_becomeProduct_67 : decode cX2_becomeProduct 67 = .ok (.ifCond .eq 7, 3) := by decide +kernel
theorem dX2_becomeProduct_70 : decode cX2_becomeProduct 70 = .ok (.iconst 1, 1) := by decide +kernel
theorem dX2_becomeProduct_71 : decode cX2_becomeProduct 71 = .ok (.goto 4, 3) := by decide +kernel
theorem dX2_becomeProduct_74 : decode cX2_becomeProduct 74 = .ok (.iconst 0, 1) := by decide +kernel
theorem dX2_becomeProduct_75 : decode cX2_becomeProduct 75 = .ok (.aload_n 1, 1) := by decide +kernel
theorem dX2_becomeProduct_76 : decode cX2_becomeProduct 76 = .ok (.getfield 21, 3) := by decide +kernel
theorem dX2_becomeProduct_79 : decode cX2_becomeProduct 79 = .ok (.lload 6, 2) := by decide +kernel
theorem dX2_becomeProduct_81 : decode cX2_becomeProduct 81 = .ok (.ldiv, 1) := by decide +kernel
theorem dX2_becomeProduct_82 : decode cX2_becomeProduct 82 = .ok (.lload_n 2, 1) := by decide +kernel
theorem dX2_becomeProduct_83 : decode cX2_becomeProduct 83 = .ok (.lload 8, 2) := by decide +kernel
theorem dX2_becomeProduct_85 : decode cX2_becomeProduct 85 = .ok (.ldiv, 1) := by decide +kernel
theorem dX2_becomeProduct_86 : decode cX2_becomeProduct 86 = .ok (.lmul, 1) := by decide +kernel
theorem dX2_becomeProduct_87 : decode cX2_becomeProduct 87 = .ok (.aload_n 1, 1) := by decide +kernel
theorem dX2_becomeProduct_88 : decode cX2_becomeProduct 88 = .ok (.getfield 7, 3) := by decide +kernel
theorem dX2_becomeProduct_91 : decode cX2_becomeProduct 91 = .ok (.lload 8, 2) := by decide +kernel
theorem dX2_becomeProduct_93 : decode cX2_becomeProduct 93 = .ok (.ldiv, 1) := by decide +kernel
theorem dX2_becomeProduct_94 : decode cX2_becomeProduct 94 = .ok (.lload 4, 2) := by decide +kernel
theorem dX2_becomeProduct_96 : decode cX2_becomeProduct 96 = .ok (.lload 6, 2) := by decide +kernel
theorem dX2_becomeProduct_98 : decode cX2_becomeProduct 98 = .ok (.ldiv, 1) := by decide +kernel
theorem dX2_becomeProduct_99 : decode cX2_becomeProduct 99 = .ok (.lmul, 1) := by decide +kernel
theorem dX2_becomeProduct_100 : decode cX2_becomeProduct 100 = .ok (.invokevirtual 30, 3) := by decide +kernel
theorem dX2_becomeProduct_103 : decode cX2_becomeProduct 103 = .ok (.return_, 1) := by decide +kernel
theorem dX2_add_0 : decode cX2_add 0 = .ok (.aload_n 0, 1) := by decide +kernel
theorem dX2_add_1 : decode cX2_add 1 = .ok (.getfield 7, 3) := by decide +kernel
theorem dX2_add_4 : decode cX2_add 4 = .ok (.aload_n 1, 1) := by decide +kernel
theorem dX2_add_5 : decode cX2_add 5 = .ok (.getfield 7, 3) := by decide +kernel
theorem dX2_add_8 : decode cX2_add 8 = .ok (.invokestatic 13, 3) := by decide +kernel
theorem dX2_add_11 : decode cX2_add 11 = .ok (.lstore_n 2, 1) := by decide +kernel
theorem dX2_add_12 : decode cX2_add 12 = .ok (.aload_n 1, 1) := by decide +kernel
theorem dX2_add_13 : decode cX2_add 13 = .ok (.getfield 7, 3) := by decide +kernel
theorem dX2_add_16 : decode cX2_add 16 = .ok (.lload_n 2, 1) := by decide +kernel
theorem dX2_add_17 : decode cX2_add 17 = .ok (.ldiv, 1) := by decide +kernel
theorem dX2_add_18 : decode cX2_add 18 = .ok (.lstore 4, 2) := by decide +kernel
theorem dX2_add_20 : decode cX2_add 20 = .ok (.aload_n 0, 1) := by decide +kernel
theorem dX2_add_21 : decode cX2_add 21 = .ok (.getfield 7, 3) := by decide +kernel
theorem dX2_add_24 : decode cX2_add 24 = .ok (.lload_n 2, 1) := by decide +kernel
theorem dX2_add_25 : decode cX2_add 25 = .ok (.ldiv, 1) := by decide +kernel
theorem dX2_add_26 : decode cX2_add 26 = .ok (.lstore 6, 2) := by decide +kernel
theorem dX2_add_28 : decode cX2_add 28 = .ok (.aload_n 0, 1) := by decide +kernel
theorem dX2_add_29 : decode cX2_add 29 = .ok (.getfield 17, 3) := by decide +kernel
theorem dX2_add_32 : decode cX2_add 32 = .ok (.ifCond .ne 55, 3) := by decide +kernel
theorem dX2_add_35 : decode cX2_add 35 = .ok (.aload_n 1, 1) := by decide +kernel
theorem dX2_add_36 : decode cX2_add 36 = .ok (.getfield 17, 3) := by decide +kernel
theorem dX2_add_39 : decode cX2_add 39 = .ok (.ifCond .ne 48, 3) := by decide +kernel
theorem dX2_add_42 : decode cX2_add 42 = .ok (.aload_n 0, 1) := by decide +kernel
theorem dX2_add_43 : decode cX2_add 43 = .ok (.getfield 21, 3) := by decide +kernel
theorem dX2_add_46 : decode cX2_add 46 = .ok (.lload 4, 2) := by decide +kernel
theorem dX2_add_48 : decode cX2_add 48 = .ok (.ldc2_w 34, 3) := by decide +kernel
theorem dX2_add_51 : decode cX2_add 51 = .ok (.invokestatic 26, 3) := by decide +kernel
theorem dX2_add_54 : decode cX2_add 54 = .ok (.ifCond .ne 33, 3) := by decide +kernel
theorem dX2_add_57 : decode cX2_add 57 = .ok (.aload_n 1, 1) := by decide +kernel
theorem dX2_add_58 : decode cX2_add 58 = .ok (.getfield 21, 3) := by decide +kernel
theorem dX2_add_61 : decode cX2_add 61 = .ok (.lload 6, 2) := by decide +kernel
theorem dX2_add_63 : decode cX2_add 63 = .ok (.ldc2_w 34, 3) := by decide +kernel
theorem dX2_add_66 : decode cX2_add 66 = .ok (.invokestatic 26, 3) := by decide +kernel
theorem dX2_add_69 : decode cX2_add 69 = .ok (.ifCond .ne 18, 3) := by decide +kernel
theorem dX2_add_72 : decode cX2_add 72 = .ok (.aload_n 0, 1) := by decide +kernel
theorem dX2_add_73 : decode cX2_add 73 = .ok (.getfield 7, 3) := by decide +kernel
theorem dX2_add_76 : decode cX2_add 76 = .ok (.lload 4, 2) := by decide +kernel
theorem dX2_add_78 : decode cX2_add 78 = .ok (.ldc2_w 34, 3) := by decide +kernel
theorem dX2_add_81 : decode cX2_add 81 = .ok (.invokestatic 26, 3) := by decide +kernel
theorem dX2_add_84 : decode cX2_add 84 = .ok (.ifCond .eq 11, 3) := by decide +kernel
theorem dX2_add_87 : decode cX2_add 87 = .ok (.aload_n 0, 1) := by decide +kernel
theorem dX2_add_88 : decode cX2_add 88 = .ok (.iconst 1, 1) := by decide +kernel
theorem dX2_add_89 : decode cX2_add 89 = .ok (.lconst 0, 1) := by decide +kernel
theorem dX2_add_90 : decode cX2_add 90 = .ok (.lconst 1, 1) := by decide +kernel
theorem dX2_add_91 : decode cX2_add 91 = .ok (.invokevirtual 30, 3) := by decide +kernel
theorem dX2_add_94 : decode cX2_add 94 = .ok (.return_, 1) := by decide +kernel
theorem dX2_add_95 : decode cX2_add 95 = .ok (.aload_n 0, 1) := by decide +kernel
theorem dX2_add_96 : decode cX2_add 96 = .ok (.getfield 21, 3) := by decide +kernel
theorem dX2_add_99 : decode cX2_add 99 = .ok (.lload 4, 2) := by decide +kernel
theorem dX2_add_101 : decode cX2_add 101 = .ok (.lmul, 1) := by decide +kernel
theorem dX2_add_102 : decode cX2_add 102 = .ok (.aload_n 1, 1) := by decide +kernel
theorem dX2_add_103 : decode cX2_add 103 = .ok (.getfield 21, 3) := by decide +kernel
theorem dX2_add_106 : decode cX2_add 106 = .ok (.lload 6, 2) := by decide +kernel
theorem dX2_add_108 : decode cX2_add 108 = .ok (.lmul, 1) := by decide +kernel
theorem dX2_add_109 : decode cX2_add 109 = .ok (.ladd, 1) := by decide +kernel
theorem dX2_add_110 : decode cX2_add 110 = .ok (.lstore 8, 2) := by decide +kernel
theorem dX2_add_112 : decode cX2_add 112 = .ok (.aload_n 0, 1) := by decide +kernel
theorem dX2_add_113 : decode cX2_add 113 = .ok (.getfield 7, 3) := by decide +kernel
theorem dX2_add_116 : decode cX2_add 116 = .ok (.lload 4, 2) := by decide +kernel
theorem dX2_add_118 : decode cX2_add 118 = .ok (.lmul, 1) := by decide +kernel
theorem dX2_add_119 : decode cX2_add 119 = .ok (.lstore 10, 2) := by decide +kernel
theorem dX2_add_121 : decode cX2_add 121 = .ok (.lload 8, 2) := by decide +kernel
theorem dX2_add_123 : decode cX2_add 123 = .ok (.lload 10, 2) := by decide +kernel
theorem dX2_add_125 : decode cX2_add 125 = .ok (.invokestatic 13, 3) := by decide +kernel
theorem dX2_add_128 : decode cX2_add 128 = .ok (.lstore 12, 2) := by decide +kernel
theorem dX2_add_130 : decode cX2_add 130 = .ok (.aload_n 0, 1) := by decide +kernel
theorem dX2_add_131 : decode cX2_add 131 = .ok (.lload 8, 2) := by decide +kernel
theorem dX2_add_133 : decode cX2_add 133 = .ok (.lload 12, 2) := by decide +kernel
theorem dX2_add_135 : decode cX2_add 135 = .ok (.ldiv, 1) := by decide +kernel
theorem dX2_add_136 : decode cX2_add 136 = .ok (.lconst 1, 1) := by decide +kernel
theorem dX2_add_137 : decode cX2_add 137 = .ok (.ldc2_w 24, 3) := by decide +kernel
theorem dX2_add_140 : decode cX2_add 140 = .ok (.invokestatic 26, 3) := by decide +kernel
theorem dX2_add_143 : decode cX2_add 143 = .ok (.ifCond .ne 18, 3) := by decide +kernel
theorem dX2_add_146 : decode cX2_add 146 = .ok (.lload 10, 2) := by decide +kernel
theorem dX2_add_148 : decode cX2_add 148 = .ok (.lload 12, 2) := by decide +kernel
theorem dX2_add_150 : decode cX2_add 150 = .ok (.ldiv, 1) := by decide +kernel
theorem dX2_add_151 : decode cX2_add 151 = .ok (.lconst 1, 1) := by decide +kernel
theorem dX2_add_152 : decode cX2_add 152 = .ok (.ldc2_w 24, 3) := by decide +kernel
theorem dX2_add_155 : decode cX2_add 155 = .ok (.invokestatic 26, 3) := by decide +kernel
theorem dX2_add_158 : decode cX2_add 158 = .ok (.ifCond .eq 7, 3) := by decide +kernel
theorem dX2_add_161 : decode cX2_add 161 = .ok (.iconst 1, 1) := by decide +kernel
theorem dX2_add_162 : decode cX2_add 162 = .ok (.goto 4, 3) := by decide +kernel
theorem dX2_add_165 : decode cX2_add 165 = .ok (.iconst 0, 1) := by decide +kernel
theorem dX2_add_166 : decode cX2_add 166 = .ok (.lload 8, 2) := by decide +kernel
theorem dX2_add_168 : decode cX2_add 168 = .ok (.lload 12, 2) := by decide +kernel
theorem dX2_add_170 : decode cX2_add 170 = .ok (.ldiv, 1) := by decide +kernel
theorem dX2_add_171 : decode cX2_add 171 = .ok (.lload 10, 2) := by decide +kernel
theorem dX2_add_173 : decode cX2_add 173 = .ok (.lload 12, 2) := by decide +kernel
theorem dX2_add_175 : decode cX2_add 175 = .ok (.ldiv, 1) := by decide +kernel
theorem dX2_add_176 : decode cX2_add 176 = .ok (.invokevirtual 30, 3) := by decide +kernel
theorem dX2_add_179 : decode cX2_add 179 = .ok (.return_, 1) := by decide +kernel
theorem dX2_isAboveOne_0 : decode cX2_isAboveOne 0 = .ok (.aload_n 0, 1) := by decide +kernel
theorem dX2_isAboveOne_1 : decode cX2_isAboveOne 1 = .ok (.getfield 17, 3) := by decide +kernel
theorem dX2_isAboveOne_4 : decode cX2_isAboveOne 4 = .ok (.ifCond .ne 19, 3) := by decide +kernel
theorem dX2_isAboveOne_7 : decode cX2_isAboveOne 7 = .ok (.aload_n 0, 1) := by decide +kernel
theorem dX2_isAboveOne_8 : decode cX2_isAboveOne 8 = .ok (.getfield 21, 3) := by decide +kernel
theorem dX2_isAboveOne_11 : decode cX2_isAboveOne 11 = .ok (.aload_n 0, 1) := by decide +kernel
theorem dX2_isAboveOne_12 : decode cX2_isAboveOne 12 = .ok (.getfield 7, 3) := by decide +kernel
theorem dX2_isAboveOne_15 : decode cX2_isAboveOne 15 = .ok (.lcmp, 1) := by decide +kernel
theorem dX2_isAboveOne_16 : decode cX2_isAboveOne 16 = .ok (.ifCond .le 7, 3) := by decide +kernel
theorem dX2_isAboveOne_19 : decode cX2_isAboveOne 19 = .ok (.iconst 1, 1) := by decide +kernel
theorem dX2_isAboveOne_20 : decode cX2_isAboveOne 20 = .ok (.goto 4, 3) := by decide +kernel
theorem dX2_isAboveOne_23 : decode cX2_isAboveOne 23 = .ok (.iconst 0, 1) := by decide +kernel
theorem dX2_isAboveOne_24 : decode cX2_isAboveOne 24 = .ok (.ireturn, 1) := by decide +kernel
theorem dX2_isLess_0 : decode cX2_isLess 0 = .ok (.aload_n 0, 1) := by decide +kernel
theorem dX2_isLess_1 : decode cX2_isLess 1 = .ok (.getfield 21, 3) := by decide +kernel
theorem dX2_isLess_4 : decode cX2_isLess 4 = .ok (.lstore_n 2, 1) := by decide +kernel
theorem dX2_isLess_5 : decode cX2_isLess 5 = .ok (.aload_n 0, 1) := by decide +kernel
theorem dX2_isLess_6 : decode cX2_isLess 6 = .ok (.getfield 7, 3) := by decide +kernel
theorem dX2_isLess_9 : decode cX2_isLess 9 = .ok (.lstore 4, 2) := by decide +kernel
theorem dX2_isLess_11 : decode cX2_isLess 11 = .ok (.aload_n 1, 1) := by decide +kernel
theorem dX2_isLess_12 : decode cX2_isLess 12 = .ok (.getfield 21, 3) := by decide +kernel
theorem dX2_isLess_15 : decode cX2_isLess 15 = .ok (.lstore 6, 2) := by decide +kernel
theorem dX2_isLess_17 : decode cX2_isLess 17 = .ok (.aload_n 1, 1) := by decide +kernel
theorem dX2_isLess_18 : decode cX2_isLess 18 = .ok (.getfield 7, 3) := by decide +kernel
theorem dX2_isLess_21 : decode cX2_isLess 21 = .ok (.lstore 8, 2) := by decide +kernel
theorem dX2_isLess_23 : decode cX2_isLess 23 = .ok (.iconst 0, 1) := by decide +kernel
theorem dX2_isLess_24 : decode cX2_isLess 24 = .ok (.istore 10, 2) := by decide +kernel
theorem dX2_isLess_26 : decode cX2_isLess 26 = .ok (.iload 10, 2) := by decide +kernel
theorem dX2_isLess_28 : decode cX2_isLess 28 = .ok (.bipush 100, 2) := by decide +kernel
theorem dX2_isLess_30 : decode cX2_isLess 30 = .ok (.if_icmp .ge 111, 3) := by decide +kernel
theorem dX2_isLess_33 : decode cX2_isLess 33 = .ok (.lload 4, 2) := by decide +kernel
theorem dX2_isLess_35 : decode cX2_isLess 35 = .ok (.lconst 0, 1) := by decide +kernel
theorem dX2_isLess_36 : decode cX2_isLess 36 = .ok (.lcmp, 1) := by decide +kernel
theorem dX2_isLess_37 : decode cX2_isLess 37 = .ok (.ifCond .le 104, 3) := by decide +kernel
theorem dX2_isLess_40 : decode cX2_isLess 40 = .ok (.lload 8, 2) := by decide +kernel
theorem dX2_isLess_42 : decode cX2_isLess 42 = .ok (.lconst 0, 1) := by decide +kernel
theorem dX2_isLess_43 : decode cX2_isLess 43 = .ok (.lcmp, 1) := by decide +kernel
theorem dX2_isLess_44 : decode cX2_isLess 44 = .ok (.ifCond .le 97, 3) := by decide +kernel
theorem dX2_isLess_47 : decode cX2_isLess 47 = .ok (.lload_n 2, 1) := by decide +kernel
theorem dX2_isLess_48 : decode cX2_isLess 48 = .ok (.lload 4, 2) := by decide +kernel
theorem dX2_isLess_50 : decode cX2_isLess 50 = .ok (.ldiv, 1) := by decide +kernel
theorem dX2_isLess_51 : decode cX2_isLess 51 = .ok (.lload 6, 2) := by decide +kernel
theorem dX2_isLess_53 : decode cX2_isLess 53 = .ok (.lload 8, 2) := by decide +kernel
theorem dX2_isLess_55 : decode cX2_isLess 55 = .ok (.ldiv, 1) := by decide +kernel
theorem dX2_isLess_56 : decode cX2_isLess 56 = .ok (.lcmp, 1) := by decide +kernel
theorem dX2_isLess_57 : decode cX2_isLess 57 = .ok (.ifCond .eq 22, 3) := by decide +kernel
theorem dX2_isLess_60 : decode cX2_isLess 60 = .ok (.lload_n 2, 1) := by decide +kernel
theorem dX2_isLess_61 : decode cX2_isLess 61 = .ok (.lload 4, 2) := by decide +kernel
theorem dX2_isLess_63 : decode cX2_isLess 63 = .ok (.ldiv, 1) := by decide +kernel
theorem dX2_isLess_64 : decode cX2_isLess 64 = .ok (.lload 6, 2) := by decide +kernel
theorem dX2_isLess_66 : decode cX2_isLess 66 = .ok (.lload 8, 2) := by decide +kernel
theorem dX2_isLess_68 : decode cX2_isLess 68 = .ok (.ldiv, 1) := by decide +kernel
theorem dX2_isLess_69 : decode cX2_isLess 69 = .ok (.lcmp, 1) := by decide +kernel
theorem dX2_isLess_70 : decode cX2_isLess 70 = .ok (.ifCond .ge 7, 3) := by decide +kernel
theorem dX2_isLess_73 : decode cX2_isLess 73 = .ok (.iconst 1, 1) := by decide +kernel
theorem dX2_isLess_74 : decode cX2_isLess 74 = .ok (.goto 4, 3) := by decide +kernel
theorem dX2_isLess_77 : decode cX2_isLess 77 = .ok (.iconst 0, 1) := by decide +kernel
theorem dX2_isLess_78 : decode cX2_isLess 78 = .ok (.ireturn, 1) := by decide +kernel
theorem dX2_isLess_79 : decode cX2_isLess 79 = .ok (.lload_n 2, 1) := by decide +kernel
theorem dX2_isLess_80 : decode cX2_isLess 80 = .ok (.lload 4, 2) := by decide +kernel
theorem dX2_isLess_82 : decode cX2_isLess 82 = .ok (.lrem, 1) := by decide +kernel
theorem dX2_isLess_83 : decode cX2_isLess 83 = .ok (.lstore 11, 2) := by decide +kernel
theorem dX2_isLess_85 : decode cX2_isLess 85 = .ok (.lload 6, 2) := by decide +kernel
theorem dX2_isLess_87 : decode cX2_isLess 87 = .ok (.lload 8, 2) := by decide +kernel
theorem dX2_isLess_89 : decode cX2_isLess 89 = .ok (.lrem, 1) := by decide +kernel
theorem dX2_isLess_90 : decode cX2_isLess 90 = .ok (.lstore 13, 2) := by decide +kernel
theorem dX2_isLess_92 : decode cX2_isLess 92 = .ok (.lload 11, 2) := by decide +kernel
theorem dX2_isLess_94 : decode cX2_isLess 94 = .ok (.lconst 0, 1) := by decide +kernel
theorem dX2_isLess_95 : decode cX2_isLess 95 = .ok (.lcmp, 1) := by decide +kernel
theorem dX2_isLess_96 : decode cX2_isLess 96 = .ok (.ifCond .eq 10, 3) := by decide +kernel
theorem dX2_isLess_99 : decode cX2_isLess 99 = .ok (.lload 13, 2) := by decide +kernel
theorem dX2_isLess_101 : decode cX2_isLess 101 = .ok (.lconst 0, 1) := by decide +kernel
theorem dX2_isLess_102 : decode cX2_isLess 102 = .ok (.lcmp, 1) := by decide +kernel
theorem dX2_isLess_103 : decode cX2_isLess 103 = .ok (.ifCond .ne 17, 3) := by decide +kernel
theorem dX2_isLess_106 : decode cX2_isLess 106 = .ok (.lload 11, 2) := by decide +kernel
theorem dX2_isLess_108 : decode cX2_isLess 108 = .ok (.lload 13, 2) := by decide +kernel
theorem dX2_isLess_110 : decode cX2_isLess 110 = .ok (.lcmp, 1) := by decide +kernel
theorem dX2_isLess_111 : decode cX2_isLess 111 = .ok (.ifCond .ge 7, 3) := by decide +kernel
theorem dX2_isLess_114 : decode cX2_isLess 114 = .ok (.iconst 1, 1) := by decide +kernel
theorem dX2_isLess_115 : decode cX2_isLess 115 = .ok (.goto 4, 3) := by decide +kernel
theorem dX2_isLess_118 : decode cX2_isLess 118 = .ok (.iconst 0, 1) := by decide +kernel
theorem dX2_isLess_119 : decode cX2_isLess 119 = .ok (.ireturn, 1) := by decide +kernel
theorem dX2_isLess_120 : decode cX2_isLess 120 = .ok (.lload 8, 2) := by decide +kernel
theorem dX2_isLess_122 : decode cX2_isLess 122 = .ok (.lstore_n 2, 1) := by decide +kernel
theorem dX2_isLess_123 : decode cX2_isLess 123 = .ok (.lload 4, 2) := by decide +kernel
theorem dX2_isLess_125 : decode cX2_isLess 125 = .ok (.lstore 6, 2) := by decide +kernel
theorem dX2_isLess_127 : decode cX2_isLess 127 = .ok (.lload 13, 2) := by decide +kernel
theorem dX2_isLess_129 : decode cX2_isLess 129 = .ok (.lstore 4, 2) := by decide +kernel
theorem dX2_isLess_131 : decode cX2_isLess 131 = .ok (.lload 11, 2) := by decide +kernel
theorem dX2_isLess_133 : decode cX2_isLess 133 = .ok (.lstore 8, 2) := by decide +kernel
theorem dX2_isLess_135 : decode cX2_isLess 135 = .ok (.iinc 10 1, 3) := by decide +kernel
theorem dX2_isLess_138 : decode cX2_isLess 138 = .ok (.goto (-112), 3) := by decide +kernel
theorem dX2_isLess_141 : decode cX2_isLess 141 = .ok (.iconst 0, 1) := by decide +kernel
theorem dX2_isLess_142 : decode cX2_isLess 142 = .ok (.ireturn, 1) := by decide +kernel
theorem dX2_floor_0 : decode cX2_floor 0 = .ok (.aload_n 0, 1) := by decide +kernel
theorem dX2_floor_1 : decode cX2_floor 1 = .ok (.getfield 7, 3) := by decide +kernel
theorem dX2_floor_4 : decode cX2_floor 4 = .ok (.lconst 0, 1) := by decide +kernel
theorem dX2_floor_5 : decode cX2_floor 5 = .ok (.lcmp, 1) := by decide +kernel
theorem dX2_floor_6 : decode cX2_floor 6 = .ok (.ifCond .le 17, 3) := by decide +kernel
theorem dX2_floor_9 : decode cX2_floor 9 = .ok (.aload_n 0, 1) := by decide +kernel
theorem dX2_floor_10 : decode cX2_floor 10 = .ok (.getfield 21, 3) := by decide +kernel
theorem dX2_floor_13 : decode cX2_floor 13 = .ok (.aload_n 0, 1) := by decide +kernel
theorem dX2_floor_14 : decode cX2_floor 14 = .ok (.getfield 7, 3) := by decide +kernel
theorem dX2_floor_17 : decode cX2_floor 17 = .ok (.invokestatic 36, 3) := by decide +kernel
theorem dX2_floor_20 : decode cX2_floor 20 = .ok (.goto 4, 3) := by decide +kernel
theorem dX2_floor_23 : decode cX2_floor 23 = .ok (.lconst 0, 1) := by decide +kernel
theorem dX2_floor_24 : decode cX2_floor 24 = .ok (.lreturn, 1) := by decide +kernel
theorem dX2_ceiling_0 : decode cX2_ceiling 0 = .ok (.aload_n 0, 1) := by decide +kernel
theorem dX2_ceiling_1 : decode cX2_ceiling 1 = .ok (.getfield 7, 3) := by decide +kernel
theorem dX2_ceiling_4 : decode cX2_ceiling 4 = .ok (.lconst 0, 1) := by decide +kernel
theorem dX2_ceiling_5 : decode cX2_ceiling 5 = .ok (.lcmp, 1) := by decide +kernel
theorem dX2_ceiling_6 : decode cX2_ceiling 6 = .ok (.ifCond .le 19, 3) := by decide +kernel
theorem dX2_ceiling_9 : decode cX2_ceiling 9 = .ok (.aload_n 0, 1) := by decide +kernel
theorem dX2_ceiling_10 : decode cX2_ceiling 10 = .ok (.getfield 21, 3) := by decide +kernel
theorem dX2_ceiling_13 : decode cX2_ceiling 13 = .ok (.lneg, 1) := by decide +kernel
theorem dX2_ceiling_14 : decode cX2_ceiling 14 = .ok (.aload_n 0, 1) := by decide +kernel
theorem dX2_ceiling_15 : decode cX2_ceiling 15 = .ok (.getfield 7, 3) := by decide +kernel
theorem dX2_ceiling_18 : decode cX2_ceiling 18 = .ok (.invokestatic 36, 3) := by decide +kernel
theorem dX2_ceiling_21 : decode cX2_ceiling 21 = .ok (.lneg, 1) := by decide +kernel
theorem dX2_ceiling_22 : decode cX2_ceiling 22 = .ok (.goto 4, 3) := by decide +kernel
theorem dX2_ceiling_25 : decode cX2_ceiling 25 = .ok (.lconst 0, 1) := by decide +kernel
theorem dX2_ceiling_26 : decode cX2_ceiling 26 = .ok (.lreturn, 1) := by decide +kernel
theorem dX2_settle_0 : decode cX2_settle 0 = .ok (.aload_n 0, 1) := by decide +kernel
theorem dX2_settle_1 : decode cX2_settle 1 = .ok (.iload_n 1, 1) := by decide +kernel
theorem dX2_settle_2 : decode cX2_settle 2 = .ok (.putfield 17, 3) := by decide +kernel
theorem dX2_settle_5 : decode cX2_settle 5 = .ok (.aload_n 0, 1) := by decide +kernel
theorem dX2_settle_6 : decode cX2_settle 6 = .ok (.iload_n 1, 1) := by decide +kernel
theorem dX2_settle_7 : decode cX2_settle 7 = .ok (.ifCond .eq 7, 3) := by decide +kernel
theorem dX2_settle_10 : decode cX2_settle 10 = .ok (.lconst 0, 1) := by decide +kernel
theorem dX2_settle_11 : decode cX2_settle 11 = .ok (.goto 4, 3) := by decide +kernel
theorem dX2_settle_14 : decode cX2_settle 14 = .ok (.lload_n 2, 1) := by decide +kernel
theorem dX2_settle_15 : decode cX2_settle 15 = .ok (.putfield 21, 3) := by decide +kernel
theorem dX2_settle_18 : decode cX2_settle 18 = .ok (.aload_n 0, 1) := by decide +kernel
theorem dX2_settle_19 : decode cX2_settle 19 = .ok (.iload_n 1, 1) := by decide +kernel
theorem dX2_settle_20 : decode cX2_settle 20 = .ok (.ifCond .eq 7, 3) := by decide +kernel
theorem dX2_settle_23 : decode cX2_settle 23 = .ok (.lconst 1, 1) := by decide +kernel
theorem dX2_settle_24 : decode cX2_settle 24 = .ok (.goto 5, 3) := by decide +kernel
theorem dX2_settle_27 : decode cX2_settle 27 = .ok (.lload 4, 2) := by decide +kernel
theorem dX2_settle_29 : decode cX2_settle 29 = .ok (.putfield 7, 3) := by decide +kernel
theorem dX2_settle_32 : decode cX2_settle 32 = .ok (.return_, 1) := by decide +kernel
theorem dX2_reaches_0 : decode cX2_reaches 0 = .ok (.lload_n 0, 1) := by decide +kernel
theorem dX2_reaches_1 : decode cX2_reaches 1 = .ok (.invokestatic 41, 3) := by decide +kernel
theorem dX2_reaches_4 : decode cX2_reaches 4 = .ok (.lstore 6, 2) := by decide +kernel
theorem dX2_reaches_6 : decode cX2_reaches 6 = .ok (.lload 6, 2) := by decide +kernel
theorem dX2_reaches_8 : decode cX2_reaches 8 = .ok (.lconst 0, 1) := by decide +kernel
theorem dX2_reaches_9 : decode cX2_reaches 9 = .ok (.lcmp, 1) := by decide +kernel
theorem dX2_reaches_10 : decode cX2_reaches 10 = .ok (.ifCond .le 22, 3) := by decide +kernel
theorem dX2_reaches_13 : decode cX2_reaches 13 = .ok (.lload_n 2, 1) := by decide +kernel
theorem dX2_reaches_14 : decode cX2_reaches 14 = .ok (.invokestatic 41, 3) := by decide +kernel
theorem dX2_reaches_17 : decode cX2_reaches 17 = .ok (.lload 4, 2) := by decide +kernel
theorem dX2_reaches_19 : decode cX2_reaches 19 = .ok (.lconst 1, 1) := by decide +kernel
theorem dX2_reaches_20 : decode cX2_reaches 20 = .ok (.lsub, 1) := by decide +kernel
theorem dX2_reaches_21 : decode cX2_reaches 21 = .ok (.lload 6, 2) := by decide +kernel
theorem dX2_reaches_23 : decode cX2_reaches 23 = .ok (.ldiv, 1) := by decide +kernel
theorem dX2_reaches_24 : decode cX2_reaches 24 = .ok (.lcmp, 1) := by decide +kernel
theorem dX2_reaches_25 : decode cX2_reaches 25 = .ok (.ifCond .le 7, 3) := by decide +kernel
theorem dX2_reaches_28 : decode cX2_reaches 28 = .ok (.iconst 1, 1) := by decide +kernel
theorem dX2_reaches_29 : decode cX2_reaches 29 = .ok (.goto 4, 3) := by decide +kernel
theorem dX2_reaches_32 : decode cX2_reaches 32 = .ok (.iconst 0, 1) := by decide +kernel
theorem dX2_reaches_33 : decode cX2_reaches 33 = .ok (.ireturn, 1) := by decide +kernel
theorem dX2_commonDivisor_0 : decode cX2_commonDivisor 0 = .ok (.lload_n 0, 1) := by decide +kernel
theorem dX2_commonDivisor_1 : decode cX2_commonDivisor 1 = .ok (.invokestatic 41, 3) := by decide +kernel
theorem dX2_commonDivisor_4 : decode cX2_commonDivisor 4 = .ok (.lstore 4, 2) := by decide +kernel
theorem dX2_commonDivisor_6 : decode cX2_commonDivisor 6 = .ok (.lload_n 2, 1) := by decide +kernel
theorem dX2_commonDivisor_7 : decode cX2_commonDivisor 7 = .ok (.invokestatic 41, 3) := by decide +kernel
theorem dX2_commonDivisor_10 : decode cX2_commonDivisor 10 = .ok (.lstore 6, 2) := by decide +kernel
theorem dX2_commonDivisor_12 : decode cX2_commonDivisor 12 = .ok (.iconst 0, 1) := by decide +kernel
theorem dX2_commonDivisor_13 : decode cX2_commonDivisor 13 = .ok (.istore 8, 2) := by decide +kernel
theorem dX2_commonDivisor_15 : decode cX2_commonDivisor 15 = .ok (.iload 8, 2) := by decide +kernel
theorem dX2_commonDivisor_17 : decode cX2_commonDivisor 17 = .ok (.bipush 100, 2) := by decide +kernel
theorem dX2_commonDivisor_19 : decode cX2_commonDivisor 19 = .ok (.if_icmp .ge 31, 3) := by decide +kernel
theorem dX2_commonDivisor_22 : decode cX2_commonDivisor 22 = .ok (.lload 6, 2) := by decide +kernel
theorem dX2_commonDivisor_24 : decode cX2_commonDivisor 24 = .ok (.lconst 0, 1) := by decide +kernel
theorem dX2_commonDivisor_25 : decode cX2_commonDivisor 25 = .ok (.lcmp, 1) := by decide +kernel
theorem dX2_commonDivisor_26 : decode cX2_commonDivisor 26 = .ok (.ifCond .le 24, 3) := by decide +kernel
theorem dX2_commonDivisor_29 : decode cX2_commonDivisor 29 = .ok (.lload 4, 2) := by decide +kernel
theorem dX2_commonDivisor_31 : decode cX2_commonDivisor 31 = .ok (.lload 6, 2) := by decide +kernel
theorem dX2_commonDivisor_33 : decode cX2_commonDivisor 33 = .ok (.lrem, 1) := by decide +kernel
theorem dX2_commonDivisor_34 : decode cX2_commonDivisor 34 = .ok (.lstore 9, 2) := by decide +kernel
theorem dX2_commonDivisor_36 : decode cX2_commonDivisor 36 = .ok (.lload 6, 2) := by decide +kernel
theorem dX2_commonDivisor_38 : decode cX2_commonDivisor 38 = .ok (.lstore 4, 2) := by decide +kernel
theorem dX2_commonDivisor_40 : decode cX2_commonDivisor 40 = .ok (.lload 9, 2) := by decide +kernel
theorem dX2_commonDivisor_42 : decode cX2_commonDivisor 42 = .ok (.lstore 6, 2) := by decide +kernel
theorem dX2_commonDivisor_44 : decode cX2_commonDivisor 44 = .ok (.iinc 8 1, 3) := by decide +kernel
theorem dX2_commonDivisor_47 : decode cX2_commonDivisor 47 = .ok (.goto (-32), 3) := by decide +kernel
theorem dX2_commonDivisor_50 : decode cX2_commonDivisor 50 = .ok (.lload 4, 2) := by decide +kernel
theorem dX2_commonDivisor_52 : decode cX2_commonDivisor 52 = .ok (.lconst 1, 1) := by decide +kernel
theorem dX2_commonDivisor_53 : decode cX2_commonDivisor 53 = .ok (.invokestatic 45, 3) := by decide +kernel
theorem dX2_commonDivisor_56 : decode cX2_commonDivisor 56 = .ok (.lreturn, 1) := by decide +kernel
theorem dX3_init_0 : decode cX3_init 0 = .ok (.aload_n 0, 1) := by decide +kernel
theorem dX3_init_1 : decode cX3_init 1 = .ok (.invokespecial 1, 3) := by decide +kernel
theorem dX3_init_4 : decode cX3_init 4 = .ok (.return_, 1) := by decide +kernel
theorem dX4_init_0 : decode cX4_init 0 = .ok (.aload_n 0, 1) := by decide +kernel
theorem dX4_init_1 : decode cX4_init 1 = .ok (.invokespecial 3, 3) := by decide +kernel
theorem dX4_init_4 : decode cX4_init 4 = .ok (.aload_n 0, 1) := by decide +kernel
theorem dX4_init_5 : decode cX4_init 5 = .ok (.bipush 10, 2) := by decide +kernel
theorem dX4_init_7 : decode cX4_init 7 = .ok (.newarray .int, 2) := by decide +kernel
theorem dX4_init_9 : decode cX4_init 9 = .ok (.putfield 9, 3) := by decide +kernel
theorem dX4_init_12 : decode cX4_init 12 = .ok (.aload_n 0, 1) := by decide +kernel
theorem dX4_init_13 : decode cX4_init 13 = .ok (.bipush 10, 2) := by decide +kernel
theorem dX4_init_15 : decode cX4_init 15 = .ok (.anewarray 15, 3) := by decide +kernel
theorem dX4_init_18 : decode cX4_init 18 = .ok (.putfield 17, 3) := by decide +kernel
theorem dX4_init_21 : decode cX4_init 21 = .ok (.aload_n 0, 1) := by decide +kernel
theorem dX4_init_22 : decode cX4_init 22 = .ok (.bipush 24, 2) := by decide +kernel
theorem dX4_init_24 : decode cX4_init 24 = .ok (.newarray .int, 2) := by decide +kernel
theorem dX4_init_26 : decode cX4_init 26 = .ok (.putfield 21, 3) := by decide +kernel
theorem dX4_init_29 : decode cX4_init 29 = .ok (.aload_n 0, 1) := by decide +kernel
theorem dX4_init_30 : decode cX4_init 30 = .ok (.sipush 1024, 3) := by decide +kernel
theorem dX4_init_33 : decode cX4_init 33 = .ok (.newarray .boolean, 2) := by decide +kernel
theorem dX4_init_35 : decode cX4_init 35 = .ok (.putfield 24, 3) := by decide +kernel
theorem dX4_init_38 : decode cX4_init 38 = .ok (.return_, 1) := by decide +kernel
theorem dX4_begin_0 : decode cX4_begin 0 = .ok (.aload_n 0, 1) := by decide +kernel
theorem dX4_begin_1 : decode cX4_begin 1 = .ok (.iconst 0, 1) := by decide +kernel
theorem dX4_begin_2 : decode cX4_begin 2 = .ok (.putfield 28, 3) := by decide +kernel
theorem dX4_begin_5 : decode cX4_begin 5 = .ok (.aload_n 0, 1) := by decide +kernel
theorem dX4_begin_6 : decode cX4_begin 6 = .ok (.iconst 0, 1) := by decide +kernel
theorem dX4_begin_7 : decode cX4_begin 7 = .ok (.putfield 32, 3) := by decide +kernel
theorem dX4_begin_10 : decode cX4_begin 10 = .ok (.aload_n 0, 1) := by decide +kernel
theorem dX4_begin_11 : decode cX4_begin 11 = .ok (.iconst 0, 1) := by decide +kernel
theorem dX4_begin_12 : decode cX4_begin 12 = .ok (.putfield 36, 3) := by decide +kernel
theorem dX4_begin_15 : decode cX4_begin 15 = .ok (.aload_n 0, 1) := by decide +kernel
theorem dX4_begin_16 : decode cX4_begin 16 = .ok (.getfield 21, 3) := by decide +kernel
theorem dX4_begin_19 : decode cX4_begin 19 = .ok (.iconst 0, 1) := by decide +kernel
theorem dX4_begin_20 : decode cX4_begin 20 = .ok (.invokestatic 39, 3) := by decide +kernel
theorem dX4_begin_23 : decode cX4_begin 23 = .ok (.return_, 1) := by decide +kernel
theorem dX4_choose_0 : decode cX4_choose 0 = .ok (.iconst 0, 1) := by decide +kernel
theorem dX4_choose_1 : decode cX4_choose 1 = .ok (.istore_n 2, 1) := by decide +kernel
theorem dX4_choose_2 : decode cX4_choose 2 = .ok (.iload_n 2, 1) := by decide +kernel
theorem dX4_choose_3 : decode cX4_choose 3 = .ok (.aload_n 1, 1) := by decide +kernel
theorem dX4_choose_4 : decode cX4_choose 4 = .ok (.getfield 45, 3) := by decide +kernel
theorem dX4_choose_7 : decode cX4_choose 7 = .ok (.if_icmp .ge 70, 3) := by decide +kernel
theorem dX4_choose_10 : decode cX4_choose 10 = .ok (.aload_n 1, 1) := by decide +kernel
theorem dX4_choose_11 : decode cX4_choose 11 = .ok (.getfield 50, 3) := by decide +kernel
theorem dX4_choose_14 : decode cX4_choose 14 = .ok (.iload_n 2, 1) := by decide +kernel
theorem dX4_choose_15 : decode cX4_choose 15 = .ok (.aaload, 1) := by decide +kernel
theorem dX4_choose_16 : decode cX4_choose 16 = .ok (.astore_n 3, 1) := by decide +kernel
theorem dX4_choose_17 : decode cX4_choose 17 = .ok (.aload_n 3, 1) := by decide +kernel
theorem dX4_choose_18 : decode cX4_choose 18 = .ok (.iconst 2, 1) := by decide +kernel
theorem dX4_choose_19 : decode cX4_choose 19 = .ok (.invokevirtual 53, 3) := by decide +kernel
theorem dX4_choose_22 : decode cX4_choose 22 = .ok (.ifCond .eq 49, 3) := by decide +kernel
theorem dX4_choose_25 : decode cX4_choose 25 = .ok (.aload_n 0, 1) := by decide +kernel
theorem dX4_choose_26 : decode cX4_choose 26 = .ok (.getfield 36, 3) := by decide +kernel
theorem dX4_choose_29 : decode cX4_choose 29 = .ok (.bipush 10, 2) := by decide +kernel
theorem dX4_choose_31 : decode cX4_choose 31 = .ok (.if_icmp .lt 5, 3) := by decide +kernel
theorem dX4_choose_34 : decode cX4_choose 34 = .ok (.iconst 0, 1) := by decide +kernel
theorem dX4_choose_35 : decode cX4_choose 35 = .ok (.ireturn, 1) := by decide +kernel
theorem dX4_choose_36 : decode cX4_choose 36 = .ok (.aload_n 0, 1) := by decide +kernel
theorem dX4_choose_37 : decode cX4_choose 37 = .ok (.getfield 21, 3) := by decide +kernel
theorem dX4_choose_40 : decode cX4_choose 40 = .ok (.aload_n 3, 1) := by decide +kernel
theorem dX4_choose_41 : decode cX4_choose 41 = .ok (.getfield 57, 3) := by decide +kernel
theorem dX4_choose_44 : decode cX4_choose 44 = .ok (.iconst 1, 1) := by decide +kernel
theorem dX4_choose_45 : decode cX4_choose 45 = .ok (.aload_n 0, 1) := by decide +kernel
theorem dX4_choose_46 : decode cX4_choose 46 = .ok (.getfield 36, 3) := by decide +kernel
theorem dX4_choose_49 : decode cX4_choose 49 = .ok (.ishl, 1) := by decide +kernel
theorem dX4_choose_50 : decode cX4_choose 50 = .ok (.iastore, 1) := by decide +kernel
theorem dX4_choose_51 : decode cX4_choose 51 = .ok (.aload_n 0, 1) := by decide +kernel
theorem dX4_choose_52 : decode cX4_choose 52 = .ok (.getfield 17, 3) := by decide +kernel
theorem dX4_choose_55 : decode cX4_choose 55 = .ok (.aload_n 0, 1) := by decide +kernel
theorem dX4_choose_56 : decode cX4_choose 56 = .ok (.getfield 36, 3) := by decide +kernel
theorem dX4_choose_59 : decode cX4_choose 59 = .ok (.aload_n 3, 1) := by decide +kernel
theorem dX4_choose_60 : decode cX4_choose 60 = .ok (.aastore, 1) := by decide +kernel
theorem dX4_choose_61 : decode cX4_choose 61 = .ok (.aload_n 0, 1) := by decide +kernel
theorem dX4_choose_62 : decode cX4_choose 62 = .ok (.dup, 1) := by decide +kernel
theorem dX4_choose_63 : decode cX4_choose 63 = .ok (.getfield 36, 3) := by decide +kernel
theorem dX4_choose_66 : decode cX4_choose 66 = .ok (.iconst 1, 1) := by decide +kernel
theorem dX4_choose_67 : decode cX4_choose 67 = .ok (.iadd, 1) := by decide +kernel
theorem dX4_choose_68 : decode cX4_choose 68 = .ok (.putfield 36, 3) := by decide +kernel
theorem dX4_choose_71 : decode cX4_choose 71 = .ok (.iinc 2 1, 3) := by decide +kernel
theorem dX4_choose_74 : decode cX4_choose 74 = .ok (.goto (-72), 3) := by decide +kernel
theorem dX4_choose_77 : decode cX4_choose 77 = .ok (.iconst 0, 1) := by decide +kernel
theorem dX4_choose_78 : decode cX4_choose 78 = .ok (.istore_n 2, 1) := by decide +kernel
theorem dX4_choose_79 : decode cX4_choose 79 = .ok (.iload_n 2, 1) := by decide +kernel
theorem dX4_choose_80 : decode cX4_choose 80 = .ok (.iconst 1, 1) := by decide +kernel
theorem dX4_choose_81 : decode cX4_choose 81 = .ok (.aload_n 0, 1) := by decide +kernel
theorem dX4_choose_82 : decode cX4_choose 82 = .ok (.getfield 36, 3) := by decide +kernel
theorem dX4_choose_85 : decode cX4_choose 85 = .ok (.ishl, 1) := by decide +kernel
theorem dX4_choose_86 : decode cX4_choose 86 = .ok (.if_icmp .ge 16, 3) := by decide +kernel
theorem dX4_choose_89 : decode cX4_choose 89 = .ok (.aload_n 0, 1) := by decide +kernel
theorem dX4_choose_90 : decode cX4_choose 90 = .ok (.getfield 24, 3) := by decide +kernel
theorem dX4_choose_93 : decode cX4_choose 93 = .ok (.iload_n 2, 1) := by decide +kernel
theorem dX4_choose_94 : decode cX4_choose 94 = .ok (.iconst 0, 1) := by decide +kernel
theorem dX4_choose_95 : decode cX4_choose 95 = .ok (.bastore, 1) := by decide +kernel
theorem dX4_choose_96 : decode cX4_choose 96 = .ok (.iinc 2 1, 3) := by decide +kernel
theorem dX4_choose_99 : decode cX4_choose 99 = .ok (.goto (-20), 3) := by decide +kernel
theorem dX4_choose_102 : decode cX4_choose 102 = .ok (.iconst 1, 1) := by decide +kernel
theorem dX4_choose_103 : decode cX4_choose 103 = .ok (.ireturn, 1) := by decide +kernel
theorem dX4_arrived_0 : decode cX4_arrived 0 = .ok (.aload_n 1, 1) := by decide +kernel
theorem dX4_arrived_1 : decode cX4_arrived 1 = .ok (.invokevirtual 60, 3) := by decide +kernel
theorem dX4_arrived_4 : decode cX4_arrived 4 = .ok (.getfield 64, 3) := by decide +kernel
theorem dX4_arrived_7 : decode cX4_arrived 7 = .ok (.ifCond .ne 13, 3) := by decide +kernel
theorem dX4_arrived_10 : decode cX4_arrived 10 = .ok (.aload_n 1, 1) := by decide +kernel
theorem dX4_arrived_11 : decode cX4_arrived 11 = .ok (.invokevirtual 67, 3) := by decide +kernel
theorem dX4_arrived_14 : decode cX4_arrived 14 = .ok (.getfield 64, 3) := by decide +kernel
theorem dX4_arrived_17 : decode cX4_arrived 17 = .ok (.ifCond .eq 16, 3) := by decide +kernel
theorem dX4_arrived_20 : decode cX4_arrived 20 = .ok (.aload_n 0, 1) := by decide +kernel
theorem dX4_arrived_21 : decode cX4_arrived 21 = .ok (.iconst 1, 1) := by decide +kernel
theorem dX4_arrived_22 : decode cX4_arrived 22 = .ok (.putfield 32, 3) := by decide +kernel
theorem dX4_arrived_25 : decode cX4_arrived 25 = .ok (.aload_n 1, 1) := by decide +kernel
theorem dX4_arrived_26 : decode cX4_arrived 26 = .ok (.iconst 1, 1) := by decide +kernel
theorem dX4_arrived_27 : decode cX4_arrived 27 = .ok (.putfield 70, 3) := by decide +kernel
theorem dX4_arrived_30 : decode cX4_arrived 30 = .ok (.goto 64, 3) := by decide +kernel
theorem dX4_arrived_33 : decode cX4_arrived 33 = .ok (.aload_n 1, 1) := by decide +kernel
theorem dX4_arrived_34 : decode cX4_arrived 34 = .ok (.invokevirtual 60, 3) := by decide +kernel
theorem dX4_arrived_37 : decode cX4_arrived 37 = .ok (.invokevirtual 73, 3) := by decide +kernel
theorem dX4_arrived_40 : decode cX4_arrived 40 = .ok (.ifCond .eq 54, 3) := by decide +kernel
theorem dX4_arrived_43 : decode cX4_arrived 43 = .ok (.aload_n 0, 1) := by decide +kernel
theorem dX4_arrived_44 : decode cX4_arrived 44 = .ok (.getfield 24, 3) := by decide +kernel
theorem dX4_arrived_47 : decode cX4_arrived 47 = .ok (.aload_n 0, 1) := by decide +kernel
theorem dX4_arrived_48 : decode cX4_arrived 48 = .ok (.aload_n 1, 1) := by decide +kernel
theorem dX4_arrived_49 : decode cX4_arrived 49 = .ok (.invokevirtual 77, 3) := by decide +kernel
theorem dX4_arrived_52 : decode cX4_arrived 52 = .ok (.iconst 1, 1) := by decide +kernel
theorem dX4_arrived_53 : decode cX4_arrived 53 = .ok (.bastore, 1) := by decide +kernel
theorem dX4_arrived_54 : decode cX4_arrived 54 = .ok (.aload_n 0, 1) := by decide +kernel
theorem dX4_arrived_55 : decode cX4_arrived 55 = .ok (.getfield 28, 3) := by decide +kernel
theorem dX4_arrived_58 : decode cX4_arrived 58 = .ok (.ifCond .eq 11, 3) := by decide +kernel
theorem dX4_arrived_61 : decode cX4_arrived 61 = .ok (.aload_n 0, 1) := by decide +kernel
theorem dX4_arrived_62 : decode cX4_arrived 62 = .ok (.aload_n 1, 1) := by decide +kernel
theorem dX4_arrived_63 : decode cX4_arrived 63 = .ok (.invokevirtual 81, 3) := by decide +kernel
theorem dX4_arrived_66 : decode cX4_arrived 66 = .ok (.ifCond .eq 28, 3) := by decide +kernel
theorem dX4_arrived_69 : decode cX4_arrived 69 = .ok (.aload_n 0, 1) := by decide +kernel
theorem dX4_arrived_70 : decode cX4_arrived 70 = .ok (.aload_n 1, 1) := by decide +kernel
theorem dX4_arrived_71 : decode cX4_arrived 71 = .ok (.getfield 85, 3) := by decide +kernel
theorem dX4_arrived_74 : decode cX4_arrived 74 = .ok (.putfield 28, 3) := by decide +kernel
theorem dX4_arrived_77 : decode cX4_arrived 77 = .ok (.aload_n 1, 1) := by decide +kernel
theorem dX4_arrived_78 : decode cX4_arrived 78 = .ok (.getfield 86, 3) := by decide +kernel
theorem dX4_arrived_81 : decode cX4_arrived 81 = .ok (.iconst 0, 1) := by decide +kernel
theorem dX4_arrived_82 : decode cX4_arrived 82 = .ok (.aload_n 0, 1) := by decide +kernel
theorem dX4_arrived_83 : decode cX4_arrived 83 = .ok (.getfield 9, 3) := by decide +kernel
theorem dX4_arrived_86 : decode cX4_arrived 86 = .ok (.iconst 0, 1) := by decide +kernel
theorem dX4_arrived_87 : decode cX4_arrived 87 = .ok (.aload_n 0, 1) := by decide +kernel
theorem dX4_arrived_88 : decode cX4_arrived 88 = .ok (.getfield 28, 3) := by decide +kernel
theorem dX4_arrived_91 : decode cX4_arrived 91 = .ok (.invokestatic 87, 3) := by decide +kernel
theorem dX4_arrived_94 : decode cX4_arrived 94 = .ok (.return_, 1) := by decide +kernel
theorem dX4_choicesIn_0 : decode cX4_choicesIn 0 = .ok (.iconst 0, 1) := by decide +kernel
theorem dX4_choicesIn_1 : decode cX4_choicesIn 1 = .ok (.istore_n 2, 1) := by decide +kernel
theorem dX4_choicesIn_2 : decode cX4_choicesIn 2 = .ok (.iconst 0, 1) := by decide +kernel
theorem dX4_choicesIn_3 : decode cX4_choicesIn 3 = .ok (.istore_n 3, 1) := by decide +kernel
theorem dX4_choicesIn_4 : decode cX4_choicesIn 4 = .ok (.iload_n 3, 1) := by decide +kernel
theorem dX4_choicesIn_5 : decode cX4_choicesIn 5 = .ok (.aload_n 1, 1) := by decide +kernel
theorem dX4_choicesIn_6 : decode cX4_choicesIn 6 = .ok (.getfield 85, 3) := by decide +kernel
theorem dX4_choicesIn_9 : decode cX4_choicesIn 9 = .ok (.if_icmp .ge 22, 3) := by decide +kernel
theorem dX4_choicesIn_12 : decode cX4_choicesIn 12 = .ok (.iload_n 2, 1) := by decide +kernel
theorem dX4_choicesIn_13 : decode cX4_choicesIn 13 = .ok (.aload_n 0, 1) := by decide +kernel
theorem dX4_choicesIn_14 : decode cX4_choicesIn 14 = .ok (.getfield 21, 3) := by decide +kernel
theorem dX4_choicesIn_17 : decode cX4_choicesIn 17 = .ok (.aload_n 1, 1) := by decide +kernel
theorem dX4_choicesIn_18 : decode cX4_choicesIn 18 = .ok (.iload_n 3, 1) := by decide +kernel
theorem dX4_choicesIn_19 : decode cX4_choicesIn 19 = .ok (.invokevirtual 93, 3) := by decide +kernel
theorem dX4_choicesIn_22 : decode cX4_choicesIn 22 = .ok (.iaload, 1) := by decide +kernel
theorem dX4_choicesIn_23 : decode cX4_choicesIn 23 = .ok (.ior, 1) := by decide +kernel
theorem dX4_choicesIn_24 : decode cX4_choicesIn 24 = .ok (.istore_n 2, 1) := by decide +kernel
theorem dX4_choicesIn_25 : decode cX4_choicesIn 25 = .ok (.iinc 3 1, 3) := by decide +kernel
theorem dX4_choicesIn_28 : decode cX4_choicesIn 28 = .ok (.goto (-24), 3) := by decide +kernel
theorem dX4_choicesIn_31 : decode cX4_choicesIn 31 = .ok (.iload_n 2, 1) := by decide +kernel
theorem dX4_choicesIn_32 : decode cX4_choicesIn 32 = .ok (.ireturn, 1) := by decide +kernel
theorem dX4_isAhead_0 : decode cX4_isAhead 0 = .ok (.aload_n 1, 1) := by decide +kernel
theorem dX4_isAhead_1 : decode cX4_isAhead 1 = .ok (.getfield 85, 3) := by decide +kernel
theorem dX4_isAhead_4 : decode cX4_isAhead 4 = .ok (.aload_n 0, 1) := by decide +kernel
theorem dX4_isAhead_5 : decode cX4_isAhead 5 = .ok (.getfield 28, 3) := by decide +kernel
theorem dX4_isAhead_8 : decode cX4_isAhead 8 = .ok (.if_icmp .eq 20, 3) := by decide +kernel
theorem dX4_isAhead_11 : decode cX4_isAhead 11 = .ok (.aload_n 1, 1) := by decide +kernel
theorem dX4_isAhead_12 : decode cX4_isAhead 12 = .ok (.getfield 85, 3) := by decide +kernel
theorem dX4_isAhead_15 : decode cX4_isAhead 15 = .ok (.aload_n 0, 1) := by decide +kernel
theorem dX4_isAhead_16 : decode cX4_isAhead 16 = .ok (.getfield 28, 3) := by decide +kernel
theorem dX4_isAhead_19 : decode cX4_isAhead 19 = .ok (.if_icmp .ge 7, 3) := by decide +kernel
theorem dX4_isAhead_22 : decode cX4_isAhead 22 = .ok (.iconst 1, 1) := by decide +kernel
theorem dX4_isAhead_23 : decode cX4_isAhead 23 = .ok (.goto 4, 3) := by decide +kernel
theorem dX4_isAhead_26 : decode cX4_isAhead 26 = .ok (.iconst 0, 1) := by decide +kernel
theorem dX4_isAhead_27 : decode cX4_isAhead 27 = .ok (.ireturn, 1) := by decide +kernel
theorem dX4_isAhead_28 : decode cX4_isAhead 28 = .ok (.iconst 0, 1) := by decide +kernel
theorem dX4_isAhead_29 : decode cX4_isAhead 29 = .ok (.istore_n 2, 1) := by decide +kernel
theorem dX4_isAhead_30 : decode cX4_isAhead 30 = .ok (.iload_n 2, 1) := by decide +kernel
theorem dX4_isAhead_31 : decode cX4_isAhead 31 = .ok (.aload_n 0, 1) := by decide +kernel
theorem dX4_isAhead_32 : decode cX4_isAhead 32 = .ok (.getfield 28, 3) := by decide +kernel
theorem dX4_isAhead_35 : decode cX4_isAhead 35 = .ok (.if_icmp .ge 43, 3) := by decide +kernel
theorem dX4_isAhead_38 : decode cX4_isAhead 38 = .ok (.aload_n 0, 1) := by decide +kernel
theorem dX4_isAhead_39 : decode cX4_isAhead 39 = .ok (.getfield 9, 3) := by decide +kernel
theorem dX4_isAhead_42 : decode cX4_isAhead 42 = .ok (.iload_n 2, 1) := by decide +kernel
theorem dX4_isAhead_43 : decode cX4_isAhead 43 = .ok (.iaload, 1) := by decide +kernel
theorem dX4_isAhead_44 : decode cX4_isAhead 44 = .ok (.bipush 100, 2) := by decide +kernel
theorem dX4_isAhead_46 : decode cX4_isAhead 46 = .ok (.irem, 1) := by decide +kernel
theorem dX4_isAhead_47 : decode cX4_isAhead 47 = .ok (.istore_n 3, 1) := by decide +kernel
theorem dX4_isAhead_48 : decode cX4_isAhead 48 = .ok (.aload_n 1, 1) := by decide +kernel
theorem dX4_isAhead_49 : decode cX4_isAhead 49 = .ok (.iload_n 2, 1) := by decide +kernel
theorem dX4_isAhead_50 : decode cX4_isAhead 50 = .ok (.invokevirtual 93, 3) := by decide +kernel
theorem dX4_isAhead_53 : decode cX4_isAhead 53 = .ok (.iload_n 3, 1) := by decide +kernel
theorem dX4_isAhead_54 : decode cX4_isAhead 54 = .ok (.if_icmp .eq 18, 3) := by decide +kernel
theorem dX4_isAhead_57 : decode cX4_isAhead 57 = .ok (.aload_n 1, 1) := by decide +kernel
theorem dX4_isAhead_58 : decode cX4_isAhead 58 = .ok (.iload_n 2, 1) := by decide +kernel
theorem dX4_isAhead_59 : decode cX4_isAhead 59 = .ok (.invokevirtual 93, 3) := by decide +kernel
theorem dX4_isAhead_62 : decode cX4_isAhead 62 = .ok (.iload_n 3, 1) := by decide +kernel
theorem dX4_isAhead_63 : decode cX4_isAhead 63 = .ok (.if_icmp .ge 7, 3) := by decide +kernel
theorem dX4_isAhead_66 : decode cX4_isAhead 66 = .ok (.iconst 1, 1) := by decide +kernel
theorem dX4_isAhead_67 : decode cX4_isAhead 67 = .ok (.goto 4, 3) := by decide +kernel
theorem dX4_isAhead_70 : decode cX4_isAhead 70 = .ok (.iconst 0, 1) := by decide +kernel
theorem dX4_isAhead_71 : decode cX4_isAhead 71 = .ok (.ireturn, 1) := by decide +kernel
theorem dX4_isAhead_72 : decode cX4_isAhead 72 = .ok (.iinc 2 1, 3) := by decide +kernel
theorem dX4_isAhead_75 : decode cX4_isAhead 75 = .ok (.goto (-45), 3) := by decide +kernel
theorem dX4_isAhead_78 : decode cX4_isAhead 78 = .ok (.iconst 0, 1) := by decide +kernel
theorem dX4_isAhead_79 : decode cX4_isAhead 79 = .ok (.ireturn, 1) := by decide +kernel
theorem dX4_cheapest_0 : decode cX4_cheapest 0 = .ok (.aload_n 0, 1) := by decide +kernel
theorem dX4_cheapest_1 : decode cX4_cheapest 1 = .ok (.invokevirtual 97, 3) := by decide +kernel
theorem dX4_cheapest_4 : decode cX4_cheapest 4 = .ok (.iconst 1, 1) := by decide +kernel
theorem dX4_cheapest_5 : decode cX4_cheapest 5 = .ok (.aload_n 0, 1) := by decide +kernel
theorem dX4_cheapest_6 : decode cX4_cheapest 6 = .ok (.getfield 36, 3) := by decide +kernel
theorem dX4_cheapest_9 : decode cX4_cheapest 9 = .ok (.ishl, 1) := by decide +kernel
theorem dX4_cheapest_10 : decode cX4_cheapest 10 = .ok (.iconst 1, 1) := by decide +kernel
theorem dX4_cheapest_11 : decode cX4_cheapest 11 = .ok (.isub, 1) := by decide +kernel
theorem dX4_cheapest_12 : decode cX4_cheapest 12 = .ok (.istore_n 1, 1) := by decide +kernel
theorem dX4_cheapest_13 : decode cX4_cheapest 13 = .ok (.iconst (-1), 1) := by decide +kernel
theorem dX4_cheapest_14 : decode cX4_cheapest 14 = .ok (.istore_n 2, 1) := by decide +kernel
theorem dX4_cheapest_15 : decode cX4_cheapest 15 = .ok (.iconst 0, 1) := by decide +kernel
theorem dX4_cheapest_16 : decode cX4_cheapest 16 = .ok (.istore_n 3, 1) := by decide +kernel
theorem dX4_cheapest_17 : decode cX4_cheapest 17 = .ok (.iload_n 3, 1) := by decide +kernel
theorem dX4_cheapest_18 : decode cX4_cheapest 18 = .ok (.iload_n 1, 1) := by decide +kernel
theorem dX4_cheapest_19 : decode cX4_cheapest 19 = .ok (.if_icmp .gt 35, 3) := by decide +kernel
theorem dX4_cheapest_22 : decode cX4_cheapest 22 = .ok (.aload_n 0, 1) := by decide +kernel
theorem dX4_cheapest_23 : decode cX4_cheapest 23 = .ok (.getfield 24, 3) := by decide +kernel
theorem dX4_cheapest_26 : decode cX4_cheapest 26 = .ok (.iload_n 1, 1) := by decide +kernel
theorem dX4_cheapest_27 : decode cX4_cheapest 27 = .ok (.iload_n 3, 1) := by decide +kernel
theorem dX4_cheapest_28 : decode cX4_cheapest 28 = .ok (.ixor, 1) := by decide +kernel
theorem dX4_cheapest_29 : decode cX4_cheapest 29 = .ok (.baload, 1) := by decide +kernel
theorem dX4_cheapest_30 : decode cX4_cheapest 30 = .ok (.ifCond .ne 18, 3) := by decide +kernel
theorem dX4_cheapest_33 : decode cX4_cheapest 33 = .ok (.iload_n 2, 1) := by decide +kernel
theorem dX4_cheapest_34 : decode cX4_cheapest 34 = .ok (.ifCond .lt 12, 3) := by decide +kernel
theorem dX4_cheapest_37 : decode cX4_cheapest 37 = .ok (.aload_n 0, 1) := by decide +kernel
theorem dX4_cheapest_38 : decode cX4_cheapest 38 = .ok (.iload_n 3, 1) := by decide +kernel
theorem dX4_cheapest_39 : decode cX4_cheapest 39 = .ok (.iload_n 2, 1) := by decide +kernel
theorem dX4_cheapest_40 : decode cX4_cheapest 40 = .ok (.invokevirtual 100, 3) := by decide +kernel
theorem dX4_cheapest_43 : decode cX4_cheapest 43 = .ok (.ifCond .eq 5, 3) := by decide +kernel
theorem dX4_cheapest_46 : decode cX4_cheapest 46 = .ok (.iload_n 3, 1) := by decide +kernel
theorem dX4_cheapest_47 : decode cX4_cheapest 47 = .ok (.istore_n 2, 1) := by decide +kernel
theorem dX4_cheapest_48 : decode cX4_cheapest 48 = .ok (.iinc 3 1, 3) := by decide +kernel
theorem dX4_cheapest_51 : decode cX4_cheapest 51 = .ok (.goto (-34), 3) := by decide +kernel
theorem dX4_cheapest_54 : decode cX4_cheapest 54 = .ok (.iload_n 2, 1) := by decide +kernel
theorem dX4_cheapest_55 : decode cX4_cheapest 55 = .ok (.ifCond .ge 9, 3) := by decide +kernel
theorem dX4_cheapest_58 : decode cX4_cheapest 58 = .ok (.ldc2_w 104, 3) := by decide +kernel
theorem dX4_cheapest_61 : decode cX4_cheapest 61 = .ok (.goto 8, 3) := by decide +kernel
theorem dX4_cheapest_64 : decode cX4_cheapest 64 = .ok (.aload_n 0, 1) := by decide +kernel
theorem dX4_cheapest_65 : decode cX4_cheapest 65 = .ok (.iload_n 2, 1) := by decide +kernel
theorem dX4_cheapest_66 : decode cX4_cheapest 66 = .ok (.invokevirtual 106, 3) := by decide +kernel
theorem dX4_cheapest_69 : decode cX4_cheapest 69 = .ok (.lreturn, 1) := by decide +kernel
theorem dX4_spreadToMore_0 : decode cX4_spreadToMore 0 = .ok (.iconst 0, 1) := by decide +kernel
theorem dX4_spreadToMore_1 : decode cX4_spreadToMore 1 = .ok (.istore_n 1, 1) := by decide +kernel
theorem dX4_spreadToMore_2 : decode cX4_spreadToMore 2 = .ok (.iload_n 1, 1) := by decide +kernel
theorem dX4_spreadToMore_3 : decode cX4_spreadToMore 3 = .ok (.iconst 1, 1) := by decide +kernel
theorem dX4_spreadToMore_4 : decode cX4_spreadToMore 4 = .ok (.aload_n 0, 1) := by decide +kernel
theorem dX4_spreadToMore_5 : decode cX4_spreadToMore 5 = .ok (.getfield 36, 3) := by decide +kernel
theorem dX4_spreadToMore_8 : decode cX4_spreadToMore 8 = .ok (.ishl, 1) := by decide +kernel
theorem dX4_spreadToMore_9 : decode cX4_spreadToMore 9 = .ok (.if_icmp .ge 60, 3) := by decide +kernel
theorem dX4_spreadToMore_12 : decode cX4_spreadToMore 12 = .ok (.iconst 0, 1) := by decide +kernel
theorem dX4_spreadToMore_13 : decode cX4_spreadToMore 13 = .ok (.istore_n 2, 1) := by decide +kernel
theorem dX4_spreadToMore_14 : decode cX4_spreadToMore 14 = .ok (.iload_n 2, 1) := by decide +kernel
theorem dX4_spreadToMore_15 : decode cX4_spreadToMore 15 = .ok (.aload_n 0, 1) := by decide +kernel
theorem dX4_spreadToMore_16 : decode cX4_spreadToMore 16 = .ok (.getfield 36, 3) := by decide +kernel
theorem dX4_spreadToMore_19 : decode cX4_spreadToMore 19 = .ok (.if_icmp .ge 44, 3) := by decide +kernel
theorem dX4_spreadToMore_22 : decode cX4_spreadToMore 22 = .ok (.iload_n 1, 1) := by decide +kernel
theorem dX4_spreadToMore_23 : decode cX4_spreadToMore 23 = .ok (.iconst 1, 1) := by decide +kernel
theorem dX4_spreadToMore_24 : decode cX4_spreadToMore 24 = .ok (.iload_n 2, 1) := by decide +kernel
theorem dX4_spreadToMore_25 : decode cX4_spreadToMore 25 = .ok (.ishl, 1) := by decide +kernel
theorem dX4_spreadToMore_26 : decode cX4_spreadToMore 26 = .ok (.ior, 1) := by decide +kernel
theorem dX4_spreadToMore_27 : decode cX4_spreadToMore 27 = .ok (.istore_n 3, 1) := by decide +kernel
theorem dX4_spreadToMore_28 : decode cX4_spreadToMore 28 = .ok (.aload_n 0, 1) := by decide +kernel
theorem dX4_spreadToMore_29 : decode cX4_spreadToMore 29 = .ok (.getfield 24, 3) := by decide +kernel
theorem dX4_spreadToMore_32 : decode cX4_spreadToMore 32 = .ok (.iload_n 3, 1) := by decide +kernel
theorem dX4_spreadToMore_33 : decode cX4_spreadToMore 33 = .ok (.aload_n 0, 1) := by decide +kernel
theorem dX4_spreadToMore_34 : decode cX4_spreadToMore 34 = .ok (.getfield 24, 3) := by decide +kernel
theorem dX4_spreadToMore_37 : decode cX4_spreadToMore 37 = .ok (.iload_n 3, 1) := by decide +kernel
theorem dX4_spreadToMore_38 : decode cX4_spreadToMore 38 = .ok (.baload, 1) := by decide +kernel
theorem dX4_spreadToMore_39 : decode cX4_spreadToMore 39 = .ok (.ifCond .ne 12, 3) := by decide +kernel
theorem dX4_spreadToMore_42 : decode cX4_spreadToMore 42 = .ok (.aload_n 0, 1) := by decide +kernel
theorem dX4_spreadToMore_43 : decode cX4_spreadToMore 43 = .ok (.getfield 24, 3) := by decide +kernel
theorem dX4_spreadToMore_46 : decode cX4_spreadToMore 46 = .ok (.iload_n 1, 1) := by decide +kernel
theorem dX4_spreadToMore_47 : decode cX4_spreadToMore 47 = .ok (.baload, 1) := by decide +kernel
theorem dX4_spreadToMore_48 : decode cX4_spreadToMore 48 = .ok (.ifCond .eq 7, 3) := by decide +kernel
theorem dX4_spreadToMore_51 : decode cX4_spreadToMore 51 = .ok (.iconst 1, 1) := by decide +kernel
theorem dX4_spreadToMore_52 : decode cX4_spreadToMore 52 = .ok (.goto 4, 3) := by decide +kernel
theorem dX4_spreadToMore_55 : decode cX4_spreadToMore 55 = .ok (.iconst 0, 1) := by decide +kernel
theorem dX4_spreadToMore_56 : decode cX4_spreadToMore 56 = .ok (.bastore, 1) := by decide +kernel
theorem dX4_spreadToMore_57 : decode cX4_spreadToMore 57 = .ok (.iinc 2 1, 3) := by decide +kernel
theorem dX4_spreadToMore_60 : decode cX4_spreadToMore 60 = .ok (.goto (-46), 3) := by decide +kernel
theorem dX4_spreadToMore_63 : decode cX4_spreadToMore 63 = .ok (.iinc 1 1, 3) := by decide +kernel
theorem dX4_spreadToMore_66 : decode cX4_spreadToMore 66 = .ok (.goto (-64), 3) := by decide +kernel
theorem dX4_spreadToMore_69 : decode cX4_spreadToMore 69 = .ok (.return_, 1) := by decide +kernel
theorem dX4_isCheaper_0 : decode cX4_isCheaper 0 = .ok (.aload_n 0, 1) := by decide +kernel
theorem dX4_isCheaper_1 : decode cX4_isCheaper 1 = .ok (.iload_n 1, 1) := by decide +kernel
theorem dX4_isCheaper_2 : decode cX4_isCheaper 2 = .ok (.invokevirtual 110, 3) := by decide +kernel
theorem dX4_isCheaper_5 : decode cX4_isCheaper 5 = .ok (.istore_n 3, 1) := by decide +kernel
theorem dX4_isCheaper_6 : decode cX4_isCheaper 6 = .ok (.aload_n 0, 1) := by decide +kernel
theorem dX4_isCheaper_7 : decode cX4_isCheaper 7 = .ok (.iload_n 2, 1) := by decide +kernel
theorem dX4_isCheaper_8 : decode cX4_isCheaper 8 = .ok (.invokevirtual 110, 3) := by decide +kernel
theorem dX4_isCheaper_11 : decode cX4_isCheaper 11 = .ok (.istore 4, 2) := by decide +kernel
theorem dX4_isCheaper_13 : decode cX4_isCheaper 13 = .ok (.iload_n 3, 1) := by decide +kernel
theorem dX4_isCheaper_14 : decode cX4_isCheaper 14 = .ok (.iload 4, 2) := by decide +kernel
theorem dX4_isCheaper_16 : decode cX4_isCheaper 16 = .ok (.if_icmp .lt 20, 3) := by decide +kernel
theorem dX4_isCheaper_19 : decode cX4_isCheaper 19 = .ok (.iload_n 3, 1) := by decide +kernel
theorem dX4_isCheaper_20 : decode cX4_isCheaper 20 = .ok (.iload 4, 2) := by decide +kernel
theorem dX4_isCheaper_22 : decode cX4_isCheaper 22 = .ok (.if_icmp .ne 18, 3) := by decide +kernel
theorem dX4_isCheaper_25 : decode cX4_isCheaper 25 = .ok (.iload_n 1, 1) := by decide +kernel
theorem dX4_isCheaper_26 : decode cX4_isCheaper 26 = .ok (.invokestatic 113, 3) := by decide +kernel
theorem dX4_isCheaper_29 : decode cX4_isCheaper 29 = .ok (.iload_n 2, 1) := by decide +kernel
theorem dX4_isCheaper_30 : decode cX4_isCheaper 30 = .ok (.invokestatic 113, 3) := by decide +kernel
theorem dX4_isCheaper_33 : decode cX4_isCheaper 33 = .ok (.if_icmp .ge 7, 3) := by decide +kernel
theorem dX4_isCheaper_36 : decode cX4_isCheaper 36 = .ok (.iconst 1, 1) := by decide +kernel
theorem dX4_isCheaper_37 : decode cX4_isCheaper 37 = .ok (.goto 4, 3) := by decide +kernel
theorem dX4_isCheaper_40 : decode cX4_isCheaper 40 = .ok (.iconst 0, 1) := by decide +kernel
theorem dX4_isCheaper_41 : decode cX4_isCheaper 41 = .ok (.ireturn, 1) := by decide +kernel
theorem dX4_worthOf_0 : decode cX4_worthOf 0 = .ok (.iconst 0, 1) := by decide +kernel
theorem dX4_worthOf_1 : decode cX4_worthOf 1 = .ok (.istore_n 2, 1) := by decide +kernel
theorem dX4_worthOf_2 : decode cX4_worthOf 2 = .ok (.iconst 0, 1) := by decide +kernel
theorem dX4_worthOf_3 : decode cX4_worthOf 3 = .ok (.istore_n 3, 1) := by decide +kernel
theorem dX4_worthOf_4 : decode cX4_worthOf 4 = .ok (.iload_n 3, 1) := by decide +kernel
theorem dX4_worthOf_5 : decode cX4_worthOf 5 = .ok (.aload_n 0, 1) := by decide +kernel
theorem dX4_worthOf_6 : decode cX4_worthOf 6 = .ok (.getfield 36, 3) := by decide +kernel
theorem dX4_worthOf_9 : decode cX4_worthOf 9 = .ok (.if_icmp .ge 30, 3) := by decide +kernel
theorem dX4_worthOf_12 : decode cX4_worthOf 12 = .ok (.iload_n 1, 1) := by decide +kernel
theorem dX4_worthOf_13 : decode cX4_worthOf 13 = .ok (.iload_n 3, 1) := by decide +kernel
theorem dX4_worthOf_14 : decode cX4_worthOf 14 = .ok (.ishr, 1) := by decide +kernel
theorem dX4_worthOf_15 : decode cX4_worthOf 15 = .ok (.iconst 1, 1) := by decide +kernel
theorem dX4_worthOf_16 : decode cX4_worthOf 16 = .ok (.iand, 1) := by decide +kernel
theorem dX4_worthOf_17 : decode cX4_worthOf 17 = .ok (.iconst 1, 1) := by decide +kernel
theorem dX4_worthOf_18 : decode cX4_worthOf 18 = .ok (.if_icmp .ne 15, 3) := by decide +kernel
theorem dX4_worthOf_21 : decode cX4_worthOf 21 = .ok (.iload_n 2, 1) := by decide +kernel
theorem dX4_worthOf_22 : decode cX4_worthOf 22 = .ok (.aload_n 0, 1) := by decide +kernel
theorem dX4_worthOf_23 : decode cX4_worthOf 23 = .ok (.getfield 17, 3) := by decide +kernel
theorem dX4_worthOf_26 : decode cX4_worthOf 26 = .ok (.iload_n 3, 1) := by decide +kernel
theorem dX4_worthOf_27 : decode cX4_worthOf 27 = .ok (.aaload, 1) := by decide +kernel
theorem dX4_worthOf_28 : decode cX4_worthOf 28 = .ok (.getfield 118, 3) := by decide +kernel
theorem dX4_worthOf_31 : decode cX4_worthOf 31 = .ok (.iadd, 1) := by decide +kernel
theorem dX4_worthOf_32 : decode cX4_worthOf 32 = .ok (.istore_n 2, 1) := by decide +kernel
theorem dX4_worthOf_33 : decode cX4_worthOf 33 = .ok (.iinc 3 1, 3) := by decide +kernel
theorem dX4_worthOf_36 : decode cX4_worthOf 36 = .ok (.goto (-32), 3) := by decide +kernel
theorem dX4_worthOf_39 : decode cX4_worthOf 39 = .ok (.iload_n 2, 1) := by decide +kernel
theorem dX4_worthOf_40 : decode cX4_worthOf 40 = .ok (.ireturn, 1) := by decide +kernel
theorem dX4_byNumbers_0 : decode cX4_byNumbers 0 = .ok (.lconst 0, 1) := by decide +kernel
theorem dX4_byNumbers_1 : decode cX4_byNumbers 1 = .ok (.lstore_n 2, 1) := by decide +kernel
theorem dX4_byNumbers_2 : decode cX4_byNumbers 2 = .ok (.iconst 0, 1) := by decide +kernel
theorem dX4_byNumbers_3 : decode cX4_byNumbers 3 = .ok (.istore 4, 2) := by decide +kernel
theorem dX4_byNumbers_5 : decode cX4_byNumbers 5 = .ok (.iload 4, 2) := by decide +kernel
theorem dX4_byNumbers_7 : decode cX4_byNumbers 7 = .ok (.aload_n 0, 1) := by decide +kernel
theorem dX4_byNumbers_8 : decode cX4_byNumbers 8 = .ok (.getfield 36, 3) := by decide +kernel
theorem dX4_byNumbers_11 : decode cX4_byNumbers 11 = .ok (.if_icmp .ge 34, 3) := by decide +kernel
theorem dX4_byNumbers_14 : decode cX4_byNumbers 14 = .ok (.iload_n 1, 1) := by decide +kernel
theorem dX4_byNumbers_15 : decode cX4_byNumbers 15 = .ok (.iload 4, 2) := by decide +kernel
theorem dX4_byNumbers_17 : decode cX4_byNumbers 17 = .ok (.ishr, 1) := by decide +kernel
theorem dX4_byNumbers_18 : decode cX4_byNumbers 18 = .ok (.iconst 1, 1) := by decide +kernel
theorem dX4_byNumbers_19 : decode cX4_byNumbers 19 = .ok (.iand, 1) := by decide +kernel
theorem dX4_byNumbers_20 : decode cX4_byNumbers 20 = .ok (.iconst 1, 1) := by decide +kernel
theorem dX4_byNumbers_21 : decode cX4_byNumbers 21 = .ok (.if_icmp .ne 18, 3) := by decide +kernel
theorem dX4_byNumbers_24 : decode cX4_byNumbers 24 = .ok (.lload_n 2, 1) := by decide +kernel
theorem dX4_byNumbers_25 : decode cX4_byNumbers 25 = .ok (.lconst 1, 1) := by decide +kernel
theorem dX4_byNumbers_26 : decode cX4_byNumbers 26 = .ok (.aload_n 0, 1) := by decide +kernel
theorem dX4_byNumbers_27 : decode cX4_byNumbers 27 = .ok (.getfield 17, 3) := by decide +kernel
theorem dX4_byNumbers_30 : decode cX4_byNumbers 30 = .ok (.iload 4, 2) := by decide +kernel
theorem dX4_byNumbers_32 : decode cX4_byNumbers 32 = .ok (.aaload, 1) := by decide +kernel
theorem dX4_byNumbers_33 : decode cX4_byNumbers 33 = .ok (.getfield 57, 3) := by decide +kernel
theorem dX4_byNumbers_36 : decode cX4_byNumbers 36 = .ok (.lshl, 1) := by decide +kernel
theorem dX4_byNumbers_37 : decode cX4_byNumbers 37 = .ok (.lor, 1) := by decide +kernel
theorem dX4_byNumbers_38 : decode cX4_byNumbers 38 = .ok (.lstore_n 2, 1) := by decide +kernel
theorem dX4_byNumbers_39 : decode cX4_byNumbers 39 = .ok (.iinc 4 1, 3) := by decide +kernel
theorem dX4_byNumbers_42 : decode cX4_byNumbers 42 = .ok (.goto (-37), 3) := by decide +kernel
theorem dX4_byNumbers_45 : decode cX4_byNumbers 45 = .ok (.lload_n 2, 1) := by decide +kernel
theorem dX4_byNumbers_46 : decode cX4_byNumbers 46 = .ok (.lreturn, 1) := by decide +kernel
theorem dX5_init_0 : decode cX5_init 0 = .ok (.aload_n 0, 1) := by decide +kernel
theorem dX5_init_1 : decode cX5_init 1 = .ok (.invokespecial 3, 3) := by decide +kernel
theorem dX5_init_4 : decode cX5_init 4 = .ok (.aload_n 0, 1) := by decide +kernel
theorem dX5_init_5 : decode cX5_init 5 = .ok (.new 9, 3) := by decide +kernel
theorem dX5_init_8 : decode cX5_init 8 = .ok (.dup, 1) := by decide +kernel
theorem dX5_init_9 : decode cX5_init 9 = .ok (.invokespecial 11, 3) := by decide +kernel
theorem dX5_init_12 : decode cX5_init 12 = .ok (.putfield 12, 3) := by decide +kernel
theorem dX5_init_15 : decode cX5_init 15 = .ok (.aload_n 0, 1) := by decide +kernel
theorem dX5_init_16 : decode cX5_init 16 = .ok (.new 9, 3) := by decide +kernel
theorem dX5_init_19 : decode cX5_init 19 = .ok (.dup, 1) := by decide +kernel
theorem dX5_init_20 : decode cX5_init 20 = .ok (.invokespecial 11, 3) := by decide +kernel
theorem dX5_init_23 : decode cX5_init 23 = .ok (.putfield 18, 3) := by decide +kernel
theorem dX5_init_26 : decode cX5_init 26 = .ok (.aload_n 0, 1) := by decide +kernel
theorem dX5_init_27 : decode cX5_init 27 = .ok (.sipush 9999, 3) := by decide +kernel
theorem dX5_init_30 : decode cX5_init 30 = .ok (.putfield 21, 3) := by decide +kernel
theorem dX5_init_33 : decode cX5_init 33 = .ok (.aload_n 0, 1) := by decide +kernel
theorem dX5_init_34 : decode cX5_init 34 = .ok (.iconst 1, 1) := by decide +kernel
theorem dX5_init_35 : decode cX5_init 35 = .ok (.putfield 25, 3) := by decide +kernel
theorem dX5_init_38 : decode cX5_init 38 = .ok (.aload_n 0, 1) := by decide +kernel
theorem dX5_init_39 : decode cX5_init 39 = .ok (.iload_n 1, 1) := by decide +kernel
theorem dX5_init_40 : decode cX5_init 40 = .ok (.putfield 28, 3) := by decide +kernel
theorem dX5_init_43 : decode cX5_init 43 = .ok (.aload_n 0, 1) := by decide +kernel
theorem dX5_init_44 : decode cX5_init 44 = .ok (.iload_n 2, 1) := by decide +kernel
theorem dX5_init_45 : decode cX5_init 45 = .ok (.putfield 31, 3) := by decide +kernel
theorem dX5_init_48 : decode cX5_init 48 = .ok (.aload_n 0, 1) := by decide +kernel
theorem dX5_init_49 : decode cX5_init 49 = .ok (.iload_n 3, 1) := by decide +kernel
theorem dX5_init_50 : decode cX5_init 50 = .ok (.bipush 10, 2) := by decide +kernel
theorem dX5_init_52 : decode cX5_init 52 = .ok (.idiv, 1) := by decide +kernel
theorem dX5_init_53 : decode cX5_init 53 = .ok (.putfield 34, 3) := by decide +kernel
theorem dX5_init_56 : decode cX5_init 56 = .ok (.aload_n 0, 1) := by decide +kernel
theorem dX5_init_57 : decode cX5_init 57 = .ok (.iload_n 3, 1) := by decide +kernel
theorem dX5_init_58 : decode cX5_init 58 = .ok (.bipush 10, 2) := by decide +kernel
theorem dX5_init_60 : decode cX5_init 60 = .ok (.irem, 1) := by decide +kernel
theorem dX5_init_61 : decode cX5_init 61 = .ok (.putfield 37, 3) := by decide +kernel
theorem dX5_init_64 : decode cX5_init 64 = .ok (.aload_n 0, 1) := by decide +kernel
theorem dX5_init_65 : decode cX5_init 65 = .ok (.iload 4, 2) := by decide +kernel
theorem dX5_init_67 : decode cX5_init 67 = .ok (.putfield 40, 3) := by decide +kernel
theorem dX5_init_70 : decode cX5_init 70 = .ok (.aload_n 0, 1) := by decide +kernel
theorem dX5_init_71 : decode cX5_init 71 = .ok (.iload 5, 2) := by decide +kernel
theorem dX5_init_73 : decode cX5_init 73 = .ok (.putfield 43, 3) := by decide +kernel
theorem dX5_init_76 : decode cX5_init 76 = .ok (.aload_n 0, 1) := by decide +kernel
theorem dX5_init_77 : decode cX5_init 77 = .ok (.invokevirtual 46, 3) := by decide +kernel
theorem dX5_init_80 : decode cX5_init 80 = .ok (.return_, 1) := by decide +kernel
theorem dX5_is_0 : decode cX5_is 0 = .ok (.iload_n 1, 1) := by decide +kernel
theorem dX5_is_1 : decode cX5_is 1 = .ok (.ifCond .eq 23, 3) := by decide +kernel
theorem dX5_is_4 : decode cX5_is 4 = .ok (.iload_n 1, 1) := by decide +kernel
theorem dX5_is_5 : decode cX5_is 5 = .ok (.aload_n 0, 1) := by decide +kernel
end
section
theorem dX5_is_6 : decode cX5_is 6 = .ok (.getfield 31, 3) := by decide +kernel
theorem dX5_is_9 : decode cX5_is 9 = .ok (.if_icmp .eq 15, 3) := by decide +kernel
theorem dX5_is_12 : decode cX5_is 12 = .ok (.iload_n 1, 1) := by decide +kernel
theorem dX5_is_13 : decode cX5_is 13 = .ok (.getstatic 49, 3) := by decide +kernel
theorem dX5_is_16 : decode cX5_is 16 = .ok (.aload_n 0, 1) := by decide +kernel
theorem dX5_is_17 : decode cX5_is 17 = .ok (.getfield 31, 3) := by decide +kernel
theorem dX5_is_20 : decode cX5_is 20 = .ok (.iaload, 1) := by decide +kernel
theorem dX5_is_21 : decode cX5_is 21 = .ok (.if_icmp .ne 7, 3) := by decide +kernel
theorem dX5_is_24 : decode cX5_is 24 = .ok (.iconst 1, 1) := by decide +kernel
theorem dX5_is_25 : decode cX5_is 25 = .ok (.goto 4, 3) := by decide +kernel
theorem dX5_is_28 : decode cX5_is 28 = .ok (.iconst 0, 1) := by decide +kernel
theorem dX5_is_29 : decode cX5_is 29 = .ok (.ireturn, 1) := by decide +kernel
theorem dX5_reckonEnds_0 : decode cX5_reckonEnds 0 = .ok (.aload_n 0, 1) := by decide +kernel
theorem dX5_reckonEnds_1 : decode cX5_reckonEnds 1 = .ok (.iconst 2, 1) := by decide +kernel
theorem dX5_reckonEnds_2 : decode cX5_reckonEnds 2 = .ok (.invokevirtual 53, 3) := by decide +kernel
theorem dX5_reckonEnds_5 : decode cX5_reckonEnds 5 = .ok (.ifCond .eq 14, 3) := by decide +kernel
theorem dX5_reckonEnds_8 : decode cX5_reckonEnds 8 = .ok (.sipush 1000, 3) := by decide +kernel
theorem dX5_reckonEnds_11 : decode cX5_reckonEnds 11 = .ok (.aload_n 0, 1) := by decide +kernel
theorem dX5_reckonEnds_12 : decode cX5_reckonEnds 12 = .ok (.getfield 57, 3) := by decide +kernel
theorem dX5_reckonEnds_15 : decode cX5_reckonEnds 15 = .ok (.isub, 1) := by decide +kernel
theorem dX5_reckonEnds_16 : decode cX5_reckonEnds 16 = .ok (.goto 25, 3) := by decide +kernel
theorem dX5_reckonEnds_19 : decode cX5_reckonEnds 19 = .ok (.aload_n 0, 1) := by decide +kernel
theorem dX5_reckonEnds_20 : decode cX5_reckonEnds 20 = .ok (.iconst 1, 1) := by decide +kernel
theorem dX5_reckonEnds_21 : decode cX5_reckonEnds 21 = .ok (.invokevirtual 53, 3) := by decide +kernel
theorem dX5_reckonEnds_24 : decode cX5_reckonEnds 24 = .ok (.ifCond .eq 14, 3) := by decide +kernel
theorem dX5_reckonEnds_27 : decode cX5_reckonEnds 27 = .ok (.sipush 1000, 3) := by decide +kernel
theorem dX5_reckonEnds_30 : decode cX5_reckonEnds 30 = .ok (.aload_n 0, 1) := by decide +kernel
theorem dX5_reckonEnds_31 : decode cX5_reckonEnds 31 = .ok (.getfield 57, 3) := by decide +kernel
theorem dX5_reckonEnds_34 : decode cX5_reckonEnds 34 = .ok (.iadd, 1) := by decide +kernel
theorem dX5_reckonEnds_35 : decode cX5_reckonEnds 35 = .ok (.goto 6, 3) := by decide +kernel
theorem dX5_reckonEnds_38 : decode cX5_reckonEnds 38 = .ok (.sipush 1000, 3) := by decide +kernel
theorem dX5_reckonEnds_41 : decode cX5_reckonEnds 41 = .ok (.istore_n 1, 1) := by decide +kernel
theorem dX5_reckonEnds_42 : decode cX5_reckonEnds 42 = .ok (.aload_n 0, 1) := by decide +kernel
theorem dX5_reckonEnds_43 : decode cX5_reckonEnds 43 = .ok (.iconst 2, 1) := by decide +kernel
theorem dX5_reckonEnds_44 : decode cX5_reckonEnds 44 = .ok (.invokevirtual 53, 3) := by decide +kernel
theorem dX5_reckonEnds_47 : decode cX5_reckonEnds 47 = .ok (.ifCond .ne 11, 3) := by decide +kernel
theorem dX5_reckonEnds_50 : decode cX5_reckonEnds 50 = .ok (.aload_n 0, 1) := by decide +kernel
theorem dX5_reckonEnds_51 : decode cX5_reckonEnds 51 = .ok (.iconst 1, 1) := by decide +kernel
theorem dX5_reckonEnds_52 : decode cX5_reckonEnds 52 = .ok (.invokevirtual 53, 3) := by decide +kernel
theorem dX5_reckonEnds_55 : decode cX5_reckonEnds 55 = .ok (.ifCond .eq 14, 3) := by decide +kernel
theorem dX5_reckonEnds_58 : decode cX5_reckonEnds 58 = .ok (.sipush 1000, 3) := by decide +kernel
theorem dX5_reckonEnds_61 : decode cX5_reckonEnds 61 = .ok (.aload_n 0, 1) := by decide +kernel
theorem dX5_reckonEnds_62 : decode cX5_reckonEnds 62 = .ok (.getfield 57, 3) := by decide +kernel
theorem dX5_reckonEnds_65 : decode cX5_reckonEnds 65 = .ok (.iadd, 1) := by decide +kernel
theorem dX5_reckonEnds_66 : decode cX5_reckonEnds 66 = .ok (.goto 6, 3) := by decide +kernel
theorem dX5_reckonEnds_69 : decode cX5_reckonEnds 69 = .ok (.sipush 1000, 3) := by decide +kernel
theorem dX5_reckonEnds_72 : decode cX5_reckonEnds 72 = .ok (.istore_n 2, 1) := by decide +kernel
theorem dX5_reckonEnds_73 : decode cX5_reckonEnds 73 = .ok (.aload_n 0, 1) := by decide +kernel
theorem dX5_reckonEnds_74 : decode cX5_reckonEnds 74 = .ok (.getfield 31, 3) := by decide +kernel
theorem dX5_reckonEnds_77 : decode cX5_reckonEnds 77 = .ok (.iconst 4, 1) := by decide +kernel
theorem dX5_reckonEnds_78 : decode cX5_reckonEnds 78 = .ok (.if_icmp .ne 7, 3) := by decide +kernel
theorem dX5_reckonEnds_81 : decode cX5_reckonEnds 81 = .ok (.iconst 2, 1) := by decide +kernel
theorem dX5_reckonEnds_82 : decode cX5_reckonEnds 82 = .ok (.goto 4, 3) := by decide +kernel
theorem dX5_reckonEnds_85 : decode cX5_reckonEnds 85 = .ok (.iconst 1, 1) := by decide +kernel
theorem dX5_reckonEnds_86 : decode cX5_reckonEnds 86 = .ok (.istore_n 3, 1) := by decide +kernel
theorem dX5_reckonEnds_87 : decode cX5_reckonEnds 87 = .ok (.aload_n 0, 1) := by decide +kernel
theorem dX5_reckonEnds_88 : decode cX5_reckonEnds 88 = .ok (.getfield 12, 3) := by decide +kernel
theorem dX5_reckonEnds_91 : decode cX5_reckonEnds 91 = .ok (.aload_n 0, 1) := by decide +kernel
theorem dX5_reckonEnds_92 : decode cX5_reckonEnds 92 = .ok (.getfield 40, 3) := by decide +kernel
theorem dX5_reckonEnds_95 : decode cX5_reckonEnds 95 = .ok (.i2l, 1) := by decide +kernel
theorem dX5_reckonEnds_96 : decode cX5_reckonEnds 96 = .ok (.iload_n 1, 1) := by decide +kernel
theorem dX5_reckonEnds_97 : decode cX5_reckonEnds 97 = .ok (.i2l, 1) := by decide +kernel
theorem dX5_reckonEnds_98 : decode cX5_reckonEnds 98 = .ok (.lmul, 1) := by decide +kernel
theorem dX5_reckonEnds_99 : decode cX5_reckonEnds 99 = .ok (.aload_n 0, 1) := by decide +kernel
theorem dX5_reckonEnds_100 : decode cX5_reckonEnds 100 = .ok (.getfield 43, 3) := by decide +kernel
theorem dX5_reckonEnds_103 : decode cX5_reckonEnds 103 = .ok (.i2l, 1) := by decide +kernel
theorem dX5_reckonEnds_104 : decode cX5_reckonEnds 104 = .ok (.ldc2_w 60, 3) := by decide +kernel
theorem dX5_reckonEnds_107 : decode cX5_reckonEnds 107 = .ok (.lmul, 1) := by decide +kernel
theorem dX5_reckonEnds_108 : decode cX5_reckonEnds 108 = .ok (.iload_n 3, 1) := by decide +kernel
theorem dX5_reckonEnds_109 : decode cX5_reckonEnds 109 = .ok (.i2l, 1) := by decide +kernel
theorem dX5_reckonEnds_110 : decode cX5_reckonEnds 110 = .ok (.lmul, 1) := by decide +kernel
theorem dX5_reckonEnds_111 : decode cX5_reckonEnds 111 = .ok (.invokevirtual 62, 3) := by decide +kernel
theorem dX5_reckonEnds_114 : decode cX5_reckonEnds 114 = .ok (.aload_n 0, 1) := by decide +kernel
theorem dX5_reckonEnds_115 : decode cX5_reckonEnds 115 = .ok (.getfield 18, 3) := by decide +kernel
theorem dX5_reckonEnds_118 : decode cX5_reckonEnds 118 = .ok (.aload_n 0, 1) := by decide +kernel
theorem dX5_reckonEnds_119 : decode cX5_reckonEnds 119 = .ok (.getfield 40, 3) := by decide +kernel
theorem dX5_reckonEnds_122 : decode cX5_reckonEnds 122 = .ok (.i2l, 1) := by decide +kernel
theorem dX5_reckonEnds_123 : decode cX5_reckonEnds 123 = .ok (.iload_n 2, 1) := by decide +kernel
theorem dX5_reckonEnds_124 : decode cX5_reckonEnds 124 = .ok (.i2l, 1) := by decide +kernel
theorem dX5_reckonEnds_125 : decode cX5_reckonEnds 125 = .ok (.lmul, 1) := by decide +kernel
theorem dX5_reckonEnds_126 : decode cX5_reckonEnds 126 = .ok (.iload_n 3, 1) := by decide +kernel
theorem dX5_reckonEnds_127 : decode cX5_reckonEnds 127 = .ok (.i2l, 1) := by decide +kernel
theorem dX5_reckonEnds_128 : decode cX5_reckonEnds 128 = .ok (.lmul, 1) := by decide +kernel
theorem dX5_reckonEnds_129 : decode cX5_reckonEnds 129 = .ok (.aload_n 0, 1) := by decide +kernel
theorem dX5_reckonEnds_130 : decode cX5_reckonEnds 130 = .ok (.getfield 43, 3) := by decide +kernel
theorem dX5_reckonEnds_133 : decode cX5_reckonEnds 133 = .ok (.i2l, 1) := by decide +kernel
theorem dX5_reckonEnds_134 : decode cX5_reckonEnds 134 = .ok (.ldc2_w 60, 3) := by decide +kernel
theorem dX5_reckonEnds_137 : decode cX5_reckonEnds 137 = .ok (.lmul, 1) := by decide +kernel
theorem dX5_reckonEnds_138 : decode cX5_reckonEnds 138 = .ok (.invokevirtual 62, 3) := by decide +kernel
theorem dX5_reckonEnds_141 : decode cX5_reckonEnds 141 = .ok (.return_, 1) := by decide +kernel
theorem dX5_across_0 : decode cX5_across 0 = .ok (.iload_n 1, 1) := by decide +kernel
theorem dX5_across_1 : decode cX5_across 1 = .ok (.aload_n 0, 1) := by decide +kernel
theorem dX5_across_2 : decode cX5_across 2 = .ok (.getfield 34, 3) := by decide +kernel
theorem dX5_across_5 : decode cX5_across 5 = .ok (.if_icmp .ne 8, 3) := by decide +kernel
theorem dX5_across_8 : decode cX5_across 8 = .ok (.aload_n 0, 1) := by decide +kernel
theorem dX5_across_9 : decode cX5_across 9 = .ok (.getfield 37, 3) := by decide +kernel
theorem dX5_across_12 : decode cX5_across 12 = .ok (.ireturn, 1) := by decide +kernel
theorem dX5_across_13 : decode cX5_across 13 = .ok (.iload_n 1, 1) := by decide +kernel
theorem dX5_across_14 : decode cX5_across 14 = .ok (.aload_n 0, 1) := by decide +kernel
theorem dX5_across_15 : decode cX5_across 15 = .ok (.getfield 37, 3) := by decide +kernel
theorem dX5_across_18 : decode cX5_across 18 = .ok (.if_icmp .ne 10, 3) := by decide +kernel
theorem dX5_across_21 : decode cX5_across 21 = .ok (.aload_n 0, 1) := by decide +kernel
theorem dX5_across_22 : decode cX5_across 22 = .ok (.getfield 34, 3) := by decide +kernel
theorem dX5_across_25 : decode cX5_across 25 = .ok (.goto 4, 3) := by decide +kernel
theorem dX5_across_28 : decode cX5_across 28 = .ok (.iconst (-1), 1) := by decide +kernel
theorem dX5_across_29 : decode cX5_across 29 = .ok (.ireturn, 1) := by decide +kernel
theorem dX6_init_0 : decode cX6_init 0 = .ok (.aload_n 0, 1) := by decide +kernel
theorem dX6_init_1 : decode cX6_init 1 = .ok (.invokespecial 3, 3) := by decide +kernel
theorem dX6_init_4 : decode cX6_init 4 = .ok (.aload_n 0, 1) := by decide +kernel
theorem dX6_init_5 : decode cX6_init 5 = .ok (.new 9, 3) := by decide +kernel
theorem dX6_init_8 : decode cX6_init 8 = .ok (.dup, 1) := by decide +kernel
theorem dX6_init_9 : decode cX6_init 9 = .ok (.invokespecial 11, 3) := by decide +kernel
theorem dX6_init_12 : decode cX6_init 12 = .ok (.putfield 12, 3) := by decide +kernel
theorem dX6_init_15 : decode cX6_init 15 = .ok (.aload_n 0, 1) := by decide +kernel
theorem dX6_init_16 : decode cX6_init 16 = .ok (.new 9, 3) := by decide +kernel
theorem dX6_init_19 : decode cX6_init 19 = .ok (.dup, 1) := by decide +kernel
theorem dX6_init_20 : decode cX6_init 20 = .ok (.invokespecial 11, 3) := by decide +kernel
theorem dX6_init_23 : decode cX6_init 23 = .ok (.putfield 18, 3) := by decide +kernel
theorem dX6_init_26 : decode cX6_init 26 = .ok (.aload_n 0, 1) := by decide +kernel
theorem dX6_init_27 : decode cX6_init 27 = .ok (.iload_n 1, 1) := by decide +kernel
theorem dX6_init_28 : decode cX6_init 28 = .ok (.putfield 21, 3) := by decide +kernel
theorem dX6_init_31 : decode cX6_init 31 = .ok (.aload_n 0, 1) := by decide +kernel
theorem dX6_init_32 : decode cX6_init 32 = .ok (.iload_n 2, 1) := by decide +kernel
theorem dX6_init_33 : decode cX6_init 33 = .ok (.putfield 25, 3) := by decide +kernel
theorem dX6_init_36 : decode cX6_init 36 = .ok (.aload_n 0, 1) := by decide +kernel
theorem dX6_init_37 : decode cX6_init 37 = .ok (.iload_n 3, 1) := by decide +kernel
theorem dX6_init_38 : decode cX6_init 38 = .ok (.putfield 28, 3) := by decide +kernel
theorem dX6_init_41 : decode cX6_init 41 = .ok (.aload_n 0, 1) := by decide +kernel
theorem dX6_init_42 : decode cX6_init 42 = .ok (.iload 4, 2) := by decide +kernel
theorem dX6_init_44 : decode cX6_init 44 = .ok (.putfield 31, 3) := by decide +kernel
theorem dX6_init_47 : decode cX6_init 47 = .ok (.return_, 1) := by decide +kernel
theorem dX6_canBe_0 : decode cX6_canBe 0 = .ok (.iload_n 0, 1) := by decide +kernel
theorem dX6_canBe_1 : decode cX6_canBe 1 = .ok (.iconst 1, 1) := by decide +kernel
theorem dX6_canBe_2 : decode cX6_canBe 2 = .ok (.if_icmp .eq 8, 3) := by decide +kernel
theorem dX6_canBe_5 : decode cX6_canBe 5 = .ok (.iload_n 0, 1) := by decide +kernel
theorem dX6_canBe_6 : decode cX6_canBe 6 = .ok (.iconst 2, 1) := by decide +kernel
theorem dX6_canBe_7 : decode cX6_canBe 7 = .ok (.if_icmp .ne 5, 3) := by decide +kernel
theorem dX6_canBe_10 : decode cX6_canBe 10 = .ok (.iconst 1, 1) := by decide +kernel
theorem dX6_canBe_11 : decode cX6_canBe 11 = .ok (.ireturn, 1) := by decide +kernel
theorem dX6_canBe_12 : decode cX6_canBe 12 = .ok (.iload_n 0, 1) := by decide +kernel
theorem dX6_canBe_13 : decode cX6_canBe 13 = .ok (.iconst 3, 1) := by decide +kernel
theorem dX6_canBe_14 : decode cX6_canBe 14 = .ok (.if_icmp .ne 18, 3) := by decide +kernel
theorem dX6_canBe_17 : decode cX6_canBe 17 = .ok (.iload_n 1, 1) := by decide +kernel
theorem dX6_canBe_18 : decode cX6_canBe 18 = .ok (.bipush 10, 2) := by decide +kernel
theorem dX6_canBe_20 : decode cX6_canBe 20 = .ok (.irem, 1) := by decide +kernel
theorem dX6_canBe_21 : decode cX6_canBe 21 = .ok (.ifCond .ne 7, 3) := by decide +kernel
theorem dX6_canBe_24 : decode cX6_canBe 24 = .ok (.iconst 1, 1) := by decide +kernel
theorem dX6_canBe_25 : decode cX6_canBe 25 = .ok (.goto 19, 3) := by decide +kernel
theorem dX6_canBe_28 : decode cX6_canBe 28 = .ok (.iconst 0, 1) := by decide +kernel
theorem dX6_canBe_29 : decode cX6_canBe 29 = .ok (.goto 15, 3) := by decide +kernel
theorem dX6_canBe_32 : decode cX6_canBe 32 = .ok (.iload_n 1, 1) := by decide +kernel
theorem dX6_canBe_33 : decode cX6_canBe 33 = .ok (.bipush 12, 2) := by decide +kernel
theorem dX6_canBe_35 : decode cX6_canBe 35 = .ok (.irem, 1) := by decide +kernel
theorem dX6_canBe_36 : decode cX6_canBe 36 = .ok (.ifCond .ne 7, 3) := by decide +kernel
theorem dX6_canBe_39 : decode cX6_canBe 39 = .ok (.iconst 1, 1) := by decide +kernel
theorem dX6_canBe_40 : decode cX6_canBe 40 = .ok (.goto 4, 3) := by decide +kernel
theorem dX6_canBe_43 : decode cX6_canBe 43 = .ok (.iconst 0, 1) := by decide +kernel
theorem dX6_canBe_44 : decode cX6_canBe 44 = .ok (.ireturn, 1) := by decide +kernel
theorem dX6_amended_0 : decode cX6_amended 0 = .ok (.iload_n 0, 1) := by decide +kernel
theorem dX6_amended_1 : decode cX6_amended 1 = .ok (.iconst 1, 1) := by decide +kernel
theorem dX6_amended_2 : decode cX6_amended 2 = .ok (.if_icmp .ne 10, 3) := by decide +kernel
theorem dX6_amended_5 : decode cX6_amended 5 = .ok (.ldc2_w 34, 3) := by decide +kernel
theorem dX6_amended_8 : decode cX6_amended 8 = .ok (.iload_n 1, 1) := by decide +kernel
theorem dX6_amended_9 : decode cX6_amended 9 = .ok (.i2l, 1) := by decide +kernel
theorem dX6_amended_10 : decode cX6_amended 10 = .ok (.lmul, 1) := by decide +kernel
theorem dX6_amended_11 : decode cX6_amended 11 = .ok (.lreturn, 1) := by decide +kernel
theorem dX6_amended_12 : decode cX6_amended 12 = .ok (.iload_n 0, 1) := by decide +kernel
theorem dX6_amended_13 : decode cX6_amended 13 = .ok (.iconst 2, 1) := by decide +kernel
theorem dX6_amended_14 : decode cX6_amended 14 = .ok (.if_icmp .ne 5, 3) := by decide +kernel
theorem dX6_amended_17 : decode cX6_amended 17 = .ok (.lconst 0, 1) := by decide +kernel
theorem dX6_amended_18 : decode cX6_amended 18 = .ok (.lreturn, 1) := by decide +kernel
theorem dX6_amended_19 : decode cX6_amended 19 = .ok (.iload_n 0, 1) := by decide +kernel
theorem dX6_amended_20 : decode cX6_amended 20 = .ok (.iconst 3, 1) := by decide +kernel
theorem dX6_amended_21 : decode cX6_amended 21 = .ok (.if_icmp .ne 15, 3) := by decide +kernel
theorem dX6_amended_24 : decode cX6_amended 24 = .ok (.iload_n 1, 1) := by decide +kernel
theorem dX6_amended_25 : decode cX6_amended 25 = .ok (.bipush 10, 2) := by decide +kernel
theorem dX6_amended_27 : decode cX6_amended 27 = .ok (.idiv, 1) := by decide +kernel
theorem dX6_amended_28 : decode cX6_amended 28 = .ok (.i2l, 1) := by decide +kernel
theorem dX6_amended_29 : decode cX6_amended 29 = .ok (.ldc2_w 36, 3) := by decide +kernel
theorem dX6_amended_32 : decode cX6_amended 32 = .ok (.lmul, 1) := by decide +kernel
theorem dX6_amended_33 : decode cX6_amended 33 = .ok (.goto 12, 3) := by decide +kernel
theorem dX6_amended_36 : decode cX6_amended 36 = .ok (.iload_n 1, 1) := by decide +kernel
theorem dX6_amended_37 : decode cX6_amended 37 = .ok (.bipush 12, 2) := by decide +kernel
theorem dX6_amended_39 : decode cX6_amended 39 = .ok (.idiv, 1) := by decide +kernel
theorem dX6_amended_40 : decode cX6_amended 40 = .ok (.i2l, 1) := by decide +kernel
theorem dX6_amended_41 : decode cX6_amended 41 = .ok (.ldc2_w 38, 3) := by decide +kernel
theorem dX6_amended_44 : decode cX6_amended 44 = .ok (.lmul, 1) := by decide +kernel
theorem dX6_amended_45 : decode cX6_amended 45 = .ok (.lreturn, 1) := by decide +kernel
theorem dX7_init_0 : decode cX7_init 0 = .ok (.aload_n 0, 1) := by decide +kernel
theorem dX7_init_1 : decode cX7_init 1 = .ok (.invokespecial 1, 3) := by decide +kernel
theorem dX7_init_4 : decode cX7_init 4 = .ok (.return_, 1) := by decide +kernel
theorem dX7_arrived_0 : decode cX7_arrived 0 = .ok (.aload_n 1, 1) := by decide +kernel
theorem dX7_arrived_1 : decode cX7_arrived 1 = .ok (.getfield 7, 3) := by decide +kernel
theorem dX7_arrived_4 : decode cX7_arrived 4 = .ok (.aload_n 0, 1) := by decide +kernel
theorem dX7_arrived_5 : decode cX7_arrived 5 = .ok (.getfield 13, 3) := by decide +kernel
theorem dX7_arrived_8 : decode cX7_arrived 8 = .ok (.if_icmp .eq 4, 3) := by decide +kernel
theorem dX7_arrived_11 : decode cX7_arrived 11 = .ok (.return_, 1) := by decide +kernel
theorem dX7_arrived_12 : decode cX7_arrived 12 = .ok (.aload_n 0, 1) := by decide +kernel
theorem dX7_arrived_13 : decode cX7_arrived 13 = .ok (.getfield 18, 3) := by decide +kernel
theorem dX7_arrived_16 : decode cX7_arrived 16 = .ok (.ifCond .ne 8, 3) := by decide +kernel
theorem dX7_arrived_19 : decode cX7_arrived 19 = .ok (.aload_n 1, 1) := by decide +kernel
theorem dX7_arrived_20 : decode cX7_arrived 20 = .ok (.iconst 1, 1) := by decide +kernel
theorem dX7_arrived_21 : decode cX7_arrived 21 = .ok (.putfield 21, 3) := by decide +kernel
theorem dX7_arrived_24 : decode cX7_arrived 24 = .ok (.aload_n 0, 1) := by decide +kernel
theorem dX7_arrived_25 : decode cX7_arrived 25 = .ok (.dup, 1) := by decide +kernel
theorem dX7_arrived_26 : decode cX7_arrived 26 = .ok (.getfield 18, 3) := by decide +kernel
theorem dX7_arrived_29 : decode cX7_arrived 29 = .ok (.iconst 1, 1) := by decide +kernel
theorem dX7_arrived_30 : decode cX7_arrived 30 = .ok (.isub, 1) := by decide +kernel
theorem dX7_arrived_31 : decode cX7_arrived 31 = .ok (.putfield 18, 3) := by decide +kernel
theorem dX7_arrived_34 : decode cX7_arrived 34 = .ok (.return_, 1) := by decide +kernel
theorem dX8_init_0 : decode cX8_init 0 = .ok (.aload_n 0, 1) := by decide +kernel
theorem dX8_init_1 : decode cX8_init 1 = .ok (.invokespecial 1, 3) := by decide +kernel
theorem dX8_init_4 : decode cX8_init 4 = .ok (.aload_n 0, 1) := by decide +kernel
theorem dX8_init_5 : decode cX8_init 5 = .ok (.new 7, 3) := by decide +kernel
theorem dX8_init_8 : decode cX8_init 8 = .ok (.dup, 1) := by decide +kernel
theorem dX8_init_9 : decode cX8_init 9 = .ok (.invokespecial 9, 3) := by decide +kernel
theorem dX8_init_12 : decode cX8_init 12 = .ok (.putfield 10, 3) := by decide +kernel
theorem dX8_init_15 : decode cX8_init 15 = .ok (.aload_n 0, 1) := by decide +kernel
theorem dX8_init_16 : decode cX8_init 16 = .ok (.new 7, 3) := by decide +kernel
theorem dX8_init_19 : decode cX8_init 19 = .ok (.dup, 1) := by decide +kernel
theorem dX8_init_20 : decode cX8_init 20 = .ok (.invokespecial 9, 3) := by decide +kernel
theorem dX8_init_23 : decode cX8_init 23 = .ok (.putfield 16, 3) := by decide +kernel
theorem dX8_init_26 : decode cX8_init 26 = .ok (.return_, 1) := by decide +kernel
theorem dX8_arrived_0 : decode cX8_arrived 0 = .ok (.aload_n 0, 1) := by decide +kernel
theorem dX8_arrived_1 : decode cX8_arrived 1 = .ok (.getfield 19, 3) := by decide +kernel
theorem dX8_arrived_4 : decode cX8_arrived 4 = .ok (.ifCond .eq 27, 3) := by decide +kernel
theorem dX8_arrived_7 : decode cX8_arrived 7 = .ok (.aload_n 1, 1) := by decide +kernel
theorem dX8_arrived_8 : decode cX8_arrived 8 = .ok (.invokevirtual 23, 3) := by decide +kernel
theorem dX8_arrived_11 : decode cX8_arrived 11 = .ok (.getfield 28, 3) := by decide +kernel
theorem dX8_arrived_14 : decode cX8_arrived 14 = .ok (.ifCond .ne 17, 3) := by decide +kernel
theorem dX8_arrived_17 : decode cX8_arrived 17 = .ok (.aload_n 1, 1) := by decide +kernel
theorem dX8_arrived_18 : decode cX8_arrived 18 = .ok (.invokevirtual 23, 3) := by decide +kernel
theorem dX8_arrived_21 : decode cX8_arrived 21 = .ok (.aload_n 0, 1) := by decide +kernel
theorem dX8_arrived_22 : decode cX8_arrived 22 = .ok (.getfield 10, 3) := by decide +kernel
theorem dX8_arrived_25 : decode cX8_arrived 25 = .ok (.invokevirtual 31, 3) := by decide +kernel
theorem dX8_arrived_28 : decode cX8_arrived 28 = .ok (.ifCond .eq 14, 3) := by decide +kernel
theorem dX8_arrived_31 : decode cX8_arrived 31 = .ok (.aload_n 0, 1) := by decide +kernel
theorem dX8_arrived_32 : decode cX8_arrived 32 = .ok (.getfield 10, 3) := by decide +kernel
theorem dX8_arrived_35 : decode cX8_arrived 35 = .ok (.aload_n 1, 1) := by decide +kernel
theorem dX8_arrived_36 : decode cX8_arrived 36 = .ok (.invokevirtual 23, 3) := by decide +kernel
theorem dX8_arrived_39 : decode cX8_arrived 39 = .ok (.invokevirtual 35, 3) := by decide +kernel
theorem dX8_arrived_42 : decode cX8_arrived 42 = .ok (.aload_n 0, 1) := by decide +kernel
theorem dX8_arrived_43 : decode cX8_arrived 43 = .ok (.getfield 19, 3) := by decide +kernel
theorem dX8_arrived_46 : decode cX8_arrived 46 = .ok (.ifCond .eq 27, 3) := by decide +kernel
theorem dX8_arrived_49 : decode cX8_arrived 49 = .ok (.aload_n 1, 1) := by decide +kernel
theorem dX8_arrived_50 : decode cX8_arrived 50 = .ok (.invokevirtual 39, 3) := by decide +kernel
theorem dX8_arrived_53 : decode cX8_arrived 53 = .ok (.getfield 28, 3) := by decide +kernel
theorem dX8_arrived_56 : decode cX8_arrived 56 = .ok (.ifCond .ne 17, 3) := by decide +kernel
theorem dX8_arrived_59 : decode cX8_arrived 59 = .ok (.aload_n 0, 1) := by decide +kernel
theorem dX8_arrived_60 : decode cX8_arrived 60 = .ok (.getfield 16, 3) := by decide +kernel
theorem dX8_arrived_63 : decode cX8_arrived 63 = .ok (.aload_n 1, 1) := by decide +kernel
theorem dX8_arrived_64 : decode cX8_arrived 64 = .ok (.invokevirtual 39, 3) := by decide +kernel
theorem dX8_arrived_67 : decode cX8_arrived 67 = .ok (.invokevirtual 31, 3) := by decide +kernel
theorem dX8_arrived_70 : decode cX8_arrived 70 = .ok (.ifCond .eq 14, 3) := by decide +kernel
theorem dX8_arrived_73 : decode cX8_arrived 73 = .ok (.aload_n 0, 1) := by decide +kernel
theorem dX8_arrived_74 : decode cX8_arrived 74 = .ok (.getfield 16, 3) := by decide +kernel
theorem dX8_arrived_77 : decode cX8_arrived 77 = .ok (.aload_n 1, 1) := by decide +kernel
theorem dX8_arrived_78 : decode cX8_arrived 78 = .ok (.invokevirtual 39, 3) := by decide +kernel
theorem dX8_arrived_81 : decode cX8_arrived 81 = .ok (.invokevirtual 35, 3) := by decide +kernel
theorem dX8_arrived_84 : decode cX8_arrived 84 = .ok (.aload_n 0, 1) := by decide +kernel
theorem dX8_arrived_85 : decode cX8_arrived 85 = .ok (.iconst 1, 1) := by decide +kernel
theorem dX8_arrived_86 : decode cX8_arrived 86 = .ok (.putfield 19, 3) := by decide +kernel
theorem dX8_arrived_89 : decode cX8_arrived 89 = .ok (.aload_n 1, 1) := by decide +kernel
theorem dX8_arrived_90 : decode cX8_arrived 90 = .ok (.aload_n 0, 1) := by decide +kernel
theorem dX8_arrived_91 : decode cX8_arrived 91 = .ok (.getfield 10, 3) := by decide +kernel
theorem dX8_arrived_94 : decode cX8_arrived 94 = .ok (.getfield 28, 3) := by decide +kernel
theorem dX8_arrived_97 : decode cX8_arrived 97 = .ok (.ifCond .ne 13, 3) := by decide +kernel
theorem dX8_arrived_100 : decode cX8_arrived 100 = .ok (.aload_n 0, 1) := by decide +kernel
theorem dX8_arrived_101 : decode cX8_arrived 101 = .ok (.getfield 16, 3) := by decide +kernel
theorem dX8_arrived_104 : decode cX8_arrived 104 = .ok (.getfield 28, 3) := by decide +kernel
theorem dX8_arrived_107 : decode cX8_arrived 107 = .ok (.ifCond .eq 7, 3) := by decide +kernel
theorem dX8_arrived_110 : decode cX8_arrived 110 = .ok (.iconst 1, 1) := by decide +kernel
theorem dX8_arrived_111 : decode cX8_arrived 111 = .ok (.goto 4, 3) := by decide +kernel
theorem dX8_arrived_114 : decode cX8_arrived 114 = .ok (.iconst 0, 1) := by decide +kernel
theorem dX8_arrived_115 : decode cX8_arrived 115 = .ok (.putfield 41, 3) := by decide +kernel
theorem dX8_arrived_118 : decode cX8_arrived 118 = .ok (.return_, 1) := by decide +kernel
theorem dX9_init_0 : decode cX9_init 0 = .ok (.aload_n 0, 1) := by decide +kernel
theorem dX9_init_1 : decode cX9_init 1 = .ok (.invokespecial 3, 3) := by decide +kernel
theorem dX9_init_4 : decode cX9_init 4 = .ok (.aload_n 0, 1) := by decide +kernel
theorem dX9_init_5 : decode cX9_init 5 = .ok (.bipush 24, 2) := by decide +kernel
theorem dX9_init_7 : decode cX9_init 7 = .ok (.anewarray 9, 3) := by decide +kernel
theorem dX9_init_10 : decode cX9_init 10 = .ok (.putfield 11, 3) := by decide +kernel
theorem dX9_init_13 : decode cX9_init 13 = .ok (.aload_n 0, 1) := by decide +kernel
theorem dX9_init_14 : decode cX9_init 14 = .ok (.bipush 10, 2) := by decide +kernel
theorem dX9_init_16 : decode cX9_init 16 = .ok (.newarray .int, 2) := by decide +kernel
theorem dX9_init_18 : decode cX9_init 18 = .ok (.putfield 17, 3) := by decide +kernel
theorem dX9_init_21 : decode cX9_init 21 = .ok (.aload_n 0, 1) := by decide +kernel
theorem dX9_init_22 : decode cX9_init 22 = .ok (.bipush 11, 2) := by decide +kernel
theorem dX9_init_24 : decode cX9_init 24 = .ok (.anewarray 21, 3) := by decide +kernel
theorem dX9_init_27 : decode cX9_init 27 = .ok (.putfield 23, 3) := by decide +kernel
theorem dX9_init_30 : decode cX9_init 30 = .ok (.aload_n 0, 1) := by decide +kernel
theorem dX9_init_31 : decode cX9_init 31 = .ok (.bipush 11, 2) := by decide +kernel
theorem dX9_init_33 : decode cX9_init 33 = .ok (.anewarray 21, 3) := by decide +kernel
theorem dX9_init_36 : decode cX9_init 36 = .ok (.putfield 27, 3) := by decide +kernel
theorem dX9_init_39 : decode cX9_init 39 = .ok (.aload_n 0, 1) := by decide +kernel
theorem dX9_init_40 : decode cX9_init 40 = .ok (.bipush 10, 2) := by decide +kernel
theorem dX9_init_42 : decode cX9_init 42 = .ok (.newarray .int, 2) := by decide +kernel
theorem dX9_init_44 : decode cX9_init 44 = .ok (.putfield 30, 3) := by decide +kernel
theorem dX9_init_47 : decode cX9_init 47 = .ok (.iconst 0, 1) := by decide +kernel
theorem dX9_init_48 : decode cX9_init 48 = .ok (.istore_n 1, 1) := by decide +kernel
theorem dX9_init_49 : decode cX9_init 49 = .ok (.iload_n 1, 1) := by decide +kernel
theorem dX9_init_50 : decode cX9_init 50 = .ok (.bipush 10, 2) := by decide +kernel
theorem dX9_init_52 : decode cX9_init 52 = .ok (.if_icmp .gt 35, 3) := by decide +kernel
theorem dX9_init_55 : decode cX9_init 55 = .ok (.aload_n 0, 1) := by decide +kernel
theorem dX9_init_56 : decode cX9_init 56 = .ok (.getfield 23, 3) := by decide +kernel
theorem dX9_init_59 : decode cX9_init 59 = .ok (.iload_n 1, 1) := by decide +kernel
theorem dX9_init_60 : decode cX9_init 60 = .ok (.new 21, 3) := by decide +kernel
theorem dX9_init_63 : decode cX9_init 63 = .ok (.dup, 1) := by decide +kernel
theorem dX9_init_64 : decode cX9_init 64 = .ok (.invokespecial 33, 3) := by decide +kernel
theorem dX9_init_67 : decode cX9_init 67 = .ok (.aastore, 1) := by decide +kernel
theorem dX9_init_68 : decode cX9_init 68 = .ok (.aload_n 0, 1) := by decide +kernel
theorem dX9_init_69 : decode cX9_init 69 = .ok (.getfield 27, 3) := by decide +kernel
theorem dX9_init_72 : decode cX9_init 72 = .ok (.iload_n 1, 1) := by decide +kernel
theorem dX9_init_73 : decode cX9_init 73 = .ok (.new 21, 3) := by decide +kernel
theorem dX9_init_76 : decode cX9_init 76 = .ok (.dup, 1) := by decide +kernel
theorem dX9_init_77 : decode cX9_init 77 = .ok (.invokespecial 33, 3) := by decide +kernel
theorem dX9_init_80 : decode cX9_init 80 = .ok (.aastore, 1) := by decide +kernel
theorem dX9_init_81 : decode cX9_init 81 = .ok (.iinc 1 1, 3) := by decide +kernel
theorem dX9_init_84 : decode cX9_init 84 = .ok (.goto (-35), 3) := by decide +kernel
theorem dX9_init_87 : decode cX9_init 87 = .ok (.aload_n 0, 1) := by decide +kernel
theorem dX9_init_88 : decode cX9_init 88 = .ok (.getfield 23, 3) := by decide +kernel
theorem dX9_init_91 : decode cX9_init 91 = .ok (.iconst 0, 1) := by decide +kernel
theorem dX9_init_92 : decode cX9_init 92 = .ok (.aaload, 1) := by decide +kernel
theorem dX9_init_93 : decode cX9_init 93 = .ok (.lconst 1, 1) := by decide +kernel
theorem dX9_init_94 : decode cX9_init 94 = .ok (.lconst 1, 1) := by decide +kernel
theorem dX9_init_95 : decode cX9_init 95 = .ok (.invokevirtual 34, 3) := by decide +kernel
theorem dX9_init_98 : decode cX9_init 98 = .ok (.aload_n 0, 1) := by decide +kernel
theorem dX9_init_99 : decode cX9_init 99 = .ok (.getfield 27, 3) := by decide +kernel
theorem dX9_init_102 : decode cX9_init 102 = .ok (.iconst 0, 1) := by decide +kernel
theorem dX9_init_103 : decode cX9_init 103 = .ok (.aaload, 1) := by decide +kernel
theorem dX9_init_104 : decode cX9_init 104 = .ok (.lconst 1, 1) := by decide +kernel
theorem dX9_init_105 : decode cX9_init 105 = .ok (.lconst 1, 1) := by decide +kernel
theorem dX9_init_106 : decode cX9_init 106 = .ok (.invokevirtual 34, 3) := by decide +kernel
theorem dX9_init_109 : decode cX9_init 109 = .ok (.return_, 1) := by decide +kernel
theorem dX9_admit_0 : decode cX9_admit 0 = .ok (.aload_n 0, 1) := by decide +kernel
theorem dX9_admit_1 : decode cX9_admit 1 = .ok (.getfield 38, 3) := by decide +kernel
theorem dX9_admit_4 : decode cX9_admit 4 = .ok (.bipush 24, 2) := by decide +kernel
theorem dX9_admit_6 : decode cX9_admit 6 = .ok (.if_icmp .ge 23, 3) := by decide +kernel
theorem dX9_admit_9 : decode cX9_admit 9 = .ok (.aload_n 0, 1) := by decide +kernel
theorem dX9_admit_10 : decode cX9_admit 10 = .ok (.getfield 11, 3) := by decide +kernel
theorem dX9_admit_13 : decode cX9_admit 13 = .ok (.aload_n 0, 1) := by decide +kernel
theorem dX9_admit_14 : decode cX9_admit 14 = .ok (.getfield 38, 3) := by decide +kernel
theorem dX9_admit_17 : decode cX9_admit 17 = .ok (.aload_n 1, 1) := by decide +kernel
theorem dX9_admit_18 : decode cX9_admit 18 = .ok (.aastore, 1) := by decide +kernel
theorem dX9_admit_19 : decode cX9_admit 19 = .ok (.aload_n 0, 1) := by decide +kernel
theorem dX9_admit_20 : decode cX9_admit 20 = .ok (.dup, 1) := by decide +kernel
theorem dX9_admit_21 : decode cX9_admit 21 = .ok (.getfield 38, 3) := by decide +kernel
theorem dX9_admit_24 : decode cX9_admit 24 = .ok (.iconst 1, 1) := by decide +kernel
theorem dX9_admit_25 : decode cX9_admit 25 = .ok (.iadd, 1) := by decide +kernel
theorem dX9_admit_26 : decode cX9_admit 26 = .ok (.putfield 38, 3) := by decide +kernel
theorem dX9_admit_29 : decode cX9_admit 29 = .ok (.return_, 1) := by decide +kernel
theorem dX9_low_0 : decode cX9_low 0 = .ok (.aload_n 0, 1) := by decide +kernel
theorem dX9_low_1 : decode cX9_low 1 = .ok (.getfield 23, 3) := by decide +kernel
theorem dX9_low_4 : decode cX9_low 4 = .ok (.aload_n 0, 1) := by decide +kernel
theorem dX9_low_5 : decode cX9_low 5 = .ok (.getfield 42, 3) := by decide +kernel
theorem dX9_low_8 : decode cX9_low 8 = .ok (.aaload, 1) := by decide +kernel
theorem dX9_low_9 : decode cX9_low 9 = .ok (.areturn, 1) := by decide +kernel
theorem dX9_high_0 : decode cX9_high 0 = .ok (.aload_n 0, 1) := by decide +kernel
theorem dX9_high_1 : decode cX9_high 1 = .ok (.getfield 27, 3) := by decide +kernel
theorem dX9_high_4 : decode cX9_high 4 = .ok (.aload_n 0, 1) := by decide +kernel
theorem dX9_high_5 : decode cX9_high 5 = .ok (.getfield 42, 3) := by decide +kernel
theorem dX9_high_8 : decode cX9_high 8 = .ok (.aaload, 1) := by decide +kernel
theorem dX9_high_9 : decode cX9_high 9 = .ok (.areturn, 1) := by decide +kernel
theorem dX9_numberAt_0 : decode cX9_numberAt 0 = .ok (.aload_n 0, 1) := by decide +kernel
theorem dX9_numberAt_1 : decode cX9_numberAt 1 = .ok (.getfield 17, 3) := by decide +kernel
theorem dX9_numberAt_4 : decode cX9_numberAt 4 = .ok (.iload_n 1, 1) := by decide +kernel
theorem dX9_numberAt_5 : decode cX9_numberAt 5 = .ok (.iaload, 1) := by decide +kernel
theorem dX9_numberAt_6 : decode cX9_numberAt 6 = .ok (.bipush 100, 2) := by decide +kernel
theorem dX9_numberAt_8 : decode cX9_numberAt 8 = .ok (.irem, 1) := by decide +kernel
theorem dX9_numberAt_9 : decode cX9_numberAt 9 = .ok (.ireturn, 1) := by decide +kernel
theorem dX9_seekWays_0 : decode cX9_seekWays 0 = .ok (.aload_n 0, 1) := by decide +kernel
theorem dX9_seekWays_1 : decode cX9_seekWays 1 = .ok (.iload_n 2, 1) := by decide +kernel
theorem dX9_seekWays_2 : decode cX9_seekWays 2 = .ok (.iconst 0, 1) := by decide +kernel
theorem dX9_seekWays_3 : decode cX9_seekWays 3 = .ok (.invokevirtual 45, 3) := by decide +kernel
theorem dX9_seekWays_6 : decode cX9_seekWays 6 = .ok (.aload_n 0, 1) := by decide +kernel
theorem dX9_seekWays_7 : decode cX9_seekWays 7 = .ok (.bipush 9, 2) := by decide +kernel
theorem dX9_seekWays_9 : decode cX9_seekWays 9 = .ok (.putfield 49, 3) := by decide +kernel
theorem dX9_seekWays_12 : decode cX9_seekWays 12 = .ok (.aload_n 0, 1) := by decide +kernel
theorem dX9_seekWays_13 : decode cX9_seekWays 13 = .ok (.aload_n 3, 1) := by decide +kernel
theorem dX9_seekWays_14 : decode cX9_seekWays 14 = .ok (.iload_n 1, 1) := by decide +kernel
theorem dX9_seekWays_15 : decode cX9_seekWays 15 = .ok (.iconst 1, 1) := by decide +kernel
theorem dX9_seekWays_16 : decode cX9_seekWays 16 = .ok (.iload_n 1, 1) := by decide +kernel
theorem dX9_seekWays_17 : decode cX9_seekWays 17 = .ok (.ishl, 1) := by decide +kernel
theorem dX9_seekWays_18 : decode cX9_seekWays 18 = .ok (.iconst 0, 1) := by decide +kernel
theorem dX9_seekWays_19 : decode cX9_seekWays 19 = .ok (.invokestatic 52, 3) := by decide +kernel
theorem dX9_seekWays_22 : decode cX9_seekWays 22 = .ok (.return_, 1) := by decide +kernel
theorem dX9_pickWay_0 : decode cX9_pickWay 0 = .ok (.aload_n 0, 1) := by decide +kernel
theorem dX9_pickWay_1 : decode cX9_pickWay 1 = .ok (.iload_n 2, 1) := by decide +kernel
theorem dX9_pickWay_2 : decode cX9_pickWay 2 = .ok (.iconst 0, 1) := by decide +kernel
theorem dX9_pickWay_3 : decode cX9_pickWay 3 = .ok (.invokevirtual 45, 3) := by decide +kernel
theorem dX9_pickWay_6 : decode cX9_pickWay 6 = .ok (.aload 4, 2) := by decide +kernel
theorem dX9_pickWay_8 : decode cX9_pickWay 8 = .ok (.iload_n 3, 1) := by decide +kernel
theorem dX9_pickWay_9 : decode cX9_pickWay 9 = .ok (.putfield 56, 3) := by decide +kernel
theorem dX9_pickWay_12 : decode cX9_pickWay 12 = .ok (.aload_n 0, 1) := by decide +kernel
theorem dX9_pickWay_13 : decode cX9_pickWay 13 = .ok (.getfield 30, 3) := by decide +kernel
theorem dX9_pickWay_16 : decode cX9_pickWay 16 = .ok (.iload_n 1, 1) := by decide +kernel
theorem dX9_pickWay_17 : decode cX9_pickWay 17 = .ok (.iaload, 1) := by decide +kernel
theorem dX9_pickWay_18 : decode cX9_pickWay 18 = .ok (.istore 5, 2) := by decide +kernel
theorem dX9_pickWay_20 : decode cX9_pickWay 20 = .ok (.iload 5, 2) := by decide +kernel
theorem dX9_pickWay_22 : decode cX9_pickWay 22 = .ok (.bipush 9, 2) := by decide +kernel
theorem dX9_pickWay_24 : decode cX9_pickWay 24 = .ok (.if_icmp .gt 40, 3) := by decide +kernel
theorem dX9_pickWay_27 : decode cX9_pickWay 27 = .ok (.aload_n 0, 1) := by decide +kernel
theorem dX9_pickWay_28 : decode cX9_pickWay 28 = .ok (.getfield 61, 3) := by decide +kernel
theorem dX9_pickWay_31 : decode cX9_pickWay 31 = .ok (.ifCond .ne 33, 3) := by decide +kernel
theorem dX9_pickWay_34 : decode cX9_pickWay 34 = .ok (.aload 4, 2) := by decide +kernel
theorem dX9_pickWay_36 : decode cX9_pickWay 36 = .ok (.iload 5, 2) := by decide +kernel
theorem dX9_pickWay_38 : decode cX9_pickWay 38 = .ok (.putfield 65, 3) := by decide +kernel
theorem dX9_pickWay_41 : decode cX9_pickWay 41 = .ok (.aload_n 0, 1) := by decide +kernel
theorem dX9_pickWay_42 : decode cX9_pickWay 42 = .ok (.iload 5, 2) := by decide +kernel
theorem dX9_pickWay_44 : decode cX9_pickWay 44 = .ok (.putfield 49, 3) := by decide +kernel
theorem dX9_pickWay_47 : decode cX9_pickWay 47 = .ok (.aload_n 0, 1) := by decide +kernel
theorem dX9_pickWay_48 : decode cX9_pickWay 48 = .ok (.aload 4, 2) := by decide +kernel
theorem dX9_pickWay_50 : decode cX9_pickWay 50 = .ok (.iload_n 1, 1) := by decide +kernel
theorem dX9_pickWay_51 : decode cX9_pickWay 51 = .ok (.iconst 1, 1) := by decide +kernel
theorem dX9_pickWay_52 : decode cX9_pickWay 52 = .ok (.iload_n 1, 1) := by decide +kernel
theorem dX9_pickWay_53 : decode cX9_pickWay 53 = .ok (.ishl, 1) := by decide +kernel
theorem dX9_pickWay_54 : decode cX9_pickWay 54 = .ok (.iconst 0, 1) := by decide +kernel
theorem dX9_pickWay_55 : decode cX9_pickWay 55 = .ok (.invokestatic 52, 3) := by decide +kernel
theorem dX9_pickWay_58 : decode cX9_pickWay 58 = .ok (.iinc 5 1, 3) := by decide +kernel
theorem dX9_pickWay_61 : decode cX9_pickWay 61 = .ok (.goto (-41), 3) := by decide +kernel
theorem dX9_pickWay_64 : decode cX9_pickWay 64 = .ok (.aload_n 0, 1) := by decide +kernel
theorem dX9_pickWay_65 : decode cX9_pickWay 65 = .ok (.getfield 61, 3) := by decide +kernel
theorem dX9_pickWay_68 : decode cX9_pickWay 68 = .ok (.ireturn, 1) := by decide +kernel
theorem dX9_seekRings_0 : decode cX9_seekRings 0 = .ok (.aload_n 0, 1) := by decide +kernel
theorem dX9_seekRings_1 : decode cX9_seekRings 1 = .ok (.iconst 0, 1) := by decide +kernel
theorem dX9_seekRings_2 : decode cX9_seekRings 2 = .ok (.putfield 61, 3) := by decide +kernel
theorem dX9_seekRings_5 : decode cX9_seekRings 5 = .ok (.iconst 0, 1) := by decide +kernel
theorem dX9_seekRings_6 : decode cX9_seekRings 6 = .ok (.istore_n 2, 1) := by decide +kernel
theorem dX9_seekRings_7 : decode cX9_seekRings 7 = .ok (.iload_n 2, 1) := by decide +kernel
theorem dX9_seekRings_8 : decode cX9_seekRings 8 = .ok (.iconst 2, 1) := by decide +kernel
theorem dX9_seekRings_9 : decode cX9_seekRings 9 = .ok (.aload_n 0, 1) := by decide +kernel
theorem dX9_seekRings_10 : decode cX9_seekRings 10 = .ok (.getfield 38, 3) := by decide +kernel
theorem dX9_seekRings_13 : decode cX9_seekRings 13 = .ok (.imul, 1) := by decide +kernel
theorem dX9_seekRings_14 : decode cX9_seekRings 14 = .ok (.if_icmp .ge 108, 3) := by decide +kernel
theorem dX9_seekRings_17 : decode cX9_seekRings 17 = .ok (.aload_n 0, 1) := by decide +kernel
theorem dX9_seekRings_18 : decode cX9_seekRings 18 = .ok (.getfield 61, 3) := by decide +kernel
theorem dX9_seekRings_21 : decode cX9_seekRings 21 = .ok (.ifCond .ne 101, 3) := by decide +kernel
theorem dX9_seekRings_24 : decode cX9_seekRings 24 = .ok (.aload_n 0, 1) := by decide +kernel
theorem dX9_seekRings_25 : decode cX9_seekRings 25 = .ok (.getfield 11, 3) := by decide +kernel
theorem dX9_seekRings_28 : decode cX9_seekRings 28 = .ok (.iload_n 2, 1) := by decide +kernel
theorem dX9_seekRings_29 : decode cX9_seekRings 29 = .ok (.iconst 2, 1) := by decide +kernel
theorem dX9_seekRings_30 : decode cX9_seekRings 30 = .ok (.idiv, 1) := by decide +kernel
theorem dX9_seekRings_31 : decode cX9_seekRings 31 = .ok (.aaload, 1) := by decide +kernel
theorem dX9_seekRings_32 : decode cX9_seekRings 32 = .ok (.astore_n 3, 1) := by decide +kernel
theorem dX9_seekRings_33 : decode cX9_seekRings 33 = .ok (.iload_n 2, 1) := by decide +kernel
theorem dX9_seekRings_34 : decode cX9_seekRings 34 = .ok (.iconst 2, 1) := by decide +kernel
theorem dX9_seekRings_35 : decode cX9_seekRings 35 = .ok (.irem, 1) := by decide +kernel
theorem dX9_seekRings_36 : decode cX9_seekRings 36 = .ok (.iconst 1, 1) := by decide +kernel
theorem dX9_seekRings_37 : decode cX9_seekRings 37 = .ok (.if_icmp .ne 7, 3) := by decide +kernel
theorem dX9_seekRings_40 : decode cX9_seekRings 40 = .ok (.iconst 1, 1) := by decide +kernel
theorem dX9_seekRings_41 : decode cX9_seekRings 41 = .ok (.goto 4, 3) := by decide +kernel
theorem dX9_seekRings_44 : decode cX9_seekRings 44 = .ok (.iconst 0, 1) := by decide +kernel
theorem dX9_seekRings_45 : decode cX9_seekRings 45 = .ok (.istore 4, 2) := by decide +kernel
theorem dX9_seekRings_47 : decode cX9_seekRings 47 = .ok (.iload 4, 2) := by decide +kernel
theorem dX9_seekRings_49 : decode cX9_seekRings 49 = .ok (.ifCond .eq 10, 3) := by decide +kernel
theorem dX9_seekRings_52 : decode cX9_seekRings 52 = .ok (.aload_n 3, 1) := by decide +kernel
theorem dX9_seekRings_53 : decode cX9_seekRings 53 = .ok (.getfield 68, 3) := by decide +kernel
theorem dX9_seekRings_56 : decode cX9_seekRings 56 = .ok (.goto 7, 3) := by decide +kernel
theorem dX9_seekRings_59 : decode cX9_seekRings 59 = .ok (.aload_n 3, 1) := by decide +kernel
theorem dX9_seekRings_60 : decode cX9_seekRings 60 = .ok (.getfield 71, 3) := by decide +kernel
theorem dX9_seekRings_63 : decode cX9_seekRings 63 = .ok (.istore 5, 2) := by decide +kernel
theorem dX9_seekRings_65 : decode cX9_seekRings 65 = .ok (.aload_n 0, 1) := by decide +kernel
theorem dX9_seekRings_66 : decode cX9_seekRings 66 = .ok (.iload 4, 2) := by decide +kernel
theorem dX9_seekRings_68 : decode cX9_seekRings 68 = .ok (.ifCond .eq 10, 3) := by decide +kernel
theorem dX9_seekRings_71 : decode cX9_seekRings 71 = .ok (.aload_n 3, 1) := by decide +kernel
theorem dX9_seekRings_72 : decode cX9_seekRings 72 = .ok (.getfield 71, 3) := by decide +kernel
theorem dX9_seekRings_75 : decode cX9_seekRings 75 = .ok (.goto 7, 3) := by decide +kernel
theorem dX9_seekRings_78 : decode cX9_seekRings 78 = .ok (.aload_n 3, 1) := by decide +kernel
theorem dX9_seekRings_79 : decode cX9_seekRings 79 = .ok (.getfield 68, 3) := by decide +kernel
theorem dX9_seekRings_82 : decode cX9_seekRings 82 = .ok (.iload_n 2, 1) := by decide +kernel
theorem dX9_seekRings_83 : decode cX9_seekRings 83 = .ok (.iconst 2, 1) := by decide +kernel
theorem dX9_seekRings_84 : decode cX9_seekRings 84 = .ok (.idiv, 1) := by decide +kernel
theorem dX9_seekRings_85 : decode cX9_seekRings 85 = .ok (.iconst 1, 1) := by decide +kernel
theorem dX9_seekRings_86 : decode cX9_seekRings 86 = .ok (.iadd, 1) := by decide +kernel
theorem dX9_seekRings_87 : decode cX9_seekRings 87 = .ok (.invokevirtual 45, 3) := by decide +kernel
theorem dX9_seekRings_90 : decode cX9_seekRings 90 = .ok (.aload_n 0, 1) := by decide +kernel
theorem dX9_seekRings_91 : decode cX9_seekRings 91 = .ok (.bipush 10, 2) := by decide +kernel
theorem dX9_seekRings_93 : decode cX9_seekRings 93 = .ok (.putfield 49, 3) := by decide +kernel
theorem dX9_seekRings_96 : decode cX9_seekRings 96 = .ok (.aload_n 0, 1) := by decide +kernel
theorem dX9_seekRings_97 : decode cX9_seekRings 97 = .ok (.aload_n 3, 1) := by decide +kernel
theorem dX9_seekRings_98 : decode cX9_seekRings 98 = .ok (.iload 4, 2) := by decide +kernel
theorem dX9_seekRings_100 : decode cX9_seekRings 100 = .ok (.iconst 0, 1) := by decide +kernel
theorem dX9_seekRings_101 : decode cX9_seekRings 101 = .ok (.invokevirtual 74, 3) := by decide +kernel
theorem dX9_seekRings_104 : decode cX9_seekRings 104 = .ok (.aload_n 0, 1) := by decide +kernel
theorem dX9_seekRings_105 : decode cX9_seekRings 105 = .ok (.aload_n 1, 1) := by decide +kernel
theorem dX9_seekRings_106 : decode cX9_seekRings 106 = .ok (.iload 5, 2) := by decide +kernel
theorem dX9_seekRings_108 : decode cX9_seekRings 108 = .ok (.iconst 1, 1) := by decide +kernel
theorem dX9_seekRings_109 : decode cX9_seekRings 109 = .ok (.iload 5, 2) := by decide +kernel
theorem dX9_seekRings_111 : decode cX9_seekRings 111 = .ok (.ishl, 1) := by decide +kernel
theorem dX9_seekRings_112 : decode cX9_seekRings 112 = .ok (.iconst 1, 1) := by decide +kernel
theorem dX9_seekRings_113 : decode cX9_seekRings 113 = .ok (.invokestatic 52, 3) := by decide +kernel
theorem dX9_seekRings_116 : decode cX9_seekRings 116 = .ok (.iinc 2 1, 3) := by decide +kernel
theorem dX9_seekRings_119 : decode cX9_seekRings 119 = .ok (.goto (-112), 3) := by decide +kernel
theorem dX9_seekRings_122 : decode cX9_seekRings 122 = .ok (.return_, 1) := by decide +kernel
theorem dX9_aim_0 : decode cX9_aim 0 = .ok (.aload_n 0, 1) := by decide +kernel
theorem dX9_aim_1 : decode cX9_aim 1 = .ok (.iload_n 1, 1) := by decide +kernel
theorem dX9_aim_2 : decode cX9_aim 2 = .ok (.putfield 78, 3) := by decide +kernel
theorem dX9_aim_5 : decode cX9_aim 5 = .ok (.aload_n 0, 1) := by decide +kernel
theorem dX9_aim_6 : decode cX9_aim 6 = .ok (.iload_n 2, 1) := by decide +kernel
theorem dX9_aim_7 : decode cX9_aim 7 = .ok (.putfield 81, 3) := by decide +kernel
theorem dX9_aim_10 : decode cX9_aim 10 = .ok (.aload_n 0, 1) := by decide +kernel
theorem dX9_aim_11 : decode cX9_aim 11 = .ok (.iconst 0, 1) := by decide +kernel
theorem dX9_aim_12 : decode cX9_aim 12 = .ok (.putfield 61, 3) := by decide +kernel
theorem dX9_aim_15 : decode cX9_aim 15 = .ok (.aload_n 0, 1) := by decide +kernel
theorem dX9_aim_16 : decode cX9_aim 16 = .ok (.invokevirtual 84, 3) := by decide +kernel
theorem dX9_aim_19 : decode cX9_aim 19 = .ok (.return_, 1) := by decide +kernel
theorem dX9_measureDistances_0 : decode cX9_measureDistances 0 = .ok (.aload_n 0, 1) := by decide +kernel
theorem dX9_measureDistances_1 : decode cX9_measureDistances 1 = .ok (.getfield 30, 3) := by decide +kernel
theorem dX9_measureDistances_4 : decode cX9_measureDistances 4 = .ok (.bipush 100, 2) := by decide +kernel
theorem dX9_measureDistances_6 : decode cX9_measureDistances 6 = .ok (.invokestatic 87, 3) := by decide +kernel
theorem dX9_measureDistances_9 : decode cX9_measureDistances 9 = .ok (.aload_n 0, 1) := by decide +kernel
theorem dX9_measureDistances_10 : decode cX9_measureDistances 10 = .ok (.getfield 30, 3) := by decide +kernel
theorem dX9_measureDistances_13 : decode cX9_measureDistances 13 = .ok (.aload_n 0, 1) := by decide +kernel
theorem dX9_measureDistances_14 : decode cX9_measureDistances 14 = .ok (.getfield 78, 3) := by decide +kernel
theorem dX9_measureDistances_17 : decode cX9_measureDistances 17 = .ok (.iconst 0, 1) := by decide +kernel
theorem dX9_measureDistances_18 : decode cX9_measureDistances 18 = .ok (.iastore, 1) := by decide +kernel
theorem dX9_measureDistances_19 : decode cX9_measureDistances 19 = .ok (.iconst 1, 1) := by decide +kernel
theorem dX9_measureDistances_20 : decode cX9_measureDistances 20 = .ok (.istore_n 1, 1) := by decide +kernel
theorem dX9_measureDistances_21 : decode cX9_measureDistances 21 = .ok (.iconst 0, 1) := by decide +kernel
theorem dX9_measureDistances_22 : decode cX9_measureDistances 22 = .ok (.istore_n 2, 1) := by decide +kernel
theorem dX9_measureDistances_23 : decode cX9_measureDistances 23 = .ok (.iload_n 2, 1) := by decide +kernel
theorem dX9_measureDistances_24 : decode cX9_measureDistances 24 = .ok (.bipush 10, 2) := by decide +kernel
theorem dX9_measureDistances_26 : decode cX9_measureDistances 26 = .ok (.if_icmp .ge 84, 3) := by decide +kernel
theorem dX9_measureDistances_29 : decode cX9_measureDistances 29 = .ok (.iload_n 1, 1) := by decide +kernel
theorem dX9_measureDistances_30 : decode cX9_measureDistances 30 = .ok (.ifCond .eq 80, 3) := by decide +kernel
theorem dX9_measureDistances_33 : decode cX9_measureDistances 33 = .ok (.iconst 0, 1) := by decide +kernel
theorem dX9_measureDistances_34 : decode cX9_measureDistances 34 = .ok (.istore_n 1, 1) := by decide +kernel
theorem dX9_measureDistances_35 : decode cX9_measureDistances 35 = .ok (.aload_n 0, 1) := by decide +kernel
theorem dX9_measureDistances_36 : decode cX9_measureDistances 36 = .ok (.getfield 81, 3) := by decide +kernel
theorem dX9_measureDistances_39 : decode cX9_measureDistances 39 = .ok (.istore_n 3, 1) := by decide +kernel
theorem dX9_measureDistances_40 : decode cX9_measureDistances 40 = .ok (.iload_n 3, 1) := by decide +kernel
theorem dX9_measureDistances_41 : decode cX9_measureDistances 41 = .ok (.aload_n 0, 1) := by decide +kernel
theorem dX9_measureDistances_42 : decode cX9_measureDistances 42 = .ok (.getfield 38, 3) := by decide +kernel
theorem dX9_measureDistances_45 : decode cX9_measureDistances 45 = .ok (.if_icmp .ge 59, 3) := by decide +kernel
theorem dX9_measureDistances_48 : decode cX9_measureDistances 48 = .ok (.iload_n 1, 1) := by decide +kernel
theorem dX9_measureDistances_49 : decode cX9_measureDistances 49 = .ok (.aload_n 0, 1) := by decide +kernel
theorem dX9_measureDistances_50 : decode cX9_measureDistances 50 = .ok (.aload_n 0, 1) := by decide +kernel
theorem dX9_measureDistances_51 : decode cX9_measureDistances 51 = .ok (.getfield 11, 3) := by decide +kernel
theorem dX9_measureDistances_54 : decode cX9_measureDistances 54 = .ok (.iload_n 3, 1) := by decide +kernel
theorem dX9_measureDistances_55 : decode cX9_measureDistances 55 = .ok (.aaload, 1) := by decide +kernel
theorem dX9_measureDistances_56 : decode cX9_measureDistances 56 = .ok (.getfield 68, 3) := by decide +kernel
theorem dX9_measureDistances_59 : decode cX9_measureDistances 59 = .ok (.aload_n 0, 1) := by decide +kernel
theorem dX9_measureDistances_60 : decode cX9_measureDistances 60 = .ok (.getfield 11, 3) := by decide +kernel
theorem dX9_measureDistances_63 : decode cX9_measureDistances 63 = .ok (.iload_n 3, 1) := by decide +kernel
theorem dX9_measureDistances_64 : decode cX9_measureDistances 64 = .ok (.aaload, 1) := by decide +kernel
theorem dX9_measureDistances_65 : decode cX9_measureDistances 65 = .ok (.getfield 71, 3) := by decide +kernel
theorem dX9_measureDistances_68 : decode cX9_measureDistances 68 = .ok (.invokevirtual 93, 3) := by decide +kernel
theorem dX9_measureDistances_71 : decode cX9_measureDistances 71 = .ok (.ior, 1) := by decide +kernel
theorem dX9_measureDistances_72 : decode cX9_measureDistances 72 = .ok (.istore_n 1, 1) := by decide +kernel
theorem dX9_measureDistances_73 : decode cX9_measureDistances 73 = .ok (.iload_n 1, 1) := by decide +kernel
theorem dX9_measureDistances_74 : decode cX9_measureDistances 74 = .ok (.aload_n 0, 1) := by decide +kernel
theorem dX9_measureDistances_75 : decode cX9_measureDistances 75 = .ok (.aload_n 0, 1) := by decide +kernel
theorem dX9_measureDistances_76 : decode cX9_measureDistances 76 = .ok (.getfield 11, 3) := by decide +kernel
theorem dX9_measureDistances_79 : decode cX9_measureDistances 79 = .ok (.iload_n 3, 1) := by decide +kernel
theorem dX9_measureDistances_80 : decode cX9_measureDistances 80 = .ok (.aaload, 1) := by decide +kernel
theorem dX9_measureDistances_81 : decode cX9_measureDistances 81 = .ok (.getfield 71, 3) := by decide +kernel
theorem dX9_measureDistances_84 : decode cX9_measureDistances 84 = .ok (.aload_n 0, 1) := by decide +kernel
theorem dX9_measureDistances_85 : decode cX9_measureDistances 85 = .ok (.getfield 11, 3) := by decide +kernel
theorem dX9_measureDistances_88 : decode cX9_measureDistances 88 = .ok (.iload_n 3, 1) := by decide +kernel
theorem dX9_measureDistances_89 : decode cX9_measureDistances 89 = .ok (.aaload, 1) := by decide +kernel
theorem dX9_measureDistances_90 : decode cX9_measureDistances 90 = .ok (.getfield 68, 3) := by decide +kernel
theorem dX9_measureDistances_93 : decode cX9_measureDistances 93 = .ok (.invokevirtual 93, 3) := by decide +kernel
theorem dX9_measureDistances_96 : decode cX9_measureDistances 96 = .ok (.ior, 1) := by decide +kernel
theorem dX9_measureDistances_97 : decode cX9_measureDistances 97 = .ok (.istore_n 1, 1) := by decide +kernel
theorem dX9_measureDistances_98 : decode cX9_measureDistances 98 = .ok (.iinc 3 1, 3) := by decide +kernel
theorem dX9_measureDistances_101 : decode cX9_measureDistances 101 = .ok (.goto (-61), 3) := by decide +kernel
theorem dX9_measureDistances_104 : decode cX9_measureDistances 104 = .ok (.iinc 2 1, 3) := by decide +kernel
theorem dX9_measureDistances_107 : decode cX9_measureDistances 107 = .ok (.goto (-84), 3) := by decide +kernel
theorem dX9_measureDistances_110 : decode cX9_measureDistances 110 = .ok (.return_, 1) := by decide +kernel
theorem dX9_draw_0 : decode cX9_draw 0 = .ok (.aload_n 0, 1) := by decide +kernel
theorem dX9_draw_1 : decode cX9_draw 1 = .ok (.getfield 30, 3) := by decide +kernel
theorem dX9_draw_4 : decode cX9_draw 4 = .ok (.iload_n 2, 1) := by decide +kernel
theorem dX9_draw_5 : decode cX9_draw 5 = .ok (.iaload, 1) := by decide +kernel
theorem dX9_draw_6 : decode cX9_draw 6 = .ok (.iconst 1, 1) := by decide +kernel
theorem dX9_draw_7 : decode cX9_draw 7 = .ok (.iadd, 1) := by decide +kernel
theorem dX9_draw_8 : decode cX9_draw 8 = .ok (.aload_n 0, 1) := by decide +kernel
theorem dX9_draw_9 : decode cX9_draw 9 = .ok (.getfield 30, 3) := by decide +kernel
theorem dX9_draw_12 : decode cX9_draw 12 = .ok (.iload_n 1, 1) := by decide +kernel
theorem dX9_draw_13 : decode cX9_draw 13 = .ok (.iaload, 1) := by decide +kernel
theorem dX9_draw_14 : decode cX9_draw 14 = .ok (.if_icmp .lt 5, 3) := by decide +kernel
theorem dX9_draw_17 : decode cX9_draw 17 = .ok (.iconst 0, 1) := by decide +kernel
theorem dX9_draw_18 : decode cX9_draw 18 = .ok (.ireturn, 1) := by decide +kernel
theorem dX9_draw_19 : decode cX9_draw 19 = .ok (.aload_n 0, 1) := by decide +kernel
theorem dX9_draw_20 : decode cX9_draw 20 = .ok (.getfield 30, 3) := by decide +kernel
theorem dX9_draw_23 : decode cX9_draw 23 = .ok (.iload_n 1, 1) := by decide +kernel
theorem dX9_draw_24 : decode cX9_draw 24 = .ok (.aload_n 0, 1) := by decide +kernel
theorem dX9_draw_25 : decode cX9_draw 25 = .ok (.getfield 30, 3) := by decide +kernel
theorem dX9_draw_28 : decode cX9_draw 28 = .ok (.iload_n 2, 1) := by decide +kernel
theorem dX9_draw_29 : decode cX9_draw 29 = .ok (.iaload, 1) := by decide +kernel
theorem dX9_draw_30 : decode cX9_draw 30 = .ok (.iconst 1, 1) := by decide +kernel
theorem dX9_draw_31 : decode cX9_draw 31 = .ok (.iadd, 1) := by decide +kernel
theorem dX9_draw_32 : decode cX9_draw 32 = .ok (.iastore, 1) := by decide +kernel
theorem dX9_draw_33 : decode cX9_draw 33 = .ok (.iconst 1, 1) := by decide +kernel
theorem dX9_draw_34 : decode cX9_draw 34 = .ok (.ireturn, 1) := by decide +kernel
theorem dX9_take_0 : decode cX9_take 0 = .ok (.aload_n 0, 1) := by decide +kernel
theorem dX9_take_1 : decode cX9_take 1 = .ok (.getfield 17, 3) := by decide +kernel
theorem dX9_take_4 : decode cX9_take 4 = .ok (.iload_n 3, 1) := by decide +kernel
theorem dX9_take_5 : decode cX9_take 5 = .ok (.iload_n 2, 1) := by decide +kernel
theorem dX9_take_6 : decode cX9_take 6 = .ok (.ifCond .eq 13, 3) := by decide +kernel
theorem dX9_take_9 : decode cX9_take 9 = .ok (.aload_n 1, 1) := by decide +kernel
theorem dX9_take_10 : decode cX9_take 10 = .ok (.getfield 97, 3) := by decide +kernel
theorem dX9_take_13 : decode cX9_take 13 = .ok (.bipush 100, 2) := by decide +kernel
theorem dX9_take_15 : decode cX9_take 15 = .ok (.iadd, 1) := by decide +kernel
theorem dX9_take_16 : decode cX9_take 16 = .ok (.goto 7, 3) := by decide +kernel
theorem dX9_take_19 : decode cX9_take 19 = .ok (.aload_n 1, 1) := by decide +kernel
theorem dX9_take_20 : decode cX9_take 20 = .ok (.getfield 97, 3) := by decide +kernel
theorem dX9_take_23 : decode cX9_take 23 = .ok (.iastore, 1) := by decide +kernel
theorem dX9_take_24 : decode cX9_take 24 = .ok (.iload_n 2, 1) := by decide +kernel
theorem dX9_take_25 : decode cX9_take 25 = .ok (.ifCond .eq 68, 3) := by decide +kernel
theorem dX9_take_28 : decode cX9_take 28 = .ok (.aload_n 0, 1) := by decide +kernel
theorem dX9_take_29 : decode cX9_take 29 = .ok (.getfield 23, 3) := by decide +kernel
theorem dX9_take_32 : decode cX9_take 32 = .ok (.iload_n 3, 1) := by decide +kernel
theorem dX9_take_33 : decode cX9_take 33 = .ok (.iconst 1, 1) := by decide +kernel
theorem dX9_take_34 : decode cX9_take 34 = .ok (.iadd, 1) := by decide +kernel
theorem dX9_take_35 : decode cX9_take 35 = .ok (.aaload, 1) := by decide +kernel
theorem dX9_take_36 : decode cX9_take 36 = .ok (.aload_n 0, 1) := by decide +kernel
theorem dX9_take_37 : decode cX9_take 37 = .ok (.getfield 23, 3) := by decide +kernel
theorem dX9_take_40 : decode cX9_take 40 = .ok (.iload_n 3, 1) := by decide +kernel
theorem dX9_take_41 : decode cX9_take 41 = .ok (.aaload, 1) := by decide +kernel
theorem dX9_take_42 : decode cX9_take 42 = .ok (.aload_n 1, 1) := by decide +kernel
theorem dX9_take_43 : decode cX9_take 43 = .ok (.getfield 100, 3) := by decide +kernel
theorem dX9_take_46 : decode cX9_take 46 = .ok (.getfield 104, 3) := by decide +kernel
theorem dX9_take_49 : decode cX9_take 49 = .ok (.aload_n 1, 1) := by decide +kernel
theorem dX9_take_50 : decode cX9_take 50 = .ok (.getfield 100, 3) := by decide +kernel
theorem dX9_take_53 : decode cX9_take 53 = .ok (.getfield 108, 3) := by decide +kernel
theorem dX9_take_56 : decode cX9_take 56 = .ok (.invokevirtual 111, 3) := by decide +kernel
theorem dX9_take_59 : decode cX9_take 59 = .ok (.aload_n 0, 1) := by decide +kernel
theorem dX9_take_60 : decode cX9_take 60 = .ok (.getfield 27, 3) := by decide +kernel
theorem dX9_take_63 : decode cX9_take 63 = .ok (.iload_n 3, 1) := by decide +kernel
theorem dX9_take_64 : decode cX9_take 64 = .ok (.iconst 1, 1) := by decide +kernel
theorem dX9_take_65 : decode cX9_take 65 = .ok (.iadd, 1) := by decide +kernel
theorem dX9_take_66 : decode cX9_take 66 = .ok (.aaload, 1) := by decide +kernel
theorem dX9_take_67 : decode cX9_take 67 = .ok (.aload_n 0, 1) := by decide +kernel
theorem dX9_take_68 : decode cX9_take 68 = .ok (.getfield 27, 3) := by decide +kernel
theorem dX9_take_71 : decode cX9_take 71 = .ok (.iload_n 3, 1) := by decide +kernel
theorem dX9_take_72 : decode cX9_take 72 = .ok (.aaload, 1) := by decide +kernel
theorem dX9_take_73 : decode cX9_take 73 = .ok (.aload_n 1, 1) := by decide +kernel
theorem dX9_take_74 : decode cX9_take 74 = .ok (.getfield 115, 3) := by decide +kernel
theorem dX9_take_77 : decode cX9_take 77 = .ok (.getfield 104, 3) := by decide +kernel
theorem dX9_take_80 : decode cX9_take 80 = .ok (.aload_n 1, 1) := by decide +kernel
theorem dX9_take_81 : decode cX9_take 81 = .ok (.getfield 115, 3) := by decide +kernel
theorem dX9_take_84 : decode cX9_take 84 = .ok (.getfield 108, 3) := by decide +kernel
theorem dX9_take_87 : decode cX9_take 87 = .ok (.invokevirtual 111, 3) := by decide +kernel
theorem dX9_take_90 : decode cX9_take 90 = .ok (.goto 65, 3) := by decide +kernel
theorem dX9_take_93 : decode cX9_take 93 = .ok (.aload_n 0, 1) := by decide +kernel
theorem dX9_take_94 : decode cX9_take 94 = .ok (.getfield 23, 3) := by decide +kernel
theorem dX9_take_97 : decode cX9_take 97 = .ok (.iload_n 3, 1) := by decide +kernel
theorem dX9_take_98 : decode cX9_take 98 = .ok (.iconst 1, 1) := by decide +kernel
theorem dX9_take_99 : decode cX9_take 99 = .ok (.iadd, 1) := by decide +kernel
theorem dX9_take_100 : decode cX9_take 100 = .ok (.aaload, 1) := by decide +kernel
theorem dX9_take_101 : decode cX9_take 101 = .ok (.aload_n 0, 1) := by decide +kernel
theorem dX9_take_102 : decode cX9_take 102 = .ok (.getfield 23, 3) := by decide +kernel
theorem dX9_take_105 : decode cX9_take 105 = .ok (.iload_n 3, 1) := by decide +kernel
theorem dX9_take_106 : decode cX9_take 106 = .ok (.aaload, 1) := by decide +kernel
theorem dX9_take_107 : decode cX9_take 107 = .ok (.aload_n 1, 1) := by decide +kernel
theorem dX9_take_108 : decode cX9_take 108 = .ok (.getfield 115, 3) := by decide +kernel
theorem dX9_take_111 : decode cX9_take 111 = .ok (.getfield 108, 3) := by decide +kernel
theorem dX9_take_114 : decode cX9_take 114 = .ok (.aload_n 1, 1) := by decide +kernel
theorem dX9_take_115 : decode cX9_take 115 = .ok (.getfield 115, 3) := by decide +kernel
theorem dX9_take_118 : decode cX9_take 118 = .ok (.getfield 104, 3) := by decide +kernel
theorem dX9_take_121 : decode cX9_take 121 = .ok (.invokevirtual 111, 3) := by decide +kernel
theorem dX9_take_124 : decode cX9_take 124 = .ok (.aload_n 0, 1) := by decide +kernel
theorem dX9_take_125 : decode cX9_take 125 = .ok (.getfield 27, 3) := by decide +kernel
theorem dX9_take_128 : decode cX9_take 128 = .ok (.iload_n 3, 1) := by decide +kernel
theorem dX9_take_129 : decode cX9_take 129 = .ok (.iconst 1, 1) := by decide +kernel
theorem dX9_take_130 : decode cX9_take 130 = .ok (.iadd, 1) := by decide +kernel
theorem dX9_take_131 : decode cX9_take 131 = .ok (.aaload, 1) := by decide +kernel
theorem dX9_take_132 : decode cX9_take 132 = .ok (.aload_n 0, 1) := by decide +kernel
theorem dX9_take_133 : decode cX9_take 133 = .ok (.getfield 27, 3) := by decide +kernel
theorem dX9_take_136 : decode cX9_take 136 = .ok (.iload_n 3, 1) := by decide +kernel
theorem dX9_take_137 : decode cX9_take 137 = .ok (.aaload, 1) := by decide +kernel
theorem dX9_take_138 : decode cX9_take 138 = .ok (.aload_n 1, 1) := by decide +kernel
theorem dX9_take_139 : decode cX9_take 139 = .ok (.getfield 100, 3) := by decide +kernel
theorem dX9_take_142 : decode cX9_take 142 = .ok (.getfield 108, 3) := by decide +kernel
theorem dX9_take_145 : decode cX9_take 145 = .ok (.aload_n 1, 1) := by decide +kernel
theorem dX9_take_146 : decode cX9_take 146 = .ok (.getfield 100, 3) := by decide +kernel
theorem dX9_take_149 : decode cX9_take 149 = .ok (.getfield 104, 3) := by decide +kernel
theorem dX9_take_152 : decode cX9_take 152 = .ok (.invokevirtual 111, 3) := by decide +kernel
theorem dX9_take_155 : decode cX9_take 155 = .ok (.return_, 1) := by decide +kernel
theorem dX9_extend_0 : decode cX9_extend 0 = .ok (.iload_n 2, 1) := by decide +kernel
theorem dX9_extend_1 : decode cX9_extend 1 = .ok (.aload_n 0, 1) := by decide +kernel
theorem dX9_extend_2 : decode cX9_extend 2 = .ok (.getfield 78, 3) := by decide +kernel
theorem dX9_extend_5 : decode cX9_extend 5 = .ok (.if_icmp .ne 15, 3) := by decide +kernel
theorem dX9_extend_8 : decode cX9_extend 8 = .ok (.aload_n 0, 1) := by decide +kernel
theorem dX9_extend_9 : decode cX9_extend 9 = .ok (.iload 4, 2) := by decide +kernel
theorem dX9_extend_11 : decode cX9_extend 11 = .ok (.putfield 42, 3) := by decide +kernel
theorem dX9_extend_14 : decode cX9_extend 14 = .ok (.aload_n 1, 1) := by decide +kernel
theorem dX9_extend_15 : decode cX9_extend 15 = .ok (.aload_n 0, 1) := by decide +kernel
theorem dX9_extend_16 : decode cX9_extend 16 = .ok (.invokevirtual 118, 3) := by decide +kernel
theorem dX9_extend_19 : decode cX9_extend 19 = .ok (.return_, 1) := by decide +kernel
theorem dX9_extend_20 : decode cX9_extend 20 = .ok (.iload 4, 2) := by decide +kernel
theorem dX9_extend_22 : decode cX9_extend 22 = .ok (.aload_n 0, 1) := by decide +kernel
theorem dX9_extend_23 : decode cX9_extend 23 = .ok (.getfield 49, 3) := by decide +kernel
theorem dX9_extend_26 : decode cX9_extend 26 = .ok (.if_icmp .lt 4, 3) := by decide +kernel
theorem dX9_extend_29 : decode cX9_extend 29 = .ok (.return_, 1) := by decide +kernel
theorem dX9_extend_30 : decode cX9_extend 30 = .ok (.aload_n 0, 1) := by decide +kernel
theorem dX9_extend_31 : decode cX9_extend 31 = .ok (.getfield 81, 3) := by decide +kernel
theorem dX9_extend_34 : decode cX9_extend 34 = .ok (.istore 5, 2) := by decide +kernel
theorem dX9_extend_36 : decode cX9_extend 36 = .ok (.iload 5, 2) := by decide +kernel
theorem dX9_extend_38 : decode cX9_extend 38 = .ok (.aload_n 0, 1) := by decide +kernel
theorem dX9_extend_39 : decode cX9_extend 39 = .ok (.getfield 38, 3) := by decide +kernel
theorem dX9_extend_42 : decode cX9_extend 42 = .ok (.if_icmp .ge 105, 3) := by decide +kernel
theorem dX9_extend_45 : decode cX9_extend 45 = .ok (.aload_n 0, 1) := by decide +kernel
theorem dX9_extend_46 : decode cX9_extend 46 = .ok (.getfield 61, 3) := by decide +kernel
theorem dX9_extend_49 : decode cX9_extend 49 = .ok (.ifCond .ne 98, 3) := by decide +kernel
theorem dX9_extend_52 : decode cX9_extend 52 = .ok (.aload_n 0, 1) := by decide +kernel
theorem dX9_extend_53 : decode cX9_extend 53 = .ok (.getfield 11, 3) := by decide +kernel
theorem dX9_extend_56 : decode cX9_extend 56 = .ok (.iload 5, 2) := by decide +kernel
theorem dX9_extend_58 : decode cX9_extend 58 = .ok (.aaload, 1) := by decide +kernel
theorem dX9_extend_59 : decode cX9_extend 59 = .ok (.astore 6, 2) := by decide +kernel
theorem dX9_extend_61 : decode cX9_extend 61 = .ok (.aload 6, 2) := by decide +kernel
theorem dX9_extend_63 : decode cX9_extend 63 = .ok (.iload_n 2, 1) := by decide +kernel
theorem dX9_extend_64 : decode cX9_extend 64 = .ok (.invokevirtual 124, 3) := by decide +kernel
theorem dX9_extend_67 : decode cX9_extend 67 = .ok (.istore 7, 2) := by decide +kernel
theorem dX9_extend_69 : decode cX9_extend 69 = .ok (.iload 7, 2) := by decide +kernel
theorem dX9_extend_71 : decode cX9_extend 71 = .ok (.ifCond .lt 70, 3) := by decide +kernel
theorem dX9_extend_74 : decode cX9_extend 74 = .ok (.iload_n 3, 1) := by decide +kernel
theorem dX9_extend_75 : decode cX9_extend 75 = .ok (.iload 7, 2) := by decide +kernel
theorem dX9_extend_77 : decode cX9_extend 77 = .ok (.ishr, 1) := by decide +kernel
theorem dX9_extend_78 : decode cX9_extend 78 = .ok (.iconst 1, 1) := by decide +kernel
theorem dX9_extend_79 : decode cX9_extend 79 = .ok (.iand, 1) := by decide +kernel
theorem dX9_extend_80 : decode cX9_extend 80 = .ok (.ifCond .ne 61, 3) := by decide +kernel
theorem dX9_extend_83 : decode cX9_extend 83 = .ok (.iload 4, 2) := by decide +kernel
theorem dX9_extend_85 : decode cX9_extend 85 = .ok (.iconst 1, 1) := by decide +kernel
theorem dX9_extend_86 : decode cX9_extend 86 = .ok (.iadd, 1) := by decide +kernel
theorem dX9_extend_87 : decode cX9_extend 87 = .ok (.aload_n 0, 1) := by decide +kernel
theorem dX9_extend_88 : decode cX9_extend 88 = .ok (.getfield 30, 3) := by decide +kernel
theorem dX9_extend_91 : decode cX9_extend 91 = .ok (.iload 7, 2) := by decide +kernel
theorem dX9_extend_93 : decode cX9_extend 93 = .ok (.iaload, 1) := by decide +kernel
theorem dX9_extend_94 : decode cX9_extend 94 = .ok (.iadd, 1) := by decide +kernel
theorem dX9_extend_95 : decode cX9_extend 95 = .ok (.aload_n 0, 1) := by decide +kernel
theorem dX9_extend_96 : decode cX9_extend 96 = .ok (.getfield 49, 3) := by decide +kernel
theorem dX9_extend_99 : decode cX9_extend 99 = .ok (.if_icmp .gt 42, 3) := by decide +kernel
theorem dX9_extend_102 : decode cX9_extend 102 = .ok (.aload_n 0, 1) := by decide +kernel
theorem dX9_extend_103 : decode cX9_extend 103 = .ok (.aload 6, 2) := by decide +kernel
theorem dX9_extend_105 : decode cX9_extend 105 = .ok (.iload_n 2, 1) := by decide +kernel
theorem dX9_extend_106 : decode cX9_extend 106 = .ok (.aload 6, 2) := by decide +kernel
theorem dX9_extend_108 : decode cX9_extend 108 = .ok (.getfield 68, 3) := by decide +kernel
theorem dX9_extend_111 : decode cX9_extend 111 = .ok (.if_icmp .eq 7, 3) := by decide +kernel
theorem dX9_extend_114 : decode cX9_extend 114 = .ok (.iconst 1, 1) := by decide +kernel
theorem dX9_extend_115 : decode cX9_extend 115 = .ok (.goto 4, 3) := by decide +kernel
theorem dX9_extend_118 : decode cX9_extend 118 = .ok (.iconst 0, 1) := by decide +kernel
theorem dX9_extend_119 : decode cX9_extend 119 = .ok (.iload 4, 2) := by decide +kernel
theorem dX9_extend_121 : decode cX9_extend 121 = .ok (.invokevirtual 74, 3) := by decide +kernel
theorem dX9_extend_124 : decode cX9_extend 124 = .ok (.aload_n 0, 1) := by decide +kernel
theorem dX9_extend_125 : decode cX9_extend 125 = .ok (.aload_n 1, 1) := by decide +kernel
theorem dX9_extend_126 : decode cX9_extend 126 = .ok (.iload 7, 2) := by decide +kernel
theorem dX9_extend_128 : decode cX9_extend 128 = .ok (.iload_n 3, 1) := by decide +kernel
theorem dX9_extend_129 : decode cX9_extend 129 = .ok (.iconst 1, 1) := by decide +kernel
theorem dX9_extend_130 : decode cX9_extend 130 = .ok (.iload 7, 2) := by decide +kernel
theorem dX9_extend_132 : decode cX9_extend 132 = .ok (.ishl, 1) := by decide +kernel
theorem dX9_extend_133 : decode cX9_extend 133 = .ok (.ior, 1) := by decide +kernel
theorem dX9_extend_134 : decode cX9_extend 134 = .ok (.iload 4, 2) := by decide +kernel
theorem dX9_extend_136 : decode cX9_extend 136 = .ok (.iconst 1, 1) := by decide +kernel
theorem dX9_extend_137 : decode cX9_extend 137 = .ok (.iadd, 1) := by decide +kernel
theorem dX9_extend_138 : decode cX9_extend 138 = .ok (.invokestatic 52, 3) := by decide +kernel
theorem dX9_extend_141 : decode cX9_extend 141 = .ok (.iinc 5 1, 3) := by decide +kernel
theorem dX9_extend_144 : decode cX9_extend 144 = .ok (.goto (-108), 3) := by decide +kernel
theorem dX9_extend_147 : decode cX9_extend 147 = .ok (.return_, 1) := by decide +kernel
theorem dX10_init_0 : decode cX10_init 0 = .ok (.aload_n 0, 1) := by decide +kernel
theorem dX10_init_1 : decode cX10_init 1 = .ok (.invokespecial 1, 3) := by decide +kernel
theorem dX10_init_4 : decode cX10_init 4 = .ok (.aload_n 0, 1) := by decide +kernel
theorem dX10_init_5 : decode cX10_init 5 = .ok (.bipush 8, 2) := by decide +kernel
theorem dX10_init_7 : decode cX10_init 7 = .ok (.newarray .int, 2) := by decide +kernel
theorem dX10_init_9 : decode cX10_init 9 = .ok (.putfield 9, 3) := by decide +kernel
theorem dX10_init_12 : decode cX10_init 12 = .ok (.aload_n 0, 1) := by decide +kernel
theorem dX10_init_13 : decode cX10_init 13 = .ok (.bipush 24, 2) := by decide +kernel
theorem dX10_init_15 : decode cX10_init 15 = .ok (.anewarray 13, 3) := by decide +kernel
theorem dX10_init_18 : decode cX10_init 18 = .ok (.putfield 15, 3) := by decide +kernel
theorem dX10_init_21 : decode cX10_init 21 = .ok (.aload_n 0, 1) := by decide +kernel
theorem dX10_init_22 : decode cX10_init 22 = .ok (.iconst 4, 1) := by decide +kernel
theorem dX10_init_23 : decode cX10_init 23 = .ok (.anewarray 19, 3) := by decide +kernel
theorem dX10_init_26 : decode cX10_init 26 = .ok (.putfield 21, 3) := by decide +kernel
theorem dX10_init_29 : decode cX10_init 29 = .ok (.aload_n 0, 1) := by decide +kernel
theorem dX10_init_30 : decode cX10_init 30 = .ok (.bipush 20, 2) := by decide +kernel
theorem dX10_init_32 : decode cX10_init 32 = .ok (.anewarray 25, 3) := by decide +kernel
theorem dX10_init_35 : decode cX10_init 35 = .ok (.putfield 27, 3) := by decide +kernel
theorem dX10_init_38 : decode cX10_init 38 = .ok (.aload_n 0, 1) := by decide +kernel
theorem dX10_init_39 : decode cX10_init 39 = .ok (.new 31, 3) := by decide +kernel
theorem dX10_init_42 : decode cX10_init 42 = .ok (.dup, 1) := by decide +kernel
theorem dX10_init_43 : decode cX10_init 43 = .ok (.invokespecial 33, 3) := by decide +kernel
theorem dX10_init_46 : decode cX10_init 46 = .ok (.putfield 34, 3) := by decide +kernel
theorem dX10_init_49 : decode cX10_init 49 = .ok (.aload_n 0, 1) := by decide +kernel
theorem dX10_init_50 : decode cX10_init 50 = .ok (.new 38, 3) := by decide +kernel
theorem dX10_init_53 : decode cX10_init 53 = .ok (.dup, 1) := by decide +kernel
theorem dX10_init_54 : decode cX10_init 54 = .ok (.invokespecial 40, 3) := by decide +kernel
theorem dX10_init_57 : decode cX10_init 57 = .ok (.putfield 41, 3) := by decide +kernel
theorem dX10_init_60 : decode cX10_init 60 = .ok (.aload_n 0, 1) := by decide +kernel
theorem dX10_init_61 : decode cX10_init 61 = .ok (.new 45, 3) := by decide +kernel
theorem dX10_init_64 : decode cX10_init 64 = .ok (.dup, 1) := by decide +kernel
theorem dX10_init_65 : decode cX10_init 65 = .ok (.invokespecial 47, 3) := by decide +kernel
theorem dX10_init_68 : decode cX10_init 68 = .ok (.putfield 48, 3) := by decide +kernel
theorem dX10_init_71 : decode cX10_init 71 = .ok (.aload_n 0, 1) := by decide +kernel
theorem dX10_init_72 : decode cX10_init 72 = .ok (.new 52, 3) := by decide +kernel
theorem dX10_init_75 : decode cX10_init 75 = .ok (.dup, 1) := by decide +kernel
theorem dX10_init_76 : decode cX10_init 76 = .ok (.invokespecial 54, 3) := by decide +kernel
theorem dX10_init_79 : decode cX10_init 79 = .ok (.putfield 55, 3) := by decide +kernel
theorem dX10_init_82 : decode cX10_init 82 = .ok (.aload_n 0, 1) := by decide +kernel
theorem dX10_init_83 : decode cX10_init 83 = .ok (.new 59, 3) := by decide +kernel
theorem dX10_init_86 : decode cX10_init 86 = .ok (.dup, 1) := by decide +kernel
theorem dX10_init_87 : decode cX10_init 87 = .ok (.invokespecial 61, 3) := by decide +kernel
theorem dX10_init_90 : decode cX10_init 90 = .ok (.putfield 62, 3) := by decide +kernel
theorem dX10_init_93 : decode cX10_init 93 = .ok (.aload_n 0, 1) := by decide +kernel
theorem dX10_init_94 : decode cX10_init 94 = .ok (.new 66, 3) := by decide +kernel
theorem dX10_init_97 : decode cX10_init 97 = .ok (.dup, 1) := by decide +kernel
theorem dX10_init_98 : decode cX10_init 98 = .ok (.invokespecial 68, 3) := by decide +kernel
theorem dX10_init_101 : decode cX10_init 101 = .ok (.putfield 69, 3) := by decide +kernel
theorem dX10_init_104 : decode cX10_init 104 = .ok (.aload_n 0, 1) := by decide +kernel
theorem dX10_init_105 : decode cX10_init 105 = .ok (.new 66, 3) := by decide +kernel
theorem dX10_init_108 : decode cX10_init 108 = .ok (.dup, 1) := by decide +kernel
theorem dX10_init_109 : decode cX10_init 109 = .ok (.invokespecial 68, 3) := by decide +kernel
theorem dX10_init_112 : decode cX10_init 112 = .ok (.putfield 73, 3) := by decide +kernel
theorem dX10_init_115 : decode cX10_init 115 = .ok (.aload_n 0, 1) := by decide +kernel
theorem dX10_init_116 : decode cX10_init 116 = .ok (.new 66, 3) := by decide +kernel
theorem dX10_init_119 : decode cX10_init 119 = .ok (.dup, 1) := by decide +kernel
theorem dX10_init_120 : decode cX10_init 120 = .ok (.invokespecial 68, 3) := by decide +kernel
theorem dX10_init_123 : decode cX10_init 123 = .ok (.putfield 76, 3) := by decide +kernel
theorem dX10_init_126 : decode cX10_init 126 = .ok (.iconst 0, 1) := by decide +kernel
theorem dX10_init_127 : decode cX10_init 127 = .ok (.istore_n 1, 1) := by decide +kernel
theorem dX10_init_128 : decode cX10_init 128 = .ok (.iload_n 1, 1) := by decide +kernel
theorem dX10_init_129 : decode cX10_init 129 = .ok (.iconst 4, 1) := by decide +kernel
theorem dX10_init_130 : decode cX10_init 130 = .ok (.if_icmp .ge 22, 3) := by decide +kernel
theorem dX10_init_133 : decode cX10_init 133 = .ok (.aload_n 0, 1) := by decide +kernel
theorem dX10_init_134 : decode cX10_init 134 = .ok (.getfield 21, 3) := by decide +kernel
theorem dX10_init_137 : decode cX10_init 137 = .ok (.iload_n 1, 1) := by decide +kernel
theorem dX10_init_138 : decode cX10_init 138 = .ok (.new 19, 3) := by decide +kernel
theorem dX10_init_141 : decode cX10_init 141 = .ok (.dup, 1) := by decide +kernel
theorem dX10_init_142 : decode cX10_init 142 = .ok (.invokespecial 79, 3) := by decide +kernel
theorem dX10_init_145 : decode cX10_init 145 = .ok (.aastore, 1) := by decide +kernel
theorem dX10_init_146 : decode cX10_init 146 = .ok (.iinc 1 1, 3) := by decide +kernel
theorem dX10_init_149 : decode cX10_init 149 = .ok (.goto (-21), 3) := by decide +kernel
theorem dX10_init_152 : decode cX10_init 152 = .ok (.return_, 1) := by decide +kernel
theorem dX10_lies_0 : decode cX10_lies 0 = .ok (.iload_n 1, 1) := by decide +kernel
theorem dX10_lies_1 : decode cX10_lies 1 = .ok (.iconst 1, 1) := by decide +kernel
theorem dX10_lies_2 : decode cX10_lies 2 = .ok (.if_icmp .lt 18, 3) := by decide +kernel
theorem dX10_lies_5 : decode cX10_lies 5 = .ok (.iload_n 1, 1) := by decide +kernel
theorem dX10_lies_6 : decode cX10_lies 6 = .ok (.bipush 8, 2) := by decide +kernel
theorem dX10_lies_8 : decode cX10_lies 8 = .ok (.if_icmp .ge 12, 3) := by decide +kernel
theorem dX10_lies_11 : decode cX10_lies 11 = .ok (.iload_n 2, 1) := by decide +kernel
theorem dX10_lies_12 : decode cX10_lies 12 = .ok (.ifCond .lt 8, 3) := by decide +kernel
theorem dX10_lies_15 : decode cX10_lies 15 = .ok (.iload_n 2, 1) := by decide +kernel
theorem dX10_lies_16 : decode cX10_lies 16 = .ok (.iload_n 1, 1) := by decide +kernel
theorem dX10_lies_17 : decode cX10_lies 17 = .ok (.if_icmp .lt 7, 3) := by decide +kernel
theorem dX10_lies_20 : decode cX10_lies 20 = .ok (.ldc2_w 80, 3) := by decide +kernel
theorem dX10_lies_23 : decode cX10_lies 23 = .ok (.lreturn, 1) := by decide +kernel
theorem dX10_lies_24 : decode cX10_lies 24 = .ok (.aload_n 0, 1) := by decide +kernel
theorem dX10_lies_25 : decode cX10_lies 25 = .ok (.getfield 9, 3) := by decide +kernel
theorem dX10_lies_28 : decode cX10_lies 28 = .ok (.iload_n 1, 1) := by decide +kernel
theorem dX10_lies_29 : decode cX10_lies 29 = .ok (.iaload, 1) := by decide +kernel
theorem dX10_lies_30 : decode cX10_lies 30 = .ok (.istore_n 3, 1) := by decide +kernel
theorem dX10_lies_31 : decode cX10_lies 31 = .ok (.aload_n 0, 1) := by decide +kernel
theorem dX10_lies_32 : decode cX10_lies 32 = .ok (.getfield 9, 3) := by decide +kernel
theorem dX10_lies_35 : decode cX10_lies 35 = .ok (.iload_n 1, 1) := by decide +kernel
theorem dX10_lies_36 : decode cX10_lies 36 = .ok (.iload_n 2, 1) := by decide +kernel
theorem dX10_lies_37 : decode cX10_lies 37 = .ok (.iastore, 1) := by decide +kernel
theorem dX10_lies_38 : decode cX10_lies 38 = .ok (.iload_n 3, 1) := by decide +kernel
theorem dX10_lies_39 : decode cX10_lies 39 = .ok (.i2l, 1) := by decide +kernel
theorem dX10_lies_40 : decode cX10_lies 40 = .ok (.lreturn, 1) := by decide +kernel
theorem dX10_within_0 : decode cX10_within 0 = .ok (.iload_n 1, 1) := by decide +kernel
theorem dX10_within_1 : decode cX10_within 1 = .ok (.invokestatic 82, 3) := by decide +kernel
theorem dX10_within_4 : decode cX10_within 4 = .ok (.ifCond .eq 10, 3) := by decide +kernel
theorem dX10_within_7 : decode cX10_within 7 = .ok (.iload_n 2, 1) := by decide +kernel
theorem dX10_within_8 : decode cX10_within 8 = .ok (.invokestatic 82, 3) := by decide +kernel
theorem dX10_within_11 : decode cX10_within 11 = .ok (.ifCond .ne 7, 3) := by decide +kernel
theorem dX10_within_14 : decode cX10_within 14 = .ok (.ldc2_w 80, 3) := by decide +kernel
theorem dX10_within_17 : decode cX10_within 17 = .ok (.lreturn, 1) := by decide +kernel
theorem dX10_within_18 : decode cX10_within 18 = .ok (.aload_n 0, 1) := by decide +kernel
theorem dX10_within_19 : decode cX10_within 19 = .ok (.iload_n 1, 1) := by decide +kernel
theorem dX10_within_20 : decode cX10_within 20 = .ok (.iload_n 2, 1) := by decide +kernel
theorem dX10_within_21 : decode cX10_within 21 = .ok (.invokevirtual 86, 3) := by decide +kernel
theorem dX10_within_24 : decode cX10_within 24 = .ok (.ifCond .eq 7, 3) := by decide +kernel
theorem dX10_within_27 : decode cX10_within 27 = .ok (.lconst 1, 1) := by decide +kernel
theorem dX10_within_28 : decode cX10_within 28 = .ok (.goto 4, 3) := by decide +kernel
theorem dX10_within_31 : decode cX10_within 31 = .ok (.lconst 0, 1) := by decide +kernel
theorem dX10_within_32 : decode cX10_within 32 = .ok (.lreturn, 1) := by decide +kernel
theorem dX10_likeness_0 : decode cX10_likeness 0 = .ok (.iload_n 1, 1) := by decide +kernel
theorem dX10_likeness_1 : decode cX10_likeness 1 = .ok (.invokestatic 90, 3) := by decide +kernel
theorem dX10_likeness_4 : decode cX10_likeness 4 = .ok (.ifCond .eq 25, 3) := by decide +kernel
theorem dX10_likeness_7 : decode cX10_likeness 7 = .ok (.iload_n 2, 1) := by decide +kernel
theorem dX10_likeness_8 : decode cX10_likeness 8 = .ok (.invokestatic 93, 3) := by decide +kernel
theorem dX10_likeness_11 : decode cX10_likeness 11 = .ok (.ifCond .eq 18, 3) := by decide +kernel
theorem dX10_likeness_14 : decode cX10_likeness 14 = .ok (.iload_n 3, 1) := by decide +kernel
theorem dX10_likeness_15 : decode cX10_likeness 15 = .ok (.invokestatic 96, 3) := by decide +kernel
theorem dX10_likeness_18 : decode cX10_likeness 18 = .ok (.ifCond .eq 11, 3) := by decide +kernel
theorem dX10_likeness_21 : decode cX10_likeness 21 = .ok (.iload 4, 2) := by decide +kernel
theorem dX10_likeness_23 : decode cX10_likeness 23 = .ok (.invokestatic 96, 3) := by decide +kernel
theorem dX10_likeness_26 : decode cX10_likeness 26 = .ok (.ifCond .ne 7, 3) := by decide +kernel
theorem dX10_likeness_29 : decode cX10_likeness 29 = .ok (.ldc2_w 80, 3) := by decide +kernel
theorem dX10_likeness_32 : decode cX10_likeness 32 = .ok (.lreturn, 1) := by decide +kernel
theorem dX10_likeness_33 : decode cX10_likeness 33 = .ok (.aload_n 0, 1) := by decide +kernel
theorem dX10_likeness_34 : decode cX10_likeness 34 = .ok (.getfield 99, 3) := by decide +kernel
theorem dX10_likeness_37 : decode cX10_likeness 37 = .ok (.bipush 24, 2) := by decide +kernel
theorem dX10_likeness_39 : decode cX10_likeness 39 = .ok (.if_icmp .lt 7, 3) := by decide +kernel
theorem dX10_likeness_42 : decode cX10_likeness 42 = .ok (.ldc2_w 103, 3) := by decide +kernel
theorem dX10_likeness_45 : decode cX10_likeness 45 = .ok (.lreturn, 1) := by decide +kernel
theorem dX10_likeness_46 : decode cX10_likeness 46 = .ok (.aload_n 0, 1) := by decide +kernel
theorem dX10_likeness_47 : decode cX10_likeness 47 = .ok (.getfield 15, 3) := by decide +kernel
theorem dX10_likeness_50 : decode cX10_likeness 50 = .ok (.aload_n 0, 1) := by decide +kernel
theorem dX10_likeness_51 : decode cX10_likeness 51 = .ok (.getfield 99, 3) := by decide +kernel
theorem dX10_likeness_54 : decode cX10_likeness 54 = .ok (.new 13, 3) := by decide +kernel
end
section
theorem dX10_likeness_57 : decode cX10_likeness 57 = .ok (.dup, 1) := by decide +kernel
theorem dX10_likeness_58 : decode cX10_likeness 58 = .ok (.aload_n 0, 1) := by decide +kernel
theorem dX10_likeness_59 : decode cX10_likeness 59 = .ok (.getfield 99, 3) := by decide +kernel
theorem dX10_likeness_62 : decode cX10_likeness 62 = .ok (.iload_n 1, 1) := by decide +kernel
theorem dX10_likeness_63 : decode cX10_likeness 63 = .ok (.iload_n 2, 1) := by decide +kernel
theorem dX10_likeness_64 : decode cX10_likeness 64 = .ok (.iload_n 3, 1) := by decide +kernel
theorem dX10_likeness_65 : decode cX10_likeness 65 = .ok (.iload 4, 2) := by decide +kernel
theorem dX10_likeness_67 : decode cX10_likeness 67 = .ok (.invokespecial 105, 3) := by decide +kernel
theorem dX10_likeness_70 : decode cX10_likeness 70 = .ok (.aastore, 1) := by decide +kernel
theorem dX10_likeness_71 : decode cX10_likeness 71 = .ok (.aload_n 0, 1) := by decide +kernel
theorem dX10_likeness_72 : decode cX10_likeness 72 = .ok (.dup, 1) := by decide +kernel
theorem dX10_likeness_73 : decode cX10_likeness 73 = .ok (.getfield 99, 3) := by decide +kernel
theorem dX10_likeness_76 : decode cX10_likeness 76 = .ok (.dup_x1, 1) := by decide +kernel
theorem dX10_likeness_77 : decode cX10_likeness 77 = .ok (.iconst 1, 1) := by decide +kernel
theorem dX10_likeness_78 : decode cX10_likeness 78 = .ok (.iadd, 1) := by decide +kernel
theorem dX10_likeness_79 : decode cX10_likeness 79 = .ok (.putfield 99, 3) := by decide +kernel
theorem dX10_likeness_82 : decode cX10_likeness 82 = .ok (.i2l, 1) := by decide +kernel
theorem dX10_likeness_83 : decode cX10_likeness 83 = .ok (.lreturn, 1) := by decide +kernel
theorem dX10_holds_0 : decode cX10_holds 0 = .ok (.aload_n 0, 1) := by decide +kernel
theorem dX10_holds_1 : decode cX10_holds 1 = .ok (.iload_n 1, 1) := by decide +kernel
theorem dX10_holds_2 : decode cX10_holds 2 = .ok (.invokevirtual 108, 3) := by decide +kernel
theorem dX10_holds_5 : decode cX10_holds 5 = .ok (.astore 5, 2) := by decide +kernel
theorem dX10_holds_7 : decode cX10_holds 7 = .ok (.aload 5, 2) := by decide +kernel
theorem dX10_holds_9 : decode cX10_holds 9 = .ok (.ifnull 31, 3) := by decide +kernel
theorem dX10_holds_12 : decode cX10_holds 12 = .ok (.iload_n 2, 1) := by decide +kernel
theorem dX10_holds_13 : decode cX10_holds 13 = .ok (.invokestatic 82, 3) := by decide +kernel
theorem dX10_holds_16 : decode cX10_holds 16 = .ok (.ifCond .eq 24, 3) := by decide +kernel
theorem dX10_holds_19 : decode cX10_holds 19 = .ok (.iload_n 3, 1) := by decide +kernel
theorem dX10_holds_20 : decode cX10_holds 20 = .ok (.invokestatic 112, 3) := by decide +kernel
theorem dX10_holds_23 : decode cX10_holds 23 = .ok (.ifCond .eq 17, 3) := by decide +kernel
theorem dX10_holds_26 : decode cX10_holds 26 = .ok (.iload 4, 2) := by decide +kernel
theorem dX10_holds_28 : decode cX10_holds 28 = .ok (.invokestatic 112, 3) := by decide +kernel
theorem dX10_holds_31 : decode cX10_holds 31 = .ok (.ifCond .eq 9, 3) := by decide +kernel
theorem dX10_holds_34 : decode cX10_holds 34 = .ok (.iload_n 3, 1) := by decide +kernel
theorem dX10_holds_35 : decode cX10_holds 35 = .ok (.iload 4, 2) := by decide +kernel
theorem dX10_holds_37 : decode cX10_holds 37 = .ok (.if_icmp .le 7, 3) := by decide +kernel
theorem dX10_holds_40 : decode cX10_holds 40 = .ok (.ldc2_w 80, 3) := by decide +kernel
theorem dX10_holds_43 : decode cX10_holds 43 = .ok (.lreturn, 1) := by decide +kernel
theorem dX10_holds_44 : decode cX10_holds 44 = .ok (.aload 5, 2) := by decide +kernel
theorem dX10_holds_46 : decode cX10_holds 46 = .ok (.iload_n 2, 1) := by decide +kernel
theorem dX10_holds_47 : decode cX10_holds 47 = .ok (.putfield 115, 3) := by decide +kernel
theorem dX10_holds_50 : decode cX10_holds 50 = .ok (.aload 5, 2) := by decide +kernel
theorem dX10_holds_52 : decode cX10_holds 52 = .ok (.iload_n 3, 1) := by decide +kernel
theorem dX10_holds_53 : decode cX10_holds 53 = .ok (.putfield 118, 3) := by decide +kernel
theorem dX10_holds_56 : decode cX10_holds 56 = .ok (.aload 5, 2) := by decide +kernel
theorem dX10_holds_58 : decode cX10_holds 58 = .ok (.iload 4, 2) := by decide +kernel
theorem dX10_holds_60 : decode cX10_holds 60 = .ok (.putfield 121, 3) := by decide +kernel
theorem dX10_holds_63 : decode cX10_holds 63 = .ok (.lconst 0, 1) := by decide +kernel
theorem dX10_holds_64 : decode cX10_holds 64 = .ok (.lreturn, 1) := by decide +kernel
theorem dX10_doubt_0 : decode cX10_doubt 0 = .ok (.aload_n 0, 1) := by decide +kernel
theorem dX10_doubt_1 : decode cX10_doubt 1 = .ok (.iload_n 1, 1) := by decide +kernel
theorem dX10_doubt_2 : decode cX10_doubt 2 = .ok (.invokevirtual 108, 3) := by decide +kernel
theorem dX10_doubt_5 : decode cX10_doubt 5 = .ok (.astore 4, 2) := by decide +kernel
theorem dX10_doubt_7 : decode cX10_doubt 7 = .ok (.aload 4, 2) := by decide +kernel
theorem dX10_doubt_9 : decode cX10_doubt 9 = .ok (.ifnull 24, 3) := by decide +kernel
theorem dX10_doubt_12 : decode cX10_doubt 12 = .ok (.iload_n 2, 1) := by decide +kernel
theorem dX10_doubt_13 : decode cX10_doubt 13 = .ok (.ifCond .lt 20, 3) := by decide +kernel
theorem dX10_doubt_16 : decode cX10_doubt 16 = .ok (.iload_n 2, 1) := by decide +kernel
theorem dX10_doubt_17 : decode cX10_doubt 17 = .ok (.bipush 100, 2) := by decide +kernel
theorem dX10_doubt_19 : decode cX10_doubt 19 = .ok (.if_icmp .gt 14, 3) := by decide +kernel
theorem dX10_doubt_22 : decode cX10_doubt 22 = .ok (.iload_n 3, 1) := by decide +kernel
theorem dX10_doubt_23 : decode cX10_doubt 23 = .ok (.ifCond .lt 10, 3) := by decide +kernel
theorem dX10_doubt_26 : decode cX10_doubt 26 = .ok (.iload_n 3, 1) := by decide +kernel
theorem dX10_doubt_27 : decode cX10_doubt 27 = .ok (.sipush 500, 3) := by decide +kernel
theorem dX10_doubt_30 : decode cX10_doubt 30 = .ok (.if_icmp .le 7, 3) := by decide +kernel
theorem dX10_doubt_33 : decode cX10_doubt 33 = .ok (.ldc2_w 80, 3) := by decide +kernel
theorem dX10_doubt_36 : decode cX10_doubt 36 = .ok (.lreturn, 1) := by decide +kernel
theorem dX10_doubt_37 : decode cX10_doubt 37 = .ok (.aload 4, 2) := by decide +kernel
theorem dX10_doubt_39 : decode cX10_doubt 39 = .ok (.iload_n 2, 1) := by decide +kernel
theorem dX10_doubt_40 : decode cX10_doubt 40 = .ok (.putfield 124, 3) := by decide +kernel
theorem dX10_doubt_43 : decode cX10_doubt 43 = .ok (.aload 4, 2) := by decide +kernel
theorem dX10_doubt_45 : decode cX10_doubt 45 = .ok (.iload_n 3, 1) := by decide +kernel
theorem dX10_doubt_46 : decode cX10_doubt 46 = .ok (.putfield 127, 3) := by decide +kernel
theorem dX10_doubt_49 : decode cX10_doubt 49 = .ok (.aload 4, 2) := by decide +kernel
theorem dX10_doubt_51 : decode cX10_doubt 51 = .ok (.invokevirtual 130, 3) := by decide +kernel
theorem dX10_doubt_54 : decode cX10_doubt 54 = .ok (.lconst 0, 1) := by decide +kernel
theorem dX10_doubt_55 : decode cX10_doubt 55 = .ok (.lreturn, 1) := by decide +kernel
theorem dX10_drop_0 : decode cX10_drop 0 = .ok (.aload_n 0, 1) := by decide +kernel
theorem dX10_drop_1 : decode cX10_drop 1 = .ok (.iload_n 1, 1) := by decide +kernel
theorem dX10_drop_2 : decode cX10_drop 2 = .ok (.invokevirtual 108, 3) := by decide +kernel
theorem dX10_drop_5 : decode cX10_drop 5 = .ok (.astore_n 3, 1) := by decide +kernel
theorem dX10_drop_6 : decode cX10_drop 6 = .ok (.aload_n 3, 1) := by decide +kernel
theorem dX10_drop_7 : decode cX10_drop 7 = .ok (.ifnull 12, 3) := by decide +kernel
theorem dX10_drop_10 : decode cX10_drop 10 = .ok (.iload_n 2, 1) := by decide +kernel
theorem dX10_drop_11 : decode cX10_drop 11 = .ok (.ifCond .lt 8, 3) := by decide +kernel
theorem dX10_drop_14 : decode cX10_drop 14 = .ok (.iload_n 2, 1) := by decide +kernel
theorem dX10_drop_15 : decode cX10_drop 15 = .ok (.iconst 1, 1) := by decide +kernel
theorem dX10_drop_16 : decode cX10_drop 16 = .ok (.if_icmp .le 7, 3) := by decide +kernel
theorem dX10_drop_19 : decode cX10_drop 19 = .ok (.ldc2_w 80, 3) := by decide +kernel
theorem dX10_drop_22 : decode cX10_drop 22 = .ok (.lreturn, 1) := by decide +kernel
theorem dX10_drop_23 : decode cX10_drop 23 = .ok (.aload_n 3, 1) := by decide +kernel
theorem dX10_drop_24 : decode cX10_drop 24 = .ok (.iconst 2, 1) := by decide +kernel
theorem dX10_drop_25 : decode cX10_drop 25 = .ok (.invokevirtual 133, 3) := by decide +kernel
theorem dX10_drop_28 : decode cX10_drop 28 = .ok (.ifCond .ne 7, 3) := by decide +kernel
theorem dX10_drop_31 : decode cX10_drop 31 = .ok (.ldc2_w 136, 3) := by decide +kernel
theorem dX10_drop_34 : decode cX10_drop 34 = .ok (.lreturn, 1) := by decide +kernel
theorem dX10_drop_35 : decode cX10_drop 35 = .ok (.aload_n 3, 1) := by decide +kernel
theorem dX10_drop_36 : decode cX10_drop 36 = .ok (.getfield 138, 3) := by decide +kernel
theorem dX10_drop_39 : decode cX10_drop 39 = .ok (.ifCond .eq 7, 3) := by decide +kernel
theorem dX10_drop_42 : decode cX10_drop 42 = .ok (.lconst 1, 1) := by decide +kernel
theorem dX10_drop_43 : decode cX10_drop 43 = .ok (.goto 4, 3) := by decide +kernel
theorem dX10_drop_46 : decode cX10_drop 46 = .ok (.lconst 0, 1) := by decide +kernel
theorem dX10_drop_47 : decode cX10_drop 47 = .ok (.lstore 4, 2) := by decide +kernel
theorem dX10_drop_49 : decode cX10_drop 49 = .ok (.aload_n 3, 1) := by decide +kernel
theorem dX10_drop_50 : decode cX10_drop 50 = .ok (.iload_n 2, 1) := by decide +kernel
theorem dX10_drop_51 : decode cX10_drop 51 = .ok (.iconst 1, 1) := by decide +kernel
theorem dX10_drop_52 : decode cX10_drop 52 = .ok (.if_icmp .ne 7, 3) := by decide +kernel
theorem dX10_drop_55 : decode cX10_drop 55 = .ok (.iconst 1, 1) := by decide +kernel
theorem dX10_drop_56 : decode cX10_drop 56 = .ok (.goto 4, 3) := by decide +kernel
theorem dX10_drop_59 : decode cX10_drop 59 = .ok (.iconst 0, 1) := by decide +kernel
theorem dX10_drop_60 : decode cX10_drop 60 = .ok (.putfield 138, 3) := by decide +kernel
theorem dX10_drop_63 : decode cX10_drop 63 = .ok (.lload 4, 2) := by decide +kernel
theorem dX10_drop_65 : decode cX10_drop 65 = .ok (.lreturn, 1) := by decide +kernel
theorem dX10_forget_0 : decode cX10_forget 0 = .ok (.aload_n 0, 1) := by decide +kernel
theorem dX10_forget_1 : decode cX10_forget 1 = .ok (.getfield 99, 3) := by decide +kernel
theorem dX10_forget_4 : decode cX10_forget 4 = .ok (.ifCond .ne 7, 3) := by decide +kernel
theorem dX10_forget_7 : decode cX10_forget 7 = .ok (.ldc2_w 136, 3) := by decide +kernel
theorem dX10_forget_10 : decode cX10_forget 10 = .ok (.lreturn, 1) := by decide +kernel
theorem dX10_forget_11 : decode cX10_forget 11 = .ok (.aload_n 0, 1) := by decide +kernel
theorem dX10_forget_12 : decode cX10_forget 12 = .ok (.dup, 1) := by decide +kernel
theorem dX10_forget_13 : decode cX10_forget 13 = .ok (.getfield 99, 3) := by decide +kernel
theorem dX10_forget_16 : decode cX10_forget 16 = .ok (.iconst 1, 1) := by decide +kernel
theorem dX10_forget_17 : decode cX10_forget 17 = .ok (.isub, 1) := by decide +kernel
theorem dX10_forget_18 : decode cX10_forget 18 = .ok (.putfield 99, 3) := by decide +kernel
theorem dX10_forget_21 : decode cX10_forget 21 = .ok (.aload_n 0, 1) := by decide +kernel
theorem dX10_forget_22 : decode cX10_forget 22 = .ok (.getfield 15, 3) := by decide +kernel
theorem dX10_forget_25 : decode cX10_forget 25 = .ok (.aload_n 0, 1) := by decide +kernel
theorem dX10_forget_26 : decode cX10_forget 26 = .ok (.getfield 99, 3) := by decide +kernel
theorem dX10_forget_29 : decode cX10_forget 29 = .ok (.aconst_null, 1) := by decide +kernel
theorem dX10_forget_30 : decode cX10_forget 30 = .ok (.aastore, 1) := by decide +kernel
theorem dX10_forget_31 : decode cX10_forget 31 = .ok (.aload_n 0, 1) := by decide +kernel
theorem dX10_forget_32 : decode cX10_forget 32 = .ok (.getfield 99, 3) := by decide +kernel
theorem dX10_forget_35 : decode cX10_forget 35 = .ok (.i2l, 1) := by decide +kernel
theorem dX10_forget_36 : decode cX10_forget 36 = .ok (.lreturn, 1) := by decide +kernel
theorem dX10_told_0 : decode cX10_told 0 = .ok (.aload_n 0, 1) := by decide +kernel
theorem dX10_told_1 : decode cX10_told 1 = .ok (.iload_n 1, 1) := by decide +kernel
theorem dX10_told_2 : decode cX10_told 2 = .ok (.invokevirtual 108, 3) := by decide +kernel
theorem dX10_told_5 : decode cX10_told 5 = .ok (.astore_n 3, 1) := by decide +kernel
theorem dX10_told_6 : decode cX10_told 6 = .ok (.aload_n 3, 1) := by decide +kernel
theorem dX10_told_7 : decode cX10_told 7 = .ok (.ifnonnull 7, 3) := by decide +kernel
theorem dX10_told_10 : decode cX10_told 10 = .ok (.ldc2_w 80, 3) := by decide +kernel
theorem dX10_told_13 : decode cX10_told 13 = .ok (.lreturn, 1) := by decide +kernel
theorem dX10_told_14 : decode cX10_told 14 = .ok (.iload_n 2, 1) := by decide +kernel
theorem dX10_told_15 : decode cX10_told 15 = .ok (.tableswitch 130 0 10 #[57, 63, 69, 75, 81, 87, 93, 99, 105, 111, 117], 57) := by decide +kernel
theorem dX10_told_72 : decode cX10_told 72 = .ok (.aload_n 3, 1) := by decide +kernel
theorem dX10_told_73 : decode cX10_told 73 = .ok (.getfield 142, 3) := by decide +kernel
theorem dX10_told_76 : decode cX10_told 76 = .ok (.i2l, 1) := by decide +kernel
theorem dX10_told_77 : decode cX10_told 77 = .ok (.lreturn, 1) := by decide +kernel
theorem dX10_told_78 : decode cX10_told 78 = .ok (.aload_n 3, 1) := by decide +kernel
theorem dX10_told_79 : decode cX10_told 79 = .ok (.getfield 145, 3) := by decide +kernel
theorem dX10_told_82 : decode cX10_told 82 = .ok (.i2l, 1) := by decide +kernel
theorem dX10_told_83 : decode cX10_told 83 = .ok (.lreturn, 1) := by decide +kernel
theorem dX10_told_84 : decode cX10_told 84 = .ok (.aload_n 3, 1) := by decide +kernel
theorem dX10_told_85 : decode cX10_told 85 = .ok (.getfield 148, 3) := by decide +kernel
theorem dX10_told_88 : decode cX10_told 88 = .ok (.i2l, 1) := by decide +kernel
theorem dX10_told_89 : decode cX10_told 89 = .ok (.lreturn, 1) := by decide +kernel
theorem dX10_told_90 : decode cX10_told 90 = .ok (.aload_n 3, 1) := by decide +kernel
theorem dX10_told_91 : decode cX10_told 91 = .ok (.getfield 151, 3) := by decide +kernel
theorem dX10_told_94 : decode cX10_told 94 = .ok (.i2l, 1) := by decide +kernel
theorem dX10_told_95 : decode cX10_told 95 = .ok (.lreturn, 1) := by decide +kernel
theorem dX10_told_96 : decode cX10_told 96 = .ok (.aload_n 3, 1) := by decide +kernel
theorem dX10_told_97 : decode cX10_told 97 = .ok (.getfield 154, 3) := by decide +kernel
theorem dX10_told_100 : decode cX10_told 100 = .ok (.i2l, 1) := by decide +kernel
theorem dX10_told_101 : decode cX10_told 101 = .ok (.lreturn, 1) := by decide +kernel
theorem dX10_told_102 : decode cX10_told 102 = .ok (.aload_n 3, 1) := by decide +kernel
theorem dX10_told_103 : decode cX10_told 103 = .ok (.getfield 115, 3) := by decide +kernel
theorem dX10_told_106 : decode cX10_told 106 = .ok (.i2l, 1) := by decide +kernel
theorem dX10_told_107 : decode cX10_told 107 = .ok (.lreturn, 1) := by decide +kernel
theorem dX10_told_108 : decode cX10_told 108 = .ok (.aload_n 3, 1) := by decide +kernel
theorem dX10_told_109 : decode cX10_told 109 = .ok (.getfield 118, 3) := by decide +kernel
theorem dX10_told_112 : decode cX10_told 112 = .ok (.i2l, 1) := by decide +kernel
theorem dX10_told_113 : decode cX10_told 113 = .ok (.lreturn, 1) := by decide +kernel
theorem dX10_told_114 : decode cX10_told 114 = .ok (.aload_n 3, 1) := by decide +kernel
theorem dX10_told_115 : decode cX10_told 115 = .ok (.getfield 121, 3) := by decide +kernel
theorem dX10_told_118 : decode cX10_told 118 = .ok (.i2l, 1) := by decide +kernel
theorem dX10_told_119 : decode cX10_told 119 = .ok (.lreturn, 1) := by decide +kernel
theorem dX10_told_120 : decode cX10_told 120 = .ok (.aload_n 3, 1) := by decide +kernel
theorem dX10_told_121 : decode cX10_told 121 = .ok (.getfield 124, 3) := by decide +kernel
theorem dX10_told_124 : decode cX10_told 124 = .ok (.i2l, 1) := by decide +kernel
theorem dX10_told_125 : decode cX10_told 125 = .ok (.lreturn, 1) := by decide +kernel
theorem dX10_told_126 : decode cX10_told 126 = .ok (.aload_n 3, 1) := by decide +kernel
theorem dX10_told_127 : decode cX10_told 127 = .ok (.getfield 127, 3) := by decide +kernel
theorem dX10_told_130 : decode cX10_told 130 = .ok (.i2l, 1) := by decide +kernel
theorem dX10_told_131 : decode cX10_told 131 = .ok (.lreturn, 1) := by decide +kernel
theorem dX10_told_132 : decode cX10_told 132 = .ok (.aload_n 3, 1) := by decide +kernel
theorem dX10_told_133 : decode cX10_told 133 = .ok (.getfield 138, 3) := by decide +kernel
theorem dX10_told_136 : decode cX10_told 136 = .ok (.ifCond .eq 7, 3) := by decide +kernel
theorem dX10_told_139 : decode cX10_told 139 = .ok (.lconst 1, 1) := by decide +kernel
theorem dX10_told_140 : decode cX10_told 140 = .ok (.goto 4, 3) := by decide +kernel
theorem dX10_told_143 : decode cX10_told 143 = .ok (.lconst 0, 1) := by decide +kernel
theorem dX10_told_144 : decode cX10_told 144 = .ok (.lreturn, 1) := by decide +kernel
theorem dX10_told_145 : decode cX10_told 145 = .ok (.ldc2_w 80, 3) := by decide +kernel
theorem dX10_told_148 : decode cX10_told 148 = .ok (.lreturn, 1) := by decide +kernel
theorem dX10_isOf_0 : decode cX10_isOf 0 = .ok (.aload_n 0, 1) := by decide +kernel
theorem dX10_isOf_1 : decode cX10_isOf 1 = .ok (.iload_n 1, 1) := by decide +kernel
theorem dX10_isOf_2 : decode cX10_isOf 2 = .ok (.invokevirtual 108, 3) := by decide +kernel
theorem dX10_isOf_5 : decode cX10_isOf 5 = .ok (.astore_n 3, 1) := by decide +kernel
theorem dX10_isOf_6 : decode cX10_isOf 6 = .ok (.aload_n 3, 1) := by decide +kernel
theorem dX10_isOf_7 : decode cX10_isOf 7 = .ok (.ifnull 10, 3) := by decide +kernel
theorem dX10_isOf_10 : decode cX10_isOf 10 = .ok (.iload_n 2, 1) := by decide +kernel
theorem dX10_isOf_11 : decode cX10_isOf 11 = .ok (.invokestatic 90, 3) := by decide +kernel
theorem dX10_isOf_14 : decode cX10_isOf 14 = .ok (.ifCond .ne 7, 3) := by decide +kernel
theorem dX10_isOf_17 : decode cX10_isOf 17 = .ok (.ldc2_w 80, 3) := by decide +kernel
theorem dX10_isOf_20 : decode cX10_isOf 20 = .ok (.lreturn, 1) := by decide +kernel
theorem dX10_isOf_21 : decode cX10_isOf 21 = .ok (.aload_n 3, 1) := by decide +kernel
theorem dX10_isOf_22 : decode cX10_isOf 22 = .ok (.iload_n 2, 1) := by decide +kernel
theorem dX10_isOf_23 : decode cX10_isOf 23 = .ok (.invokevirtual 133, 3) := by decide +kernel
theorem dX10_isOf_26 : decode cX10_isOf 26 = .ok (.ifCond .eq 7, 3) := by decide +kernel
theorem dX10_isOf_29 : decode cX10_isOf 29 = .ok (.lconst 1, 1) := by decide +kernel
theorem dX10_isOf_30 : decode cX10_isOf 30 = .ok (.goto 4, 3) := by decide +kernel
theorem dX10_isOf_33 : decode cX10_isOf 33 = .ok (.lconst 0, 1) := by decide +kernel
theorem dX10_isOf_34 : decode cX10_isOf 34 = .ok (.lreturn, 1) := by decide +kernel
theorem dX10_end_0 : decode cX10_end 0 = .ok (.aload_n 0, 1) := by decide +kernel
theorem dX10_end_1 : decode cX10_end 1 = .ok (.iload_n 1, 1) := by decide +kernel
theorem dX10_end_2 : decode cX10_end 2 = .ok (.invokevirtual 108, 3) := by decide +kernel
theorem dX10_end_5 : decode cX10_end 5 = .ok (.astore 4, 2) := by decide +kernel
theorem dX10_end_7 : decode cX10_end 7 = .ok (.aload 4, 2) := by decide +kernel
theorem dX10_end_9 : decode cX10_end 9 = .ok (.ifnull 17, 3) := by decide +kernel
theorem dX10_end_12 : decode cX10_end 12 = .ok (.iload_n 2, 1) := by decide +kernel
theorem dX10_end_13 : decode cX10_end 13 = .ok (.invokestatic 157, 3) := by decide +kernel
theorem dX10_end_16 : decode cX10_end 16 = .ok (.ifCond .eq 10, 3) := by decide +kernel
theorem dX10_end_19 : decode cX10_end 19 = .ok (.iload_n 3, 1) := by decide +kernel
theorem dX10_end_20 : decode cX10_end 20 = .ok (.invokestatic 157, 3) := by decide +kernel
theorem dX10_end_23 : decode cX10_end 23 = .ok (.ifCond .ne 7, 3) := by decide +kernel
theorem dX10_end_26 : decode cX10_end 26 = .ok (.ldc2_w 80, 3) := by decide +kernel
theorem dX10_end_29 : decode cX10_end 29 = .ok (.lreturn, 1) := by decide +kernel
theorem dX10_end_30 : decode cX10_end 30 = .ok (.aload 4, 2) := by decide +kernel
theorem dX10_end_32 : decode cX10_end 32 = .ok (.getfield 160, 3) := by decide +kernel
theorem dX10_end_35 : decode cX10_end 35 = .ok (.aload 4, 2) := by decide +kernel
theorem dX10_end_37 : decode cX10_end 37 = .ok (.getfield 163, 3) := by decide +kernel
theorem dX10_end_40 : decode cX10_end 40 = .ok (.iload_n 2, 1) := by decide +kernel
theorem dX10_end_41 : decode cX10_end 41 = .ok (.iload_n 3, 1) := by decide +kernel
theorem dX10_end_42 : decode cX10_end 42 = .ok (.invokestatic 166, 3) := by decide +kernel
theorem dX10_end_45 : decode cX10_end 45 = .ok (.lreturn, 1) := by decide +kernel
theorem dX10_counts_0 : decode cX10_counts 0 = .ok (.aload_n 0, 1) := by decide +kernel
theorem dX10_counts_1 : decode cX10_counts 1 = .ok (.iload_n 1, 1) := by decide +kernel
theorem dX10_counts_2 : decode cX10_counts 2 = .ok (.invokevirtual 108, 3) := by decide +kernel
theorem dX10_counts_5 : decode cX10_counts 5 = .ok (.astore 4, 2) := by decide +kernel
theorem dX10_counts_7 : decode cX10_counts 7 = .ok (.aload 4, 2) := by decide +kernel
theorem dX10_counts_9 : decode cX10_counts 9 = .ok (.ifnull 17, 3) := by decide +kernel
theorem dX10_counts_12 : decode cX10_counts 12 = .ok (.iload_n 2, 1) := by decide +kernel
theorem dX10_counts_13 : decode cX10_counts 13 = .ok (.invokestatic 82, 3) := by decide +kernel
theorem dX10_counts_16 : decode cX10_counts 16 = .ok (.ifCond .eq 10, 3) := by decide +kernel
theorem dX10_counts_19 : decode cX10_counts 19 = .ok (.iload_n 3, 1) := by decide +kernel
theorem dX10_counts_20 : decode cX10_counts 20 = .ok (.invokestatic 112, 3) := by decide +kernel
theorem dX10_counts_23 : decode cX10_counts 23 = .ok (.ifCond .ne 7, 3) := by decide +kernel
theorem dX10_counts_26 : decode cX10_counts 26 = .ok (.ldc2_w 80, 3) := by decide +kernel
theorem dX10_counts_29 : decode cX10_counts 29 = .ok (.lreturn, 1) := by decide +kernel
theorem dX10_counts_30 : decode cX10_counts 30 = .ok (.aload_n 0, 1) := by decide +kernel
theorem dX10_counts_31 : decode cX10_counts 31 = .ok (.aload 4, 2) := by decide +kernel
theorem dX10_counts_33 : decode cX10_counts 33 = .ok (.iload_n 2, 1) := by decide +kernel
theorem dX10_counts_34 : decode cX10_counts 34 = .ok (.iload_n 3, 1) := by decide +kernel
theorem dX10_counts_35 : decode cX10_counts 35 = .ok (.invokevirtual 170, 3) := by decide +kernel
theorem dX10_counts_38 : decode cX10_counts 38 = .ok (.ifCond .eq 7, 3) := by decide +kernel
theorem dX10_counts_41 : decode cX10_counts 41 = .ok (.lconst 1, 1) := by decide +kernel
theorem dX10_counts_42 : decode cX10_counts 42 = .ok (.goto 4, 3) := by decide +kernel
theorem dX10_counts_45 : decode cX10_counts 45 = .ok (.lconst 0, 1) := by decide +kernel
theorem dX10_counts_46 : decode cX10_counts 46 = .ok (.lreturn, 1) := by decide +kernel
theorem dX10_ways_0 : decode cX10_ways 0 = .ok (.iload_n 1, 1) := by decide +kernel
theorem dX10_ways_1 : decode cX10_ways 1 = .ok (.invokestatic 93, 3) := by decide +kernel
theorem dX10_ways_4 : decode cX10_ways 4 = .ok (.ifCond .eq 10, 3) := by decide +kernel
theorem dX10_ways_7 : decode cX10_ways 7 = .ok (.iload_n 2, 1) := by decide +kernel
theorem dX10_ways_8 : decode cX10_ways 8 = .ok (.invokestatic 174, 3) := by decide +kernel
theorem dX10_ways_11 : decode cX10_ways 11 = .ok (.ifCond .ne 7, 3) := by decide +kernel
theorem dX10_ways_14 : decode cX10_ways 14 = .ok (.ldc2_w 80, 3) := by decide +kernel
theorem dX10_ways_17 : decode cX10_ways 17 = .ok (.lreturn, 1) := by decide +kernel
theorem dX10_ways_18 : decode cX10_ways 18 = .ok (.aload_n 0, 1) := by decide +kernel
theorem dX10_ways_19 : decode cX10_ways 19 = .ok (.iload_n 2, 1) := by decide +kernel
theorem dX10_ways_20 : decode cX10_ways 20 = .ok (.invokevirtual 177, 3) := by decide +kernel
theorem dX10_ways_23 : decode cX10_ways 23 = .ok (.aload_n 0, 1) := by decide +kernel
theorem dX10_ways_24 : decode cX10_ways 24 = .ok (.getfield 41, 3) := by decide +kernel
theorem dX10_ways_27 : decode cX10_ways 27 = .ok (.lconst 0, 1) := by decide +kernel
theorem dX10_ways_28 : decode cX10_ways 28 = .ok (.putfield 181, 3) := by decide +kernel
theorem dX10_ways_31 : decode cX10_ways 31 = .ok (.aload_n 0, 1) := by decide +kernel
theorem dX10_ways_32 : decode cX10_ways 32 = .ok (.getfield 34, 3) := by decide +kernel
theorem dX10_ways_35 : decode cX10_ways 35 = .ok (.iload_n 1, 1) := by decide +kernel
theorem dX10_ways_36 : decode cX10_ways 36 = .ok (.bipush 10, 2) := by decide +kernel
theorem dX10_ways_38 : decode cX10_ways 38 = .ok (.idiv, 1) := by decide +kernel
theorem dX10_ways_39 : decode cX10_ways 39 = .ok (.iload_n 1, 1) := by decide +kernel
theorem dX10_ways_40 : decode cX10_ways 40 = .ok (.bipush 10, 2) := by decide +kernel
theorem dX10_ways_42 : decode cX10_ways 42 = .ok (.irem, 1) := by decide +kernel
theorem dX10_ways_43 : decode cX10_ways 43 = .ok (.aload_n 0, 1) := by decide +kernel
theorem dX10_ways_44 : decode cX10_ways 44 = .ok (.getfield 41, 3) := by decide +kernel
theorem dX10_ways_47 : decode cX10_ways 47 = .ok (.invokevirtual 185, 3) := by decide +kernel
theorem dX10_ways_50 : decode cX10_ways 50 = .ok (.aload_n 0, 1) := by decide +kernel
theorem dX10_ways_51 : decode cX10_ways 51 = .ok (.getfield 41, 3) := by decide +kernel
theorem dX10_ways_54 : decode cX10_ways 54 = .ok (.getfield 181, 3) := by decide +kernel
theorem dX10_ways_57 : decode cX10_ways 57 = .ok (.lreturn, 1) := by decide +kernel
theorem dX10_way_0 : decode cX10_way 0 = .ok (.iload_n 1, 1) := by decide +kernel
theorem dX10_way_1 : decode cX10_way 1 = .ok (.invokestatic 93, 3) := by decide +kernel
theorem dX10_way_4 : decode cX10_way 4 = .ok (.ifCond .eq 19, 3) := by decide +kernel
theorem dX10_way_7 : decode cX10_way 7 = .ok (.iload_n 2, 1) := by decide +kernel
theorem dX10_way_8 : decode cX10_way 8 = .ok (.invokestatic 174, 3) := by decide +kernel
theorem dX10_way_11 : decode cX10_way 11 = .ok (.ifCond .eq 12, 3) := by decide +kernel
theorem dX10_way_14 : decode cX10_way 14 = .ok (.iload_n 3, 1) := by decide +kernel
theorem dX10_way_15 : decode cX10_way 15 = .ok (.ifCond .lt 8, 3) := by decide +kernel
theorem dX10_way_18 : decode cX10_way 18 = .ok (.iload 4, 2) := by decide +kernel
theorem dX10_way_20 : decode cX10_way 20 = .ok (.ifCond .ge 7, 3) := by decide +kernel
theorem dX10_way_23 : decode cX10_way 23 = .ok (.ldc2_w 80, 3) := by decide +kernel
theorem dX10_way_26 : decode cX10_way 26 = .ok (.lreturn, 1) := by decide +kernel
theorem dX10_way_27 : decode cX10_way 27 = .ok (.aload_n 0, 1) := by decide +kernel
theorem dX10_way_28 : decode cX10_way 28 = .ok (.iload_n 2, 1) := by decide +kernel
theorem dX10_way_29 : decode cX10_way 29 = .ok (.invokevirtual 177, 3) := by decide +kernel
theorem dX10_way_32 : decode cX10_way 32 = .ok (.aload_n 0, 1) := by decide +kernel
theorem dX10_way_33 : decode cX10_way 33 = .ok (.getfield 34, 3) := by decide +kernel
theorem dX10_way_36 : decode cX10_way 36 = .ok (.iload_n 1, 1) := by decide +kernel
theorem dX10_way_37 : decode cX10_way 37 = .ok (.bipush 10, 2) := by decide +kernel
theorem dX10_way_39 : decode cX10_way 39 = .ok (.idiv, 1) := by decide +kernel
theorem dX10_way_40 : decode cX10_way 40 = .ok (.iload_n 1, 1) := by decide +kernel
theorem dX10_way_41 : decode cX10_way 41 = .ok (.bipush 10, 2) := by decide +kernel
theorem dX10_way_43 : decode cX10_way 43 = .ok (.irem, 1) := by decide +kernel
theorem dX10_way_44 : decode cX10_way 44 = .ok (.iload_n 3, 1) := by decide +kernel
theorem dX10_way_45 : decode cX10_way 45 = .ok (.aload_n 0, 1) := by decide +kernel
theorem dX10_way_46 : decode cX10_way 46 = .ok (.getfield 48, 3) := by decide +kernel
theorem dX10_way_49 : decode cX10_way 49 = .ok (.invokevirtual 189, 3) := by decide +kernel
theorem dX10_way_52 : decode cX10_way 52 = .ok (.ifCond .eq 15, 3) := by decide +kernel
theorem dX10_way_55 : decode cX10_way 55 = .ok (.iload 4, 2) := by decide +kernel
theorem dX10_way_57 : decode cX10_way 57 = .ok (.aload_n 0, 1) := by decide +kernel
theorem dX10_way_58 : decode cX10_way 58 = .ok (.getfield 34, 3) := by decide +kernel
theorem dX10_way_61 : decode cX10_way 61 = .ok (.getfield 193, 3) := by decide +kernel
theorem dX10_way_64 : decode cX10_way 64 = .ok (.if_icmp .lt 7, 3) := by decide +kernel
theorem dX10_way_67 : decode cX10_way 67 = .ok (.ldc2_w 196, 3) := by decide +kernel
theorem dX10_way_70 : decode cX10_way 70 = .ok (.lreturn, 1) := by decide +kernel
theorem dX10_way_71 : decode cX10_way 71 = .ok (.aload_n 0, 1) := by decide +kernel
theorem dX10_way_72 : decode cX10_way 72 = .ok (.getfield 34, 3) := by decide +kernel
theorem dX10_way_75 : decode cX10_way 75 = .ok (.getfield 198, 3) := by decide +kernel
theorem dX10_way_78 : decode cX10_way 78 = .ok (.iload 4, 2) := by decide +kernel
theorem dX10_way_80 : decode cX10_way 80 = .ok (.iaload, 1) := by decide +kernel
theorem dX10_way_81 : decode cX10_way 81 = .ok (.i2l, 1) := by decide +kernel
theorem dX10_way_82 : decode cX10_way 82 = .ok (.lreturn, 1) := by decide +kernel
theorem dX10_factor_0 : decode cX10_factor 0 = .ok (.iload_n 1, 1) := by decide +kernel
theorem dX10_factor_1 : decode cX10_factor 1 = .ok (.invokestatic 93, 3) := by decide +kernel
theorem dX10_factor_4 : decode cX10_factor 4 = .ok (.ifCond .eq 25, 3) := by decide +kernel
theorem dX10_factor_7 : decode cX10_factor 7 = .ok (.iload_n 2, 1) := by decide +kernel
theorem dX10_factor_8 : decode cX10_factor 8 = .ok (.invokestatic 174, 3) := by decide +kernel
theorem dX10_factor_11 : decode cX10_factor 11 = .ok (.ifCond .eq 18, 3) := by decide +kernel
theorem dX10_factor_14 : decode cX10_factor 14 = .ok (.iload_n 3, 1) := by decide +kernel
theorem dX10_factor_15 : decode cX10_factor 15 = .ok (.invokestatic 157, 3) := by decide +kernel
theorem dX10_factor_18 : decode cX10_factor 18 = .ok (.ifCond .eq 11, 3) := by decide +kernel
theorem dX10_factor_21 : decode cX10_factor 21 = .ok (.iload 4, 2) := by decide +kernel
theorem dX10_factor_23 : decode cX10_factor 23 = .ok (.invokestatic 157, 3) := by decide +kernel
theorem dX10_factor_26 : decode cX10_factor 26 = .ok (.ifCond .ne 7, 3) := by decide +kernel
theorem dX10_factor_29 : decode cX10_factor 29 = .ok (.ldc2_w 80, 3) := by decide +kernel
theorem dX10_factor_32 : decode cX10_factor 32 = .ok (.lreturn, 1) := by decide +kernel
theorem dX10_factor_33 : decode cX10_factor 33 = .ok (.aload_n 0, 1) := by decide +kernel
theorem dX10_factor_34 : decode cX10_factor 34 = .ok (.iload_n 2, 1) := by decide +kernel
theorem dX10_factor_35 : decode cX10_factor 35 = .ok (.invokevirtual 177, 3) := by decide +kernel
theorem dX10_factor_38 : decode cX10_factor 38 = .ok (.aload_n 0, 1) := by decide +kernel
theorem dX10_factor_39 : decode cX10_factor 39 = .ok (.getfield 34, 3) := by decide +kernel
theorem dX10_factor_42 : decode cX10_factor 42 = .ok (.iload_n 1, 1) := by decide +kernel
theorem dX10_factor_43 : decode cX10_factor 43 = .ok (.bipush 10, 2) := by decide +kernel
theorem dX10_factor_45 : decode cX10_factor 45 = .ok (.idiv, 1) := by decide +kernel
theorem dX10_factor_46 : decode cX10_factor 46 = .ok (.iload_n 1, 1) := by decide +kernel
theorem dX10_factor_47 : decode cX10_factor 47 = .ok (.bipush 10, 2) := by decide +kernel
theorem dX10_factor_49 : decode cX10_factor 49 = .ok (.irem, 1) := by decide +kernel
theorem dX10_factor_50 : decode cX10_factor 50 = .ok (.iconst 0, 1) := by decide +kernel
theorem dX10_factor_51 : decode cX10_factor 51 = .ok (.aload_n 0, 1) := by decide +kernel
theorem dX10_factor_52 : decode cX10_factor 52 = .ok (.getfield 48, 3) := by decide +kernel
theorem dX10_factor_55 : decode cX10_factor 55 = .ok (.invokevirtual 189, 3) := by decide +kernel
theorem dX10_factor_58 : decode cX10_factor 58 = .ok (.ifCond .ne 7, 3) := by decide +kernel
theorem dX10_factor_61 : decode cX10_factor 61 = .ok (.ldc2_w 196, 3) := by decide +kernel
theorem dX10_factor_64 : decode cX10_factor 64 = .ok (.lreturn, 1) := by decide +kernel
theorem dX10_factor_65 : decode cX10_factor 65 = .ok (.aload_n 0, 1) := by decide +kernel
theorem dX10_factor_66 : decode cX10_factor 66 = .ok (.getfield 34, 3) := by decide +kernel
theorem dX10_factor_69 : decode cX10_factor 69 = .ok (.invokevirtual 201, 3) := by decide +kernel
theorem dX10_factor_72 : decode cX10_factor 72 = .ok (.aload_n 0, 1) := by decide +kernel
theorem dX10_factor_73 : decode cX10_factor 73 = .ok (.getfield 34, 3) := by decide +kernel
theorem dX10_factor_76 : decode cX10_factor 76 = .ok (.invokevirtual 204, 3) := by decide +kernel
theorem dX10_factor_79 : decode cX10_factor 79 = .ok (.iload_n 3, 1) := by decide +kernel
theorem dX10_factor_80 : decode cX10_factor 80 = .ok (.iload 4, 2) := by decide +kernel
theorem dX10_factor_82 : decode cX10_factor 82 = .ok (.invokestatic 166, 3) := by decide +kernel
theorem dX10_factor_85 : decode cX10_factor 85 = .ok (.lreturn, 1) := by decide +kernel
theorem dX10_span_0 : decode cX10_span 0 = .ok (.iload_n 1, 1) := by decide +kernel
theorem dX10_span_1 : decode cX10_span 1 = .ok (.invokestatic 93, 3) := by decide +kernel
theorem dX10_span_4 : decode cX10_span 4 = .ok (.ifCond .eq 25, 3) := by decide +kernel
theorem dX10_span_7 : decode cX10_span 7 = .ok (.iload_n 2, 1) := by decide +kernel
theorem dX10_span_8 : decode cX10_span 8 = .ok (.invokestatic 174, 3) := by decide +kernel
theorem dX10_span_11 : decode cX10_span 11 = .ok (.ifCond .eq 18, 3) := by decide +kernel
theorem dX10_span_14 : decode cX10_span 14 = .ok (.iload_n 3, 1) := by decide +kernel
theorem dX10_span_15 : decode cX10_span 15 = .ok (.invokestatic 157, 3) := by decide +kernel
theorem dX10_span_18 : decode cX10_span 18 = .ok (.ifCond .eq 11, 3) := by decide +kernel
theorem dX10_span_21 : decode cX10_span 21 = .ok (.iload 4, 2) := by decide +kernel
theorem dX10_span_23 : decode cX10_span 23 = .ok (.invokestatic 157, 3) := by decide +kernel
theorem dX10_span_26 : decode cX10_span 26 = .ok (.ifCond .ne 7, 3) := by decide +kernel
theorem dX10_span_29 : decode cX10_span 29 = .ok (.ldc2_w 80, 3) := by decide +kernel
theorem dX10_span_32 : decode cX10_span 32 = .ok (.lreturn, 1) := by decide +kernel
theorem dX10_span_33 : decode cX10_span 33 = .ok (.aload_n 0, 1) := by decide +kernel
theorem dX10_span_34 : decode cX10_span 34 = .ok (.iload_n 2, 1) := by decide +kernel
theorem dX10_span_35 : decode cX10_span 35 = .ok (.invokevirtual 177, 3) := by decide +kernel
theorem dX10_span_38 : decode cX10_span 38 = .ok (.aload_n 0, 1) := by decide +kernel
theorem dX10_span_39 : decode cX10_span 39 = .ok (.getfield 55, 3) := by decide +kernel
theorem dX10_span_42 : decode cX10_span 42 = .ok (.iconst 0, 1) := by decide +kernel
theorem dX10_span_43 : decode cX10_span 43 = .ok (.putfield 206, 3) := by decide +kernel
theorem dX10_span_46 : decode cX10_span 46 = .ok (.aload_n 0, 1) := by decide +kernel
theorem dX10_span_47 : decode cX10_span 47 = .ok (.getfield 34, 3) := by decide +kernel
theorem dX10_span_50 : decode cX10_span 50 = .ok (.iload_n 1, 1) := by decide +kernel
theorem dX10_span_51 : decode cX10_span 51 = .ok (.bipush 10, 2) := by decide +kernel
theorem dX10_span_53 : decode cX10_span 53 = .ok (.idiv, 1) := by decide +kernel
theorem dX10_span_54 : decode cX10_span 54 = .ok (.iload_n 1, 1) := by decide +kernel
theorem dX10_span_55 : decode cX10_span 55 = .ok (.bipush 10, 2) := by decide +kernel
theorem dX10_span_57 : decode cX10_span 57 = .ok (.irem, 1) := by decide +kernel
theorem dX10_span_58 : decode cX10_span 58 = .ok (.aload_n 0, 1) := by decide +kernel
theorem dX10_span_59 : decode cX10_span 59 = .ok (.getfield 55, 3) := by decide +kernel
theorem dX10_span_62 : decode cX10_span 62 = .ok (.invokevirtual 185, 3) := by decide +kernel
theorem dX10_span_65 : decode cX10_span 65 = .ok (.aload_n 0, 1) := by decide +kernel
theorem dX10_span_66 : decode cX10_span 66 = .ok (.getfield 55, 3) := by decide +kernel
theorem dX10_span_69 : decode cX10_span 69 = .ok (.getfield 206, 3) := by decide +kernel
theorem dX10_span_72 : decode cX10_span 72 = .ok (.ifCond .ne 7, 3) := by decide +kernel
theorem dX10_span_75 : decode cX10_span 75 = .ok (.ldc2_w 196, 3) := by decide +kernel
theorem dX10_span_78 : decode cX10_span 78 = .ok (.lreturn, 1) := by decide +kernel
theorem dX10_span_79 : decode cX10_span 79 = .ok (.aload_n 0, 1) := by decide +kernel
theorem dX10_span_80 : decode cX10_span 80 = .ok (.getfield 55, 3) := by decide +kernel
theorem dX10_span_83 : decode cX10_span 83 = .ok (.getfield 208, 3) := by decide +kernel
theorem dX10_span_86 : decode cX10_span 86 = .ok (.aload_n 0, 1) := by decide +kernel
theorem dX10_span_87 : decode cX10_span 87 = .ok (.getfield 55, 3) := by decide +kernel
theorem dX10_span_90 : decode cX10_span 90 = .ok (.getfield 209, 3) := by decide +kernel
theorem dX10_span_93 : decode cX10_span 93 = .ok (.iload_n 3, 1) := by decide +kernel
theorem dX10_span_94 : decode cX10_span 94 = .ok (.iload 4, 2) := by decide +kernel
theorem dX10_span_96 : decode cX10_span 96 = .ok (.invokestatic 166, 3) := by decide +kernel
theorem dX10_span_99 : decode cX10_span 99 = .ok (.lreturn, 1) := by decide +kernel
theorem dX10_quarrel_0 : decode cX10_quarrel 0 = .ok (.iload_n 1, 1) := by decide +kernel
theorem dX10_quarrel_1 : decode cX10_quarrel 1 = .ok (.invokestatic 174, 3) := by decide +kernel
theorem dX10_quarrel_4 : decode cX10_quarrel 4 = .ok (.ifCond .eq 7, 3) := by decide +kernel
theorem dX10_quarrel_7 : decode cX10_quarrel 7 = .ok (.iload_n 2, 1) := by decide +kernel
theorem dX10_quarrel_8 : decode cX10_quarrel 8 = .ok (.ifCond .ge 7, 3) := by decide +kernel
theorem dX10_quarrel_11 : decode cX10_quarrel 11 = .ok (.ldc2_w 80, 3) := by decide +kernel
theorem dX10_quarrel_14 : decode cX10_quarrel 14 = .ok (.lreturn, 1) := by decide +kernel
theorem dX10_quarrel_15 : decode cX10_quarrel 15 = .ok (.aload_n 0, 1) := by decide +kernel
theorem dX10_quarrel_16 : decode cX10_quarrel 16 = .ok (.iload_n 1, 1) := by decide +kernel
theorem dX10_quarrel_17 : decode cX10_quarrel 17 = .ok (.invokevirtual 177, 3) := by decide +kernel
theorem dX10_quarrel_20 : decode cX10_quarrel 20 = .ok (.aload_n 0, 1) := by decide +kernel
theorem dX10_quarrel_21 : decode cX10_quarrel 21 = .ok (.getfield 62, 3) := by decide +kernel
theorem dX10_quarrel_24 : decode cX10_quarrel 24 = .ok (.invokevirtual 210, 3) := by decide +kernel
theorem dX10_quarrel_27 : decode cX10_quarrel 27 = .ok (.aload_n 0, 1) := by decide +kernel
theorem dX10_quarrel_28 : decode cX10_quarrel 28 = .ok (.getfield 34, 3) := by decide +kernel
theorem dX10_quarrel_31 : decode cX10_quarrel 31 = .ok (.aload_n 0, 1) := by decide +kernel
theorem dX10_quarrel_32 : decode cX10_quarrel 32 = .ok (.getfield 62, 3) := by decide +kernel
theorem dX10_quarrel_35 : decode cX10_quarrel 35 = .ok (.invokevirtual 213, 3) := by decide +kernel
theorem dX10_quarrel_38 : decode cX10_quarrel 38 = .ok (.aload_n 0, 1) := by decide +kernel
theorem dX10_quarrel_39 : decode cX10_quarrel 39 = .ok (.getfield 62, 3) := by decide +kernel
theorem dX10_quarrel_42 : decode cX10_quarrel 42 = .ok (.getfield 217, 3) := by decide +kernel
theorem dX10_quarrel_45 : decode cX10_quarrel 45 = .ok (.ifCond .eq 7, 3) := by decide +kernel
theorem dX10_quarrel_48 : decode cX10_quarrel 48 = .ok (.ldc2_w 220, 3) := by decide +kernel
theorem dX10_quarrel_51 : decode cX10_quarrel 51 = .ok (.lreturn, 1) := by decide +kernel
theorem dX10_quarrel_52 : decode cX10_quarrel 52 = .ok (.iload_n 2, 1) := by decide +kernel
theorem dX10_quarrel_53 : decode cX10_quarrel 53 = .ok (.aload_n 0, 1) := by decide +kernel
theorem dX10_quarrel_54 : decode cX10_quarrel 54 = .ok (.getfield 62, 3) := by decide +kernel
theorem dX10_quarrel_57 : decode cX10_quarrel 57 = .ok (.getfield 222, 3) := by decide +kernel
theorem dX10_quarrel_60 : decode cX10_quarrel 60 = .ok (.if_icmp .ge 16, 3) := by decide +kernel
theorem dX10_quarrel_63 : decode cX10_quarrel 63 = .ok (.aload_n 0, 1) := by decide +kernel
theorem dX10_quarrel_64 : decode cX10_quarrel 64 = .ok (.getfield 62, 3) := by decide +kernel
theorem dX10_quarrel_67 : decode cX10_quarrel 67 = .ok (.getfield 223, 3) := by decide +kernel
theorem dX10_quarrel_70 : decode cX10_quarrel 70 = .ok (.iload_n 2, 1) := by decide +kernel
theorem dX10_quarrel_71 : decode cX10_quarrel 71 = .ok (.iaload, 1) := by decide +kernel
theorem dX10_quarrel_72 : decode cX10_quarrel 72 = .ok (.i2l, 1) := by decide +kernel
theorem dX10_quarrel_73 : decode cX10_quarrel 73 = .ok (.goto 6, 3) := by decide +kernel
theorem dX10_quarrel_76 : decode cX10_quarrel 76 = .ok (.ldc2_w 196, 3) := by decide +kernel
theorem dX10_quarrel_79 : decode cX10_quarrel 79 = .ok (.lreturn, 1) := by decide +kernel
theorem dX10_cure_0 : decode cX10_cure 0 = .ok (.iload_n 1, 1) := by decide +kernel
theorem dX10_cure_1 : decode cX10_cure 1 = .ok (.invokestatic 174, 3) := by decide +kernel
theorem dX10_cure_4 : decode cX10_cure 4 = .ok (.ifCond .eq 11, 3) := by decide +kernel
theorem dX10_cure_7 : decode cX10_cure 7 = .ok (.aload_n 0, 1) := by decide +kernel
theorem dX10_cure_8 : decode cX10_cure 8 = .ok (.iload_n 1, 1) := by decide +kernel
theorem dX10_cure_9 : decode cX10_cure 9 = .ok (.invokevirtual 224, 3) := by decide +kernel
theorem dX10_cure_12 : decode cX10_cure 12 = .ok (.goto 6, 3) := by decide +kernel
theorem dX10_cure_15 : decode cX10_cure 15 = .ok (.ldc2_w 80, 3) := by decide +kernel
theorem dX10_cure_18 : decode cX10_cure 18 = .ok (.lreturn, 1) := by decide +kernel
theorem dX10_heal_0 : decode cX10_heal 0 = .ok (.iload_n 1, 1) := by decide +kernel
theorem dX10_heal_1 : decode cX10_heal 1 = .ok (.invokestatic 174, 3) := by decide +kernel
theorem dX10_heal_4 : decode cX10_heal 4 = .ok (.ifCond .eq 11, 3) := by decide +kernel
theorem dX10_heal_7 : decode cX10_heal 7 = .ok (.aload_n 0, 1) := by decide +kernel
theorem dX10_heal_8 : decode cX10_heal 8 = .ok (.iload_n 1, 1) := by decide +kernel
theorem dX10_heal_9 : decode cX10_heal 9 = .ok (.invokevirtual 224, 3) := by decide +kernel
theorem dX10_heal_12 : decode cX10_heal 12 = .ok (.goto 6, 3) := by decide +kernel
theorem dX10_heal_15 : decode cX10_heal 15 = .ok (.ldc2_w 80, 3) := by decide +kernel
theorem dX10_heal_18 : decode cX10_heal 18 = .ok (.lstore_n 2, 1) := by decide +kernel
theorem dX10_heal_19 : decode cX10_heal 19 = .ok (.lload_n 2, 1) := by decide +kernel
theorem dX10_heal_20 : decode cX10_heal 20 = .ok (.lconst 0, 1) := by decide +kernel
theorem dX10_heal_21 : decode cX10_heal 21 = .ok (.lcmp, 1) := by decide +kernel
theorem dX10_heal_22 : decode cX10_heal 22 = .ok (.ifCond .ge 5, 3) := by decide +kernel
theorem dX10_heal_25 : decode cX10_heal 25 = .ok (.lload_n 2, 1) := by decide +kernel
theorem dX10_heal_26 : decode cX10_heal 26 = .ok (.lreturn, 1) := by decide +kernel
theorem dX10_heal_27 : decode cX10_heal 27 = .ok (.iconst 0, 1) := by decide +kernel
theorem dX10_heal_28 : decode cX10_heal 28 = .ok (.istore 4, 2) := by decide +kernel
theorem dX10_heal_30 : decode cX10_heal 30 = .ok (.iload 4, 2) := by decide +kernel
theorem dX10_heal_32 : decode cX10_heal 32 = .ok (.aload_n 0, 1) := by decide +kernel
theorem dX10_heal_33 : decode cX10_heal 33 = .ok (.getfield 99, 3) := by decide +kernel
theorem dX10_heal_36 : decode cX10_heal 36 = .ok (.if_icmp .ge 40, 3) := by decide +kernel
theorem dX10_heal_39 : decode cX10_heal 39 = .ok (.aload_n 0, 1) := by decide +kernel
theorem dX10_heal_40 : decode cX10_heal 40 = .ok (.getfield 15, 3) := by decide +kernel
theorem dX10_heal_43 : decode cX10_heal 43 = .ok (.iload 4, 2) := by decide +kernel
theorem dX10_heal_45 : decode cX10_heal 45 = .ok (.aaload, 1) := by decide +kernel
theorem dX10_heal_46 : decode cX10_heal 46 = .ok (.astore 5, 2) := by decide +kernel
theorem dX10_heal_48 : decode cX10_heal 48 = .ok (.aload 5, 2) := by decide +kernel
theorem dX10_heal_50 : decode cX10_heal 50 = .ok (.ifnull 20, 3) := by decide +kernel
theorem dX10_heal_53 : decode cX10_heal 53 = .ok (.lload_n 2, 1) := by decide +kernel
theorem dX10_heal_54 : decode cX10_heal 54 = .ok (.iload 4, 2) := by decide +kernel
theorem dX10_heal_56 : decode cX10_heal 56 = .ok (.lshr, 1) := by decide +kernel
theorem dX10_heal_57 : decode cX10_heal 57 = .ok (.lconst 1, 1) := by decide +kernel
theorem dX10_heal_58 : decode cX10_heal 58 = .ok (.land, 1) := by decide +kernel
theorem dX10_heal_59 : decode cX10_heal 59 = .ok (.lconst 1, 1) := by decide +kernel
theorem dX10_heal_60 : decode cX10_heal 60 = .ok (.lcmp, 1) := by decide +kernel
theorem dX10_heal_61 : decode cX10_heal 61 = .ok (.ifCond .ne 9, 3) := by decide +kernel
theorem dX10_heal_64 : decode cX10_heal 64 = .ok (.aload 5, 2) := by decide +kernel
theorem dX10_heal_66 : decode cX10_heal 66 = .ok (.iconst 1, 1) := by decide +kernel
theorem dX10_heal_67 : decode cX10_heal 67 = .ok (.putfield 138, 3) := by decide +kernel
theorem dX10_heal_70 : decode cX10_heal 70 = .ok (.iinc 4 1, 3) := by decide +kernel
theorem dX10_heal_73 : decode cX10_heal 73 = .ok (.goto (-43), 3) := by decide +kernel
theorem dX10_heal_76 : decode cX10_heal 76 = .ok (.lload_n 2, 1) := by decide +kernel
theorem dX10_heal_77 : decode cX10_heal 77 = .ok (.invokestatic 228, 3) := by decide +kernel
theorem dX10_heal_80 : decode cX10_heal 80 = .ok (.i2l, 1) := by decide +kernel
theorem dX10_heal_81 : decode cX10_heal 81 = .ok (.lreturn, 1) := by decide +kernel
theorem dX10_custom_0 : decode cX10_custom 0 = .ok (.aload_n 0, 1) := by decide +kernel
theorem dX10_custom_1 : decode cX10_custom 1 = .ok (.iload_n 1, 1) := by decide +kernel
theorem dX10_custom_2 : decode cX10_custom 2 = .ok (.invokevirtual 234, 3) := by decide +kernel
theorem dX10_custom_5 : decode cX10_custom 5 = .ok (.astore_n 3, 1) := by decide +kernel
theorem dX10_custom_6 : decode cX10_custom 6 = .ok (.aload_n 3, 1) := by decide +kernel
theorem dX10_custom_7 : decode cX10_custom 7 = .ok (.ifnull 8, 3) := by decide +kernel
theorem dX10_custom_10 : decode cX10_custom 10 = .ok (.iload_n 2, 1) := by decide +kernel
theorem dX10_custom_11 : decode cX10_custom 11 = .ok (.iconst 5, 1) := by decide +kernel
theorem dX10_custom_12 : decode cX10_custom 12 = .ok (.if_icmp .le 7, 3) := by decide +kernel
theorem dX10_custom_15 : decode cX10_custom 15 = .ok (.ldc2_w 80, 3) := by decide +kernel
theorem dX10_custom_18 : decode cX10_custom 18 = .ok (.lreturn, 1) := by decide +kernel
theorem dX10_custom_19 : decode cX10_custom 19 = .ok (.iload_n 2, 1) := by decide +kernel
theorem dX10_custom_20 : decode cX10_custom 20 = .ok (.ifCond .ge 7, 3) := by decide +kernel
theorem dX10_custom_23 : decode cX10_custom 23 = .ok (.ldc2_w 238, 3) := by decide +kernel
theorem dX10_custom_26 : decode cX10_custom 26 = .ok (.lreturn, 1) := by decide +kernel
theorem dX10_custom_27 : decode cX10_custom 27 = .ok (.aload_n 3, 1) := by decide +kernel
theorem dX10_custom_28 : decode cX10_custom 28 = .ok (.iload_n 2, 1) := by decide +kernel
theorem dX10_custom_29 : decode cX10_custom 29 = .ok (.invokevirtual 240, 3) := by decide +kernel
theorem dX10_custom_32 : decode cX10_custom 32 = .ok (.iload_n 2, 1) := by decide +kernel
theorem dX10_custom_33 : decode cX10_custom 33 = .ok (.i2l, 1) := by decide +kernel
theorem dX10_custom_34 : decode cX10_custom 34 = .ok (.lreturn, 1) := by decide +kernel
theorem dX10_step_0 : decode cX10_step 0 = .ok (.aload_n 0, 1) := by decide +kernel
theorem dX10_step_1 : decode cX10_step 1 = .ok (.iload_n 1, 1) := by decide +kernel
theorem dX10_step_2 : decode cX10_step 2 = .ok (.invokevirtual 234, 3) := by decide +kernel
theorem dX10_step_5 : decode cX10_step 5 = .ok (.astore 4, 2) := by decide +kernel
theorem dX10_step_7 : decode cX10_step 7 = .ok (.aload 4, 2) := by decide +kernel
theorem dX10_step_9 : decode cX10_step 9 = .ok (.ifnonnull 7, 3) := by decide +kernel
theorem dX10_step_12 : decode cX10_step 12 = .ok (.ldc2_w 80, 3) := by decide +kernel
theorem dX10_step_15 : decode cX10_step 15 = .ok (.lreturn, 1) := by decide +kernel
theorem dX10_step_16 : decode cX10_step 16 = .ok (.aload 4, 2) := by decide +kernel
theorem dX10_step_18 : decode cX10_step 18 = .ok (.getfield 242, 3) := by decide +kernel
theorem dX10_step_21 : decode cX10_step 21 = .ok (.ifCond .eq 7, 3) := by decide +kernel
theorem dX10_step_24 : decode cX10_step 24 = .ok (.ldc2_w 245, 3) := by decide +kernel
theorem dX10_step_27 : decode cX10_step 27 = .ok (.lreturn, 1) := by decide +kernel
theorem dX10_step_28 : decode cX10_step 28 = .ok (.iload_n 2, 1) := by decide +kernel
theorem dX10_step_29 : decode cX10_step 29 = .ok (.ifCond .lt 12, 3) := by decide +kernel
theorem dX10_step_32 : decode cX10_step 32 = .ok (.iload_n 2, 1) := by decide +kernel
theorem dX10_step_33 : decode cX10_step 33 = .ok (.aload 4, 2) := by decide +kernel
theorem dX10_step_35 : decode cX10_step 35 = .ok (.getfield 247, 3) := by decide +kernel
theorem dX10_step_38 : decode cX10_step 38 = .ok (.if_icmp .lt 7, 3) := by decide +kernel
theorem dX10_step_41 : decode cX10_step 41 = .ok (.ldc2_w 250, 3) := by decide +kernel
theorem dX10_step_44 : decode cX10_step 44 = .ok (.lreturn, 1) := by decide +kernel
theorem dX10_step_45 : decode cX10_step 45 = .ok (.iload_n 3, 1) := by decide +kernel
theorem dX10_step_46 : decode cX10_step 46 = .ok (.iconst 2, 1) := by decide +kernel
theorem dX10_step_47 : decode cX10_step 47 = .ok (.if_icmp .lt 10, 3) := by decide +kernel
theorem dX10_step_50 : decode cX10_step 50 = .ok (.iload_n 3, 1) := by decide +kernel
theorem dX10_step_51 : decode cX10_step 51 = .ok (.sipush 1000, 3) := by decide +kernel
theorem dX10_step_54 : decode cX10_step 54 = .ok (.if_icmp .le 7, 3) := by decide +kernel
theorem dX10_step_57 : decode cX10_step 57 = .ok (.ldc2_w 80, 3) := by decide +kernel
theorem dX10_step_60 : decode cX10_step 60 = .ok (.lreturn, 1) := by decide +kernel
theorem dX10_step_61 : decode cX10_step 61 = .ok (.aload 4, 2) := by decide +kernel
theorem dX10_step_63 : decode cX10_step 63 = .ok (.getfield 252, 3) := by decide +kernel
theorem dX10_step_66 : decode cX10_step 66 = .ok (.iload_n 2, 1) := by decide +kernel
theorem dX10_step_67 : decode cX10_step 67 = .ok (.iaload, 1) := by decide +kernel
theorem dX10_step_68 : decode cX10_step 68 = .ok (.istore 5, 2) := by decide +kernel
theorem dX10_step_70 : decode cX10_step 70 = .ok (.aload 4, 2) := by decide +kernel
theorem dX10_step_72 : decode cX10_step 72 = .ok (.getfield 252, 3) := by decide +kernel
theorem dX10_step_75 : decode cX10_step 75 = .ok (.iload_n 2, 1) := by decide +kernel
theorem dX10_step_76 : decode cX10_step 76 = .ok (.iload_n 3, 1) := by decide +kernel
theorem dX10_step_77 : decode cX10_step 77 = .ok (.iastore, 1) := by decide +kernel
theorem dX10_step_78 : decode cX10_step 78 = .ok (.iload 5, 2) := by decide +kernel
theorem dX10_step_80 : decode cX10_step 80 = .ok (.i2l, 1) := by decide +kernel
theorem dX10_step_81 : decode cX10_step 81 = .ok (.lreturn, 1) := by decide +kernel
theorem dX10_copy_0 : decode cX10_copy 0 = .ok (.aload_n 0, 1) := by decide +kernel
theorem dX10_copy_1 : decode cX10_copy 1 = .ok (.iload_n 1, 1) := by decide +kernel
theorem dX10_copy_2 : decode cX10_copy 2 = .ok (.invokevirtual 234, 3) := by decide +kernel
theorem dX10_copy_5 : decode cX10_copy 5 = .ok (.astore 4, 2) := by decide +kernel
theorem dX10_copy_7 : decode cX10_copy 7 = .ok (.aload_n 0, 1) := by decide +kernel
theorem dX10_copy_8 : decode cX10_copy 8 = .ok (.iload_n 2, 1) := by decide +kernel
theorem dX10_copy_9 : decode cX10_copy 9 = .ok (.invokevirtual 234, 3) := by decide +kernel
theorem dX10_copy_12 : decode cX10_copy 12 = .ok (.astore 5, 2) := by decide +kernel
theorem dX10_copy_14 : decode cX10_copy 14 = .ok (.aload 4, 2) := by decide +kernel
theorem dX10_copy_16 : decode cX10_copy 16 = .ok (.ifnull 8, 3) := by decide +kernel
theorem dX10_copy_19 : decode cX10_copy 19 = .ok (.aload 5, 2) := by decide +kernel
theorem dX10_copy_21 : decode cX10_copy 21 = .ok (.ifnonnull 7, 3) := by decide +kernel
theorem dX10_copy_24 : decode cX10_copy 24 = .ok (.ldc2_w 80, 3) := by decide +kernel
theorem dX10_copy_27 : decode cX10_copy 27 = .ok (.lreturn, 1) := by decide +kernel
theorem dX10_copy_28 : decode cX10_copy 28 = .ok (.aload 4, 2) := by decide +kernel
theorem dX10_copy_30 : decode cX10_copy 30 = .ok (.getfield 242, 3) := by decide +kernel
theorem dX10_copy_33 : decode cX10_copy 33 = .ok (.ifCond .ne 11, 3) := by decide +kernel
theorem dX10_copy_36 : decode cX10_copy 36 = .ok (.aload 5, 2) := by decide +kernel
theorem dX10_copy_38 : decode cX10_copy 38 = .ok (.getfield 242, 3) := by decide +kernel
theorem dX10_copy_41 : decode cX10_copy 41 = .ok (.ifCond .eq 7, 3) := by decide +kernel
theorem dX10_copy_44 : decode cX10_copy 44 = .ok (.ldc2_w 245, 3) := by decide +kernel
theorem dX10_copy_47 : decode cX10_copy 47 = .ok (.lreturn, 1) := by decide +kernel
theorem dX10_copy_48 : decode cX10_copy 48 = .ok (.iload_n 3, 1) := by decide +kernel
theorem dX10_copy_49 : decode cX10_copy 49 = .ok (.ifCond .lt 21, 3) := by decide +kernel
theorem dX10_copy_52 : decode cX10_copy 52 = .ok (.iload_n 3, 1) := by decide +kernel
theorem dX10_copy_53 : decode cX10_copy 53 = .ok (.aload 4, 2) := by decide +kernel
theorem dX10_copy_55 : decode cX10_copy 55 = .ok (.getfield 247, 3) := by decide +kernel
theorem dX10_copy_58 : decode cX10_copy 58 = .ok (.if_icmp .gt 12, 3) := by decide +kernel
theorem dX10_copy_61 : decode cX10_copy 61 = .ok (.iload_n 3, 1) := by decide +kernel
theorem dX10_copy_62 : decode cX10_copy 62 = .ok (.aload 5, 2) := by decide +kernel
theorem dX10_copy_64 : decode cX10_copy 64 = .ok (.getfield 247, 3) := by decide +kernel
theorem dX10_copy_67 : decode cX10_copy 67 = .ok (.if_icmp .le 7, 3) := by decide +kernel
theorem dX10_copy_70 : decode cX10_copy 70 = .ok (.ldc2_w 250, 3) := by decide +kernel
theorem dX10_copy_73 : decode cX10_copy 73 = .ok (.lreturn, 1) := by decide +kernel
theorem dX10_copy_74 : decode cX10_copy 74 = .ok (.iconst 0, 1) := by decide +kernel
theorem dX10_copy_75 : decode cX10_copy 75 = .ok (.istore 6, 2) := by decide +kernel
theorem dX10_copy_77 : decode cX10_copy 77 = .ok (.iload 6, 2) := by decide +kernel
theorem dX10_copy_79 : decode cX10_copy 79 = .ok (.iload_n 3, 1) := by decide +kernel
theorem dX10_copy_80 : decode cX10_copy 80 = .ok (.if_icmp .ge 25, 3) := by decide +kernel
theorem dX10_copy_83 : decode cX10_copy 83 = .ok (.aload 5, 2) := by decide +kernel
theorem dX10_copy_85 : decode cX10_copy 85 = .ok (.getfield 252, 3) := by decide +kernel
theorem dX10_copy_88 : decode cX10_copy 88 = .ok (.iload 6, 2) := by decide +kernel
theorem dX10_copy_90 : decode cX10_copy 90 = .ok (.aload 4, 2) := by decide +kernel
theorem dX10_copy_92 : decode cX10_copy 92 = .ok (.getfield 252, 3) := by decide +kernel
theorem dX10_copy_95 : decode cX10_copy 95 = .ok (.iload 6, 2) := by decide +kernel
theorem dX10_copy_97 : decode cX10_copy 97 = .ok (.iaload, 1) := by decide +kernel
theorem dX10_copy_98 : decode cX10_copy 98 = .ok (.iastore, 1) := by decide +kernel
theorem dX10_copy_99 : decode cX10_copy 99 = .ok (.iinc 6 1, 3) := by decide +kernel
theorem dX10_copy_102 : decode cX10_copy 102 = .ok (.goto (-25), 3) := by decide +kernel
theorem dX10_copy_105 : decode cX10_copy 105 = .ok (.iload_n 3, 1) := by decide +kernel
theorem dX10_copy_106 : decode cX10_copy 106 = .ok (.i2l, 1) := by decide +kernel
theorem dX10_copy_107 : decode cX10_copy 107 = .ok (.lreturn, 1) := by decide +kernel
theorem dX10_part_0 : decode cX10_part 0 = .ok (.aload_n 0, 1) := by decide +kernel
theorem dX10_part_1 : decode cX10_part 1 = .ok (.iload_n 1, 1) := by decide +kernel
theorem dX10_part_2 : decode cX10_part 2 = .ok (.invokevirtual 234, 3) := by decide +kernel
theorem dX10_part_5 : decode cX10_part 5 = .ok (.astore 5, 2) := by decide +kernel
theorem dX10_part_7 : decode cX10_part 7 = .ok (.aload 5, 2) := by decide +kernel
theorem dX10_part_9 : decode cX10_part 9 = .ok (.ifnull 19, 3) := by decide +kernel
theorem dX10_part_12 : decode cX10_part 12 = .ok (.lload_n 2, 1) := by decide +kernel
theorem dX10_part_13 : decode cX10_part 13 = .ok (.ldc2_w 255, 3) := by decide +kernel
theorem dX10_part_16 : decode cX10_part 16 = .ok (.lcmp, 1) := by decide +kernel
theorem dX10_part_17 : decode cX10_part 17 = .ok (.ifCond .lt 11, 3) := by decide +kernel
theorem dX10_part_20 : decode cX10_part 20 = .ok (.lload_n 2, 1) := by decide +kernel
theorem dX10_part_21 : decode cX10_part 21 = .ok (.ldc2_w 257, 3) := by decide +kernel
theorem dX10_part_24 : decode cX10_part 24 = .ok (.lcmp, 1) := by decide +kernel
theorem dX10_part_25 : decode cX10_part 25 = .ok (.ifCond .le 7, 3) := by decide +kernel
theorem dX10_part_28 : decode cX10_part 28 = .ok (.ldc2_w 80, 3) := by decide +kernel
theorem dX10_part_31 : decode cX10_part 31 = .ok (.lreturn, 1) := by decide +kernel
theorem dX10_part_32 : decode cX10_part 32 = .ok (.aload 5, 2) := by decide +kernel
theorem dX10_part_34 : decode cX10_part 34 = .ok (.getfield 242, 3) := by decide +kernel
theorem dX10_part_37 : decode cX10_part 37 = .ok (.ifCond .eq 7, 3) := by decide +kernel
theorem dX10_part_40 : decode cX10_part 40 = .ok (.ldc2_w 245, 3) := by decide +kernel
theorem dX10_part_43 : decode cX10_part 43 = .ok (.lreturn, 1) := by decide +kernel
theorem dX10_part_44 : decode cX10_part 44 = .ok (.iload 4, 2) := by decide +kernel
theorem dX10_part_46 : decode cX10_part 46 = .ok (.ifCond .lt 13, 3) := by decide +kernel
theorem dX10_part_49 : decode cX10_part 49 = .ok (.iload 4, 2) := by decide +kernel
theorem dX10_part_51 : decode cX10_part 51 = .ok (.aload 5, 2) := by decide +kernel
theorem dX10_part_53 : decode cX10_part 53 = .ok (.getfield 247, 3) := by decide +kernel
theorem dX10_part_56 : decode cX10_part 56 = .ok (.if_icmp .le 7, 3) := by decide +kernel
theorem dX10_part_59 : decode cX10_part 59 = .ok (.ldc2_w 250, 3) := by decide +kernel
theorem dX10_part_62 : decode cX10_part 62 = .ok (.lreturn, 1) := by decide +kernel
theorem dX10_part_63 : decode cX10_part 63 = .ok (.lload_n 2, 1) := by decide +kernel
theorem dX10_part_64 : decode cX10_part 64 = .ok (.lconst 0, 1) := by decide +kernel
theorem dX10_part_65 : decode cX10_part 65 = .ok (.lcmp, 1) := by decide +kernel
theorem dX10_part_66 : decode cX10_part 66 = .ok (.ifCond .ge 16, 3) := by decide +kernel
theorem dX10_part_69 : decode cX10_part 69 = .ok (.aload 5, 2) := by decide +kernel
theorem dX10_part_71 : decode cX10_part 71 = .ok (.lload_n 2, 1) := by decide +kernel
theorem dX10_part_72 : decode cX10_part 72 = .ok (.lneg, 1) := by decide +kernel
theorem dX10_part_73 : decode cX10_part 73 = .ok (.iload 4, 2) := by decide +kernel
theorem dX10_part_75 : decode cX10_part 75 = .ok (.invokevirtual 259, 3) := by decide +kernel
theorem dX10_part_78 : decode cX10_part 78 = .ok (.lneg, 1) := by decide +kernel
theorem dX10_part_79 : decode cX10_part 79 = .ok (.goto 11, 3) := by decide +kernel
theorem dX10_part_82 : decode cX10_part 82 = .ok (.aload 5, 2) := by decide +kernel
theorem dX10_part_84 : decode cX10_part 84 = .ok (.lload_n 2, 1) := by decide +kernel
theorem dX10_part_85 : decode cX10_part 85 = .ok (.iload 4, 2) := by decide +kernel
theorem dX10_part_87 : decode cX10_part 87 = .ok (.invokevirtual 259, 3) := by decide +kernel
theorem dX10_part_90 : decode cX10_part 90 = .ok (.lreturn, 1) := by decide +kernel
theorem dX10_whole_0 : decode cX10_whole 0 = .ok (.aload_n 0, 1) := by decide +kernel
theorem dX10_whole_1 : decode cX10_whole 1 = .ok (.iload_n 1, 1) := by decide +kernel
theorem dX10_whole_2 : decode cX10_whole 2 = .ok (.invokevirtual 234, 3) := by decide +kernel
theorem dX10_whole_5 : decode cX10_whole 5 = .ok (.astore 4, 2) := by decide +kernel
theorem dX10_whole_7 : decode cX10_whole 7 = .ok (.aload 4, 2) := by decide +kernel
theorem dX10_whole_9 : decode cX10_whole 9 = .ok (.ifnull 17, 3) := by decide +kernel
theorem dX10_whole_12 : decode cX10_whole 12 = .ok (.lload_n 2, 1) := by decide +kernel
theorem dX10_whole_13 : decode cX10_whole 13 = .ok (.lconst 0, 1) := by decide +kernel
theorem dX10_whole_14 : decode cX10_whole 14 = .ok (.lcmp, 1) := by decide +kernel
theorem dX10_whole_15 : decode cX10_whole 15 = .ok (.ifCond .lt 11, 3) := by decide +kernel
theorem dX10_whole_18 : decode cX10_whole 18 = .ok (.lload_n 2, 1) := by decide +kernel
theorem dX10_whole_19 : decode cX10_whole 19 = .ok (.ldc2_w 263, 3) := by decide +kernel
theorem dX10_whole_22 : decode cX10_whole 22 = .ok (.lcmp, 1) := by decide +kernel
theorem dX10_whole_23 : decode cX10_whole 23 = .ok (.ifCond .lt 7, 3) := by decide +kernel
theorem dX10_whole_26 : decode cX10_whole 26 = .ok (.ldc2_w 80, 3) := by decide +kernel
theorem dX10_whole_29 : decode cX10_whole 29 = .ok (.lreturn, 1) := by decide +kernel
theorem dX10_whole_30 : decode cX10_whole 30 = .ok (.aload 4, 2) := by decide +kernel
theorem dX10_whole_32 : decode cX10_whole 32 = .ok (.getfield 242, 3) := by decide +kernel
theorem dX10_whole_35 : decode cX10_whole 35 = .ok (.ifCond .eq 9, 3) := by decide +kernel
theorem dX10_whole_38 : decode cX10_whole 38 = .ok (.ldc2_w 245, 3) := by decide +kernel
theorem dX10_whole_41 : decode cX10_whole 41 = .ok (.goto 9, 3) := by decide +kernel
theorem dX10_whole_44 : decode cX10_whole 44 = .ok (.aload 4, 2) := by decide +kernel
theorem dX10_whole_46 : decode cX10_whole 46 = .ok (.lload_n 2, 1) := by decide +kernel
theorem dX10_whole_47 : decode cX10_whole 47 = .ok (.invokevirtual 265, 3) := by decide +kernel
theorem dX10_whole_50 : decode cX10_whole 50 = .ok (.lreturn, 1) := by decide +kernel
theorem dX10_line_0 : decode cX10_line 0 = .ok (.iload_n 1, 1) := by decide +kernel
theorem dX10_line_1 : decode cX10_line 1 = .ok (.invokestatic 269, 3) := by decide +kernel
theorem dX10_line_4 : decode cX10_line 4 = .ok (.ifCond .eq 25, 3) := by decide +kernel
theorem dX10_line_7 : decode cX10_line 7 = .ok (.iload_n 2, 1) := by decide +kernel
theorem dX10_line_8 : decode cX10_line 8 = .ok (.invokestatic 272, 3) := by decide +kernel
theorem dX10_line_11 : decode cX10_line 11 = .ok (.ifCond .eq 18, 3) := by decide +kernel
theorem dX10_line_14 : decode cX10_line 14 = .ok (.iload_n 3, 1) := by decide +kernel
theorem dX10_line_15 : decode cX10_line 15 = .ok (.invokestatic 82, 3) := by decide +kernel
theorem dX10_line_18 : decode cX10_line 18 = .ok (.ifCond .eq 11, 3) := by decide +kernel
theorem dX10_line_21 : decode cX10_line 21 = .ok (.iload 4, 2) := by decide +kernel
theorem dX10_line_23 : decode cX10_line 23 = .ok (.invokestatic 112, 3) := by decide +kernel
theorem dX10_line_26 : decode cX10_line 26 = .ok (.ifCond .ne 7, 3) := by decide +kernel
theorem dX10_line_29 : decode cX10_line 29 = .ok (.ldc2_w 80, 3) := by decide +kernel
theorem dX10_line_32 : decode cX10_line 32 = .ok (.lreturn, 1) := by decide +kernel
theorem dX10_line_33 : decode cX10_line 33 = .ok (.aload_n 0, 1) := by decide +kernel
theorem dX10_line_34 : decode cX10_line 34 = .ok (.getfield 275, 3) := by decide +kernel
theorem dX10_line_37 : decode cX10_line 37 = .ok (.bipush 20, 2) := by decide +kernel
theorem dX10_line_39 : decode cX10_line 39 = .ok (.if_icmp .lt 7, 3) := by decide +kernel
theorem dX10_line_42 : decode cX10_line 42 = .ok (.ldc2_w 103, 3) := by decide +kernel
theorem dX10_line_45 : decode cX10_line 45 = .ok (.lreturn, 1) := by decide +kernel
theorem dX10_line_46 : decode cX10_line 46 = .ok (.aload_n 0, 1) := by decide +kernel
theorem dX10_line_47 : decode cX10_line 47 = .ok (.getfield 27, 3) := by decide +kernel
theorem dX10_line_50 : decode cX10_line 50 = .ok (.aload_n 0, 1) := by decide +kernel
theorem dX10_line_51 : decode cX10_line 51 = .ok (.getfield 275, 3) := by decide +kernel
theorem dX10_line_54 : decode cX10_line 54 = .ok (.new 25, 3) := by decide +kernel
theorem dX10_line_57 : decode cX10_line 57 = .ok (.dup, 1) := by decide +kernel
theorem dX10_line_58 : decode cX10_line 58 = .ok (.iload_n 1, 1) := by decide +kernel
theorem dX10_line_59 : decode cX10_line 59 = .ok (.iload_n 2, 1) := by decide +kernel
theorem dX10_line_60 : decode cX10_line 60 = .ok (.iload_n 3, 1) := by decide +kernel
theorem dX10_line_61 : decode cX10_line 61 = .ok (.iload 4, 2) := by decide +kernel
theorem dX10_line_63 : decode cX10_line 63 = .ok (.invokespecial 278, 3) := by decide +kernel
theorem dX10_line_66 : decode cX10_line 66 = .ok (.aastore, 1) := by decide +kernel
theorem dX10_line_67 : decode cX10_line 67 = .ok (.aload_n 0, 1) := by decide +kernel
theorem dX10_line_68 : decode cX10_line 68 = .ok (.dup, 1) := by decide +kernel
theorem dX10_line_69 : decode cX10_line 69 = .ok (.getfield 275, 3) := by decide +kernel
theorem dX10_line_72 : decode cX10_line 72 = .ok (.dup_x1, 1) := by decide +kernel
theorem dX10_line_73 : decode cX10_line 73 = .ok (.iconst 1, 1) := by decide +kernel
theorem dX10_line_74 : decode cX10_line 74 = .ok (.iadd, 1) := by decide +kernel
theorem dX10_line_75 : decode cX10_line 75 = .ok (.putfield 275, 3) := by decide +kernel
theorem dX10_line_78 : decode cX10_line 78 = .ok (.i2l, 1) := by decide +kernel
theorem dX10_line_79 : decode cX10_line 79 = .ok (.lreturn, 1) := by decide +kernel
theorem dX10_amend_0 : decode cX10_amend 0 = .ok (.aload_n 0, 1) := by decide +kernel
theorem dX10_amend_1 : decode cX10_amend 1 = .ok (.iload_n 1, 1) := by decide +kernel
theorem dX10_amend_2 : decode cX10_amend 2 = .ok (.invokevirtual 281, 3) := by decide +kernel
theorem dX10_amend_5 : decode cX10_amend 5 = .ok (.astore_n 3, 1) := by decide +kernel
theorem dX10_amend_6 : decode cX10_amend 6 = .ok (.aload_n 3, 1) := by decide +kernel
theorem dX10_amend_7 : decode cX10_amend 7 = .ok (.ifnull 10, 3) := by decide +kernel
theorem dX10_amend_10 : decode cX10_amend 10 = .ok (.iload_n 2, 1) := by decide +kernel
theorem dX10_amend_11 : decode cX10_amend 11 = .ok (.invokestatic 269, 3) := by decide +kernel
theorem dX10_amend_14 : decode cX10_amend 14 = .ok (.ifCond .ne 7, 3) := by decide +kernel
theorem dX10_amend_17 : decode cX10_amend 17 = .ok (.ldc2_w 80, 3) := by decide +kernel
theorem dX10_amend_20 : decode cX10_amend 20 = .ok (.lreturn, 1) := by decide +kernel
theorem dX10_amend_21 : decode cX10_amend 21 = .ok (.aload_n 3, 1) := by decide +kernel
theorem dX10_amend_22 : decode cX10_amend 22 = .ok (.getfield 285, 3) := by decide +kernel
theorem dX10_amend_25 : decode cX10_amend 25 = .ok (.istore 4, 2) := by decide +kernel
theorem dX10_amend_27 : decode cX10_amend 27 = .ok (.aload_n 3, 1) := by decide +kernel
theorem dX10_amend_28 : decode cX10_amend 28 = .ok (.iload_n 2, 1) := by decide +kernel
theorem dX10_amend_29 : decode cX10_amend 29 = .ok (.putfield 285, 3) := by decide +kernel
theorem dX10_amend_32 : decode cX10_amend 32 = .ok (.iload 4, 2) := by decide +kernel
theorem dX10_amend_34 : decode cX10_amend 34 = .ok (.i2l, 1) := by decide +kernel
theorem dX10_amend_35 : decode cX10_amend 35 = .ok (.lreturn, 1) := by decide +kernel
theorem dX10_clear_0 : decode cX10_clear 0 = .ok (.aload_n 0, 1) := by decide +kernel
theorem dX10_clear_1 : decode cX10_clear 1 = .ok (.getfield 275, 3) := by decide +kernel
theorem dX10_clear_4 : decode cX10_clear 4 = .ok (.istore_n 1, 1) := by decide +kernel
theorem dX10_clear_5 : decode cX10_clear 5 = .ok (.iconst 0, 1) := by decide +kernel
theorem dX10_clear_6 : decode cX10_clear 6 = .ok (.istore_n 2, 1) := by decide +kernel
theorem dX10_clear_7 : decode cX10_clear 7 = .ok (.iload_n 2, 1) := by decide +kernel
theorem dX10_clear_8 : decode cX10_clear 8 = .ok (.iload_n 1, 1) := by decide +kernel
theorem dX10_clear_9 : decode cX10_clear 9 = .ok (.if_icmp .ge 16, 3) := by decide +kernel
theorem dX10_clear_12 : decode cX10_clear 12 = .ok (.aload_n 0, 1) := by decide +kernel
theorem dX10_clear_13 : decode cX10_clear 13 = .ok (.getfield 27, 3) := by decide +kernel
theorem dX10_clear_16 : decode cX10_clear 16 = .ok (.iload_n 2, 1) := by decide +kernel
theorem dX10_clear_17 : decode cX10_clear 17 = .ok (.aconst_null, 1) := by decide +kernel
theorem dX10_clear_18 : decode cX10_clear 18 = .ok (.aastore, 1) := by decide +kernel
theorem dX10_clear_19 : decode cX10_clear 19 = .ok (.iinc 2 1, 3) := by decide +kernel
theorem dX10_clear_22 : decode cX10_clear 22 = .ok (.goto (-15), 3) := by decide +kernel
theorem dX10_clear_25 : decode cX10_clear 25 = .ok (.aload_n 0, 1) := by decide +kernel
theorem dX10_clear_26 : decode cX10_clear 26 = .ok (.iconst 0, 1) := by decide +kernel
theorem dX10_clear_27 : decode cX10_clear 27 = .ok (.putfield 275, 3) := by decide +kernel
theorem dX10_clear_30 : decode cX10_clear 30 = .ok (.iload_n 1, 1) := by decide +kernel
theorem dX10_clear_31 : decode cX10_clear 31 = .ok (.i2l, 1) := by decide +kernel
theorem dX10_clear_32 : decode cX10_clear 32 = .ok (.lreturn, 1) := by decide +kernel
theorem dX10_total_0 : decode cX10_total 0 = .ok (.iload_n 1, 1) := by decide +kernel
theorem dX10_total_1 : decode cX10_total 1 = .ok (.invokestatic 272, 3) := by decide +kernel
theorem dX10_total_4 : decode cX10_total 4 = .ok (.ifCond .eq 17, 3) := by decide +kernel
theorem dX10_total_7 : decode cX10_total 7 = .ok (.iload_n 2, 1) := by decide +kernel
theorem dX10_total_8 : decode cX10_total 8 = .ok (.invokestatic 157, 3) := by decide +kernel
theorem dX10_total_11 : decode cX10_total 11 = .ok (.ifCond .eq 10, 3) := by decide +kernel
theorem dX10_total_14 : decode cX10_total 14 = .ok (.iload_n 3, 1) := by decide +kernel
theorem dX10_total_15 : decode cX10_total 15 = .ok (.invokestatic 157, 3) := by decide +kernel
theorem dX10_total_18 : decode cX10_total 18 = .ok (.ifCond .ne 7, 3) := by decide +kernel
theorem dX10_total_21 : decode cX10_total 21 = .ok (.ldc2_w 80, 3) := by decide +kernel
theorem dX10_total_24 : decode cX10_total 24 = .ok (.lreturn, 1) := by decide +kernel
theorem dX10_total_25 : decode cX10_total 25 = .ok (.aload_n 0, 1) := by decide +kernel
theorem dX10_total_26 : decode cX10_total 26 = .ok (.iload_n 1, 1) := by decide +kernel
theorem dX10_total_27 : decode cX10_total 27 = .ok (.invokevirtual 288, 3) := by decide +kernel
theorem dX10_total_30 : decode cX10_total 30 = .ok (.ifCond .ne 7, 3) := by decide +kernel
theorem dX10_total_33 : decode cX10_total 33 = .ok (.ldc2_w 196, 3) := by decide +kernel
theorem dX10_total_36 : decode cX10_total 36 = .ok (.lreturn, 1) := by decide +kernel
theorem dX10_total_37 : decode cX10_total 37 = .ok (.aload_n 0, 1) := by decide +kernel
theorem dX10_total_38 : decode cX10_total 38 = .ok (.iconst (-1), 1) := by decide +kernel
theorem dX10_total_39 : decode cX10_total 39 = .ok (.lconst 0, 1) := by decide +kernel
theorem dX10_total_40 : decode cX10_total 40 = .ok (.invokevirtual 291, 3) := by decide +kernel
theorem dX10_total_43 : decode cX10_total 43 = .ok (.aload_n 0, 1) := by decide +kernel
theorem dX10_total_44 : decode cX10_total 44 = .ok (.getfield 69, 3) := by decide +kernel
theorem dX10_total_47 : decode cX10_total 47 = .ok (.aload_n 0, 1) := by decide +kernel
theorem dX10_total_48 : decode cX10_total 48 = .ok (.getfield 73, 3) := by decide +kernel
theorem dX10_total_51 : decode cX10_total 51 = .ok (.iload_n 2, 1) := by decide +kernel
theorem dX10_total_52 : decode cX10_total 52 = .ok (.iload_n 3, 1) := by decide +kernel
theorem dX10_total_53 : decode cX10_total 53 = .ok (.invokestatic 166, 3) := by decide +kernel
theorem dX10_total_56 : decode cX10_total 56 = .ok (.lreturn, 1) := by decide +kernel
theorem dX10_slip_0 : decode cX10_slip 0 = .ok (.iload_n 1, 1) := by decide +kernel
theorem dX10_slip_1 : decode cX10_slip 1 = .ok (.invokestatic 272, 3) := by decide +kernel
theorem dX10_slip_4 : decode cX10_slip 4 = .ok (.ifCond .eq 17, 3) := by decide +kernel
theorem dX10_slip_7 : decode cX10_slip 7 = .ok (.iload_n 2, 1) := by decide +kernel
theorem dX10_slip_8 : decode cX10_slip 8 = .ok (.ldc_w 295, 3) := by decide +kernel
theorem dX10_slip_11 : decode cX10_slip 11 = .ok (.if_icmp .lt 10, 3) := by decide +kernel
theorem dX10_slip_14 : decode cX10_slip 14 = .ok (.iload_n 2, 1) := by decide +kernel
theorem dX10_slip_15 : decode cX10_slip 15 = .ok (.ldc_w 296, 3) := by decide +kernel
theorem dX10_slip_18 : decode cX10_slip 18 = .ok (.if_icmp .le 7, 3) := by decide +kernel
theorem dX10_slip_21 : decode cX10_slip 21 = .ok (.ldc2_w 80, 3) := by decide +kernel
theorem dX10_slip_24 : decode cX10_slip 24 = .ok (.lreturn, 1) := by decide +kernel
theorem dX10_slip_25 : decode cX10_slip 25 = .ok (.aload_n 0, 1) := by decide +kernel
theorem dX10_slip_26 : decode cX10_slip 26 = .ok (.iload_n 1, 1) := by decide +kernel
theorem dX10_slip_27 : decode cX10_slip 27 = .ok (.invokevirtual 288, 3) := by decide +kernel
theorem dX10_slip_30 : decode cX10_slip 30 = .ok (.ifCond .ne 7, 3) := by decide +kernel
theorem dX10_slip_33 : decode cX10_slip 33 = .ok (.ldc2_w 196, 3) := by decide +kernel
theorem dX10_slip_36 : decode cX10_slip 36 = .ok (.lreturn, 1) := by decide +kernel
theorem dX10_slip_37 : decode cX10_slip 37 = .ok (.aload_n 0, 1) := by decide +kernel
theorem dX10_slip_38 : decode cX10_slip 38 = .ok (.iconst (-1), 1) := by decide +kernel
theorem dX10_slip_39 : decode cX10_slip 39 = .ok (.lconst 0, 1) := by decide +kernel
theorem dX10_slip_40 : decode cX10_slip 40 = .ok (.iload_n 2, 1) := by decide +kernel
theorem dX10_slip_41 : decode cX10_slip 41 = .ok (.invokevirtual 297, 3) := by decide +kernel
theorem dX10_slip_44 : decode cX10_slip 44 = .ok (.lstore_n 3, 1) := by decide +kernel
theorem dX10_slip_45 : decode cX10_slip 45 = .ok (.lload_n 3, 1) := by decide +kernel
theorem dX10_slip_46 : decode cX10_slip 46 = .ok (.lconst 1, 1) := by decide +kernel
theorem dX10_slip_47 : decode cX10_slip 47 = .ok (.lcmp, 1) := by decide +kernel
theorem dX10_slip_48 : decode cX10_slip 48 = .ok (.ifCond .ne 5, 3) := by decide +kernel
theorem dX10_slip_51 : decode cX10_slip 51 = .ok (.lconst 0, 1) := by decide +kernel
theorem dX10_slip_52 : decode cX10_slip 52 = .ok (.lreturn, 1) := by decide +kernel
theorem dX10_slip_53 : decode cX10_slip 53 = .ok (.lload_n 3, 1) := by decide +kernel
theorem dX10_slip_54 : decode cX10_slip 54 = .ok (.ldc2_w 220, 3) := by decide +kernel
theorem dX10_slip_57 : decode cX10_slip 57 = .ok (.lcmp, 1) := by decide +kernel
theorem dX10_slip_58 : decode cX10_slip 58 = .ok (.ifCond .ne 9, 3) := by decide +kernel
theorem dX10_slip_61 : decode cX10_slip 61 = .ok (.ldc2_w 220, 3) := by decide +kernel
theorem dX10_slip_64 : decode cX10_slip 64 = .ok (.goto 8, 3) := by decide +kernel
theorem dX10_slip_67 : decode cX10_slip 67 = .ok (.aload_n 0, 1) := by decide +kernel
theorem dX10_slip_68 : decode cX10_slip 68 = .ok (.iload_n 2, 1) := by decide +kernel
theorem dX10_slip_69 : decode cX10_slip 69 = .ok (.invokevirtual 301, 3) := by decide +kernel
theorem dX10_slip_72 : decode cX10_slip 72 = .ok (.lreturn, 1) := by decide +kernel
theorem dX10_count_0 : decode cX10_count 0 = .ok (.iload_n 1, 1) := by decide +kernel
theorem dX10_count_1 : decode cX10_count 1 = .ok (.tableswitch 65 0 4 #[35, 41, 47, 53, 59], 35) := by decide +kernel
theorem dX10_count_36 : decode cX10_count 36 = .ok (.aload_n 0, 1) := by decide +kernel
theorem dX10_count_37 : decode cX10_count 37 = .ok (.getfield 99, 3) := by decide +kernel
theorem dX10_count_40 : decode cX10_count 40 = .ok (.i2l, 1) := by decide +kernel
theorem dX10_count_41 : decode cX10_count 41 = .ok (.lreturn, 1) := by decide +kernel
theorem dX10_count_42 : decode cX10_count 42 = .ok (.aload_n 0, 1) := by decide +kernel
theorem dX10_count_43 : decode cX10_count 43 = .ok (.invokevirtual 304, 3) := by decide +kernel
theorem dX10_count_46 : decode cX10_count 46 = .ok (.i2l, 1) := by decide +kernel
theorem dX10_count_47 : decode cX10_count 47 = .ok (.lreturn, 1) := by decide +kernel
theorem dX10_count_48 : decode cX10_count 48 = .ok (.aload_n 0, 1) := by decide +kernel
theorem dX10_count_49 : decode cX10_count 49 = .ok (.invokevirtual 308, 3) := by decide +kernel
theorem dX10_count_52 : decode cX10_count 52 = .ok (.i2l, 1) := by decide +kernel
theorem dX10_count_53 : decode cX10_count 53 = .ok (.lreturn, 1) := by decide +kernel
theorem dX10_count_54 : decode cX10_count 54 = .ok (.aload_n 0, 1) := by decide +kernel
theorem dX10_count_55 : decode cX10_count 55 = .ok (.getfield 275, 3) := by decide +kernel
theorem dX10_count_58 : decode cX10_count 58 = .ok (.i2l, 1) := by decide +kernel
theorem dX10_count_59 : decode cX10_count 59 = .ok (.lreturn, 1) := by decide +kernel
theorem dX10_count_60 : decode cX10_count 60 = .ok (.aload_n 0, 1) := by decide +kernel
theorem dX10_count_61 : decode cX10_count 61 = .ok (.invokevirtual 311, 3) := by decide +kernel
theorem dX10_count_64 : decode cX10_count 64 = .ok (.i2l, 1) := by decide +kernel
theorem dX10_count_65 : decode cX10_count 65 = .ok (.lreturn, 1) := by decide +kernel
theorem dX10_count_66 : decode cX10_count 66 = .ok (.ldc2_w 80, 3) := by decide +kernel
theorem dX10_count_69 : decode cX10_count 69 = .ok (.lreturn, 1) := by decide +kernel
theorem dX10_isPlace_0 : decode cX10_isPlace 0 = .ok (.iload_n 0, 1) := by decide +kernel
theorem dX10_isPlace_1 : decode cX10_isPlace 1 = .ok (.ifCond .lt 13, 3) := by decide +kernel
theorem dX10_isPlace_4 : decode cX10_isPlace 4 = .ok (.iload_n 0, 1) := by decide +kernel
theorem dX10_isPlace_5 : decode cX10_isPlace 5 = .ok (.bipush 8, 2) := by decide +kernel
theorem dX10_isPlace_7 : decode cX10_isPlace 7 = .ok (.if_icmp .ge 7, 3) := by decide +kernel
theorem dX10_isPlace_10 : decode cX10_isPlace 10 = .ok (.iconst 1, 1) := by decide +kernel
theorem dX10_isPlace_11 : decode cX10_isPlace 11 = .ok (.goto 4, 3) := by decide +kernel
theorem dX10_isPlace_14 : decode cX10_isPlace 14 = .ok (.iconst 0, 1) := by decide +kernel
theorem dX10_isPlace_15 : decode cX10_isPlace 15 = .ok (.ireturn, 1) := by decide +kernel
theorem dX10_isDay_0 : decode cX10_isDay 0 = .ok (.iload_n 0, 1) := by decide +kernel
theorem dX10_isDay_1 : decode cX10_isDay 1 = .ok (.ifCond .lt 14, 3) := by decide +kernel
theorem dX10_isDay_4 : decode cX10_isDay 4 = .ok (.iload_n 0, 1) := by decide +kernel
theorem dX10_isDay_5 : decode cX10_isDay 5 = .ok (.sipush 10000, 3) := by decide +kernel
theorem dX10_isDay_8 : decode cX10_isDay 8 = .ok (.if_icmp .ge 7, 3) := by decide +kernel
theorem dX10_isDay_11 : decode cX10_isDay 11 = .ok (.iconst 1, 1) := by decide +kernel
theorem dX10_isDay_12 : decode cX10_isDay 12 = .ok (.goto 4, 3) := by decide +kernel
theorem dX10_isDay_15 : decode cX10_isDay 15 = .ok (.iconst 0, 1) := by decide +kernel
theorem dX10_isDay_16 : decode cX10_isDay 16 = .ok (.ireturn, 1) := by decide +kernel
theorem dX10_isMeasure_0 : decode cX10_isMeasure 0 = .ok (.iload_n 0, 1) := by decide +kernel
theorem dX10_isMeasure_1 : decode cX10_isMeasure 1 = .ok (.ifCond .lt 13, 3) := by decide +kernel
theorem dX10_isMeasure_4 : decode cX10_isMeasure 4 = .ok (.iload_n 0, 1) := by decide +kernel
theorem dX10_isMeasure_5 : decode cX10_isMeasure 5 = .ok (.bipush 10, 2) := by decide +kernel
theorem dX10_isMeasure_7 : decode cX10_isMeasure 7 = .ok (.if_icmp .ge 7, 3) := by decide +kernel
theorem dX10_isMeasure_10 : decode cX10_isMeasure 10 = .ok (.iconst 1, 1) := by decide +kernel
theorem dX10_isMeasure_11 : decode cX10_isMeasure 11 = .ok (.goto 4, 3) := by decide +kernel
theorem dX10_isMeasure_14 : decode cX10_isMeasure 14 = .ok (.iconst 0, 1) := by decide +kernel
theorem dX10_isMeasure_15 : decode cX10_isMeasure 15 = .ok (.ireturn, 1) := by decide +kernel
theorem dX10_isKind_0 : decode cX10_isKind 0 = .ok (.iload_n 0, 1) := by decide +kernel
theorem dX10_isKind_1 : decode cX10_isKind 1 = .ok (.ifCond .lt 12, 3) := by decide +kernel
end
section
theorem dX10_isKind_4 : decode cX10_isKind 4 = .ok (.iload_n 0, 1) := by decide +kernel
theorem dX10_isKind_5 : decode cX10_isKind 5 = .ok (.iconst 5, 1) := by decide +kernel
theorem dX10_isKind_6 : decode cX10_isKind 6 = .ok (.if_icmp .ge 7, 3) := by decide +kernel
theorem dX10_isKind_9 : decode cX10_isKind 9 = .ok (.iconst 1, 1) := by decide +kernel
theorem dX10_isKind_10 : decode cX10_isKind 10 = .ok (.goto 4, 3) := by decide +kernel
theorem dX10_isKind_13 : decode cX10_isKind 13 = .ok (.iconst 0, 1) := by decide +kernel
theorem dX10_isKind_14 : decode cX10_isKind 14 = .ok (.ireturn, 1) := by decide +kernel
theorem dX10_isPair_0 : decode cX10_isPair 0 = .ok (.iload_n 0, 1) := by decide +kernel
theorem dX10_isPair_1 : decode cX10_isPair 1 = .ok (.ifCond .lt 13, 3) := by decide +kernel
theorem dX10_isPair_4 : decode cX10_isPair 4 = .ok (.iload_n 0, 1) := by decide +kernel
theorem dX10_isPair_5 : decode cX10_isPair 5 = .ok (.bipush 100, 2) := by decide +kernel
theorem dX10_isPair_7 : decode cX10_isPair 7 = .ok (.if_icmp .ge 7, 3) := by decide +kernel
theorem dX10_isPair_10 : decode cX10_isPair 10 = .ok (.iconst 1, 1) := by decide +kernel
theorem dX10_isPair_11 : decode cX10_isPair 11 = .ok (.goto 4, 3) := by decide +kernel
theorem dX10_isPair_14 : decode cX10_isPair 14 = .ok (.iconst 0, 1) := by decide +kernel
theorem dX10_isPair_15 : decode cX10_isPair 15 = .ok (.ireturn, 1) := by decide +kernel
theorem dX10_isPlaceAndDay_0 : decode cX10_isPlaceAndDay 0 = .ok (.iload_n 0, 1) := by decide +kernel
theorem dX10_isPlaceAndDay_1 : decode cX10_isPlaceAndDay 1 = .ok (.ifCond .lt 14, 3) := by decide +kernel
theorem dX10_isPlaceAndDay_4 : decode cX10_isPlaceAndDay 4 = .ok (.iload_n 0, 1) := by decide +kernel
theorem dX10_isPlaceAndDay_5 : decode cX10_isPlaceAndDay 5 = .ok (.ldc_w 314, 3) := by decide +kernel
theorem dX10_isPlaceAndDay_8 : decode cX10_isPlaceAndDay 8 = .ok (.if_icmp .ge 7, 3) := by decide +kernel
theorem dX10_isPlaceAndDay_11 : decode cX10_isPlaceAndDay 11 = .ok (.iconst 1, 1) := by decide +kernel
theorem dX10_isPlaceAndDay_12 : decode cX10_isPlaceAndDay 12 = .ok (.goto 4, 3) := by decide +kernel
theorem dX10_isPlaceAndDay_15 : decode cX10_isPlaceAndDay 15 = .ok (.iconst 0, 1) := by decide +kernel
theorem dX10_isPlaceAndDay_16 : decode cX10_isPlaceAndDay 16 = .ok (.ireturn, 1) := by decide +kernel
theorem dX10_isTerm_0 : decode cX10_isTerm 0 = .ok (.iload_n 0, 1) := by decide +kernel
theorem dX10_isTerm_1 : decode cX10_isTerm 1 = .ok (.iconst 1, 1) := by decide +kernel
theorem dX10_isTerm_2 : decode cX10_isTerm 2 = .ok (.if_icmp .lt 14, 3) := by decide +kernel
theorem dX10_isTerm_5 : decode cX10_isTerm 5 = .ok (.iload_n 0, 1) := by decide +kernel
theorem dX10_isTerm_6 : decode cX10_isTerm 6 = .ok (.sipush 1000, 3) := by decide +kernel
theorem dX10_isTerm_9 : decode cX10_isTerm 9 = .ok (.if_icmp .gt 7, 3) := by decide +kernel
theorem dX10_isTerm_12 : decode cX10_isTerm 12 = .ok (.iconst 1, 1) := by decide +kernel
theorem dX10_isTerm_13 : decode cX10_isTerm 13 = .ok (.goto 4, 3) := by decide +kernel
theorem dX10_isTerm_16 : decode cX10_isTerm 16 = .ok (.iconst 0, 1) := by decide +kernel
theorem dX10_isTerm_17 : decode cX10_isTerm 17 = .ok (.ireturn, 1) := by decide +kernel
theorem dX10_isEither_0 : decode cX10_isEither 0 = .ok (.iload_n 0, 1) := by decide +kernel
theorem dX10_isEither_1 : decode cX10_isEither 1 = .ok (.ifCond .eq 8, 3) := by decide +kernel
theorem dX10_isEither_4 : decode cX10_isEither 4 = .ok (.iload_n 0, 1) := by decide +kernel
theorem dX10_isEither_5 : decode cX10_isEither 5 = .ok (.iconst 1, 1) := by decide +kernel
theorem dX10_isEither_6 : decode cX10_isEither 6 = .ok (.if_icmp .ne 7, 3) := by decide +kernel
theorem dX10_isEither_9 : decode cX10_isEither 9 = .ok (.iconst 1, 1) := by decide +kernel
theorem dX10_isEither_10 : decode cX10_isEither 10 = .ok (.goto 4, 3) := by decide +kernel
theorem dX10_isEither_13 : decode cX10_isEither 13 = .ok (.iconst 0, 1) := by decide +kernel
theorem dX10_isEither_14 : decode cX10_isEither 14 = .ok (.ireturn, 1) := by decide +kernel
theorem dX10_isAmount_0 : decode cX10_isAmount 0 = .ok (.iload_n 0, 1) := by decide +kernel
theorem dX10_isAmount_1 : decode cX10_isAmount 1 = .ok (.ldc_w 315, 3) := by decide +kernel
theorem dX10_isAmount_4 : decode cX10_isAmount 4 = .ok (.if_icmp .lt 14, 3) := by decide +kernel
theorem dX10_isAmount_7 : decode cX10_isAmount 7 = .ok (.iload_n 0, 1) := by decide +kernel
theorem dX10_isAmount_8 : decode cX10_isAmount 8 = .ok (.ldc_w 316, 3) := by decide +kernel
theorem dX10_isAmount_11 : decode cX10_isAmount 11 = .ok (.if_icmp .gt 7, 3) := by decide +kernel
theorem dX10_isAmount_14 : decode cX10_isAmount 14 = .ok (.iconst 1, 1) := by decide +kernel
theorem dX10_isAmount_15 : decode cX10_isAmount 15 = .ok (.goto 4, 3) := by decide +kernel
theorem dX10_isAmount_18 : decode cX10_isAmount 18 = .ok (.iconst 0, 1) := by decide +kernel
theorem dX10_isAmount_19 : decode cX10_isAmount 19 = .ok (.ireturn, 1) := by decide +kernel
theorem dX10_find_0 : decode cX10_find 0 = .ok (.iload_n 1, 1) := by decide +kernel
theorem dX10_find_1 : decode cX10_find 1 = .ok (.ifCond .lt 20, 3) := by decide +kernel
theorem dX10_find_4 : decode cX10_find 4 = .ok (.iload_n 1, 1) := by decide +kernel
theorem dX10_find_5 : decode cX10_find 5 = .ok (.aload_n 0, 1) := by decide +kernel
theorem dX10_find_6 : decode cX10_find 6 = .ok (.getfield 99, 3) := by decide +kernel
theorem dX10_find_9 : decode cX10_find 9 = .ok (.if_icmp .ge 12, 3) := by decide +kernel
theorem dX10_find_12 : decode cX10_find 12 = .ok (.aload_n 0, 1) := by decide +kernel
theorem dX10_find_13 : decode cX10_find 13 = .ok (.getfield 15, 3) := by decide +kernel
theorem dX10_find_16 : decode cX10_find 16 = .ok (.iload_n 1, 1) := by decide +kernel
theorem dX10_find_17 : decode cX10_find 17 = .ok (.aaload, 1) := by decide +kernel
theorem dX10_find_18 : decode cX10_find 18 = .ok (.goto 4, 3) := by decide +kernel
theorem dX10_find_21 : decode cX10_find 21 = .ok (.aconst_null, 1) := by decide +kernel
theorem dX10_find_22 : decode cX10_find 22 = .ok (.areturn, 1) := by decide +kernel
theorem dX10_findCustom_0 : decode cX10_findCustom 0 = .ok (.iload_n 1, 1) := by decide +kernel
theorem dX10_findCustom_1 : decode cX10_findCustom 1 = .ok (.ifCond .lt 17, 3) := by decide +kernel
theorem dX10_findCustom_4 : decode cX10_findCustom 4 = .ok (.iload_n 1, 1) := by decide +kernel
theorem dX10_findCustom_5 : decode cX10_findCustom 5 = .ok (.iconst 4, 1) := by decide +kernel
theorem dX10_findCustom_6 : decode cX10_findCustom 6 = .ok (.if_icmp .ge 12, 3) := by decide +kernel
theorem dX10_findCustom_9 : decode cX10_findCustom 9 = .ok (.aload_n 0, 1) := by decide +kernel
theorem dX10_findCustom_10 : decode cX10_findCustom 10 = .ok (.getfield 21, 3) := by decide +kernel
theorem dX10_findCustom_13 : decode cX10_findCustom 13 = .ok (.iload_n 1, 1) := by decide +kernel
theorem dX10_findCustom_14 : decode cX10_findCustom 14 = .ok (.aaload, 1) := by decide +kernel
theorem dX10_findCustom_15 : decode cX10_findCustom 15 = .ok (.goto 4, 3) := by decide +kernel
theorem dX10_findCustom_18 : decode cX10_findCustom 18 = .ok (.aconst_null, 1) := by decide +kernel
theorem dX10_findCustom_19 : decode cX10_findCustom 19 = .ok (.areturn, 1) := by decide +kernel
theorem dX10_findLine_0 : decode cX10_findLine 0 = .ok (.iload_n 1, 1) := by decide +kernel
theorem dX10_findLine_1 : decode cX10_findLine 1 = .ok (.ifCond .lt 20, 3) := by decide +kernel
theorem dX10_findLine_4 : decode cX10_findLine 4 = .ok (.iload_n 1, 1) := by decide +kernel
theorem dX10_findLine_5 : decode cX10_findLine 5 = .ok (.aload_n 0, 1) := by decide +kernel
theorem dX10_findLine_6 : decode cX10_findLine 6 = .ok (.getfield 275, 3) := by decide +kernel
theorem dX10_findLine_9 : decode cX10_findLine 9 = .ok (.if_icmp .ge 12, 3) := by decide +kernel
theorem dX10_findLine_12 : decode cX10_findLine 12 = .ok (.aload_n 0, 1) := by decide +kernel
theorem dX10_findLine_13 : decode cX10_findLine 13 = .ok (.getfield 27, 3) := by decide +kernel
theorem dX10_findLine_16 : decode cX10_findLine 16 = .ok (.iload_n 1, 1) := by decide +kernel
theorem dX10_findLine_17 : decode cX10_findLine 17 = .ok (.aaload, 1) := by decide +kernel
theorem dX10_findLine_18 : decode cX10_findLine 18 = .ok (.goto 4, 3) := by decide +kernel
theorem dX10_findLine_21 : decode cX10_findLine 21 = .ok (.aconst_null, 1) := by decide +kernel
theorem dX10_findLine_22 : decode cX10_findLine 22 = .ok (.areturn, 1) := by decide +kernel
theorem dX10_isWithin_0 : decode cX10_isWithin 0 = .ok (.iload_n 1, 1) := by decide +kernel
theorem dX10_isWithin_1 : decode cX10_isWithin 1 = .ok (.istore_n 3, 1) := by decide +kernel
theorem dX10_isWithin_2 : decode cX10_isWithin 2 = .ok (.iconst 0, 1) := by decide +kernel
theorem dX10_isWithin_3 : decode cX10_isWithin 3 = .ok (.istore 4, 2) := by decide +kernel
theorem dX10_isWithin_5 : decode cX10_isWithin 5 = .ok (.iload 4, 2) := by decide +kernel
theorem dX10_isWithin_7 : decode cX10_isWithin 7 = .ok (.bipush 8, 2) := by decide +kernel
theorem dX10_isWithin_9 : decode cX10_isWithin 9 = .ok (.if_icmp .ge 21, 3) := by decide +kernel
theorem dX10_isWithin_12 : decode cX10_isWithin 12 = .ok (.iload_n 3, 1) := by decide +kernel
theorem dX10_isWithin_13 : decode cX10_isWithin 13 = .ok (.iload_n 2, 1) := by decide +kernel
theorem dX10_isWithin_14 : decode cX10_isWithin 14 = .ok (.if_icmp .le 16, 3) := by decide +kernel
theorem dX10_isWithin_17 : decode cX10_isWithin 17 = .ok (.aload_n 0, 1) := by decide +kernel
theorem dX10_isWithin_18 : decode cX10_isWithin 18 = .ok (.getfield 9, 3) := by decide +kernel
theorem dX10_isWithin_21 : decode cX10_isWithin 21 = .ok (.iload_n 3, 1) := by decide +kernel
theorem dX10_isWithin_22 : decode cX10_isWithin 22 = .ok (.iaload, 1) := by decide +kernel
theorem dX10_isWithin_23 : decode cX10_isWithin 23 = .ok (.istore_n 3, 1) := by decide +kernel
theorem dX10_isWithin_24 : decode cX10_isWithin 24 = .ok (.iinc 4 1, 3) := by decide +kernel
theorem dX10_isWithin_27 : decode cX10_isWithin 27 = .ok (.goto (-22), 3) := by decide +kernel
theorem dX10_isWithin_30 : decode cX10_isWithin 30 = .ok (.iload_n 3, 1) := by decide +kernel
theorem dX10_isWithin_31 : decode cX10_isWithin 31 = .ok (.iload_n 2, 1) := by decide +kernel
theorem dX10_isWithin_32 : decode cX10_isWithin 32 = .ok (.if_icmp .ne 7, 3) := by decide +kernel
theorem dX10_isWithin_35 : decode cX10_isWithin 35 = .ok (.iconst 1, 1) := by decide +kernel
theorem dX10_isWithin_36 : decode cX10_isWithin 36 = .ok (.goto 4, 3) := by decide +kernel
theorem dX10_isWithin_39 : decode cX10_isWithin 39 = .ok (.iconst 0, 1) := by decide +kernel
theorem dX10_isWithin_40 : decode cX10_isWithin 40 = .ok (.ireturn, 1) := by decide +kernel
theorem dX10_countsAt_0 : decode cX10_countsAt 0 = .ok (.aload_n 1, 1) := by decide +kernel
theorem dX10_countsAt_1 : decode cX10_countsAt 1 = .ok (.getfield 138, 3) := by decide +kernel
theorem dX10_countsAt_4 : decode cX10_countsAt 4 = .ok (.ifCond .ne 19, 3) := by decide +kernel
theorem dX10_countsAt_7 : decode cX10_countsAt 7 = .ok (.iload_n 3, 1) := by decide +kernel
theorem dX10_countsAt_8 : decode cX10_countsAt 8 = .ok (.aload_n 1, 1) := by decide +kernel
theorem dX10_countsAt_9 : decode cX10_countsAt 9 = .ok (.getfield 118, 3) := by decide +kernel
theorem dX10_countsAt_12 : decode cX10_countsAt 12 = .ok (.if_icmp .lt 11, 3) := by decide +kernel
theorem dX10_countsAt_15 : decode cX10_countsAt 15 = .ok (.iload_n 3, 1) := by decide +kernel
theorem dX10_countsAt_16 : decode cX10_countsAt 16 = .ok (.aload_n 1, 1) := by decide +kernel
theorem dX10_countsAt_17 : decode cX10_countsAt 17 = .ok (.getfield 121, 3) := by decide +kernel
theorem dX10_countsAt_20 : decode cX10_countsAt 20 = .ok (.if_icmp .le 5, 3) := by decide +kernel
theorem dX10_countsAt_23 : decode cX10_countsAt 23 = .ok (.iconst 0, 1) := by decide +kernel
theorem dX10_countsAt_24 : decode cX10_countsAt 24 = .ok (.ireturn, 1) := by decide +kernel
theorem dX10_countsAt_25 : decode cX10_countsAt 25 = .ok (.aload_n 1, 1) := by decide +kernel
theorem dX10_countsAt_26 : decode cX10_countsAt 26 = .ok (.getfield 142, 3) := by decide +kernel
theorem dX10_countsAt_29 : decode cX10_countsAt 29 = .ok (.iconst 3, 1) := by decide +kernel
theorem dX10_countsAt_30 : decode cX10_countsAt 30 = .ok (.if_icmp .ne 19, 3) := by decide +kernel
theorem dX10_countsAt_33 : decode cX10_countsAt 33 = .ok (.iload_n 2, 1) := by decide +kernel
theorem dX10_countsAt_34 : decode cX10_countsAt 34 = .ok (.aload_n 1, 1) := by decide +kernel
theorem dX10_countsAt_35 : decode cX10_countsAt 35 = .ok (.getfield 115, 3) := by decide +kernel
theorem dX10_countsAt_38 : decode cX10_countsAt 38 = .ok (.if_icmp .ne 7, 3) := by decide +kernel
theorem dX10_countsAt_41 : decode cX10_countsAt 41 = .ok (.iconst 1, 1) := by decide +kernel
theorem dX10_countsAt_42 : decode cX10_countsAt 42 = .ok (.goto 16, 3) := by decide +kernel
theorem dX10_countsAt_45 : decode cX10_countsAt 45 = .ok (.iconst 0, 1) := by decide +kernel
theorem dX10_countsAt_46 : decode cX10_countsAt 46 = .ok (.goto 12, 3) := by decide +kernel
theorem dX10_countsAt_49 : decode cX10_countsAt 49 = .ok (.aload_n 0, 1) := by decide +kernel
theorem dX10_countsAt_50 : decode cX10_countsAt 50 = .ok (.iload_n 2, 1) := by decide +kernel
theorem dX10_countsAt_51 : decode cX10_countsAt 51 = .ok (.aload_n 1, 1) := by decide +kernel
theorem dX10_countsAt_52 : decode cX10_countsAt 52 = .ok (.getfield 115, 3) := by decide +kernel
theorem dX10_countsAt_55 : decode cX10_countsAt 55 = .ok (.invokevirtual 86, 3) := by decide +kernel
theorem dX10_countsAt_58 : decode cX10_countsAt 58 = .ok (.ireturn, 1) := by decide +kernel
theorem dX10_gather_0 : decode cX10_gather 0 = .ok (.aload_n 0, 1) := by decide +kernel
theorem dX10_gather_1 : decode cX10_gather 1 = .ok (.getfield 34, 3) := by decide +kernel
theorem dX10_gather_4 : decode cX10_gather 4 = .ok (.iconst 0, 1) := by decide +kernel
theorem dX10_gather_5 : decode cX10_gather 5 = .ok (.putfield 317, 3) := by decide +kernel
theorem dX10_gather_8 : decode cX10_gather 8 = .ok (.iconst 0, 1) := by decide +kernel
theorem dX10_gather_9 : decode cX10_gather 9 = .ok (.istore_n 2, 1) := by decide +kernel
theorem dX10_gather_10 : decode cX10_gather 10 = .ok (.iload_n 2, 1) := by decide +kernel
theorem dX10_gather_11 : decode cX10_gather 11 = .ok (.aload_n 0, 1) := by decide +kernel
theorem dX10_gather_12 : decode cX10_gather 12 = .ok (.getfield 99, 3) := by decide +kernel
theorem dX10_gather_15 : decode cX10_gather 15 = .ok (.if_icmp .ge 46, 3) := by decide +kernel
theorem dX10_gather_18 : decode cX10_gather 18 = .ok (.aload_n 0, 1) := by decide +kernel
theorem dX10_gather_19 : decode cX10_gather 19 = .ok (.getfield 15, 3) := by decide +kernel
theorem dX10_gather_22 : decode cX10_gather 22 = .ok (.iload_n 2, 1) := by decide +kernel
theorem dX10_gather_23 : decode cX10_gather 23 = .ok (.aaload, 1) := by decide +kernel
theorem dX10_gather_24 : decode cX10_gather 24 = .ok (.astore_n 3, 1) := by decide +kernel
theorem dX10_gather_25 : decode cX10_gather 25 = .ok (.aload_n 3, 1) := by decide +kernel
theorem dX10_gather_26 : decode cX10_gather 26 = .ok (.ifnull 29, 3) := by decide +kernel
theorem dX10_gather_29 : decode cX10_gather 29 = .ok (.aload_n 0, 1) := by decide +kernel
theorem dX10_gather_30 : decode cX10_gather 30 = .ok (.aload_n 3, 1) := by decide +kernel
theorem dX10_gather_31 : decode cX10_gather 31 = .ok (.iload_n 1, 1) := by decide +kernel
theorem dX10_gather_32 : decode cX10_gather 32 = .ok (.sipush 10000, 3) := by decide +kernel
theorem dX10_gather_35 : decode cX10_gather 35 = .ok (.idiv, 1) := by decide +kernel
theorem dX10_gather_36 : decode cX10_gather 36 = .ok (.iload_n 1, 1) := by decide +kernel
theorem dX10_gather_37 : decode cX10_gather 37 = .ok (.sipush 10000, 3) := by decide +kernel
theorem dX10_gather_40 : decode cX10_gather 40 = .ok (.irem, 1) := by decide +kernel
theorem dX10_gather_41 : decode cX10_gather 41 = .ok (.invokevirtual 170, 3) := by decide +kernel
theorem dX10_gather_44 : decode cX10_gather 44 = .ok (.ifCond .eq 11, 3) := by decide +kernel
theorem dX10_gather_47 : decode cX10_gather 47 = .ok (.aload_n 0, 1) := by decide +kernel
theorem dX10_gather_48 : decode cX10_gather 48 = .ok (.getfield 34, 3) := by decide +kernel
theorem dX10_gather_51 : decode cX10_gather 51 = .ok (.aload_n 3, 1) := by decide +kernel
theorem dX10_gather_52 : decode cX10_gather 52 = .ok (.invokevirtual 320, 3) := by decide +kernel
theorem dX10_gather_55 : decode cX10_gather 55 = .ok (.iinc 2 1, 3) := by decide +kernel
theorem dX10_gather_58 : decode cX10_gather 58 = .ok (.goto (-48), 3) := by decide +kernel
theorem dX10_gather_61 : decode cX10_gather 61 = .ok (.return_, 1) := by decide +kernel
theorem dX10_endOf_0 : decode cX10_endOf 0 = .ok (.aload_n 0, 1) := by decide +kernel
theorem dX10_endOf_1 : decode cX10_endOf 1 = .ok (.getfield 324, 3) := by decide +kernel
theorem dX10_endOf_4 : decode cX10_endOf 4 = .ok (.ifCond .ne 10, 3) := by decide +kernel
theorem dX10_endOf_7 : decode cX10_endOf 7 = .ok (.aload_n 1, 1) := by decide +kernel
theorem dX10_endOf_8 : decode cX10_endOf 8 = .ok (.getfield 324, 3) := by decide +kernel
theorem dX10_endOf_11 : decode cX10_endOf 11 = .ok (.ifCond .eq 7, 3) := by decide +kernel
theorem dX10_endOf_14 : decode cX10_endOf 14 = .ok (.ldc2_w 220, 3) := by decide +kernel
theorem dX10_endOf_17 : decode cX10_endOf 17 = .ok (.lreturn, 1) := by decide +kernel
theorem dX10_endOf_18 : decode cX10_endOf 18 = .ok (.iload_n 2, 1) := by decide +kernel
theorem dX10_endOf_19 : decode cX10_endOf 19 = .ok (.ifCond .ne 7, 3) := by decide +kernel
theorem dX10_endOf_22 : decode cX10_endOf 22 = .ok (.aload_n 0, 1) := by decide +kernel
theorem dX10_endOf_23 : decode cX10_endOf 23 = .ok (.goto 4, 3) := by decide +kernel
theorem dX10_endOf_26 : decode cX10_endOf 26 = .ok (.aload_n 1, 1) := by decide +kernel
theorem dX10_endOf_27 : decode cX10_endOf 27 = .ok (.astore 4, 2) := by decide +kernel
theorem dX10_endOf_29 : decode cX10_endOf 29 = .ok (.iload_n 3, 1) := by decide +kernel
theorem dX10_endOf_30 : decode cX10_endOf 30 = .ok (.ifCond .ne 11, 3) := by decide +kernel
theorem dX10_endOf_33 : decode cX10_endOf 33 = .ok (.aload 4, 2) := by decide +kernel
theorem dX10_endOf_35 : decode cX10_endOf 35 = .ok (.getfield 325, 3) := by decide +kernel
theorem dX10_endOf_38 : decode cX10_endOf 38 = .ok (.goto 8, 3) := by decide +kernel
theorem dX10_endOf_41 : decode cX10_endOf 41 = .ok (.aload 4, 2) := by decide +kernel
theorem dX10_endOf_43 : decode cX10_endOf 43 = .ok (.getfield 328, 3) := by decide +kernel
theorem dX10_endOf_46 : decode cX10_endOf 46 = .ok (.lreturn, 1) := by decide +kernel
theorem dX10_findCure_0 : decode cX10_findCure 0 = .ok (.aload_n 0, 1) := by decide +kernel
theorem dX10_findCure_1 : decode cX10_findCure 1 = .ok (.iload_n 1, 1) := by decide +kernel
theorem dX10_findCure_2 : decode cX10_findCure 2 = .ok (.invokevirtual 177, 3) := by decide +kernel
theorem dX10_findCure_5 : decode cX10_findCure 5 = .ok (.aload_n 0, 1) := by decide +kernel
theorem dX10_findCure_6 : decode cX10_findCure 6 = .ok (.getfield 62, 3) := by decide +kernel
theorem dX10_findCure_9 : decode cX10_findCure 9 = .ok (.invokevirtual 210, 3) := by decide +kernel
theorem dX10_findCure_12 : decode cX10_findCure 12 = .ok (.aload_n 0, 1) := by decide +kernel
theorem dX10_findCure_13 : decode cX10_findCure 13 = .ok (.getfield 62, 3) := by decide +kernel
theorem dX10_findCure_16 : decode cX10_findCure 16 = .ok (.aload_n 0, 1) := by decide +kernel
theorem dX10_findCure_17 : decode cX10_findCure 17 = .ok (.getfield 34, 3) := by decide +kernel
theorem dX10_findCure_20 : decode cX10_findCure 20 = .ok (.invokevirtual 331, 3) := by decide +kernel
theorem dX10_findCure_23 : decode cX10_findCure 23 = .ok (.ifCond .ne 7, 3) := by decide +kernel
theorem dX10_findCure_26 : decode cX10_findCure 26 = .ok (.ldc2_w 220, 3) := by decide +kernel
theorem dX10_findCure_29 : decode cX10_findCure 29 = .ok (.lreturn, 1) := by decide +kernel
theorem dX10_findCure_30 : decode cX10_findCure 30 = .ok (.aload_n 0, 1) := by decide +kernel
theorem dX10_findCure_31 : decode cX10_findCure 31 = .ok (.getfield 34, 3) := by decide +kernel
theorem dX10_findCure_34 : decode cX10_findCure 34 = .ok (.aload_n 0, 1) := by decide +kernel
theorem dX10_findCure_35 : decode cX10_findCure 35 = .ok (.getfield 62, 3) := by decide +kernel
theorem dX10_findCure_38 : decode cX10_findCure 38 = .ok (.invokevirtual 213, 3) := by decide +kernel
theorem dX10_findCure_41 : decode cX10_findCure 41 = .ok (.aload_n 0, 1) := by decide +kernel
theorem dX10_findCure_42 : decode cX10_findCure 42 = .ok (.getfield 62, 3) := by decide +kernel
theorem dX10_findCure_45 : decode cX10_findCure 45 = .ok (.getfield 217, 3) := by decide +kernel
theorem dX10_findCure_48 : decode cX10_findCure 48 = .ok (.ifCond .eq 9, 3) := by decide +kernel
theorem dX10_findCure_51 : decode cX10_findCure 51 = .ok (.ldc2_w 220, 3) := by decide +kernel
theorem dX10_findCure_54 : decode cX10_findCure 54 = .ok (.goto 10, 3) := by decide +kernel
theorem dX10_findCure_57 : decode cX10_findCure 57 = .ok (.aload_n 0, 1) := by decide +kernel
theorem dX10_findCure_58 : decode cX10_findCure 58 = .ok (.getfield 62, 3) := by decide +kernel
theorem dX10_findCure_61 : decode cX10_findCure 61 = .ok (.invokevirtual 335, 3) := by decide +kernel
theorem dX10_findCure_64 : decode cX10_findCure 64 = .ok (.lreturn, 1) := by decide +kernel
theorem dX10_droppedOnes_0 : decode cX10_droppedOnes 0 = .ok (.iconst 0, 1) := by decide +kernel
theorem dX10_droppedOnes_1 : decode cX10_droppedOnes 1 = .ok (.istore_n 1, 1) := by decide +kernel
theorem dX10_droppedOnes_2 : decode cX10_droppedOnes 2 = .ok (.iconst 0, 1) := by decide +kernel
theorem dX10_droppedOnes_3 : decode cX10_droppedOnes 3 = .ok (.istore_n 2, 1) := by decide +kernel
theorem dX10_droppedOnes_4 : decode cX10_droppedOnes 4 = .ok (.iload_n 2, 1) := by decide +kernel
theorem dX10_droppedOnes_5 : decode cX10_droppedOnes 5 = .ok (.aload_n 0, 1) := by decide +kernel
theorem dX10_droppedOnes_6 : decode cX10_droppedOnes 6 = .ok (.getfield 99, 3) := by decide +kernel
theorem dX10_droppedOnes_9 : decode cX10_droppedOnes 9 = .ok (.if_icmp .ge 30, 3) := by decide +kernel
theorem dX10_droppedOnes_12 : decode cX10_droppedOnes 12 = .ok (.aload_n 0, 1) := by decide +kernel
theorem dX10_droppedOnes_13 : decode cX10_droppedOnes 13 = .ok (.getfield 15, 3) := by decide +kernel
theorem dX10_droppedOnes_16 : decode cX10_droppedOnes 16 = .ok (.iload_n 2, 1) := by decide +kernel
theorem dX10_droppedOnes_17 : decode cX10_droppedOnes 17 = .ok (.aaload, 1) := by decide +kernel
theorem dX10_droppedOnes_18 : decode cX10_droppedOnes 18 = .ok (.astore_n 3, 1) := by decide +kernel
theorem dX10_droppedOnes_19 : decode cX10_droppedOnes 19 = .ok (.aload_n 3, 1) := by decide +kernel
theorem dX10_droppedOnes_20 : decode cX10_droppedOnes 20 = .ok (.ifnull 13, 3) := by decide +kernel
theorem dX10_droppedOnes_23 : decode cX10_droppedOnes 23 = .ok (.aload_n 3, 1) := by decide +kernel
theorem dX10_droppedOnes_24 : decode cX10_droppedOnes 24 = .ok (.getfield 138, 3) := by decide +kernel
theorem dX10_droppedOnes_27 : decode cX10_droppedOnes 27 = .ok (.ifCond .eq 6, 3) := by decide +kernel
theorem dX10_droppedOnes_30 : decode cX10_droppedOnes 30 = .ok (.iinc 1 1, 3) := by decide +kernel
theorem dX10_droppedOnes_33 : decode cX10_droppedOnes 33 = .ok (.iinc 2 1, 3) := by decide +kernel
theorem dX10_droppedOnes_36 : decode cX10_droppedOnes 36 = .ok (.goto (-32), 3) := by decide +kernel
theorem dX10_droppedOnes_39 : decode cX10_droppedOnes 39 = .ok (.iload_n 1, 1) := by decide +kernel
theorem dX10_droppedOnes_40 : decode cX10_droppedOnes 40 = .ok (.ireturn, 1) := by decide +kernel
theorem dX10_customsThere_0 : decode cX10_customsThere 0 = .ok (.iconst 0, 1) := by decide +kernel
theorem dX10_customsThere_1 : decode cX10_customsThere 1 = .ok (.istore_n 1, 1) := by decide +kernel
theorem dX10_customsThere_2 : decode cX10_customsThere 2 = .ok (.iconst 0, 1) := by decide +kernel
theorem dX10_customsThere_3 : decode cX10_customsThere 3 = .ok (.istore_n 2, 1) := by decide +kernel
theorem dX10_customsThere_4 : decode cX10_customsThere 4 = .ok (.iload_n 2, 1) := by decide +kernel
theorem dX10_customsThere_5 : decode cX10_customsThere 5 = .ok (.iconst 4, 1) := by decide +kernel
theorem dX10_customsThere_6 : decode cX10_customsThere 6 = .ok (.if_icmp .ge 24, 3) := by decide +kernel
theorem dX10_customsThere_9 : decode cX10_customsThere 9 = .ok (.aload_n 0, 1) := by decide +kernel
theorem dX10_customsThere_10 : decode cX10_customsThere 10 = .ok (.getfield 21, 3) := by decide +kernel
theorem dX10_customsThere_13 : decode cX10_customsThere 13 = .ok (.iload_n 2, 1) := by decide +kernel
theorem dX10_customsThere_14 : decode cX10_customsThere 14 = .ok (.aaload, 1) := by decide +kernel
theorem dX10_customsThere_15 : decode cX10_customsThere 15 = .ok (.getfield 242, 3) := by decide +kernel
theorem dX10_customsThere_18 : decode cX10_customsThere 18 = .ok (.ifCond .ne 6, 3) := by decide +kernel
theorem dX10_customsThere_21 : decode cX10_customsThere 21 = .ok (.iinc 1 1, 3) := by decide +kernel
theorem dX10_customsThere_24 : decode cX10_customsThere 24 = .ok (.iinc 2 1, 3) := by decide +kernel
theorem dX10_customsThere_27 : decode cX10_customsThere 27 = .ok (.goto (-23), 3) := by decide +kernel
theorem dX10_customsThere_30 : decode cX10_customsThere 30 = .ok (.iload_n 1, 1) := by decide +kernel
theorem dX10_customsThere_31 : decode cX10_customsThere 31 = .ok (.ireturn, 1) := by decide +kernel
theorem dX10_measuresNamed_0 : decode cX10_measuresNamed 0 = .ok (.iconst 0, 1) := by decide +kernel
theorem dX10_measuresNamed_1 : decode cX10_measuresNamed 1 = .ok (.istore_n 1, 1) := by decide +kernel
theorem dX10_measuresNamed_2 : decode cX10_measuresNamed 2 = .ok (.iconst 0, 1) := by decide +kernel
theorem dX10_measuresNamed_3 : decode cX10_measuresNamed 3 = .ok (.istore_n 2, 1) := by decide +kernel
theorem dX10_measuresNamed_4 : decode cX10_measuresNamed 4 = .ok (.iload_n 2, 1) := by decide +kernel
theorem dX10_measuresNamed_5 : decode cX10_measuresNamed 5 = .ok (.aload_n 0, 1) := by decide +kernel
theorem dX10_measuresNamed_6 : decode cX10_measuresNamed 6 = .ok (.getfield 99, 3) := by decide +kernel
theorem dX10_measuresNamed_9 : decode cX10_measuresNamed 9 = .ok (.if_icmp .ge 36, 3) := by decide +kernel
theorem dX10_measuresNamed_12 : decode cX10_measuresNamed 12 = .ok (.aload_n 0, 1) := by decide +kernel
theorem dX10_measuresNamed_13 : decode cX10_measuresNamed 13 = .ok (.getfield 15, 3) := by decide +kernel
theorem dX10_measuresNamed_16 : decode cX10_measuresNamed 16 = .ok (.iload_n 2, 1) := by decide +kernel
theorem dX10_measuresNamed_17 : decode cX10_measuresNamed 17 = .ok (.aaload, 1) := by decide +kernel
theorem dX10_measuresNamed_18 : decode cX10_measuresNamed 18 = .ok (.astore_n 3, 1) := by decide +kernel
theorem dX10_measuresNamed_19 : decode cX10_measuresNamed 19 = .ok (.aload_n 3, 1) := by decide +kernel
theorem dX10_measuresNamed_20 : decode cX10_measuresNamed 20 = .ok (.ifnull 19, 3) := by decide +kernel
theorem dX10_measuresNamed_23 : decode cX10_measuresNamed 23 = .ok (.iload_n 1, 1) := by decide +kernel
theorem dX10_measuresNamed_24 : decode cX10_measuresNamed 24 = .ok (.iconst 1, 1) := by decide +kernel
theorem dX10_measuresNamed_25 : decode cX10_measuresNamed 25 = .ok (.aload_n 3, 1) := by decide +kernel
theorem dX10_measuresNamed_26 : decode cX10_measuresNamed 26 = .ok (.getfield 145, 3) := by decide +kernel
theorem dX10_measuresNamed_29 : decode cX10_measuresNamed 29 = .ok (.ishl, 1) := by decide +kernel
theorem dX10_measuresNamed_30 : decode cX10_measuresNamed 30 = .ok (.iconst 1, 1) := by decide +kernel
theorem dX10_measuresNamed_31 : decode cX10_measuresNamed 31 = .ok (.aload_n 3, 1) := by decide +kernel
theorem dX10_measuresNamed_32 : decode cX10_measuresNamed 32 = .ok (.getfield 148, 3) := by decide +kernel
theorem dX10_measuresNamed_35 : decode cX10_measuresNamed 35 = .ok (.ishl, 1) := by decide +kernel
theorem dX10_measuresNamed_36 : decode cX10_measuresNamed 36 = .ok (.ior, 1) := by decide +kernel
theorem dX10_measuresNamed_37 : decode cX10_measuresNamed 37 = .ok (.ior, 1) := by decide +kernel
theorem dX10_measuresNamed_38 : decode cX10_measuresNamed 38 = .ok (.istore_n 1, 1) := by decide +kernel
theorem dX10_measuresNamed_39 : decode cX10_measuresNamed 39 = .ok (.iinc 2 1, 3) := by decide +kernel
theorem dX10_measuresNamed_42 : decode cX10_measuresNamed 42 = .ok (.goto (-38), 3) := by decide +kernel
theorem dX10_measuresNamed_45 : decode cX10_measuresNamed 45 = .ok (.iload_n 1, 1) := by decide +kernel
theorem dX10_measuresNamed_46 : decode cX10_measuresNamed 46 = .ok (.invokestatic 339, 3) := by decide +kernel
theorem dX10_measuresNamed_49 : decode cX10_measuresNamed 49 = .ok (.ireturn, 1) := by decide +kernel
theorem dX10_weighLines_0 : decode cX10_weighLines 0 = .ok (.iconst 0, 1) := by decide +kernel
theorem dX10_weighLines_1 : decode cX10_weighLines 1 = .ok (.istore_n 2, 1) := by decide +kernel
theorem dX10_weighLines_2 : decode cX10_weighLines 2 = .ok (.iload_n 2, 1) := by decide +kernel
theorem dX10_weighLines_3 : decode cX10_weighLines 3 = .ok (.aload_n 0, 1) := by decide +kernel
theorem dX10_weighLines_4 : decode cX10_weighLines 4 = .ok (.getfield 275, 3) := by decide +kernel
theorem dX10_weighLines_7 : decode cX10_weighLines 7 = .ok (.if_icmp .ge 87, 3) := by decide +kernel
theorem dX10_weighLines_10 : decode cX10_weighLines 10 = .ok (.aload_n 0, 1) := by decide +kernel
theorem dX10_weighLines_11 : decode cX10_weighLines 11 = .ok (.getfield 27, 3) := by decide +kernel
theorem dX10_weighLines_14 : decode cX10_weighLines 14 = .ok (.iload_n 2, 1) := by decide +kernel
theorem dX10_weighLines_15 : decode cX10_weighLines 15 = .ok (.aaload, 1) := by decide +kernel
theorem dX10_weighLines_16 : decode cX10_weighLines 16 = .ok (.astore_n 3, 1) := by decide +kernel
theorem dX10_weighLines_17 : decode cX10_weighLines 17 = .ok (.aload_n 3, 1) := by decide +kernel
theorem dX10_weighLines_18 : decode cX10_weighLines 18 = .ok (.ifnull 70, 3) := by decide +kernel
theorem dX10_weighLines_21 : decode cX10_weighLines 21 = .ok (.aload_n 0, 1) := by decide +kernel
theorem dX10_weighLines_22 : decode cX10_weighLines 22 = .ok (.aload_n 3, 1) := by decide +kernel
theorem dX10_weighLines_23 : decode cX10_weighLines 23 = .ok (.getfield 344, 3) := by decide +kernel
theorem dX10_weighLines_26 : decode cX10_weighLines 26 = .ok (.sipush 10000, 3) := by decide +kernel
theorem dX10_weighLines_29 : decode cX10_weighLines 29 = .ok (.imul, 1) := by decide +kernel
theorem dX10_weighLines_30 : decode cX10_weighLines 30 = .ok (.aload_n 3, 1) := by decide +kernel
theorem dX10_weighLines_31 : decode cX10_weighLines 31 = .ok (.getfield 345, 3) := by decide +kernel
theorem dX10_weighLines_34 : decode cX10_weighLines 34 = .ok (.iadd, 1) := by decide +kernel
theorem dX10_weighLines_35 : decode cX10_weighLines 35 = .ok (.invokevirtual 177, 3) := by decide +kernel
theorem dX10_weighLines_38 : decode cX10_weighLines 38 = .ok (.aload_n 0, 1) := by decide +kernel
theorem dX10_weighLines_39 : decode cX10_weighLines 39 = .ok (.getfield 34, 3) := by decide +kernel
theorem dX10_weighLines_42 : decode cX10_weighLines 42 = .ok (.aload_n 3, 1) := by decide +kernel
theorem dX10_weighLines_43 : decode cX10_weighLines 43 = .ok (.getfield 348, 3) := by decide +kernel
theorem dX10_weighLines_46 : decode cX10_weighLines 46 = .ok (.iload_n 1, 1) := by decide +kernel
theorem dX10_weighLines_47 : decode cX10_weighLines 47 = .ok (.iconst 0, 1) := by decide +kernel
theorem dX10_weighLines_48 : decode cX10_weighLines 48 = .ok (.aload_n 0, 1) := by decide +kernel
theorem dX10_weighLines_49 : decode cX10_weighLines 49 = .ok (.getfield 48, 3) := by decide +kernel
theorem dX10_weighLines_52 : decode cX10_weighLines 52 = .ok (.invokevirtual 189, 3) := by decide +kernel
theorem dX10_weighLines_55 : decode cX10_weighLines 55 = .ok (.ifCond .ne 5, 3) := by decide +kernel
theorem dX10_weighLines_58 : decode cX10_weighLines 58 = .ok (.iconst 0, 1) := by decide +kernel
theorem dX10_weighLines_59 : decode cX10_weighLines 59 = .ok (.ireturn, 1) := by decide +kernel
theorem dX10_weighLines_60 : decode cX10_weighLines 60 = .ok (.aload_n 3, 1) := by decide +kernel
theorem dX10_weighLines_61 : decode cX10_weighLines 61 = .ok (.getfield 351, 3) := by decide +kernel
theorem dX10_weighLines_64 : decode cX10_weighLines 64 = .ok (.aload_n 0, 1) := by decide +kernel
theorem dX10_weighLines_65 : decode cX10_weighLines 65 = .ok (.getfield 34, 3) := by decide +kernel
theorem dX10_weighLines_68 : decode cX10_weighLines 68 = .ok (.invokevirtual 201, 3) := by decide +kernel
theorem dX10_weighLines_71 : decode cX10_weighLines 71 = .ok (.invokevirtual 352, 3) := by decide +kernel
theorem dX10_weighLines_74 : decode cX10_weighLines 74 = .ok (.aload_n 3, 1) := by decide +kernel
theorem dX10_weighLines_75 : decode cX10_weighLines 75 = .ok (.getfield 356, 3) := by decide +kernel
theorem dX10_weighLines_78 : decode cX10_weighLines 78 = .ok (.aload_n 0, 1) := by decide +kernel
theorem dX10_weighLines_79 : decode cX10_weighLines 79 = .ok (.getfield 34, 3) := by decide +kernel
theorem dX10_weighLines_82 : decode cX10_weighLines 82 = .ok (.invokevirtual 204, 3) := by decide +kernel
theorem dX10_weighLines_85 : decode cX10_weighLines 85 = .ok (.invokevirtual 352, 3) := by decide +kernel
theorem dX10_weighLines_88 : decode cX10_weighLines 88 = .ok (.iinc 2 1, 3) := by decide +kernel
theorem dX10_weighLines_91 : decode cX10_weighLines 91 = .ok (.goto (-89), 3) := by decide +kernel
theorem dX10_weighLines_94 : decode cX10_weighLines 94 = .ok (.iconst 1, 1) := by decide +kernel
theorem dX10_weighLines_95 : decode cX10_weighLines 95 = .ok (.ireturn, 1) := by decide +kernel
theorem dX10_sumLines_0 : decode cX10_sumLines 0 = .ok (.aload_n 0, 1) := by decide +kernel
theorem dX10_sumLines_1 : decode cX10_sumLines 1 = .ok (.getfield 69, 3) := by decide +kernel
theorem dX10_sumLines_4 : decode cX10_sumLines 4 = .ok (.lconst 0, 1) := by decide +kernel
theorem dX10_sumLines_5 : decode cX10_sumLines 5 = .ok (.lconst 1, 1) := by decide +kernel
theorem dX10_sumLines_6 : decode cX10_sumLines 6 = .ok (.invokevirtual 357, 3) := by decide +kernel
theorem dX10_sumLines_9 : decode cX10_sumLines 9 = .ok (.aload_n 0, 1) := by decide +kernel
theorem dX10_sumLines_10 : decode cX10_sumLines 10 = .ok (.getfield 73, 3) := by decide +kernel
theorem dX10_sumLines_13 : decode cX10_sumLines 13 = .ok (.lconst 0, 1) := by decide +kernel
theorem dX10_sumLines_14 : decode cX10_sumLines 14 = .ok (.lconst 1, 1) := by decide +kernel
theorem dX10_sumLines_15 : decode cX10_sumLines 15 = .ok (.invokevirtual 357, 3) := by decide +kernel
theorem dX10_sumLines_18 : decode cX10_sumLines 18 = .ok (.iconst 0, 1) := by decide +kernel
theorem dX10_sumLines_19 : decode cX10_sumLines 19 = .ok (.istore 4, 2) := by decide +kernel
theorem dX10_sumLines_21 : decode cX10_sumLines 21 = .ok (.iload 4, 2) := by decide +kernel
theorem dX10_sumLines_23 : decode cX10_sumLines 23 = .ok (.aload_n 0, 1) := by decide +kernel
theorem dX10_sumLines_24 : decode cX10_sumLines 24 = .ok (.getfield 275, 3) := by decide +kernel
theorem dX10_sumLines_27 : decode cX10_sumLines 27 = .ok (.if_icmp .ge 123, 3) := by decide +kernel
theorem dX10_sumLines_30 : decode cX10_sumLines 30 = .ok (.aload_n 0, 1) := by decide +kernel
theorem dX10_sumLines_31 : decode cX10_sumLines 31 = .ok (.getfield 27, 3) := by decide +kernel
theorem dX10_sumLines_34 : decode cX10_sumLines 34 = .ok (.iload 4, 2) := by decide +kernel
theorem dX10_sumLines_36 : decode cX10_sumLines 36 = .ok (.aaload, 1) := by decide +kernel
theorem dX10_sumLines_37 : decode cX10_sumLines 37 = .ok (.astore 5, 2) := by decide +kernel
theorem dX10_sumLines_39 : decode cX10_sumLines 39 = .ok (.aload 5, 2) := by decide +kernel
theorem dX10_sumLines_41 : decode cX10_sumLines 41 = .ok (.ifnull 103, 3) := by decide +kernel
theorem dX10_sumLines_44 : decode cX10_sumLines 44 = .ok (.iload 4, 2) := by decide +kernel
theorem dX10_sumLines_46 : decode cX10_sumLines 46 = .ok (.iload_n 1, 1) := by decide +kernel
theorem dX10_sumLines_47 : decode cX10_sumLines 47 = .ok (.if_icmp .ne 7, 3) := by decide +kernel
theorem dX10_sumLines_50 : decode cX10_sumLines 50 = .ok (.lload_n 2, 1) := by decide +kernel
theorem dX10_sumLines_51 : decode cX10_sumLines 51 = .ok (.goto 9, 3) := by decide +kernel
theorem dX10_sumLines_54 : decode cX10_sumLines 54 = .ok (.aload 5, 2) := by decide +kernel
theorem dX10_sumLines_56 : decode cX10_sumLines 56 = .ok (.getfield 285, 3) := by decide +kernel
theorem dX10_sumLines_59 : decode cX10_sumLines 59 = .ok (.i2l, 1) := by decide +kernel
theorem dX10_sumLines_60 : decode cX10_sumLines 60 = .ok (.lstore 6, 2) := by decide +kernel
theorem dX10_sumLines_62 : decode cX10_sumLines 62 = .ok (.aload_n 0, 1) := by decide +kernel
theorem dX10_sumLines_63 : decode cX10_sumLines 63 = .ok (.getfield 76, 3) := by decide +kernel
theorem dX10_sumLines_66 : decode cX10_sumLines 66 = .ok (.lload 6, 2) := by decide +kernel
theorem dX10_sumLines_68 : decode cX10_sumLines 68 = .ok (.lconst 0, 1) := by decide +kernel
theorem dX10_sumLines_69 : decode cX10_sumLines 69 = .ok (.lcmp, 1) := by decide +kernel
theorem dX10_sumLines_70 : decode cX10_sumLines 70 = .ok (.ifCond .ge 11, 3) := by decide +kernel
theorem dX10_sumLines_73 : decode cX10_sumLines 73 = .ok (.aload 5, 2) := by decide +kernel
theorem dX10_sumLines_75 : decode cX10_sumLines 75 = .ok (.getfield 356, 3) := by decide +kernel
theorem dX10_sumLines_78 : decode cX10_sumLines 78 = .ok (.goto 8, 3) := by decide +kernel
theorem dX10_sumLines_81 : decode cX10_sumLines 81 = .ok (.aload 5, 2) := by decide +kernel
theorem dX10_sumLines_83 : decode cX10_sumLines 83 = .ok (.getfield 351, 3) := by decide +kernel
theorem dX10_sumLines_86 : decode cX10_sumLines 86 = .ok (.lload 6, 2) := by decide +kernel
theorem dX10_sumLines_88 : decode cX10_sumLines 88 = .ok (.lconst 1, 1) := by decide +kernel
theorem dX10_sumLines_89 : decode cX10_sumLines 89 = .ok (.invokevirtual 360, 3) := by decide +kernel
theorem dX10_sumLines_92 : decode cX10_sumLines 92 = .ok (.aload_n 0, 1) := by decide +kernel
theorem dX10_sumLines_93 : decode cX10_sumLines 93 = .ok (.getfield 69, 3) := by decide +kernel
theorem dX10_sumLines_96 : decode cX10_sumLines 96 = .ok (.aload_n 0, 1) := by decide +kernel
theorem dX10_sumLines_97 : decode cX10_sumLines 97 = .ok (.getfield 76, 3) := by decide +kernel
theorem dX10_sumLines_100 : decode cX10_sumLines 100 = .ok (.invokevirtual 364, 3) := by decide +kernel
theorem dX10_sumLines_103 : decode cX10_sumLines 103 = .ok (.aload_n 0, 1) := by decide +kernel
theorem dX10_sumLines_104 : decode cX10_sumLines 104 = .ok (.getfield 76, 3) := by decide +kernel
theorem dX10_sumLines_107 : decode cX10_sumLines 107 = .ok (.lload 6, 2) := by decide +kernel
theorem dX10_sumLines_109 : decode cX10_sumLines 109 = .ok (.lconst 0, 1) := by decide +kernel
theorem dX10_sumLines_110 : decode cX10_sumLines 110 = .ok (.lcmp, 1) := by decide +kernel
theorem dX10_sumLines_111 : decode cX10_sumLines 111 = .ok (.ifCond .ge 11, 3) := by decide +kernel
theorem dX10_sumLines_114 : decode cX10_sumLines 114 = .ok (.aload 5, 2) := by decide +kernel
theorem dX10_sumLines_116 : decode cX10_sumLines 116 = .ok (.getfield 351, 3) := by decide +kernel
theorem dX10_sumLines_119 : decode cX10_sumLines 119 = .ok (.goto 8, 3) := by decide +kernel
theorem dX10_sumLines_122 : decode cX10_sumLines 122 = .ok (.aload 5, 2) := by decide +kernel
theorem dX10_sumLines_124 : decode cX10_sumLines 124 = .ok (.getfield 356, 3) := by decide +kernel
theorem dX10_sumLines_127 : decode cX10_sumLines 127 = .ok (.lload 6, 2) := by decide +kernel
theorem dX10_sumLines_129 : decode cX10_sumLines 129 = .ok (.lconst 1, 1) := by decide +kernel
theorem dX10_sumLines_130 : decode cX10_sumLines 130 = .ok (.invokevirtual 360, 3) := by decide +kernel
theorem dX10_sumLines_133 : decode cX10_sumLines 133 = .ok (.aload_n 0, 1) := by decide +kernel
theorem dX10_sumLines_134 : decode cX10_sumLines 134 = .ok (.getfield 73, 3) := by decide +kernel
theorem dX10_sumLines_137 : decode cX10_sumLines 137 = .ok (.aload_n 0, 1) := by decide +kernel
theorem dX10_sumLines_138 : decode cX10_sumLines 138 = .ok (.getfield 76, 3) := by decide +kernel
theorem dX10_sumLines_141 : decode cX10_sumLines 141 = .ok (.invokevirtual 364, 3) := by decide +kernel
theorem dX10_sumLines_144 : decode cX10_sumLines 144 = .ok (.iinc 4 1, 3) := by decide +kernel
theorem dX10_sumLines_147 : decode cX10_sumLines 147 = .ok (.goto (-126), 3) := by decide +kernel
theorem dX10_sumLines_150 : decode cX10_sumLines 150 = .ok (.return_, 1) := by decide +kernel
theorem dX10_tryAmount_0 : decode cX10_tryAmount 0 = .ok (.aload_n 0, 1) := by decide +kernel
theorem dX10_tryAmount_1 : decode cX10_tryAmount 1 = .ok (.iload_n 1, 1) := by decide +kernel
theorem dX10_tryAmount_2 : decode cX10_tryAmount 2 = .ok (.lload_n 2, 1) := by decide +kernel
theorem dX10_tryAmount_3 : decode cX10_tryAmount 3 = .ok (.invokevirtual 291, 3) := by decide +kernel
theorem dX10_tryAmount_6 : decode cX10_tryAmount 6 = .ok (.aload_n 0, 1) := by decide +kernel
theorem dX10_tryAmount_7 : decode cX10_tryAmount 7 = .ok (.getfield 69, 3) := by decide +kernel
theorem dX10_tryAmount_10 : decode cX10_tryAmount 10 = .ok (.getfield 324, 3) := by decide +kernel
theorem dX10_tryAmount_13 : decode cX10_tryAmount 13 = .ok (.ifCond .ne 13, 3) := by decide +kernel
theorem dX10_tryAmount_16 : decode cX10_tryAmount 16 = .ok (.aload_n 0, 1) := by decide +kernel
theorem dX10_tryAmount_17 : decode cX10_tryAmount 17 = .ok (.getfield 73, 3) := by decide +kernel
theorem dX10_tryAmount_20 : decode cX10_tryAmount 20 = .ok (.getfield 324, 3) := by decide +kernel
theorem dX10_tryAmount_23 : decode cX10_tryAmount 23 = .ok (.ifCond .eq 7, 3) := by decide +kernel
theorem dX10_tryAmount_26 : decode cX10_tryAmount 26 = .ok (.ldc2_w 220, 3) := by decide +kernel
theorem dX10_tryAmount_29 : decode cX10_tryAmount 29 = .ok (.lreturn, 1) := by decide +kernel
theorem dX10_tryAmount_30 : decode cX10_tryAmount 30 = .ok (.aload_n 0, 1) := by decide +kernel
theorem dX10_tryAmount_31 : decode cX10_tryAmount 31 = .ok (.getfield 69, 3) := by decide +kernel
theorem dX10_tryAmount_34 : decode cX10_tryAmount 34 = .ok (.invokevirtual 367, 3) := by decide +kernel
theorem dX10_tryAmount_37 : decode cX10_tryAmount 37 = .ok (.iload 4, 2) := by decide +kernel
theorem dX10_tryAmount_39 : decode cX10_tryAmount 39 = .ok (.i2l, 1) := by decide +kernel
theorem dX10_tryAmount_40 : decode cX10_tryAmount 40 = .ok (.lcmp, 1) := by decide +kernel
theorem dX10_tryAmount_41 : decode cX10_tryAmount 41 = .ok (.ifCond .gt 21, 3) := by decide +kernel
theorem dX10_tryAmount_44 : decode cX10_tryAmount 44 = .ok (.iload 4, 2) := by decide +kernel
theorem dX10_tryAmount_46 : decode cX10_tryAmount 46 = .ok (.i2l, 1) := by decide +kernel
theorem dX10_tryAmount_47 : decode cX10_tryAmount 47 = .ok (.aload_n 0, 1) := by decide +kernel
theorem dX10_tryAmount_48 : decode cX10_tryAmount 48 = .ok (.getfield 73, 3) := by decide +kernel
theorem dX10_tryAmount_51 : decode cX10_tryAmount 51 = .ok (.invokevirtual 370, 3) := by decide +kernel
theorem dX10_tryAmount_54 : decode cX10_tryAmount 54 = .ok (.lcmp, 1) := by decide +kernel
theorem dX10_tryAmount_55 : decode cX10_tryAmount 55 = .ok (.ifCond .gt 7, 3) := by decide +kernel
theorem dX10_tryAmount_58 : decode cX10_tryAmount 58 = .ok (.lconst 1, 1) := by decide +kernel
theorem dX10_tryAmount_59 : decode cX10_tryAmount 59 = .ok (.goto 4, 3) := by decide +kernel
theorem dX10_tryAmount_62 : decode cX10_tryAmount 62 = .ok (.lconst 0, 1) := by decide +kernel
theorem dX10_tryAmount_63 : decode cX10_tryAmount 63 = .ok (.lreturn, 1) := by decide +kernel
theorem dX10_firstSlip_0 : decode cX10_firstSlip 0 = .ok (.iconst 1, 1) := by decide +kernel
theorem dX10_firstSlip_1 : decode cX10_firstSlip 1 = .ok (.istore_n 2, 1) := by decide +kernel
theorem dX10_firstSlip_2 : decode cX10_firstSlip 2 = .ok (.iload_n 2, 1) := by decide +kernel
theorem dX10_firstSlip_3 : decode cX10_firstSlip 3 = .ok (.iconst 2, 1) := by decide +kernel
theorem dX10_firstSlip_4 : decode cX10_firstSlip 4 = .ok (.if_icmp .gt 64, 3) := by decide +kernel
theorem dX10_firstSlip_7 : decode cX10_firstSlip 7 = .ok (.iconst 0, 1) := by decide +kernel
theorem dX10_firstSlip_8 : decode cX10_firstSlip 8 = .ok (.istore_n 3, 1) := by decide +kernel
theorem dX10_firstSlip_9 : decode cX10_firstSlip 9 = .ok (.iload_n 3, 1) := by decide +kernel
theorem dX10_firstSlip_10 : decode cX10_firstSlip 10 = .ok (.aload_n 0, 1) := by decide +kernel
theorem dX10_firstSlip_11 : decode cX10_firstSlip 11 = .ok (.getfield 275, 3) := by decide +kernel
theorem dX10_firstSlip_14 : decode cX10_firstSlip 14 = .ok (.if_icmp .ge 48, 3) := by decide +kernel
theorem dX10_firstSlip_17 : decode cX10_firstSlip 17 = .ok (.aload_n 0, 1) := by decide +kernel
theorem dX10_firstSlip_18 : decode cX10_firstSlip 18 = .ok (.getfield 27, 3) := by decide +kernel
theorem dX10_firstSlip_21 : decode cX10_firstSlip 21 = .ok (.iload_n 3, 1) := by decide +kernel
theorem dX10_firstSlip_22 : decode cX10_firstSlip 22 = .ok (.aaload, 1) := by decide +kernel
theorem dX10_firstSlip_23 : decode cX10_firstSlip 23 = .ok (.astore 4, 2) := by decide +kernel
theorem dX10_firstSlip_25 : decode cX10_firstSlip 25 = .ok (.aload 4, 2) := by decide +kernel
theorem dX10_firstSlip_27 : decode cX10_firstSlip 27 = .ok (.ifnull 29, 3) := by decide +kernel
theorem dX10_firstSlip_30 : decode cX10_firstSlip 30 = .ok (.aload_n 0, 1) := by decide +kernel
theorem dX10_firstSlip_31 : decode cX10_firstSlip 31 = .ok (.iload_n 3, 1) := by decide +kernel
theorem dX10_firstSlip_32 : decode cX10_firstSlip 32 = .ok (.aload 4, 2) := by decide +kernel
theorem dX10_firstSlip_34 : decode cX10_firstSlip 34 = .ok (.getfield 285, 3) := by decide +kernel
theorem dX10_firstSlip_37 : decode cX10_firstSlip 37 = .ok (.iload_n 2, 1) := by decide +kernel
theorem dX10_firstSlip_38 : decode cX10_firstSlip 38 = .ok (.iload_n 1, 1) := by decide +kernel
theorem dX10_firstSlip_39 : decode cX10_firstSlip 39 = .ok (.invokevirtual 373, 3) := by decide +kernel
theorem dX10_firstSlip_42 : decode cX10_firstSlip 42 = .ok (.lstore 5, 2) := by decide +kernel
theorem dX10_firstSlip_44 : decode cX10_firstSlip 44 = .ok (.lload 5, 2) := by decide +kernel
theorem dX10_firstSlip_46 : decode cX10_firstSlip 46 = .ok (.ldc2_w 196, 3) := by decide +kernel
theorem dX10_firstSlip_49 : decode cX10_firstSlip 49 = .ok (.lcmp, 1) := by decide +kernel
theorem dX10_firstSlip_50 : decode cX10_firstSlip 50 = .ok (.ifCond .eq 6, 3) := by decide +kernel
theorem dX10_firstSlip_53 : decode cX10_firstSlip 53 = .ok (.lload 5, 2) := by decide +kernel
theorem dX10_firstSlip_55 : decode cX10_firstSlip 55 = .ok (.lreturn, 1) := by decide +kernel
theorem dX10_firstSlip_56 : decode cX10_firstSlip 56 = .ok (.iinc 3 1, 3) := by decide +kernel
theorem dX10_firstSlip_59 : decode cX10_firstSlip 59 = .ok (.goto (-50), 3) := by decide +kernel
theorem dX10_firstSlip_62 : decode cX10_firstSlip 62 = .ok (.iinc 2 1, 3) := by decide +kernel
theorem dX10_firstSlip_65 : decode cX10_firstSlip 65 = .ok (.goto (-63), 3) := by decide +kernel
theorem dX10_firstSlip_68 : decode cX10_firstSlip 68 = .ok (.ldc2_w 196, 3) := by decide +kernel
theorem dX10_firstSlip_71 : decode cX10_firstSlip 71 = .ok (.lreturn, 1) := by decide +kernel
theorem dX10_slipOfLine_0 : decode cX10_slipOfLine 0 = .ok (.iconst 2, 1) := by decide +kernel
theorem dX10_slipOfLine_1 : decode cX10_slipOfLine 1 = .ok (.iload_n 3, 1) := by decide +kernel
theorem dX10_slipOfLine_2 : decode cX10_slipOfLine 2 = .ok (.imul, 1) := by decide +kernel
theorem dX10_slipOfLine_3 : decode cX10_slipOfLine 3 = .ok (.istore 5, 2) := by decide +kernel
theorem dX10_slipOfLine_5 : decode cX10_slipOfLine 5 = .ok (.iload 5, 2) := by decide +kernel
theorem dX10_slipOfLine_7 : decode cX10_slipOfLine 7 = .ok (.iconst 1, 1) := by decide +kernel
theorem dX10_slipOfLine_8 : decode cX10_slipOfLine 8 = .ok (.isub, 1) := by decide +kernel
theorem dX10_slipOfLine_9 : decode cX10_slipOfLine 9 = .ok (.istore 6, 2) := by decide +kernel
theorem dX10_slipOfLine_11 : decode cX10_slipOfLine 11 = .ok (.iload 6, 2) := by decide +kernel
theorem dX10_slipOfLine_13 : decode cX10_slipOfLine 13 = .ok (.iload 5, 2) := by decide +kernel
theorem dX10_slipOfLine_15 : decode cX10_slipOfLine 15 = .ok (.if_icmp .gt 64, 3) := by decide +kernel
theorem dX10_slipOfLine_18 : decode cX10_slipOfLine 18 = .ok (.iload 6, 2) := by decide +kernel
theorem dX10_slipOfLine_20 : decode cX10_slipOfLine 20 = .ok (.iload_n 2, 1) := by decide +kernel
theorem dX10_slipOfLine_21 : decode cX10_slipOfLine 21 = .ok (.invokestatic 377, 3) := by decide +kernel
theorem dX10_slipOfLine_24 : decode cX10_slipOfLine 24 = .ok (.ifCond .eq 49, 3) := by decide +kernel
theorem dX10_slipOfLine_27 : decode cX10_slipOfLine 27 = .ok (.aload_n 0, 1) := by decide +kernel
theorem dX10_slipOfLine_28 : decode cX10_slipOfLine 28 = .ok (.iload_n 1, 1) := by decide +kernel
theorem dX10_slipOfLine_29 : decode cX10_slipOfLine 29 = .ok (.iload 6, 2) := by decide +kernel
theorem dX10_slipOfLine_31 : decode cX10_slipOfLine 31 = .ok (.iload_n 2, 1) := by decide +kernel
theorem dX10_slipOfLine_32 : decode cX10_slipOfLine 32 = .ok (.invokestatic 380, 3) := by decide +kernel
theorem dX10_slipOfLine_35 : decode cX10_slipOfLine 35 = .ok (.iload 4, 2) := by decide +kernel
theorem dX10_slipOfLine_37 : decode cX10_slipOfLine 37 = .ok (.invokevirtual 297, 3) := by decide +kernel
theorem dX10_slipOfLine_40 : decode cX10_slipOfLine 40 = .ok (.lstore 7, 2) := by decide +kernel
theorem dX10_slipOfLine_42 : decode cX10_slipOfLine 42 = .ok (.lload 7, 2) := by decide +kernel
theorem dX10_slipOfLine_44 : decode cX10_slipOfLine 44 = .ok (.lconst 0, 1) := by decide +kernel
theorem dX10_slipOfLine_45 : decode cX10_slipOfLine 45 = .ok (.lcmp, 1) := by decide +kernel
theorem dX10_slipOfLine_46 : decode cX10_slipOfLine 46 = .ok (.ifCond .eq 27, 3) := by decide +kernel
theorem dX10_slipOfLine_49 : decode cX10_slipOfLine 49 = .ok (.lload 7, 2) := by decide +kernel
theorem dX10_slipOfLine_51 : decode cX10_slipOfLine 51 = .ok (.lconst 1, 1) := by decide +kernel
theorem dX10_slipOfLine_52 : decode cX10_slipOfLine 52 = .ok (.lcmp, 1) := by decide +kernel
theorem dX10_slipOfLine_53 : decode cX10_slipOfLine 53 = .ok (.ifCond .ne 16, 3) := by decide +kernel
theorem dX10_slipOfLine_56 : decode cX10_slipOfLine 56 = .ok (.ldc2_w 384, 3) := by decide +kernel
theorem dX10_slipOfLine_59 : decode cX10_slipOfLine 59 = .ok (.iload_n 1, 1) := by decide +kernel
theorem dX10_slipOfLine_60 : decode cX10_slipOfLine 60 = .ok (.i2l, 1) := by decide +kernel
theorem dX10_slipOfLine_61 : decode cX10_slipOfLine 61 = .ok (.lmul, 1) := by decide +kernel
theorem dX10_slipOfLine_62 : decode cX10_slipOfLine 62 = .ok (.iload 6, 2) := by decide +kernel
theorem dX10_slipOfLine_64 : decode cX10_slipOfLine 64 = .ok (.i2l, 1) := by decide +kernel
theorem dX10_slipOfLine_65 : decode cX10_slipOfLine 65 = .ok (.ladd, 1) := by decide +kernel
theorem dX10_slipOfLine_66 : decode cX10_slipOfLine 66 = .ok (.goto 6, 3) := by decide +kernel
theorem dX10_slipOfLine_69 : decode cX10_slipOfLine 69 = .ok (.ldc2_w 220, 3) := by decide +kernel
theorem dX10_slipOfLine_72 : decode cX10_slipOfLine 72 = .ok (.lreturn, 1) := by decide +kernel
theorem dX10_slipOfLine_73 : decode cX10_slipOfLine 73 = .ok (.iinc 6 1, 3) := by decide +kernel
theorem dX10_slipOfLine_76 : decode cX10_slipOfLine 76 = .ok (.goto (-65), 3) := by decide +kernel
theorem dX10_slipOfLine_79 : decode cX10_slipOfLine 79 = .ok (.ldc2_w 196, 3) := by decide +kernel
theorem dX10_slipOfLine_82 : decode cX10_slipOfLine 82 = .ok (.lreturn, 1) := by decide +kernel
theorem dX11_init_0 : decode cX11_init 0 = .ok (.aload_n 0, 1) := by decide +kernel
theorem dX11_init_1 : decode cX11_init 1 = .ok (.invokespecial 1, 3) := by decide +kernel
theorem dX11_init_4 : decode cX11_init 4 = .ok (.aload_n 0, 1) := by decide +kernel
theorem dX11_init_5 : decode cX11_init 5 = .ok (.bipush 8, 2) := by decide +kernel
theorem dX11_init_7 : decode cX11_init 7 = .ok (.newarray .int, 2) := by decide +kernel
theorem dX11_init_9 : decode cX11_init 9 = .ok (.putfield 7, 3) := by decide +kernel
theorem dX11_init_12 : decode cX11_init 12 = .ok (.aload_n 0, 1) := by decide +kernel
theorem dX11_init_13 : decode cX11_init 13 = .ok (.bipush 24, 2) := by decide +kernel
theorem dX11_init_15 : decode cX11_init 15 = .ok (.newarray .int, 2) := by decide +kernel
theorem dX11_init_17 : decode cX11_init 17 = .ok (.putfield 13, 3) := by decide +kernel
theorem dX11_init_20 : decode cX11_init 20 = .ok (.aload_n 0, 1) := by decide +kernel
theorem dX11_init_21 : decode cX11_init 21 = .ok (.bipush 24, 2) := by decide +kernel
theorem dX11_init_23 : decode cX11_init 23 = .ok (.newarray .int, 2) := by decide +kernel
theorem dX11_init_25 : decode cX11_init 25 = .ok (.putfield 16, 3) := by decide +kernel
theorem dX11_init_28 : decode cX11_init 28 = .ok (.aload_n 0, 1) := by decide +kernel
theorem dX11_init_29 : decode cX11_init 29 = .ok (.bipush 24, 2) := by decide +kernel
theorem dX11_init_31 : decode cX11_init 31 = .ok (.newarray .int, 2) := by decide +kernel
theorem dX11_init_33 : decode cX11_init 33 = .ok (.putfield 19, 3) := by decide +kernel
theorem dX11_init_36 : decode cX11_init 36 = .ok (.aload_n 0, 1) := by decide +kernel
theorem dX11_init_37 : decode cX11_init 37 = .ok (.bipush 24, 2) := by decide +kernel
theorem dX11_init_39 : decode cX11_init 39 = .ok (.newarray .int, 2) := by decide +kernel
theorem dX11_init_41 : decode cX11_init 41 = .ok (.putfield 22, 3) := by decide +kernel
theorem dX11_init_44 : decode cX11_init 44 = .ok (.aload_n 0, 1) := by decide +kernel
theorem dX11_init_45 : decode cX11_init 45 = .ok (.bipush 24, 2) := by decide +kernel
theorem dX11_init_47 : decode cX11_init 47 = .ok (.newarray .int, 2) := by decide +kernel
theorem dX11_init_49 : decode cX11_init 49 = .ok (.putfield 25, 3) := by decide +kernel
theorem dX11_init_52 : decode cX11_init 52 = .ok (.aload_n 0, 1) := by decide +kernel
theorem dX11_init_53 : decode cX11_init 53 = .ok (.bipush 24, 2) := by decide +kernel
theorem dX11_init_55 : decode cX11_init 55 = .ok (.newarray .int, 2) := by decide +kernel
theorem dX11_init_57 : decode cX11_init 57 = .ok (.putfield 28, 3) := by decide +kernel
theorem dX11_init_60 : decode cX11_init 60 = .ok (.aload_n 0, 1) := by decide +kernel
theorem dX11_init_61 : decode cX11_init 61 = .ok (.bipush 24, 2) := by decide +kernel
theorem dX11_init_63 : decode cX11_init 63 = .ok (.newarray .int, 2) := by decide +kernel
theorem dX11_init_65 : decode cX11_init 65 = .ok (.putfield 31, 3) := by decide +kernel
theorem dX11_init_68 : decode cX11_init 68 = .ok (.aload_n 0, 1) := by decide +kernel
theorem dX11_init_69 : decode cX11_init 69 = .ok (.bipush 24, 2) := by decide +kernel
theorem dX11_init_71 : decode cX11_init 71 = .ok (.newarray .int, 2) := by decide +kernel
theorem dX11_init_73 : decode cX11_init 73 = .ok (.putfield 34, 3) := by decide +kernel
theorem dX11_init_76 : decode cX11_init 76 = .ok (.aload_n 0, 1) := by decide +kernel
theorem dX11_init_77 : decode cX11_init 77 = .ok (.bipush 24, 2) := by decide +kernel
theorem dX11_init_79 : decode cX11_init 79 = .ok (.newarray .int, 2) := by decide +kernel
theorem dX11_init_81 : decode cX11_init 81 = .ok (.putfield 37, 3) := by decide +kernel
theorem dX11_init_84 : decode cX11_init 84 = .ok (.aload_n 0, 1) := by decide +kernel
theorem dX11_init_85 : decode cX11_init 85 = .ok (.bipush 24, 2) := by decide +kernel
theorem dX11_init_87 : decode cX11_init 87 = .ok (.newarray .int, 2) := by decide +kernel
theorem dX11_init_89 : decode cX11_init 89 = .ok (.putfield 40, 3) := by decide +kernel
theorem dX11_init_92 : decode cX11_init 92 = .ok (.aload_n 0, 1) := by decide +kernel
theorem dX11_init_93 : decode cX11_init 93 = .ok (.bipush 24, 2) := by decide +kernel
theorem dX11_init_95 : decode cX11_init 95 = .ok (.newarray .boolean, 2) := by decide +kernel
theorem dX11_init_97 : decode cX11_init 97 = .ok (.putfield 43, 3) := by decide +kernel
theorem dX11_init_100 : decode cX11_init 100 = .ok (.aload_n 0, 1) := by decide +kernel
theorem dX11_init_101 : decode cX11_init 101 = .ok (.iconst 4, 1) := by decide +kernel
theorem dX11_init_102 : decode cX11_init 102 = .ok (.newarray .int, 2) := by decide +kernel
theorem dX11_init_104 : decode cX11_init 104 = .ok (.putfield 47, 3) := by decide +kernel
theorem dX11_init_107 : decode cX11_init 107 = .ok (.aload_n 0, 1) := by decide +kernel
theorem dX11_init_108 : decode cX11_init 108 = .ok (.bipush 20, 2) := by decide +kernel
theorem dX11_init_110 : decode cX11_init 110 = .ok (.newarray .int, 2) := by decide +kernel
theorem dX11_init_112 : decode cX11_init 112 = .ok (.putfield 50, 3) := by decide +kernel
theorem dX11_init_115 : decode cX11_init 115 = .ok (.aload_n 0, 1) := by decide +kernel
theorem dX11_init_116 : decode cX11_init 116 = .ok (.bipush 20, 2) := by decide +kernel
theorem dX11_init_118 : decode cX11_init 118 = .ok (.newarray .int, 2) := by decide +kernel
theorem dX11_init_120 : decode cX11_init 120 = .ok (.putfield 53, 3) := by decide +kernel
theorem dX11_init_123 : decode cX11_init 123 = .ok (.aload_n 0, 1) := by decide +kernel
theorem dX11_init_124 : decode cX11_init 124 = .ok (.bipush 20, 2) := by decide +kernel
theorem dX11_init_126 : decode cX11_init 126 = .ok (.newarray .int, 2) := by decide +kernel
theorem dX11_init_128 : decode cX11_init 128 = .ok (.putfield 56, 3) := by decide +kernel
theorem dX11_init_131 : decode cX11_init 131 = .ok (.aload_n 0, 1) := by decide +kernel
theorem dX11_init_132 : decode cX11_init 132 = .ok (.bipush 20, 2) := by decide +kernel
theorem dX11_init_134 : decode cX11_init 134 = .ok (.newarray .int, 2) := by decide +kernel
theorem dX11_init_136 : decode cX11_init 136 = .ok (.putfield 59, 3) := by decide +kernel
theorem dX11_init_139 : decode cX11_init 139 = .ok (.aload_n 0, 1) := by decide +kernel
theorem dX11_init_140 : decode cX11_init 140 = .ok (.bipush 20, 2) := by decide +kernel
theorem dX11_init_142 : decode cX11_init 142 = .ok (.newarray .int, 2) := by decide +kernel
theorem dX11_init_144 : decode cX11_init 144 = .ok (.putfield 62, 3) := by decide +kernel
theorem dX11_init_147 : decode cX11_init 147 = .ok (.aload_n 0, 1) := by decide +kernel
theorem dX11_init_148 : decode cX11_init 148 = .ok (.bipush 12, 2) := by decide +kernel
theorem dX11_init_150 : decode cX11_init 150 = .ok (.newarray .long, 2) := by decide +kernel
theorem dX11_init_152 : decode cX11_init 152 = .ok (.putfield 65, 3) := by decide +kernel
theorem dX11_init_155 : decode cX11_init 155 = .ok (.aload_n 0, 1) := by decide +kernel
theorem dX11_init_156 : decode cX11_init 156 = .ok (.bipush 24, 2) := by decide +kernel
theorem dX11_init_158 : decode cX11_init 158 = .ok (.newarray .boolean, 2) := by decide +kernel
theorem dX11_init_160 : decode cX11_init 160 = .ok (.putfield 69, 3) := by decide +kernel
theorem dX11_init_163 : decode cX11_init 163 = .ok (.aload_n 0, 1) := by decide +kernel
theorem dX11_init_164 : decode cX11_init 164 = .ok (.bipush 11, 2) := by decide +kernel
theorem dX11_init_166 : decode cX11_init 166 = .ok (.newarray .int, 2) := by decide +kernel
theorem dX11_init_168 : decode cX11_init 168 = .ok (.putfield 72, 3) := by decide +kernel
theorem dX11_init_171 : decode cX11_init 171 = .ok (.aload_n 0, 1) := by decide +kernel
theorem dX11_init_172 : decode cX11_init 172 = .ok (.bipush 25, 2) := by decide +kernel
theorem dX11_init_174 : decode cX11_init 174 = .ok (.newarray .int, 2) := by decide +kernel
theorem dX11_init_176 : decode cX11_init 176 = .ok (.putfield 75, 3) := by decide +kernel
theorem dX11_init_179 : decode cX11_init 179 = .ok (.aload_n 0, 1) := by decide +kernel
theorem dX11_init_180 : decode cX11_init 180 = .ok (.bipush 25, 2) := by decide +kernel
theorem dX11_init_182 : decode cX11_init 182 = .ok (.newarray .int, 2) := by decide +kernel
theorem dX11_init_184 : decode cX11_init 184 = .ok (.putfield 78, 3) := by decide +kernel
theorem dX11_init_187 : decode cX11_init 187 = .ok (.aload_n 0, 1) := by decide +kernel
theorem dX11_init_188 : decode cX11_init 188 = .ok (.sipush 1024, 3) := by decide +kernel
theorem dX11_init_191 : decode cX11_init 191 = .ok (.newarray .boolean, 2) := by decide +kernel
theorem dX11_init_193 : decode cX11_init 193 = .ok (.putfield 81, 3) := by decide +kernel
theorem dX11_init_196 : decode cX11_init 196 = .ok (.aload_n 0, 1) := by decide +kernel
theorem dX11_init_197 : decode cX11_init 197 = .ok (.bipush 24, 2) := by decide +kernel
theorem dX11_init_199 : decode cX11_init 199 = .ok (.newarray .int, 2) := by decide +kernel
theorem dX11_init_201 : decode cX11_init 201 = .ok (.putfield 84, 3) := by decide +kernel
theorem dX11_init_204 : decode cX11_init 204 = .ok (.aload_n 0, 1) := by decide +kernel
theorem dX11_init_205 : decode cX11_init 205 = .ok (.bipush 80, 2) := by decide +kernel
theorem dX11_init_207 : decode cX11_init 207 = .ok (.newarray .long, 2) := by decide +kernel
theorem dX11_init_209 : decode cX11_init 209 = .ok (.putfield 87, 3) := by decide +kernel
theorem dX11_init_212 : decode cX11_init 212 = .ok (.iconst 0, 1) := by decide +kernel
theorem dX11_init_213 : decode cX11_init 213 = .ok (.istore_n 1, 1) := by decide +kernel
theorem dX11_init_214 : decode cX11_init 214 = .ok (.iload_n 1, 1) := by decide +kernel
theorem dX11_init_215 : decode cX11_init 215 = .ok (.iconst 4, 1) := by decide +kernel
theorem dX11_init_216 : decode cX11_init 216 = .ok (.if_icmp .ge 16, 3) := by decide +kernel
theorem dX11_init_219 : decode cX11_init 219 = .ok (.aload_n 0, 1) := by decide +kernel
theorem dX11_init_220 : decode cX11_init 220 = .ok (.getfield 47, 3) := by decide +kernel
theorem dX11_init_223 : decode cX11_init 223 = .ok (.iload_n 1, 1) := by decide +kernel
theorem dX11_init_224 : decode cX11_init 224 = .ok (.iconst (-1), 1) := by decide +kernel
theorem dX11_init_225 : decode cX11_init 225 = .ok (.iastore, 1) := by decide +kernel
theorem dX11_init_226 : decode cX11_init 226 = .ok (.iinc 1 1, 3) := by decide +kernel
theorem dX11_init_229 : decode cX11_init 229 = .ok (.goto (-15), 3) := by decide +kernel
theorem dX11_init_232 : decode cX11_init 232 = .ok (.return_, 1) := by decide +kernel
theorem dX11_isIn_0 : decode cX11_isIn 0 = .ok (.lload_n 0, 1) := by decide +kernel
theorem dX11_isIn_1 : decode cX11_isIn 1 = .ok (.lload_n 2, 1) := by decide +kernel
theorem dX11_isIn_2 : decode cX11_isIn 2 = .ok (.lcmp, 1) := by decide +kernel
theorem dX11_isIn_3 : decode cX11_isIn 3 = .ok (.ifCond .lt 14, 3) := by decide +kernel
theorem dX11_isIn_6 : decode cX11_isIn 6 = .ok (.lload_n 0, 1) := by decide +kernel
theorem dX11_isIn_7 : decode cX11_isIn 7 = .ok (.lload 4, 2) := by decide +kernel
theorem dX11_isIn_9 : decode cX11_isIn 9 = .ok (.lcmp, 1) := by decide +kernel
theorem dX11_isIn_10 : decode cX11_isIn 10 = .ok (.ifCond .gt 7, 3) := by decide +kernel
theorem dX11_isIn_13 : decode cX11_isIn 13 = .ok (.iconst 1, 1) := by decide +kernel
theorem dX11_isIn_14 : decode cX11_isIn 14 = .ok (.goto 4, 3) := by decide +kernel
theorem dX11_isIn_17 : decode cX11_isIn 17 = .ok (.iconst 0, 1) := by decide +kernel
theorem dX11_isIn_18 : decode cX11_isIn 18 = .ok (.ireturn, 1) := by decide +kernel
theorem dX11_common_0 : decode cX11_common 0 = .ok (.lload_n 0, 1) := by decide +kernel
theorem dX11_common_1 : decode cX11_common 1 = .ok (.lconst 0, 1) := by decide +kernel
theorem dX11_common_2 : decode cX11_common 2 = .ok (.lcmp, 1) := by decide +kernel
theorem dX11_common_3 : decode cX11_common 3 = .ok (.ifCond .ge 8, 3) := by decide +kernel
theorem dX11_common_6 : decode cX11_common 6 = .ok (.lload_n 0, 1) := by decide +kernel
theorem dX11_common_7 : decode cX11_common 7 = .ok (.lneg, 1) := by decide +kernel
theorem dX11_common_8 : decode cX11_common 8 = .ok (.goto 4, 3) := by decide +kernel
theorem dX11_common_11 : decode cX11_common 11 = .ok (.lload_n 0, 1) := by decide +kernel
theorem dX11_common_12 : decode cX11_common 12 = .ok (.lstore 4, 2) := by decide +kernel
theorem dX11_common_14 : decode cX11_common 14 = .ok (.lload_n 2, 1) := by decide +kernel
theorem dX11_common_15 : decode cX11_common 15 = .ok (.lconst 0, 1) := by decide +kernel
theorem dX11_common_16 : decode cX11_common 16 = .ok (.lcmp, 1) := by decide +kernel
theorem dX11_common_17 : decode cX11_common 17 = .ok (.ifCond .ge 8, 3) := by decide +kernel
theorem dX11_common_20 : decode cX11_common 20 = .ok (.lload_n 2, 1) := by decide +kernel
theorem dX11_common_21 : decode cX11_common 21 = .ok (.lneg, 1) := by decide +kernel
theorem dX11_common_22 : decode cX11_common 22 = .ok (.goto 4, 3) := by decide +kernel
theorem dX11_common_25 : decode cX11_common 25 = .ok (.lload_n 2, 1) := by decide +kernel
theorem dX11_common_26 : decode cX11_common 26 = .ok (.lstore 6, 2) := by decide +kernel
theorem dX11_common_28 : decode cX11_common 28 = .ok (.lload 6, 2) := by decide +kernel
theorem dX11_common_30 : decode cX11_common 30 = .ok (.lconst 0, 1) := by decide +kernel
theorem dX11_common_31 : decode cX11_common 31 = .ok (.lcmp, 1) := by decide +kernel
theorem dX11_common_32 : decode cX11_common 32 = .ok (.ifCond .eq 21, 3) := by decide +kernel
theorem dX11_common_35 : decode cX11_common 35 = .ok (.lload 4, 2) := by decide +kernel
theorem dX11_common_37 : decode cX11_common 37 = .ok (.lload 6, 2) := by decide +kernel
theorem dX11_common_39 : decode cX11_common 39 = .ok (.lrem, 1) := by decide +kernel
theorem dX11_common_40 : decode cX11_common 40 = .ok (.lstore 8, 2) := by decide +kernel
theorem dX11_common_42 : decode cX11_common 42 = .ok (.lload 6, 2) := by decide +kernel
theorem dX11_common_44 : decode cX11_common 44 = .ok (.lstore 4, 2) := by decide +kernel
theorem dX11_common_46 : decode cX11_common 46 = .ok (.lload 8, 2) := by decide +kernel
theorem dX11_common_48 : decode cX11_common 48 = .ok (.lstore 6, 2) := by decide +kernel
theorem dX11_common_50 : decode cX11_common 50 = .ok (.goto (-22), 3) := by decide +kernel
theorem dX11_common_53 : decode cX11_common 53 = .ok (.lload 4, 2) := by decide +kernel
theorem dX11_common_55 : decode cX11_common 55 = .ok (.lreturn, 1) := by decide +kernel
theorem dX11_set_0 : decode cX11_set 0 = .ok (.lload_n 1, 1) := by decide +kernel
theorem dX11_set_1 : decode cX11_set 1 = .ok (.lload_n 3, 1) := by decide +kernel
theorem dX11_set_2 : decode cX11_set 2 = .ok (.invokestatic 90, 3) := by decide +kernel
theorem dX11_set_5 : decode cX11_set 5 = .ok (.lstore 5, 2) := by decide +kernel
theorem dX11_set_7 : decode cX11_set 7 = .ok (.aload_n 0, 1) := by decide +kernel
theorem dX11_set_8 : decode cX11_set 8 = .ok (.lload_n 1, 1) := by decide +kernel
theorem dX11_set_9 : decode cX11_set 9 = .ok (.lload 5, 2) := by decide +kernel
theorem dX11_set_11 : decode cX11_set 11 = .ok (.ldiv, 1) := by decide +kernel
theorem dX11_set_12 : decode cX11_set 12 = .ok (.putfield 94, 3) := by decide +kernel
theorem dX11_set_15 : decode cX11_set 15 = .ok (.aload_n 0, 1) := by decide +kernel
theorem dX11_set_16 : decode cX11_set 16 = .ok (.lload_n 3, 1) := by decide +kernel
theorem dX11_set_17 : decode cX11_set 17 = .ok (.lload 5, 2) := by decide +kernel
theorem dX11_set_19 : decode cX11_set 19 = .ok (.ldiv, 1) := by decide +kernel
theorem dX11_set_20 : decode cX11_set 20 = .ok (.putfield 98, 3) := by decide +kernel
theorem dX11_set_23 : decode cX11_set 23 = .ok (.return_, 1) := by decide +kernel
theorem dX11_below_0 : decode cX11_below 0 = .ok (.lload_n 1, 1) := by decide +kernel
theorem dX11_below_1 : decode cX11_below 1 = .ok (.lconst 0, 1) := by decide +kernel
theorem dX11_below_2 : decode cX11_below 2 = .ok (.lcmp, 1) := by decide +kernel
theorem dX11_below_3 : decode cX11_below 3 = .ok (.ifCond .ge 8, 3) := by decide +kernel
theorem dX11_below_6 : decode cX11_below 6 = .ok (.lload_n 1, 1) := by decide +kernel
theorem dX11_below_7 : decode cX11_below 7 = .ok (.lneg, 1) := by decide +kernel
theorem dX11_below_8 : decode cX11_below 8 = .ok (.goto 4, 3) := by decide +kernel
theorem dX11_below_11 : decode cX11_below 11 = .ok (.lload_n 1, 1) := by decide +kernel
theorem dX11_below_12 : decode cX11_below 12 = .ok (.lstore 5, 2) := by decide +kernel
theorem dX11_below_14 : decode cX11_below 14 = .ok (.lload_n 3, 1) := by decide +kernel
theorem dX11_below_15 : decode cX11_below 15 = .ok (.lconst 0, 1) := by decide +kernel
theorem dX11_below_16 : decode cX11_below 16 = .ok (.lcmp, 1) := by decide +kernel
theorem dX11_below_17 : decode cX11_below 17 = .ok (.ifCond .ge 8, 3) := by decide +kernel
theorem dX11_below_20 : decode cX11_below 20 = .ok (.lload_n 3, 1) := by decide +kernel
theorem dX11_below_21 : decode cX11_below 21 = .ok (.lneg, 1) := by decide +kernel
theorem dX11_below_22 : decode cX11_below 22 = .ok (.goto 4, 3) := by decide +kernel
theorem dX11_below_25 : decode cX11_below 25 = .ok (.lload_n 3, 1) := by decide +kernel
theorem dX11_below_26 : decode cX11_below 26 = .ok (.lstore 7, 2) := by decide +kernel
theorem dX11_below_28 : decode cX11_below 28 = .ok (.lload 5, 2) := by decide +kernel
theorem dX11_below_30 : decode cX11_below 30 = .ok (.lconst 0, 1) := by decide +kernel
theorem dX11_below_31 : decode cX11_below 31 = .ok (.lcmp, 1) := by decide +kernel
theorem dX11_below_32 : decode cX11_below 32 = .ok (.ifCond .eq 22, 3) := by decide +kernel
theorem dX11_below_35 : decode cX11_below 35 = .ok (.lload 7, 2) := by decide +kernel
theorem dX11_below_37 : decode cX11_below 37 = .ok (.ldc2_w 101, 3) := by decide +kernel
theorem dX11_below_40 : decode cX11_below 40 = .ok (.lload 5, 2) := by decide +kernel
theorem dX11_below_42 : decode cX11_below 42 = .ok (.ldiv, 1) := by decide +kernel
theorem dX11_below_43 : decode cX11_below 43 = .ok (.lcmp, 1) := by decide +kernel
theorem dX11_below_44 : decode cX11_below 44 = .ok (.ifCond .le 10, 3) := by decide +kernel
theorem dX11_below_47 : decode cX11_below 47 = .ok (.aload_n 0, 1) := by decide +kernel
theorem dX11_below_48 : decode cX11_below 48 = .ok (.iconst 1, 1) := by decide +kernel
theorem dX11_below_49 : decode cX11_below 49 = .ok (.putfield 103, 3) := by decide +kernel
theorem dX11_below_52 : decode cX11_below 52 = .ok (.lconst 1, 1) := by decide +kernel
theorem dX11_below_53 : decode cX11_below 53 = .ok (.lreturn, 1) := by decide +kernel
theorem dX11_below_54 : decode cX11_below 54 = .ok (.lload_n 1, 1) := by decide +kernel
theorem dX11_below_55 : decode cX11_below 55 = .ok (.lload_n 3, 1) := by decide +kernel
theorem dX11_below_56 : decode cX11_below 56 = .ok (.lmul, 1) := by decide +kernel
theorem dX11_below_57 : decode cX11_below 57 = .ok (.lreturn, 1) := by decide +kernel
theorem dX11_times_0 : decode cX11_times 0 = .ok (.aload_n 0, 1) := by decide +kernel
theorem dX11_times_1 : decode cX11_times 1 = .ok (.getfield 94, 3) := by decide +kernel
theorem dX11_times_4 : decode cX11_times 4 = .ok (.lload_n 3, 1) := by decide +kernel
theorem dX11_times_5 : decode cX11_times 5 = .ok (.invokestatic 90, 3) := by decide +kernel
theorem dX11_times_8 : decode cX11_times 8 = .ok (.lstore 5, 2) := by decide +kernel
theorem dX11_times_10 : decode cX11_times 10 = .ok (.lload_n 1, 1) := by decide +kernel
theorem dX11_times_11 : decode cX11_times 11 = .ok (.aload_n 0, 1) := by decide +kernel
theorem dX11_times_12 : decode cX11_times 12 = .ok (.getfield 98, 3) := by decide +kernel
theorem dX11_times_15 : decode cX11_times 15 = .ok (.invokestatic 90, 3) := by decide +kernel
theorem dX11_times_18 : decode cX11_times 18 = .ok (.lstore 7, 2) := by decide +kernel
theorem dX11_times_20 : decode cX11_times 20 = .ok (.aload_n 0, 1) := by decide +kernel
theorem dX11_times_21 : decode cX11_times 21 = .ok (.getfield 94, 3) := by decide +kernel
theorem dX11_times_24 : decode cX11_times 24 = .ok (.lload 5, 2) := by decide +kernel
theorem dX11_times_26 : decode cX11_times 26 = .ok (.ldiv, 1) := by decide +kernel
theorem dX11_times_27 : decode cX11_times 27 = .ok (.lstore 9, 2) := by decide +kernel
theorem dX11_times_29 : decode cX11_times 29 = .ok (.aload_n 0, 1) := by decide +kernel
theorem dX11_times_30 : decode cX11_times 30 = .ok (.getfield 98, 3) := by decide +kernel
theorem dX11_times_33 : decode cX11_times 33 = .ok (.lload 7, 2) := by decide +kernel
theorem dX11_times_35 : decode cX11_times 35 = .ok (.ldiv, 1) := by decide +kernel
theorem dX11_times_36 : decode cX11_times 36 = .ok (.lstore 11, 2) := by decide +kernel
theorem dX11_times_38 : decode cX11_times 38 = .ok (.aload_n 0, 1) := by decide +kernel
theorem dX11_times_39 : decode cX11_times 39 = .ok (.aload_n 0, 1) := by decide +kernel
theorem dX11_times_40 : decode cX11_times 40 = .ok (.lload 9, 2) := by decide +kernel
theorem dX11_times_42 : decode cX11_times 42 = .ok (.lload_n 1, 1) := by decide +kernel
theorem dX11_times_43 : decode cX11_times 43 = .ok (.lload 7, 2) := by decide +kernel
theorem dX11_times_45 : decode cX11_times 45 = .ok (.ldiv, 1) := by decide +kernel
theorem dX11_times_46 : decode cX11_times 46 = .ok (.invokevirtual 107, 3) := by decide +kernel
theorem dX11_times_49 : decode cX11_times 49 = .ok (.putfield 94, 3) := by decide +kernel
theorem dX11_times_52 : decode cX11_times 52 = .ok (.aload_n 0, 1) := by decide +kernel
theorem dX11_times_53 : decode cX11_times 53 = .ok (.aload_n 0, 1) := by decide +kernel
theorem dX11_times_54 : decode cX11_times 54 = .ok (.lload 11, 2) := by decide +kernel
theorem dX11_times_56 : decode cX11_times 56 = .ok (.lload_n 3, 1) := by decide +kernel
theorem dX11_times_57 : decode cX11_times 57 = .ok (.lload 5, 2) := by decide +kernel
theorem dX11_times_59 : decode cX11_times 59 = .ok (.ldiv, 1) := by decide +kernel
theorem dX11_times_60 : decode cX11_times 60 = .ok (.invokevirtual 107, 3) := by decide +kernel
theorem dX11_times_63 : decode cX11_times 63 = .ok (.putfield 98, 3) := by decide +kernel
theorem dX11_times_66 : decode cX11_times 66 = .ok (.return_, 1) := by decide +kernel
theorem dX11_multiply_0 : decode cX11_multiply 0 = .ok (.lload_n 1, 1) := by decide +kernel
theorem dX11_multiply_1 : decode cX11_multiply 1 = .ok (.ldc2_w 110, 3) := by decide +kernel
theorem dX11_multiply_4 : decode cX11_multiply 4 = .ok (.ldiv, 1) := by decide +kernel
theorem dX11_multiply_5 : decode cX11_multiply 5 = .ok (.lstore 5, 2) := by decide +kernel
theorem dX11_multiply_7 : decode cX11_multiply 7 = .ok (.lload_n 1, 1) := by decide +kernel
theorem dX11_multiply_8 : decode cX11_multiply 8 = .ok (.ldc2_w 110, 3) := by decide +kernel
theorem dX11_multiply_11 : decode cX11_multiply 11 = .ok (.lrem, 1) := by decide +kernel
theorem dX11_multiply_12 : decode cX11_multiply 12 = .ok (.lstore 7, 2) := by decide +kernel
theorem dX11_multiply_14 : decode cX11_multiply 14 = .ok (.lload_n 3, 1) := by decide +kernel
theorem dX11_multiply_15 : decode cX11_multiply 15 = .ok (.ldc2_w 110, 3) := by decide +kernel
theorem dX11_multiply_18 : decode cX11_multiply 18 = .ok (.ldiv, 1) := by decide +kernel
theorem dX11_multiply_19 : decode cX11_multiply 19 = .ok (.lstore 9, 2) := by decide +kernel
theorem dX11_multiply_21 : decode cX11_multiply 21 = .ok (.lload_n 3, 1) := by decide +kernel
theorem dX11_multiply_22 : decode cX11_multiply 22 = .ok (.ldc2_w 110, 3) := by decide +kernel
theorem dX11_multiply_25 : decode cX11_multiply 25 = .ok (.lrem, 1) := by decide +kernel
theorem dX11_multiply_26 : decode cX11_multiply 26 = .ok (.lstore 11, 2) := by decide +kernel
theorem dX11_multiply_28 : decode cX11_multiply 28 = .ok (.lload 5, 2) := by decide +kernel
theorem dX11_multiply_30 : decode cX11_multiply 30 = .ok (.lload 11, 2) := by decide +kernel
theorem dX11_multiply_32 : decode cX11_multiply 32 = .ok (.lmul, 1) := by decide +kernel
theorem dX11_multiply_33 : decode cX11_multiply 33 = .ok (.lload 7, 2) := by decide +kernel
theorem dX11_multiply_35 : decode cX11_multiply 35 = .ok (.lload 9, 2) := by decide +kernel
theorem dX11_multiply_37 : decode cX11_multiply 37 = .ok (.lmul, 1) := by decide +kernel
theorem dX11_multiply_38 : decode cX11_multiply 38 = .ok (.ladd, 1) := by decide +kernel
theorem dX11_multiply_39 : decode cX11_multiply 39 = .ok (.lstore 13, 2) := by decide +kernel
theorem dX11_multiply_41 : decode cX11_multiply 41 = .ok (.lload 7, 2) := by decide +kernel
theorem dX11_multiply_43 : decode cX11_multiply 43 = .ok (.lload 11, 2) := by decide +kernel
theorem dX11_multiply_45 : decode cX11_multiply 45 = .ok (.lmul, 1) := by decide +kernel
theorem dX11_multiply_46 : decode cX11_multiply 46 = .ok (.lstore 15, 2) := by decide +kernel
theorem dX11_multiply_48 : decode cX11_multiply 48 = .ok (.aload_n 0, 1) := by decide +kernel
theorem dX11_multiply_49 : decode cX11_multiply 49 = .ok (.lload 5, 2) := by decide +kernel
theorem dX11_multiply_51 : decode cX11_multiply 51 = .ok (.lload 9, 2) := by decide +kernel
theorem dX11_multiply_53 : decode cX11_multiply 53 = .ok (.lmul, 1) := by decide +kernel
theorem dX11_multiply_54 : decode cX11_multiply 54 = .ok (.ldc2_w 112, 3) := by decide +kernel
theorem dX11_multiply_57 : decode cX11_multiply 57 = .ok (.lmul, 1) := by decide +kernel
theorem dX11_multiply_58 : decode cX11_multiply 58 = .ok (.lload 13, 2) := by decide +kernel
theorem dX11_multiply_60 : decode cX11_multiply 60 = .ok (.ldc2_w 114, 3) := by decide +kernel
theorem dX11_multiply_63 : decode cX11_multiply 63 = .ok (.ldiv, 1) := by decide +kernel
theorem dX11_multiply_64 : decode cX11_multiply 64 = .ok (.ladd, 1) := by decide +kernel
theorem dX11_multiply_65 : decode cX11_multiply 65 = .ok (.lload 15, 2) := by decide +kernel
theorem dX11_multiply_67 : decode cX11_multiply 67 = .ok (.ldc2_w 116, 3) := by decide +kernel
theorem dX11_multiply_70 : decode cX11_multiply 70 = .ok (.ldiv, 1) := by decide +kernel
theorem dX11_multiply_71 : decode cX11_multiply 71 = .ok (.ladd, 1) := by decide +kernel
theorem dX11_multiply_72 : decode cX11_multiply 72 = .ok (.putfield 118, 3) := by decide +kernel
theorem dX11_multiply_75 : decode cX11_multiply 75 = .ok (.aload_n 0, 1) := by decide +kernel
theorem dX11_multiply_76 : decode cX11_multiply 76 = .ok (.lload 13, 2) := by decide +kernel
theorem dX11_multiply_78 : decode cX11_multiply 78 = .ok (.ldc2_w 114, 3) := by decide +kernel
theorem dX11_multiply_81 : decode cX11_multiply 81 = .ok (.lrem, 1) := by decide +kernel
theorem dX11_multiply_82 : decode cX11_multiply 82 = .ok (.ldc2_w 110, 3) := by decide +kernel
theorem dX11_multiply_85 : decode cX11_multiply 85 = .ok (.lmul, 1) := by decide +kernel
theorem dX11_multiply_86 : decode cX11_multiply 86 = .ok (.lload 15, 2) := by decide +kernel
theorem dX11_multiply_88 : decode cX11_multiply 88 = .ok (.ldc2_w 116, 3) := by decide +kernel
theorem dX11_multiply_91 : decode cX11_multiply 91 = .ok (.lrem, 1) := by decide +kernel
theorem dX11_multiply_92 : decode cX11_multiply 92 = .ok (.ladd, 1) := by decide +kernel
theorem dX11_multiply_93 : decode cX11_multiply 93 = .ok (.putfield 121, 3) := by decide +kernel
theorem dX11_multiply_96 : decode cX11_multiply 96 = .ok (.aload_n 0, 1) := by decide +kernel
theorem dX11_multiply_97 : decode cX11_multiply 97 = .ok (.getfield 121, 3) := by decide +kernel
theorem dX11_multiply_100 : decode cX11_multiply 100 = .ok (.ldc2_w 116, 3) := by decide +kernel
theorem dX11_multiply_103 : decode cX11_multiply 103 = .ok (.lcmp, 1) := by decide +kernel
theorem dX11_multiply_104 : decode cX11_multiply 104 = .ok (.ifCond .lt 25, 3) := by decide +kernel
theorem dX11_multiply_107 : decode cX11_multiply 107 = .ok (.aload_n 0, 1) := by decide +kernel
theorem dX11_multiply_108 : decode cX11_multiply 108 = .ok (.dup, 1) := by decide +kernel
theorem dX11_multiply_109 : decode cX11_multiply 109 = .ok (.getfield 121, 3) := by decide +kernel
theorem dX11_multiply_112 : decode cX11_multiply 112 = .ok (.ldc2_w 116, 3) := by decide +kernel
theorem dX11_multiply_115 : decode cX11_multiply 115 = .ok (.lsub, 1) := by decide +kernel
theorem dX11_multiply_116 : decode cX11_multiply 116 = .ok (.putfield 121, 3) := by decide +kernel
theorem dX11_multiply_119 : decode cX11_multiply 119 = .ok (.aload_n 0, 1) := by decide +kernel
theorem dX11_multiply_120 : decode cX11_multiply 120 = .ok (.dup, 1) := by decide +kernel
theorem dX11_multiply_121 : decode cX11_multiply 121 = .ok (.getfield 118, 3) := by decide +kernel
theorem dX11_multiply_124 : decode cX11_multiply 124 = .ok (.lconst 1, 1) := by decide +kernel
theorem dX11_multiply_125 : decode cX11_multiply 125 = .ok (.ladd, 1) := by decide +kernel
theorem dX11_multiply_126 : decode cX11_multiply 126 = .ok (.putfield 118, 3) := by decide +kernel
theorem dX11_multiply_129 : decode cX11_multiply 129 = .ok (.return_, 1) := by decide +kernel
theorem dX11_spell_0 : decode cX11_spell 0 = .ok (.lload_n 3, 1) := by decide +kernel
theorem dX11_spell_1 : decode cX11_spell 1 = .ok (.lstore 5, 2) := by decide +kernel
theorem dX11_spell_3 : decode cX11_spell 3 = .ok (.iconst 0, 1) := by decide +kernel
theorem dX11_spell_4 : decode cX11_spell 4 = .ok (.istore 7, 2) := by decide +kernel
theorem dX11_spell_6 : decode cX11_spell 6 = .ok (.iload 7, 2) := by decide +kernel
theorem dX11_spell_8 : decode cX11_spell 8 = .ok (.iconst 5, 1) := by decide +kernel
theorem dX11_spell_9 : decode cX11_spell 9 = .ok (.if_icmp .ge 30, 3) := by decide +kernel
theorem dX11_spell_12 : decode cX11_spell 12 = .ok (.aload_n 0, 1) := by decide +kernel
theorem dX11_spell_13 : decode cX11_spell 13 = .ok (.getfield 65, 3) := by decide +kernel
theorem dX11_spell_16 : decode cX11_spell 16 = .ok (.iload 7, 2) := by decide +kernel
theorem dX11_spell_18 : decode cX11_spell 18 = .ok (.lload 5, 2) := by decide +kernel
theorem dX11_spell_20 : decode cX11_spell 20 = .ok (.ldc2_w 124, 3) := by decide +kernel
theorem dX11_spell_23 : decode cX11_spell 23 = .ok (.lrem, 1) := by decide +kernel
theorem dX11_spell_24 : decode cX11_spell 24 = .ok (.lastore, 1) := by decide +kernel
theorem dX11_spell_25 : decode cX11_spell 25 = .ok (.lload 5, 2) := by decide +kernel
theorem dX11_spell_27 : decode cX11_spell 27 = .ok (.ldc2_w 124, 3) := by decide +kernel
theorem dX11_spell_30 : decode cX11_spell 30 = .ok (.ldiv, 1) := by decide +kernel
theorem dX11_spell_31 : decode cX11_spell 31 = .ok (.lstore 5, 2) := by decide +kernel
theorem dX11_spell_33 : decode cX11_spell 33 = .ok (.iinc 7 1, 3) := by decide +kernel
theorem dX11_spell_36 : decode cX11_spell 36 = .ok (.goto (-30), 3) := by decide +kernel
theorem dX11_spell_39 : decode cX11_spell 39 = .ok (.lload_n 1, 1) := by decide +kernel
theorem dX11_spell_40 : decode cX11_spell 40 = .ok (.lstore 5, 2) := by decide +kernel
theorem dX11_spell_42 : decode cX11_spell 42 = .ok (.iconst 5, 1) := by decide +kernel
theorem dX11_spell_43 : decode cX11_spell 43 = .ok (.istore 7, 2) := by decide +kernel
theorem dX11_spell_45 : decode cX11_spell 45 = .ok (.iload 7, 2) := by decide +kernel
theorem dX11_spell_47 : decode cX11_spell 47 = .ok (.bipush 12, 2) := by decide +kernel
theorem dX11_spell_49 : decode cX11_spell 49 = .ok (.if_icmp .ge 30, 3) := by decide +kernel
theorem dX11_spell_52 : decode cX11_spell 52 = .ok (.aload_n 0, 1) := by decide +kernel
theorem dX11_spell_53 : decode cX11_spell 53 = .ok (.getfield 65, 3) := by decide +kernel
theorem dX11_spell_56 : decode cX11_spell 56 = .ok (.iload 7, 2) := by decide +kernel
theorem dX11_spell_58 : decode cX11_spell 58 = .ok (.lload 5, 2) := by decide +kernel
theorem dX11_spell_60 : decode cX11_spell 60 = .ok (.ldc2_w 124, 3) := by decide +kernel
end
section
theorem dX11_spell_63 : decode cX11_spell 63 = .ok (.lrem, 1) := by decide +kernel
theorem dX11_spell_64 : decode cX11_spell 64 = .ok (.lastore, 1) := by decide +kernel
theorem dX11_spell_65 : decode cX11_spell 65 = .ok (.lload 5, 2) := by decide +kernel
theorem dX11_spell_67 : decode cX11_spell 67 = .ok (.ldc2_w 124, 3) := by decide +kernel
theorem dX11_spell_70 : decode cX11_spell 70 = .ok (.ldiv, 1) := by decide +kernel
theorem dX11_spell_71 : decode cX11_spell 71 = .ok (.lstore 5, 2) := by decide +kernel
theorem dX11_spell_73 : decode cX11_spell 73 = .ok (.iinc 7 1, 3) := by decide +kernel
theorem dX11_spell_76 : decode cX11_spell 76 = .ok (.goto (-31), 3) := by decide +kernel
theorem dX11_spell_79 : decode cX11_spell 79 = .ok (.return_, 1) := by decide +kernel
theorem dX11_restBy_0 : decode cX11_restBy 0 = .ok (.lconst 0, 1) := by decide +kernel
theorem dX11_restBy_1 : decode cX11_restBy 1 = .ok (.lstore_n 3, 1) := by decide +kernel
theorem dX11_restBy_2 : decode cX11_restBy 2 = .ok (.bipush 11, 2) := by decide +kernel
theorem dX11_restBy_4 : decode cX11_restBy 4 = .ok (.istore 5, 2) := by decide +kernel
theorem dX11_restBy_6 : decode cX11_restBy 6 = .ok (.iload 5, 2) := by decide +kernel
theorem dX11_restBy_8 : decode cX11_restBy 8 = .ok (.ifCond .lt 25, 3) := by decide +kernel
theorem dX11_restBy_11 : decode cX11_restBy 11 = .ok (.lload_n 3, 1) := by decide +kernel
theorem dX11_restBy_12 : decode cX11_restBy 12 = .ok (.ldc2_w 124, 3) := by decide +kernel
theorem dX11_restBy_15 : decode cX11_restBy 15 = .ok (.lmul, 1) := by decide +kernel
theorem dX11_restBy_16 : decode cX11_restBy 16 = .ok (.aload_n 0, 1) := by decide +kernel
theorem dX11_restBy_17 : decode cX11_restBy 17 = .ok (.getfield 65, 3) := by decide +kernel
theorem dX11_restBy_20 : decode cX11_restBy 20 = .ok (.iload 5, 2) := by decide +kernel
theorem dX11_restBy_22 : decode cX11_restBy 22 = .ok (.laload, 1) := by decide +kernel
theorem dX11_restBy_23 : decode cX11_restBy 23 = .ok (.ladd, 1) := by decide +kernel
theorem dX11_restBy_24 : decode cX11_restBy 24 = .ok (.lload_n 1, 1) := by decide +kernel
theorem dX11_restBy_25 : decode cX11_restBy 25 = .ok (.lrem, 1) := by decide +kernel
theorem dX11_restBy_26 : decode cX11_restBy 26 = .ok (.lstore_n 3, 1) := by decide +kernel
theorem dX11_restBy_27 : decode cX11_restBy 27 = .ok (.iinc 5 (-1), 3) := by decide +kernel
theorem dX11_restBy_30 : decode cX11_restBy 30 = .ok (.goto (-24), 3) := by decide +kernel
theorem dX11_restBy_33 : decode cX11_restBy 33 = .ok (.lload_n 3, 1) := by decide +kernel
theorem dX11_restBy_34 : decode cX11_restBy 34 = .ok (.lreturn, 1) := by decide +kernel
theorem dX11_divided_0 : decode cX11_divided 0 = .ok (.lconst 0, 1) := by decide +kernel
theorem dX11_divided_1 : decode cX11_divided 1 = .ok (.lstore_n 3, 1) := by decide +kernel
theorem dX11_divided_2 : decode cX11_divided 2 = .ok (.lconst 0, 1) := by decide +kernel
theorem dX11_divided_3 : decode cX11_divided 3 = .ok (.lstore 5, 2) := by decide +kernel
theorem dX11_divided_5 : decode cX11_divided 5 = .ok (.bipush 11, 2) := by decide +kernel
theorem dX11_divided_7 : decode cX11_divided 7 = .ok (.istore 7, 2) := by decide +kernel
theorem dX11_divided_9 : decode cX11_divided 9 = .ok (.iload 7, 2) := by decide +kernel
theorem dX11_divided_11 : decode cX11_divided 11 = .ok (.ifCond .lt 55, 3) := by decide +kernel
theorem dX11_divided_14 : decode cX11_divided 14 = .ok (.lload_n 3, 1) := by decide +kernel
theorem dX11_divided_15 : decode cX11_divided 15 = .ok (.ldc2_w 124, 3) := by decide +kernel
theorem dX11_divided_18 : decode cX11_divided 18 = .ok (.lmul, 1) := by decide +kernel
theorem dX11_divided_19 : decode cX11_divided 19 = .ok (.aload_n 0, 1) := by decide +kernel
theorem dX11_divided_20 : decode cX11_divided 20 = .ok (.getfield 65, 3) := by decide +kernel
theorem dX11_divided_23 : decode cX11_divided 23 = .ok (.iload 7, 2) := by decide +kernel
theorem dX11_divided_25 : decode cX11_divided 25 = .ok (.laload, 1) := by decide +kernel
theorem dX11_divided_26 : decode cX11_divided 26 = .ok (.ladd, 1) := by decide +kernel
theorem dX11_divided_27 : decode cX11_divided 27 = .ok (.lstore_n 3, 1) := by decide +kernel
theorem dX11_divided_28 : decode cX11_divided 28 = .ok (.lload 5, 2) := by decide +kernel
theorem dX11_divided_30 : decode cX11_divided 30 = .ok (.ldc2_w 124, 3) := by decide +kernel
theorem dX11_divided_33 : decode cX11_divided 33 = .ok (.lmul, 1) := by decide +kernel
theorem dX11_divided_34 : decode cX11_divided 34 = .ok (.lload_n 3, 1) := by decide +kernel
theorem dX11_divided_35 : decode cX11_divided 35 = .ok (.lload_n 1, 1) := by decide +kernel
theorem dX11_divided_36 : decode cX11_divided 36 = .ok (.ldiv, 1) := by decide +kernel
theorem dX11_divided_37 : decode cX11_divided 37 = .ok (.ladd, 1) := by decide +kernel
theorem dX11_divided_38 : decode cX11_divided 38 = .ok (.lstore 5, 2) := by decide +kernel
theorem dX11_divided_40 : decode cX11_divided 40 = .ok (.lload_n 3, 1) := by decide +kernel
theorem dX11_divided_41 : decode cX11_divided 41 = .ok (.lload_n 1, 1) := by decide +kernel
theorem dX11_divided_42 : decode cX11_divided 42 = .ok (.lrem, 1) := by decide +kernel
theorem dX11_divided_43 : decode cX11_divided 43 = .ok (.lstore_n 3, 1) := by decide +kernel
theorem dX11_divided_44 : decode cX11_divided 44 = .ok (.lload 5, 2) := by decide +kernel
theorem dX11_divided_46 : decode cX11_divided 46 = .ok (.ldc2_w 116, 3) := by decide +kernel
theorem dX11_divided_49 : decode cX11_divided 49 = .ok (.lcmp, 1) := by decide +kernel
theorem dX11_divided_50 : decode cX11_divided 50 = .ok (.ifCond .lt 10, 3) := by decide +kernel
theorem dX11_divided_53 : decode cX11_divided 53 = .ok (.aload_n 0, 1) := by decide +kernel
theorem dX11_divided_54 : decode cX11_divided 54 = .ok (.iconst 1, 1) := by decide +kernel
theorem dX11_divided_55 : decode cX11_divided 55 = .ok (.putfield 103, 3) := by decide +kernel
theorem dX11_divided_58 : decode cX11_divided 58 = .ok (.lconst 1, 1) := by decide +kernel
theorem dX11_divided_59 : decode cX11_divided 59 = .ok (.lreturn, 1) := by decide +kernel
theorem dX11_divided_60 : decode cX11_divided 60 = .ok (.iinc 7 (-1), 3) := by decide +kernel
theorem dX11_divided_63 : decode cX11_divided 63 = .ok (.goto (-54), 3) := by decide +kernel
theorem dX11_divided_66 : decode cX11_divided 66 = .ok (.lload 5, 2) := by decide +kernel
theorem dX11_divided_68 : decode cX11_divided 68 = .ok (.lreturn, 1) := by decide +kernel
theorem dX11_bound_0 : decode cX11_bound 0 = .ok (.aload_n 0, 1) := by decide +kernel
theorem dX11_bound_1 : decode cX11_bound 1 = .ok (.aload_n 0, 1) := by decide +kernel
theorem dX11_bound_2 : decode cX11_bound 2 = .ok (.getfield 103, 3) := by decide +kernel
theorem dX11_bound_5 : decode cX11_bound 5 = .ok (.ifCond .ne 14, 3) := by decide +kernel
theorem dX11_bound_8 : decode cX11_bound 8 = .ok (.aload_n 0, 1) := by decide +kernel
theorem dX11_bound_9 : decode cX11_bound 9 = .ok (.getfield 118, 3) := by decide +kernel
theorem dX11_bound_12 : decode cX11_bound 12 = .ok (.ldc2_w 124, 3) := by decide +kernel
theorem dX11_bound_15 : decode cX11_bound 15 = .ok (.lcmp, 1) := by decide +kernel
theorem dX11_bound_16 : decode cX11_bound 16 = .ok (.ifCond .lt 7, 3) := by decide +kernel
theorem dX11_bound_19 : decode cX11_bound 19 = .ok (.iconst 1, 1) := by decide +kernel
theorem dX11_bound_20 : decode cX11_bound 20 = .ok (.goto 4, 3) := by decide +kernel
theorem dX11_bound_23 : decode cX11_bound 23 = .ok (.iconst 0, 1) := by decide +kernel
theorem dX11_bound_24 : decode cX11_bound 24 = .ok (.putfield 103, 3) := by decide +kernel
theorem dX11_bound_27 : decode cX11_bound 27 = .ok (.return_, 1) := by decide +kernel
theorem dX11_plus_0 : decode cX11_plus 0 = .ok (.aload_n 0, 1) := by decide +kernel
theorem dX11_plus_1 : decode cX11_plus 1 = .ok (.getfield 98, 3) := by decide +kernel
theorem dX11_plus_4 : decode cX11_plus 4 = .ok (.lload_n 3, 1) := by decide +kernel
theorem dX11_plus_5 : decode cX11_plus 5 = .ok (.invokestatic 90, 3) := by decide +kernel
theorem dX11_plus_8 : decode cX11_plus 8 = .ok (.lstore 5, 2) := by decide +kernel
theorem dX11_plus_10 : decode cX11_plus 10 = .ok (.aload_n 0, 1) := by decide +kernel
theorem dX11_plus_11 : decode cX11_plus 11 = .ok (.getfield 98, 3) := by decide +kernel
theorem dX11_plus_14 : decode cX11_plus 14 = .ok (.lload 5, 2) := by decide +kernel
theorem dX11_plus_16 : decode cX11_plus 16 = .ok (.ldiv, 1) := by decide +kernel
theorem dX11_plus_17 : decode cX11_plus 17 = .ok (.lstore 7, 2) := by decide +kernel
theorem dX11_plus_19 : decode cX11_plus 19 = .ok (.lload_n 3, 1) := by decide +kernel
theorem dX11_plus_20 : decode cX11_plus 20 = .ok (.lload 5, 2) := by decide +kernel
theorem dX11_plus_22 : decode cX11_plus 22 = .ok (.ldiv, 1) := by decide +kernel
theorem dX11_plus_23 : decode cX11_plus 23 = .ok (.lstore 9, 2) := by decide +kernel
theorem dX11_plus_25 : decode cX11_plus 25 = .ok (.aload_n 0, 1) := by decide +kernel
theorem dX11_plus_26 : decode cX11_plus 26 = .ok (.getfield 94, 3) := by decide +kernel
theorem dX11_plus_29 : decode cX11_plus 29 = .ok (.lconst 0, 1) := by decide +kernel
theorem dX11_plus_30 : decode cX11_plus 30 = .ok (.lcmp, 1) := by decide +kernel
theorem dX11_plus_31 : decode cX11_plus 31 = .ok (.ifCond .ge 7, 3) := by decide +kernel
theorem dX11_plus_34 : decode cX11_plus 34 = .ok (.iconst 1, 1) := by decide +kernel
theorem dX11_plus_35 : decode cX11_plus 35 = .ok (.goto 4, 3) := by decide +kernel
theorem dX11_plus_38 : decode cX11_plus 38 = .ok (.iconst 0, 1) := by decide +kernel
theorem dX11_plus_39 : decode cX11_plus 39 = .ok (.istore 11, 2) := by decide +kernel
theorem dX11_plus_41 : decode cX11_plus 41 = .ok (.aload_n 0, 1) := by decide +kernel
theorem dX11_plus_42 : decode cX11_plus 42 = .ok (.aload_n 0, 1) := by decide +kernel
theorem dX11_plus_43 : decode cX11_plus 43 = .ok (.getfield 98, 3) := by decide +kernel
theorem dX11_plus_46 : decode cX11_plus 46 = .ok (.lload 9, 2) := by decide +kernel
theorem dX11_plus_48 : decode cX11_plus 48 = .ok (.invokevirtual 126, 3) := by decide +kernel
theorem dX11_plus_51 : decode cX11_plus 51 = .ok (.aload_n 0, 1) := by decide +kernel
theorem dX11_plus_52 : decode cX11_plus 52 = .ok (.invokevirtual 130, 3) := by decide +kernel
theorem dX11_plus_55 : decode cX11_plus 55 = .ok (.aload_n 0, 1) := by decide +kernel
theorem dX11_plus_56 : decode cX11_plus 56 = .ok (.iload 11, 2) := by decide +kernel
theorem dX11_plus_58 : decode cX11_plus 58 = .ok (.ifCond .eq 11, 3) := by decide +kernel
theorem dX11_plus_61 : decode cX11_plus 61 = .ok (.aload_n 0, 1) := by decide +kernel
theorem dX11_plus_62 : decode cX11_plus 62 = .ok (.getfield 94, 3) := by decide +kernel
theorem dX11_plus_65 : decode cX11_plus 65 = .ok (.lneg, 1) := by decide +kernel
theorem dX11_plus_66 : decode cX11_plus 66 = .ok (.goto 7, 3) := by decide +kernel
theorem dX11_plus_69 : decode cX11_plus 69 = .ok (.aload_n 0, 1) := by decide +kernel
theorem dX11_plus_70 : decode cX11_plus 70 = .ok (.getfield 94, 3) := by decide +kernel
theorem dX11_plus_73 : decode cX11_plus 73 = .ok (.lload 9, 2) := by decide +kernel
theorem dX11_plus_75 : decode cX11_plus 75 = .ok (.invokevirtual 126, 3) := by decide +kernel
theorem dX11_plus_78 : decode cX11_plus 78 = .ok (.aload_n 0, 1) := by decide +kernel
theorem dX11_plus_79 : decode cX11_plus 79 = .ok (.invokevirtual 130, 3) := by decide +kernel
theorem dX11_plus_82 : decode cX11_plus 82 = .ok (.aload_n 0, 1) := by decide +kernel
theorem dX11_plus_83 : decode cX11_plus 83 = .ok (.getfield 118, 3) := by decide +kernel
theorem dX11_plus_86 : decode cX11_plus 86 = .ok (.lstore 12, 2) := by decide +kernel
theorem dX11_plus_88 : decode cX11_plus 88 = .ok (.aload_n 0, 1) := by decide +kernel
theorem dX11_plus_89 : decode cX11_plus 89 = .ok (.getfield 121, 3) := by decide +kernel
theorem dX11_plus_92 : decode cX11_plus 92 = .ok (.lstore 14, 2) := by decide +kernel
theorem dX11_plus_94 : decode cX11_plus 94 = .ok (.lload_n 1, 1) := by decide +kernel
theorem dX11_plus_95 : decode cX11_plus 95 = .ok (.lconst 0, 1) := by decide +kernel
theorem dX11_plus_96 : decode cX11_plus 96 = .ok (.lcmp, 1) := by decide +kernel
theorem dX11_plus_97 : decode cX11_plus 97 = .ok (.ifCond .ge 7, 3) := by decide +kernel
theorem dX11_plus_100 : decode cX11_plus 100 = .ok (.iconst 1, 1) := by decide +kernel
theorem dX11_plus_101 : decode cX11_plus 101 = .ok (.goto 4, 3) := by decide +kernel
theorem dX11_plus_104 : decode cX11_plus 104 = .ok (.iconst 0, 1) := by decide +kernel
theorem dX11_plus_105 : decode cX11_plus 105 = .ok (.istore 16, 2) := by decide +kernel
theorem dX11_plus_107 : decode cX11_plus 107 = .ok (.aload_n 0, 1) := by decide +kernel
theorem dX11_plus_108 : decode cX11_plus 108 = .ok (.iload 16, 2) := by decide +kernel
theorem dX11_plus_110 : decode cX11_plus 110 = .ok (.ifCond .eq 8, 3) := by decide +kernel
theorem dX11_plus_113 : decode cX11_plus 113 = .ok (.lload_n 1, 1) := by decide +kernel
theorem dX11_plus_114 : decode cX11_plus 114 = .ok (.lneg, 1) := by decide +kernel
theorem dX11_plus_115 : decode cX11_plus 115 = .ok (.goto 4, 3) := by decide +kernel
theorem dX11_plus_118 : decode cX11_plus 118 = .ok (.lload_n 1, 1) := by decide +kernel
theorem dX11_plus_119 : decode cX11_plus 119 = .ok (.lload 7, 2) := by decide +kernel
theorem dX11_plus_121 : decode cX11_plus 121 = .ok (.invokevirtual 126, 3) := by decide +kernel
theorem dX11_plus_124 : decode cX11_plus 124 = .ok (.aload_n 0, 1) := by decide +kernel
theorem dX11_plus_125 : decode cX11_plus 125 = .ok (.invokevirtual 130, 3) := by decide +kernel
theorem dX11_plus_128 : decode cX11_plus 128 = .ok (.iload 11, 2) := by decide +kernel
theorem dX11_plus_130 : decode cX11_plus 130 = .ok (.iload 16, 2) := by decide +kernel
theorem dX11_plus_132 : decode cX11_plus 132 = .ok (.if_icmp .ne 47, 3) := by decide +kernel
theorem dX11_plus_135 : decode cX11_plus 135 = .ok (.lload 12, 2) := by decide +kernel
theorem dX11_plus_137 : decode cX11_plus 137 = .ok (.aload_n 0, 1) := by decide +kernel
theorem dX11_plus_138 : decode cX11_plus 138 = .ok (.getfield 118, 3) := by decide +kernel
theorem dX11_plus_141 : decode cX11_plus 141 = .ok (.ladd, 1) := by decide +kernel
theorem dX11_plus_142 : decode cX11_plus 142 = .ok (.lstore 12, 2) := by decide +kernel
theorem dX11_plus_144 : decode cX11_plus 144 = .ok (.lload 14, 2) := by decide +kernel
theorem dX11_plus_146 : decode cX11_plus 146 = .ok (.aload_n 0, 1) := by decide +kernel
theorem dX11_plus_147 : decode cX11_plus 147 = .ok (.getfield 121, 3) := by decide +kernel
theorem dX11_plus_150 : decode cX11_plus 150 = .ok (.ladd, 1) := by decide +kernel
theorem dX11_plus_151 : decode cX11_plus 151 = .ok (.lstore 14, 2) := by decide +kernel
theorem dX11_plus_153 : decode cX11_plus 153 = .ok (.lload 14, 2) := by decide +kernel
theorem dX11_plus_155 : decode cX11_plus 155 = .ok (.ldc2_w 116, 3) := by decide +kernel
theorem dX11_plus_158 : decode cX11_plus 158 = .ok (.lcmp, 1) := by decide +kernel
theorem dX11_plus_159 : decode cX11_plus 159 = .ok (.ifCond .lt 148, 3) := by decide +kernel
theorem dX11_plus_162 : decode cX11_plus 162 = .ok (.lload 14, 2) := by decide +kernel
theorem dX11_plus_164 : decode cX11_plus 164 = .ok (.ldc2_w 116, 3) := by decide +kernel
theorem dX11_plus_167 : decode cX11_plus 167 = .ok (.lsub, 1) := by decide +kernel
theorem dX11_plus_168 : decode cX11_plus 168 = .ok (.lstore 14, 2) := by decide +kernel
theorem dX11_plus_170 : decode cX11_plus 170 = .ok (.lload 12, 2) := by decide +kernel
theorem dX11_plus_172 : decode cX11_plus 172 = .ok (.lconst 1, 1) := by decide +kernel
theorem dX11_plus_173 : decode cX11_plus 173 = .ok (.ladd, 1) := by decide +kernel
theorem dX11_plus_174 : decode cX11_plus 174 = .ok (.lstore 12, 2) := by decide +kernel
theorem dX11_plus_176 : decode cX11_plus 176 = .ok (.goto 131, 3) := by decide +kernel
theorem dX11_plus_179 : decode cX11_plus 179 = .ok (.lload 12, 2) := by decide +kernel
theorem dX11_plus_181 : decode cX11_plus 181 = .ok (.aload_n 0, 1) := by decide +kernel
theorem dX11_plus_182 : decode cX11_plus 182 = .ok (.getfield 118, 3) := by decide +kernel
theorem dX11_plus_185 : decode cX11_plus 185 = .ok (.lcmp, 1) := by decide +kernel
theorem dX11_plus_186 : decode cX11_plus 186 = .ok (.ifCond .lt 23, 3) := by decide +kernel
theorem dX11_plus_189 : decode cX11_plus 189 = .ok (.lload 12, 2) := by decide +kernel
theorem dX11_plus_191 : decode cX11_plus 191 = .ok (.aload_n 0, 1) := by decide +kernel
theorem dX11_plus_192 : decode cX11_plus 192 = .ok (.getfield 118, 3) := by decide +kernel
theorem dX11_plus_195 : decode cX11_plus 195 = .ok (.lcmp, 1) := by decide +kernel
theorem dX11_plus_196 : decode cX11_plus 196 = .ok (.ifCond .ne 17, 3) := by decide +kernel
theorem dX11_plus_199 : decode cX11_plus 199 = .ok (.lload 14, 2) := by decide +kernel
theorem dX11_plus_201 : decode cX11_plus 201 = .ok (.aload_n 0, 1) := by decide +kernel
theorem dX11_plus_202 : decode cX11_plus 202 = .ok (.getfield 121, 3) := by decide +kernel
theorem dX11_plus_205 : decode cX11_plus 205 = .ok (.lcmp, 1) := by decide +kernel
theorem dX11_plus_206 : decode cX11_plus 206 = .ok (.ifCond .ge 7, 3) := by decide +kernel
theorem dX11_plus_209 : decode cX11_plus 209 = .ok (.iconst 1, 1) := by decide +kernel
theorem dX11_plus_210 : decode cX11_plus 210 = .ok (.goto 4, 3) := by decide +kernel
theorem dX11_plus_213 : decode cX11_plus 213 = .ok (.iconst 0, 1) := by decide +kernel
theorem dX11_plus_214 : decode cX11_plus 214 = .ok (.istore 17, 2) := by decide +kernel
theorem dX11_plus_216 : decode cX11_plus 216 = .ok (.iload 17, 2) := by decide +kernel
theorem dX11_plus_218 : decode cX11_plus 218 = .ok (.ifCond .eq 13, 3) := by decide +kernel
theorem dX11_plus_221 : decode cX11_plus 221 = .ok (.aload_n 0, 1) := by decide +kernel
theorem dX11_plus_222 : decode cX11_plus 222 = .ok (.getfield 118, 3) := by decide +kernel
theorem dX11_plus_225 : decode cX11_plus 225 = .ok (.lload 12, 2) := by decide +kernel
theorem dX11_plus_227 : decode cX11_plus 227 = .ok (.lsub, 1) := by decide +kernel
theorem dX11_plus_228 : decode cX11_plus 228 = .ok (.goto 10, 3) := by decide +kernel
theorem dX11_plus_231 : decode cX11_plus 231 = .ok (.lload 12, 2) := by decide +kernel
theorem dX11_plus_233 : decode cX11_plus 233 = .ok (.aload_n 0, 1) := by decide +kernel
theorem dX11_plus_234 : decode cX11_plus 234 = .ok (.getfield 118, 3) := by decide +kernel
theorem dX11_plus_237 : decode cX11_plus 237 = .ok (.lsub, 1) := by decide +kernel
theorem dX11_plus_238 : decode cX11_plus 238 = .ok (.lstore 18, 2) := by decide +kernel
theorem dX11_plus_240 : decode cX11_plus 240 = .ok (.iload 17, 2) := by decide +kernel
theorem dX11_plus_242 : decode cX11_plus 242 = .ok (.ifCond .eq 13, 3) := by decide +kernel
theorem dX11_plus_245 : decode cX11_plus 245 = .ok (.aload_n 0, 1) := by decide +kernel
theorem dX11_plus_246 : decode cX11_plus 246 = .ok (.getfield 121, 3) := by decide +kernel
theorem dX11_plus_249 : decode cX11_plus 249 = .ok (.lload 14, 2) := by decide +kernel
theorem dX11_plus_251 : decode cX11_plus 251 = .ok (.lsub, 1) := by decide +kernel
theorem dX11_plus_252 : decode cX11_plus 252 = .ok (.goto 10, 3) := by decide +kernel
theorem dX11_plus_255 : decode cX11_plus 255 = .ok (.lload 14, 2) := by decide +kernel
theorem dX11_plus_257 : decode cX11_plus 257 = .ok (.aload_n 0, 1) := by decide +kernel
theorem dX11_plus_258 : decode cX11_plus 258 = .ok (.getfield 121, 3) := by decide +kernel
theorem dX11_plus_261 : decode cX11_plus 261 = .ok (.lsub, 1) := by decide +kernel
theorem dX11_plus_262 : decode cX11_plus 262 = .ok (.lstore 20, 2) := by decide +kernel
theorem dX11_plus_264 : decode cX11_plus 264 = .ok (.iload 17, 2) := by decide +kernel
theorem dX11_plus_266 : decode cX11_plus 266 = .ok (.ifCond .eq 8, 3) := by decide +kernel
theorem dX11_plus_269 : decode cX11_plus 269 = .ok (.iload 16, 2) := by decide +kernel
theorem dX11_plus_271 : decode cX11_plus 271 = .ok (.goto 5, 3) := by decide +kernel
theorem dX11_plus_274 : decode cX11_plus 274 = .ok (.iload 11, 2) := by decide +kernel
theorem dX11_plus_276 : decode cX11_plus 276 = .ok (.istore 11, 2) := by decide +kernel
theorem dX11_plus_278 : decode cX11_plus 278 = .ok (.lload 20, 2) := by decide +kernel
theorem dX11_plus_280 : decode cX11_plus 280 = .ok (.lconst 0, 1) := by decide +kernel
theorem dX11_plus_281 : decode cX11_plus 281 = .ok (.lcmp, 1) := by decide +kernel
theorem dX11_plus_282 : decode cX11_plus 282 = .ok (.ifCond .ge 17, 3) := by decide +kernel
theorem dX11_plus_285 : decode cX11_plus 285 = .ok (.lload 20, 2) := by decide +kernel
theorem dX11_plus_287 : decode cX11_plus 287 = .ok (.ldc2_w 116, 3) := by decide +kernel
theorem dX11_plus_290 : decode cX11_plus 290 = .ok (.ladd, 1) := by decide +kernel
theorem dX11_plus_291 : decode cX11_plus 291 = .ok (.lstore 20, 2) := by decide +kernel
theorem dX11_plus_293 : decode cX11_plus 293 = .ok (.lload 18, 2) := by decide +kernel
theorem dX11_plus_295 : decode cX11_plus 295 = .ok (.lconst 1, 1) := by decide +kernel
theorem dX11_plus_296 : decode cX11_plus 296 = .ok (.lsub, 1) := by decide +kernel
theorem dX11_plus_297 : decode cX11_plus 297 = .ok (.lstore 18, 2) := by decide +kernel
theorem dX11_plus_299 : decode cX11_plus 299 = .ok (.lload 18, 2) := by decide +kernel
theorem dX11_plus_301 : decode cX11_plus 301 = .ok (.lstore 12, 2) := by decide +kernel
theorem dX11_plus_303 : decode cX11_plus 303 = .ok (.lload 20, 2) := by decide +kernel
theorem dX11_plus_305 : decode cX11_plus 305 = .ok (.lstore 14, 2) := by decide +kernel
theorem dX11_plus_307 : decode cX11_plus 307 = .ok (.aload_n 0, 1) := by decide +kernel
theorem dX11_plus_308 : decode cX11_plus 308 = .ok (.lload 12, 2) := by decide +kernel
theorem dX11_plus_310 : decode cX11_plus 310 = .ok (.lload 14, 2) := by decide +kernel
theorem dX11_plus_312 : decode cX11_plus 312 = .ok (.invokevirtual 133, 3) := by decide +kernel
theorem dX11_plus_315 : decode cX11_plus 315 = .ok (.lload 5, 2) := by decide +kernel
theorem dX11_plus_317 : decode cX11_plus 317 = .ok (.aload_n 0, 1) := by decide +kernel
theorem dX11_plus_318 : decode cX11_plus 318 = .ok (.lload 5, 2) := by decide +kernel
theorem dX11_plus_320 : decode cX11_plus 320 = .ok (.invokevirtual 136, 3) := by decide +kernel
theorem dX11_plus_323 : decode cX11_plus 323 = .ok (.invokestatic 90, 3) := by decide +kernel
theorem dX11_plus_326 : decode cX11_plus 326 = .ok (.lstore 17, 2) := by decide +kernel
theorem dX11_plus_328 : decode cX11_plus 328 = .ok (.aload_n 0, 1) := by decide +kernel
theorem dX11_plus_329 : decode cX11_plus 329 = .ok (.lload 17, 2) := by decide +kernel
theorem dX11_plus_331 : decode cX11_plus 331 = .ok (.invokevirtual 140, 3) := by decide +kernel
theorem dX11_plus_334 : decode cX11_plus 334 = .ok (.lstore 19, 2) := by decide +kernel
theorem dX11_plus_336 : decode cX11_plus 336 = .ok (.aload_n 0, 1) := by decide +kernel
theorem dX11_plus_337 : decode cX11_plus 337 = .ok (.aload_n 0, 1) := by decide +kernel
theorem dX11_plus_338 : decode cX11_plus 338 = .ok (.lload 7, 2) := by decide +kernel
theorem dX11_plus_340 : decode cX11_plus 340 = .ok (.lload 9, 2) := by decide +kernel
theorem dX11_plus_342 : decode cX11_plus 342 = .ok (.invokevirtual 107, 3) := by decide +kernel
theorem dX11_plus_345 : decode cX11_plus 345 = .ok (.lload 5, 2) := by decide +kernel
theorem dX11_plus_347 : decode cX11_plus 347 = .ok (.lload 17, 2) := by decide +kernel
theorem dX11_plus_349 : decode cX11_plus 349 = .ok (.ldiv, 1) := by decide +kernel
theorem dX11_plus_350 : decode cX11_plus 350 = .ok (.invokevirtual 107, 3) := by decide +kernel
theorem dX11_plus_353 : decode cX11_plus 353 = .ok (.lstore 21, 2) := by decide +kernel
theorem dX11_plus_355 : decode cX11_plus 355 = .ok (.aload_n 0, 1) := by decide +kernel
theorem dX11_plus_356 : decode cX11_plus 356 = .ok (.iload 11, 2) := by decide +kernel
theorem dX11_plus_358 : decode cX11_plus 358 = .ok (.ifCond .eq 9, 3) := by decide +kernel
theorem dX11_plus_361 : decode cX11_plus 361 = .ok (.lload 19, 2) := by decide +kernel
theorem dX11_plus_363 : decode cX11_plus 363 = .ok (.lneg, 1) := by decide +kernel
theorem dX11_plus_364 : decode cX11_plus 364 = .ok (.goto 5, 3) := by decide +kernel
theorem dX11_plus_367 : decode cX11_plus 367 = .ok (.lload 19, 2) := by decide +kernel
theorem dX11_plus_369 : decode cX11_plus 369 = .ok (.putfield 94, 3) := by decide +kernel
theorem dX11_plus_372 : decode cX11_plus 372 = .ok (.aload_n 0, 1) := by decide +kernel
theorem dX11_plus_373 : decode cX11_plus 373 = .ok (.lload 21, 2) := by decide +kernel
theorem dX11_plus_375 : decode cX11_plus 375 = .ok (.putfield 98, 3) := by decide +kernel
theorem dX11_plus_378 : decode cX11_plus 378 = .ok (.return_, 1) := by decide +kernel
theorem dX11_isLess_0 : decode cX11_isLess 0 = .ok (.lload_n 1, 1) := by decide +kernel
theorem dX11_isLess_1 : decode cX11_isLess 1 = .ok (.lconst 0, 1) := by decide +kernel
theorem dX11_isLess_2 : decode cX11_isLess 2 = .ok (.lcmp, 1) := by decide +kernel
theorem dX11_isLess_3 : decode cX11_isLess 3 = .ok (.ifCond .ge 7, 3) := by decide +kernel
theorem dX11_isLess_6 : decode cX11_isLess 6 = .ok (.iconst 1, 1) := by decide +kernel
theorem dX11_isLess_7 : decode cX11_isLess 7 = .ok (.goto 4, 3) := by decide +kernel
theorem dX11_isLess_10 : decode cX11_isLess 10 = .ok (.iconst 0, 1) := by decide +kernel
theorem dX11_isLess_11 : decode cX11_isLess 11 = .ok (.lload 5, 2) := by decide +kernel
theorem dX11_isLess_13 : decode cX11_isLess 13 = .ok (.lconst 0, 1) := by decide +kernel
theorem dX11_isLess_14 : decode cX11_isLess 14 = .ok (.lcmp, 1) := by decide +kernel
theorem dX11_isLess_15 : decode cX11_isLess 15 = .ok (.ifCond .ge 7, 3) := by decide +kernel
theorem dX11_isLess_18 : decode cX11_isLess 18 = .ok (.iconst 1, 1) := by decide +kernel
theorem dX11_isLess_19 : decode cX11_isLess 19 = .ok (.goto 4, 3) := by decide +kernel
theorem dX11_isLess_22 : decode cX11_isLess 22 = .ok (.iconst 0, 1) := by decide +kernel
theorem dX11_isLess_23 : decode cX11_isLess 23 = .ok (.if_icmp .eq 15, 3) := by decide +kernel
theorem dX11_isLess_26 : decode cX11_isLess 26 = .ok (.lload_n 1, 1) := by decide +kernel
theorem dX11_isLess_27 : decode cX11_isLess 27 = .ok (.lconst 0, 1) := by decide +kernel
theorem dX11_isLess_28 : decode cX11_isLess 28 = .ok (.lcmp, 1) := by decide +kernel
theorem dX11_isLess_29 : decode cX11_isLess 29 = .ok (.ifCond .ge 7, 3) := by decide +kernel
theorem dX11_isLess_32 : decode cX11_isLess 32 = .ok (.iconst 1, 1) := by decide +kernel
theorem dX11_isLess_33 : decode cX11_isLess 33 = .ok (.goto 4, 3) := by decide +kernel
theorem dX11_isLess_36 : decode cX11_isLess 36 = .ok (.iconst 0, 1) := by decide +kernel
theorem dX11_isLess_37 : decode cX11_isLess 37 = .ok (.ireturn, 1) := by decide +kernel
theorem dX11_isLess_38 : decode cX11_isLess 38 = .ok (.lload_n 1, 1) := by decide +kernel
theorem dX11_isLess_39 : decode cX11_isLess 39 = .ok (.lconst 0, 1) := by decide +kernel
theorem dX11_isLess_40 : decode cX11_isLess 40 = .ok (.lcmp, 1) := by decide +kernel
theorem dX11_isLess_41 : decode cX11_isLess 41 = .ok (.ifCond .ge 7, 3) := by decide +kernel
theorem dX11_isLess_44 : decode cX11_isLess 44 = .ok (.iconst 1, 1) := by decide +kernel
theorem dX11_isLess_45 : decode cX11_isLess 45 = .ok (.goto 4, 3) := by decide +kernel
theorem dX11_isLess_48 : decode cX11_isLess 48 = .ok (.iconst 0, 1) := by decide +kernel
theorem dX11_isLess_49 : decode cX11_isLess 49 = .ok (.istore 9, 2) := by decide +kernel
theorem dX11_isLess_51 : decode cX11_isLess 51 = .ok (.aload_n 0, 1) := by decide +kernel
theorem dX11_isLess_52 : decode cX11_isLess 52 = .ok (.iload 9, 2) := by decide +kernel
theorem dX11_isLess_54 : decode cX11_isLess 54 = .ok (.ifCond .eq 8, 3) := by decide +kernel
theorem dX11_isLess_57 : decode cX11_isLess 57 = .ok (.lload_n 1, 1) := by decide +kernel
theorem dX11_isLess_58 : decode cX11_isLess 58 = .ok (.lneg, 1) := by decide +kernel
theorem dX11_isLess_59 : decode cX11_isLess 59 = .ok (.goto 4, 3) := by decide +kernel
theorem dX11_isLess_62 : decode cX11_isLess 62 = .ok (.lload_n 1, 1) := by decide +kernel
theorem dX11_isLess_63 : decode cX11_isLess 63 = .ok (.lload 7, 2) := by decide +kernel
theorem dX11_isLess_65 : decode cX11_isLess 65 = .ok (.invokevirtual 126, 3) := by decide +kernel
theorem dX11_isLess_68 : decode cX11_isLess 68 = .ok (.aload_n 0, 1) := by decide +kernel
theorem dX11_isLess_69 : decode cX11_isLess 69 = .ok (.getfield 118, 3) := by decide +kernel
theorem dX11_isLess_72 : decode cX11_isLess 72 = .ok (.lstore 10, 2) := by decide +kernel
theorem dX11_isLess_74 : decode cX11_isLess 74 = .ok (.aload_n 0, 1) := by decide +kernel
theorem dX11_isLess_75 : decode cX11_isLess 75 = .ok (.getfield 121, 3) := by decide +kernel
theorem dX11_isLess_78 : decode cX11_isLess 78 = .ok (.lstore 12, 2) := by decide +kernel
theorem dX11_isLess_80 : decode cX11_isLess 80 = .ok (.aload_n 0, 1) := by decide +kernel
theorem dX11_isLess_81 : decode cX11_isLess 81 = .ok (.iload 9, 2) := by decide +kernel
theorem dX11_isLess_83 : decode cX11_isLess 83 = .ok (.ifCond .eq 9, 3) := by decide +kernel
theorem dX11_isLess_86 : decode cX11_isLess 86 = .ok (.lload 5, 2) := by decide +kernel
theorem dX11_isLess_88 : decode cX11_isLess 88 = .ok (.lneg, 1) := by decide +kernel
theorem dX11_isLess_89 : decode cX11_isLess 89 = .ok (.goto 5, 3) := by decide +kernel
theorem dX11_isLess_92 : decode cX11_isLess 92 = .ok (.lload 5, 2) := by decide +kernel
theorem dX11_isLess_94 : decode cX11_isLess 94 = .ok (.lload_n 3, 1) := by decide +kernel
theorem dX11_isLess_95 : decode cX11_isLess 95 = .ok (.invokevirtual 126, 3) := by decide +kernel
theorem dX11_isLess_98 : decode cX11_isLess 98 = .ok (.lload 10, 2) := by decide +kernel
theorem dX11_isLess_100 : decode cX11_isLess 100 = .ok (.aload_n 0, 1) := by decide +kernel
theorem dX11_isLess_101 : decode cX11_isLess 101 = .ok (.getfield 118, 3) := by decide +kernel
theorem dX11_isLess_104 : decode cX11_isLess 104 = .ok (.lcmp, 1) := by decide +kernel
theorem dX11_isLess_105 : decode cX11_isLess 105 = .ok (.ifCond .lt 23, 3) := by decide +kernel
theorem dX11_isLess_108 : decode cX11_isLess 108 = .ok (.lload 10, 2) := by decide +kernel
theorem dX11_isLess_110 : decode cX11_isLess 110 = .ok (.aload_n 0, 1) := by decide +kernel
theorem dX11_isLess_111 : decode cX11_isLess 111 = .ok (.getfield 118, 3) := by decide +kernel
theorem dX11_isLess_114 : decode cX11_isLess 114 = .ok (.lcmp, 1) := by decide +kernel
theorem dX11_isLess_115 : decode cX11_isLess 115 = .ok (.ifCond .ne 17, 3) := by decide +kernel
theorem dX11_isLess_118 : decode cX11_isLess 118 = .ok (.lload 12, 2) := by decide +kernel
theorem dX11_isLess_120 : decode cX11_isLess 120 = .ok (.aload_n 0, 1) := by decide +kernel
theorem dX11_isLess_121 : decode cX11_isLess 121 = .ok (.getfield 121, 3) := by decide +kernel
theorem dX11_isLess_124 : decode cX11_isLess 124 = .ok (.lcmp, 1) := by decide +kernel
theorem dX11_isLess_125 : decode cX11_isLess 125 = .ok (.ifCond .ge 7, 3) := by decide +kernel
theorem dX11_isLess_128 : decode cX11_isLess 128 = .ok (.iconst 1, 1) := by decide +kernel
theorem dX11_isLess_129 : decode cX11_isLess 129 = .ok (.goto 4, 3) := by decide +kernel
theorem dX11_isLess_132 : decode cX11_isLess 132 = .ok (.iconst 0, 1) := by decide +kernel
theorem dX11_isLess_133 : decode cX11_isLess 133 = .ok (.istore 14, 2) := by decide +kernel
theorem dX11_isLess_135 : decode cX11_isLess 135 = .ok (.lload 10, 2) := by decide +kernel
theorem dX11_isLess_137 : decode cX11_isLess 137 = .ok (.aload_n 0, 1) := by decide +kernel
theorem dX11_isLess_138 : decode cX11_isLess 138 = .ok (.getfield 118, 3) := by decide +kernel
theorem dX11_isLess_141 : decode cX11_isLess 141 = .ok (.lcmp, 1) := by decide +kernel
theorem dX11_isLess_142 : decode cX11_isLess 142 = .ok (.ifCond .gt 23, 3) := by decide +kernel
theorem dX11_isLess_145 : decode cX11_isLess 145 = .ok (.lload 10, 2) := by decide +kernel
theorem dX11_isLess_147 : decode cX11_isLess 147 = .ok (.aload_n 0, 1) := by decide +kernel
theorem dX11_isLess_148 : decode cX11_isLess 148 = .ok (.getfield 118, 3) := by decide +kernel
theorem dX11_isLess_151 : decode cX11_isLess 151 = .ok (.lcmp, 1) := by decide +kernel
theorem dX11_isLess_152 : decode cX11_isLess 152 = .ok (.ifCond .ne 17, 3) := by decide +kernel
theorem dX11_isLess_155 : decode cX11_isLess 155 = .ok (.lload 12, 2) := by decide +kernel
theorem dX11_isLess_157 : decode cX11_isLess 157 = .ok (.aload_n 0, 1) := by decide +kernel
theorem dX11_isLess_158 : decode cX11_isLess 158 = .ok (.getfield 121, 3) := by decide +kernel
theorem dX11_isLess_161 : decode cX11_isLess 161 = .ok (.lcmp, 1) := by decide +kernel
theorem dX11_isLess_162 : decode cX11_isLess 162 = .ok (.ifCond .le 7, 3) := by decide +kernel
theorem dX11_isLess_165 : decode cX11_isLess 165 = .ok (.iconst 1, 1) := by decide +kernel
theorem dX11_isLess_166 : decode cX11_isLess 166 = .ok (.goto 4, 3) := by decide +kernel
theorem dX11_isLess_169 : decode cX11_isLess 169 = .ok (.iconst 0, 1) := by decide +kernel
theorem dX11_isLess_170 : decode cX11_isLess 170 = .ok (.istore 15, 2) := by decide +kernel
theorem dX11_isLess_172 : decode cX11_isLess 172 = .ok (.iload 9, 2) := by decide +kernel
theorem dX11_isLess_174 : decode cX11_isLess 174 = .ok (.ifCond .eq 8, 3) := by decide +kernel
theorem dX11_isLess_177 : decode cX11_isLess 177 = .ok (.iload 15, 2) := by decide +kernel
theorem dX11_isLess_179 : decode cX11_isLess 179 = .ok (.goto 5, 3) := by decide +kernel
theorem dX11_isLess_182 : decode cX11_isLess 182 = .ok (.iload 14, 2) := by decide +kernel
theorem dX11_isLess_184 : decode cX11_isLess 184 = .ok (.ireturn, 1) := by decide +kernel
theorem dX11_lies_0 : decode cX11_lies 0 = .ok (.iload_n 1, 1) := by decide +kernel
theorem dX11_lies_1 : decode cX11_lies 1 = .ok (.i2l, 1) := by decide +kernel
theorem dX11_lies_2 : decode cX11_lies 2 = .ok (.lconst 1, 1) := by decide +kernel
theorem dX11_lies_3 : decode cX11_lies 3 = .ok (.ldc2_w 143, 3) := by decide +kernel
theorem dX11_lies_6 : decode cX11_lies 6 = .ok (.invokestatic 145, 3) := by decide +kernel
theorem dX11_lies_9 : decode cX11_lies 9 = .ok (.ifCond .eq 16, 3) := by decide +kernel
theorem dX11_lies_12 : decode cX11_lies 12 = .ok (.iload_n 2, 1) := by decide +kernel
theorem dX11_lies_13 : decode cX11_lies 13 = .ok (.i2l, 1) := by decide +kernel
theorem dX11_lies_14 : decode cX11_lies 14 = .ok (.lconst 0, 1) := by decide +kernel
theorem dX11_lies_15 : decode cX11_lies 15 = .ok (.iload_n 1, 1) := by decide +kernel
theorem dX11_lies_16 : decode cX11_lies 16 = .ok (.iconst 1, 1) := by decide +kernel
theorem dX11_lies_17 : decode cX11_lies 17 = .ok (.isub, 1) := by decide +kernel
theorem dX11_lies_18 : decode cX11_lies 18 = .ok (.i2l, 1) := by decide +kernel
theorem dX11_lies_19 : decode cX11_lies 19 = .ok (.invokestatic 145, 3) := by decide +kernel
theorem dX11_lies_22 : decode cX11_lies 22 = .ok (.ifCond .ne 7, 3) := by decide +kernel
theorem dX11_lies_25 : decode cX11_lies 25 = .ok (.ldc2_w 149, 3) := by decide +kernel
theorem dX11_lies_28 : decode cX11_lies 28 = .ok (.lreturn, 1) := by decide +kernel
theorem dX11_lies_29 : decode cX11_lies 29 = .ok (.aload_n 0, 1) := by decide +kernel
theorem dX11_lies_30 : decode cX11_lies 30 = .ok (.getfield 7, 3) := by decide +kernel
theorem dX11_lies_33 : decode cX11_lies 33 = .ok (.iload_n 1, 1) := by decide +kernel
theorem dX11_lies_34 : decode cX11_lies 34 = .ok (.iaload, 1) := by decide +kernel
theorem dX11_lies_35 : decode cX11_lies 35 = .ok (.i2l, 1) := by decide +kernel
theorem dX11_lies_36 : decode cX11_lies 36 = .ok (.lstore_n 3, 1) := by decide +kernel
theorem dX11_lies_37 : decode cX11_lies 37 = .ok (.aload_n 0, 1) := by decide +kernel
theorem dX11_lies_38 : decode cX11_lies 38 = .ok (.getfield 7, 3) := by decide +kernel
theorem dX11_lies_41 : decode cX11_lies 41 = .ok (.iload_n 1, 1) := by decide +kernel
theorem dX11_lies_42 : decode cX11_lies 42 = .ok (.iload_n 2, 1) := by decide +kernel
theorem dX11_lies_43 : decode cX11_lies 43 = .ok (.iastore, 1) := by decide +kernel
theorem dX11_lies_44 : decode cX11_lies 44 = .ok (.lload_n 3, 1) := by decide +kernel
theorem dX11_lies_45 : decode cX11_lies 45 = .ok (.lreturn, 1) := by decide +kernel
theorem dX11_isWithin_0 : decode cX11_isWithin 0 = .ok (.iload_n 1, 1) := by decide +kernel
theorem dX11_isWithin_1 : decode cX11_isWithin 1 = .ok (.istore_n 3, 1) := by decide +kernel
theorem dX11_isWithin_2 : decode cX11_isWithin 2 = .ok (.iload_n 3, 1) := by decide +kernel
theorem dX11_isWithin_3 : decode cX11_isWithin 3 = .ok (.iload_n 2, 1) := by decide +kernel
theorem dX11_isWithin_4 : decode cX11_isWithin 4 = .ok (.if_icmp .le 13, 3) := by decide +kernel
theorem dX11_isWithin_7 : decode cX11_isWithin 7 = .ok (.aload_n 0, 1) := by decide +kernel
theorem dX11_isWithin_8 : decode cX11_isWithin 8 = .ok (.getfield 7, 3) := by decide +kernel
theorem dX11_isWithin_11 : decode cX11_isWithin 11 = .ok (.iload_n 3, 1) := by decide +kernel
theorem dX11_isWithin_12 : decode cX11_isWithin 12 = .ok (.iaload, 1) := by decide +kernel
theorem dX11_isWithin_13 : decode cX11_isWithin 13 = .ok (.istore_n 3, 1) := by decide +kernel
theorem dX11_isWithin_14 : decode cX11_isWithin 14 = .ok (.goto (-12), 3) := by decide +kernel
theorem dX11_isWithin_17 : decode cX11_isWithin 17 = .ok (.iload_n 3, 1) := by decide +kernel
theorem dX11_isWithin_18 : decode cX11_isWithin 18 = .ok (.iload_n 2, 1) := by decide +kernel
theorem dX11_isWithin_19 : decode cX11_isWithin 19 = .ok (.if_icmp .ne 7, 3) := by decide +kernel
theorem dX11_isWithin_22 : decode cX11_isWithin 22 = .ok (.iconst 1, 1) := by decide +kernel
theorem dX11_isWithin_23 : decode cX11_isWithin 23 = .ok (.goto 4, 3) := by decide +kernel
theorem dX11_isWithin_26 : decode cX11_isWithin 26 = .ok (.iconst 0, 1) := by decide +kernel
theorem dX11_isWithin_27 : decode cX11_isWithin 27 = .ok (.ireturn, 1) := by decide +kernel
theorem dX11_isPlace_0 : decode cX11_isPlace 0 = .ok (.iload_n 0, 1) := by decide +kernel
theorem dX11_isPlace_1 : decode cX11_isPlace 1 = .ok (.i2l, 1) := by decide +kernel
theorem dX11_isPlace_2 : decode cX11_isPlace 2 = .ok (.lconst 0, 1) := by decide +kernel
theorem dX11_isPlace_3 : decode cX11_isPlace 3 = .ok (.ldc2_w 143, 3) := by decide +kernel
theorem dX11_isPlace_6 : decode cX11_isPlace 6 = .ok (.invokestatic 145, 3) := by decide +kernel
theorem dX11_isPlace_9 : decode cX11_isPlace 9 = .ok (.ireturn, 1) := by decide +kernel
theorem dX11_within_0 : decode cX11_within 0 = .ok (.iload_n 1, 1) := by decide +kernel
theorem dX11_within_1 : decode cX11_within 1 = .ok (.invokestatic 151, 3) := by decide +kernel
theorem dX11_within_4 : decode cX11_within 4 = .ok (.ifCond .eq 10, 3) := by decide +kernel
theorem dX11_within_7 : decode cX11_within 7 = .ok (.iload_n 2, 1) := by decide +kernel
theorem dX11_within_8 : decode cX11_within 8 = .ok (.invokestatic 151, 3) := by decide +kernel
theorem dX11_within_11 : decode cX11_within 11 = .ok (.ifCond .ne 7, 3) := by decide +kernel
theorem dX11_within_14 : decode cX11_within 14 = .ok (.ldc2_w 149, 3) := by decide +kernel
theorem dX11_within_17 : decode cX11_within 17 = .ok (.lreturn, 1) := by decide +kernel
theorem dX11_within_18 : decode cX11_within 18 = .ok (.aload_n 0, 1) := by decide +kernel
theorem dX11_within_19 : decode cX11_within 19 = .ok (.iload_n 1, 1) := by decide +kernel
theorem dX11_within_20 : decode cX11_within 20 = .ok (.iload_n 2, 1) := by decide +kernel
theorem dX11_within_21 : decode cX11_within 21 = .ok (.invokevirtual 155, 3) := by decide +kernel
theorem dX11_within_24 : decode cX11_within 24 = .ok (.ifCond .eq 7, 3) := by decide +kernel
theorem dX11_within_27 : decode cX11_within 27 = .ok (.lconst 1, 1) := by decide +kernel
theorem dX11_within_28 : decode cX11_within 28 = .ok (.goto 4, 3) := by decide +kernel
theorem dX11_within_31 : decode cX11_within 31 = .ok (.lconst 0, 1) := by decide +kernel
theorem dX11_within_32 : decode cX11_within 32 = .ok (.lreturn, 1) := by decide +kernel
theorem dX11_isOne_0 : decode cX11_isOne 0 = .ok (.iload_n 1, 1) := by decide +kernel
theorem dX11_isOne_1 : decode cX11_isOne 1 = .ok (.i2l, 1) := by decide +kernel
theorem dX11_isOne_2 : decode cX11_isOne 2 = .ok (.lconst 0, 1) := by decide +kernel
theorem dX11_isOne_3 : decode cX11_isOne 3 = .ok (.aload_n 0, 1) := by decide +kernel
theorem dX11_isOne_4 : decode cX11_isOne 4 = .ok (.getfield 159, 3) := by decide +kernel
theorem dX11_isOne_7 : decode cX11_isOne 7 = .ok (.iconst 1, 1) := by decide +kernel
theorem dX11_isOne_8 : decode cX11_isOne 8 = .ok (.isub, 1) := by decide +kernel
theorem dX11_isOne_9 : decode cX11_isOne 9 = .ok (.i2l, 1) := by decide +kernel
theorem dX11_isOne_10 : decode cX11_isOne 10 = .ok (.invokestatic 145, 3) := by decide +kernel
theorem dX11_isOne_13 : decode cX11_isOne 13 = .ok (.ireturn, 1) := by decide +kernel
theorem dX11_likeness_0 : decode cX11_likeness 0 = .ok (.iload_n 1, 1) := by decide +kernel
theorem dX11_likeness_1 : decode cX11_likeness 1 = .ok (.i2l, 1) := by decide +kernel
theorem dX11_likeness_2 : decode cX11_likeness 2 = .ok (.lconst 0, 1) := by decide +kernel
theorem dX11_likeness_3 : decode cX11_likeness 3 = .ok (.ldc2_w 163, 3) := by decide +kernel
theorem dX11_likeness_6 : decode cX11_likeness 6 = .ok (.invokestatic 145, 3) := by decide +kernel
theorem dX11_likeness_9 : decode cX11_likeness 9 = .ok (.ifCond .eq 40, 3) := by decide +kernel
theorem dX11_likeness_12 : decode cX11_likeness 12 = .ok (.iload_n 2, 1) := by decide +kernel
theorem dX11_likeness_13 : decode cX11_likeness 13 = .ok (.i2l, 1) := by decide +kernel
theorem dX11_likeness_14 : decode cX11_likeness 14 = .ok (.lconst 0, 1) := by decide +kernel
theorem dX11_likeness_15 : decode cX11_likeness 15 = .ok (.ldc2_w 165, 3) := by decide +kernel
theorem dX11_likeness_18 : decode cX11_likeness 18 = .ok (.invokestatic 145, 3) := by decide +kernel
theorem dX11_likeness_21 : decode cX11_likeness 21 = .ok (.ifCond .eq 28, 3) := by decide +kernel
theorem dX11_likeness_24 : decode cX11_likeness 24 = .ok (.iload_n 3, 1) := by decide +kernel
theorem dX11_likeness_25 : decode cX11_likeness 25 = .ok (.i2l, 1) := by decide +kernel
theorem dX11_likeness_26 : decode cX11_likeness 26 = .ok (.lconst 1, 1) := by decide +kernel
theorem dX11_likeness_27 : decode cX11_likeness 27 = .ok (.ldc2_w 124, 3) := by decide +kernel
theorem dX11_likeness_30 : decode cX11_likeness 30 = .ok (.invokestatic 145, 3) := by decide +kernel
theorem dX11_likeness_33 : decode cX11_likeness 33 = .ok (.ifCond .eq 16, 3) := by decide +kernel
theorem dX11_likeness_36 : decode cX11_likeness 36 = .ok (.iload 4, 2) := by decide +kernel
theorem dX11_likeness_38 : decode cX11_likeness 38 = .ok (.i2l, 1) := by decide +kernel
theorem dX11_likeness_39 : decode cX11_likeness 39 = .ok (.lconst 1, 1) := by decide +kernel
theorem dX11_likeness_40 : decode cX11_likeness 40 = .ok (.ldc2_w 124, 3) := by decide +kernel
theorem dX11_likeness_43 : decode cX11_likeness 43 = .ok (.invokestatic 145, 3) := by decide +kernel
theorem dX11_likeness_46 : decode cX11_likeness 46 = .ok (.ifCond .ne 7, 3) := by decide +kernel
theorem dX11_likeness_49 : decode cX11_likeness 49 = .ok (.ldc2_w 149, 3) := by decide +kernel
theorem dX11_likeness_52 : decode cX11_likeness 52 = .ok (.lreturn, 1) := by decide +kernel
theorem dX11_likeness_53 : decode cX11_likeness 53 = .ok (.aload_n 0, 1) := by decide +kernel
theorem dX11_likeness_54 : decode cX11_likeness 54 = .ok (.getfield 159, 3) := by decide +kernel
theorem dX11_likeness_57 : decode cX11_likeness 57 = .ok (.bipush 24, 2) := by decide +kernel
theorem dX11_likeness_59 : decode cX11_likeness 59 = .ok (.if_icmp .ne 7, 3) := by decide +kernel
theorem dX11_likeness_62 : decode cX11_likeness 62 = .ok (.ldc2_w 167, 3) := by decide +kernel
theorem dX11_likeness_65 : decode cX11_likeness 65 = .ok (.lreturn, 1) := by decide +kernel
theorem dX11_likeness_66 : decode cX11_likeness 66 = .ok (.aload_n 0, 1) := by decide +kernel
theorem dX11_likeness_67 : decode cX11_likeness 67 = .ok (.getfield 13, 3) := by decide +kernel
theorem dX11_likeness_70 : decode cX11_likeness 70 = .ok (.aload_n 0, 1) := by decide +kernel
theorem dX11_likeness_71 : decode cX11_likeness 71 = .ok (.getfield 159, 3) := by decide +kernel
theorem dX11_likeness_74 : decode cX11_likeness 74 = .ok (.iload_n 1, 1) := by decide +kernel
theorem dX11_likeness_75 : decode cX11_likeness 75 = .ok (.iastore, 1) := by decide +kernel
theorem dX11_likeness_76 : decode cX11_likeness 76 = .ok (.aload_n 0, 1) := by decide +kernel
theorem dX11_likeness_77 : decode cX11_likeness 77 = .ok (.getfield 16, 3) := by decide +kernel
theorem dX11_likeness_80 : decode cX11_likeness 80 = .ok (.aload_n 0, 1) := by decide +kernel
theorem dX11_likeness_81 : decode cX11_likeness 81 = .ok (.getfield 159, 3) := by decide +kernel
theorem dX11_likeness_84 : decode cX11_likeness 84 = .ok (.iload_n 2, 1) := by decide +kernel
theorem dX11_likeness_85 : decode cX11_likeness 85 = .ok (.bipush 10, 2) := by decide +kernel
theorem dX11_likeness_87 : decode cX11_likeness 87 = .ok (.idiv, 1) := by decide +kernel
theorem dX11_likeness_88 : decode cX11_likeness 88 = .ok (.iastore, 1) := by decide +kernel
theorem dX11_likeness_89 : decode cX11_likeness 89 = .ok (.aload_n 0, 1) := by decide +kernel
theorem dX11_likeness_90 : decode cX11_likeness 90 = .ok (.getfield 19, 3) := by decide +kernel
theorem dX11_likeness_93 : decode cX11_likeness 93 = .ok (.aload_n 0, 1) := by decide +kernel
theorem dX11_likeness_94 : decode cX11_likeness 94 = .ok (.getfield 159, 3) := by decide +kernel
theorem dX11_likeness_97 : decode cX11_likeness 97 = .ok (.iload_n 2, 1) := by decide +kernel
theorem dX11_likeness_98 : decode cX11_likeness 98 = .ok (.bipush 10, 2) := by decide +kernel
theorem dX11_likeness_100 : decode cX11_likeness 100 = .ok (.irem, 1) := by decide +kernel
theorem dX11_likeness_101 : decode cX11_likeness 101 = .ok (.iastore, 1) := by decide +kernel
theorem dX11_likeness_102 : decode cX11_likeness 102 = .ok (.aload_n 0, 1) := by decide +kernel
theorem dX11_likeness_103 : decode cX11_likeness 103 = .ok (.getfield 22, 3) := by decide +kernel
theorem dX11_likeness_106 : decode cX11_likeness 106 = .ok (.aload_n 0, 1) := by decide +kernel
theorem dX11_likeness_107 : decode cX11_likeness 107 = .ok (.getfield 159, 3) := by decide +kernel
theorem dX11_likeness_110 : decode cX11_likeness 110 = .ok (.iload_n 3, 1) := by decide +kernel
theorem dX11_likeness_111 : decode cX11_likeness 111 = .ok (.iastore, 1) := by decide +kernel
theorem dX11_likeness_112 : decode cX11_likeness 112 = .ok (.aload_n 0, 1) := by decide +kernel
theorem dX11_likeness_113 : decode cX11_likeness 113 = .ok (.getfield 25, 3) := by decide +kernel
theorem dX11_likeness_116 : decode cX11_likeness 116 = .ok (.aload_n 0, 1) := by decide +kernel
theorem dX11_likeness_117 : decode cX11_likeness 117 = .ok (.getfield 159, 3) := by decide +kernel
theorem dX11_likeness_120 : decode cX11_likeness 120 = .ok (.iload 4, 2) := by decide +kernel
theorem dX11_likeness_122 : decode cX11_likeness 122 = .ok (.iastore, 1) := by decide +kernel
theorem dX11_likeness_123 : decode cX11_likeness 123 = .ok (.aload_n 0, 1) := by decide +kernel
theorem dX11_likeness_124 : decode cX11_likeness 124 = .ok (.getfield 28, 3) := by decide +kernel
theorem dX11_likeness_127 : decode cX11_likeness 127 = .ok (.aload_n 0, 1) := by decide +kernel
theorem dX11_likeness_128 : decode cX11_likeness 128 = .ok (.getfield 159, 3) := by decide +kernel
theorem dX11_likeness_131 : decode cX11_likeness 131 = .ok (.iconst 0, 1) := by decide +kernel
theorem dX11_likeness_132 : decode cX11_likeness 132 = .ok (.iastore, 1) := by decide +kernel
theorem dX11_likeness_133 : decode cX11_likeness 133 = .ok (.aload_n 0, 1) := by decide +kernel
theorem dX11_likeness_134 : decode cX11_likeness 134 = .ok (.getfield 31, 3) := by decide +kernel
theorem dX11_likeness_137 : decode cX11_likeness 137 = .ok (.aload_n 0, 1) := by decide +kernel
theorem dX11_likeness_138 : decode cX11_likeness 138 = .ok (.getfield 159, 3) := by decide +kernel
theorem dX11_likeness_141 : decode cX11_likeness 141 = .ok (.iconst 0, 1) := by decide +kernel
theorem dX11_likeness_142 : decode cX11_likeness 142 = .ok (.iastore, 1) := by decide +kernel
theorem dX11_likeness_143 : decode cX11_likeness 143 = .ok (.aload_n 0, 1) := by decide +kernel
theorem dX11_likeness_144 : decode cX11_likeness 144 = .ok (.getfield 34, 3) := by decide +kernel
theorem dX11_likeness_147 : decode cX11_likeness 147 = .ok (.aload_n 0, 1) := by decide +kernel
theorem dX11_likeness_148 : decode cX11_likeness 148 = .ok (.getfield 159, 3) := by decide +kernel
theorem dX11_likeness_151 : decode cX11_likeness 151 = .ok (.sipush 9999, 3) := by decide +kernel
theorem dX11_likeness_154 : decode cX11_likeness 154 = .ok (.iastore, 1) := by decide +kernel
theorem dX11_likeness_155 : decode cX11_likeness 155 = .ok (.aload_n 0, 1) := by decide +kernel
theorem dX11_likeness_156 : decode cX11_likeness 156 = .ok (.getfield 37, 3) := by decide +kernel
theorem dX11_likeness_159 : decode cX11_likeness 159 = .ok (.aload_n 0, 1) := by decide +kernel
theorem dX11_likeness_160 : decode cX11_likeness 160 = .ok (.getfield 159, 3) := by decide +kernel
theorem dX11_likeness_163 : decode cX11_likeness 163 = .ok (.iconst 1, 1) := by decide +kernel
theorem dX11_likeness_164 : decode cX11_likeness 164 = .ok (.iastore, 1) := by decide +kernel
theorem dX11_likeness_165 : decode cX11_likeness 165 = .ok (.aload_n 0, 1) := by decide +kernel
theorem dX11_likeness_166 : decode cX11_likeness 166 = .ok (.getfield 40, 3) := by decide +kernel
theorem dX11_likeness_169 : decode cX11_likeness 169 = .ok (.aload_n 0, 1) := by decide +kernel
theorem dX11_likeness_170 : decode cX11_likeness 170 = .ok (.getfield 159, 3) := by decide +kernel
theorem dX11_likeness_173 : decode cX11_likeness 173 = .ok (.iconst 0, 1) := by decide +kernel
theorem dX11_likeness_174 : decode cX11_likeness 174 = .ok (.iastore, 1) := by decide +kernel
theorem dX11_likeness_175 : decode cX11_likeness 175 = .ok (.aload_n 0, 1) := by decide +kernel
theorem dX11_likeness_176 : decode cX11_likeness 176 = .ok (.getfield 43, 3) := by decide +kernel
theorem dX11_likeness_179 : decode cX11_likeness 179 = .ok (.aload_n 0, 1) := by decide +kernel
theorem dX11_likeness_180 : decode cX11_likeness 180 = .ok (.getfield 159, 3) := by decide +kernel
theorem dX11_likeness_183 : decode cX11_likeness 183 = .ok (.iconst 0, 1) := by decide +kernel
theorem dX11_likeness_184 : decode cX11_likeness 184 = .ok (.bastore, 1) := by decide +kernel
theorem dX11_likeness_185 : decode cX11_likeness 185 = .ok (.aload_n 0, 1) := by decide +kernel
theorem dX11_likeness_186 : decode cX11_likeness 186 = .ok (.dup, 1) := by decide +kernel
theorem dX11_likeness_187 : decode cX11_likeness 187 = .ok (.getfield 159, 3) := by decide +kernel
theorem dX11_likeness_190 : decode cX11_likeness 190 = .ok (.iconst 1, 1) := by decide +kernel
theorem dX11_likeness_191 : decode cX11_likeness 191 = .ok (.iadd, 1) := by decide +kernel
theorem dX11_likeness_192 : decode cX11_likeness 192 = .ok (.putfield 159, 3) := by decide +kernel
theorem dX11_likeness_195 : decode cX11_likeness 195 = .ok (.aload_n 0, 1) := by decide +kernel
theorem dX11_likeness_196 : decode cX11_likeness 196 = .ok (.getfield 159, 3) := by decide +kernel
theorem dX11_likeness_199 : decode cX11_likeness 199 = .ok (.iconst 1, 1) := by decide +kernel
theorem dX11_likeness_200 : decode cX11_likeness 200 = .ok (.isub, 1) := by decide +kernel
theorem dX11_likeness_201 : decode cX11_likeness 201 = .ok (.i2l, 1) := by decide +kernel
theorem dX11_likeness_202 : decode cX11_likeness 202 = .ok (.lreturn, 1) := by decide +kernel
theorem dX11_holds_0 : decode cX11_holds 0 = .ok (.aload_n 0, 1) := by decide +kernel
theorem dX11_holds_1 : decode cX11_holds 1 = .ok (.iload_n 1, 1) := by decide +kernel
theorem dX11_holds_2 : decode cX11_holds 2 = .ok (.invokevirtual 169, 3) := by decide +kernel
theorem dX11_holds_5 : decode cX11_holds 5 = .ok (.ifCond .eq 36, 3) := by decide +kernel
theorem dX11_holds_8 : decode cX11_holds 8 = .ok (.iload_n 2, 1) := by decide +kernel
theorem dX11_holds_9 : decode cX11_holds 9 = .ok (.invokestatic 151, 3) := by decide +kernel
theorem dX11_holds_12 : decode cX11_holds 12 = .ok (.ifCond .eq 29, 3) := by decide +kernel
theorem dX11_holds_15 : decode cX11_holds 15 = .ok (.iload_n 3, 1) := by decide +kernel
theorem dX11_holds_16 : decode cX11_holds 16 = .ok (.i2l, 1) := by decide +kernel
theorem dX11_holds_17 : decode cX11_holds 17 = .ok (.lconst 0, 1) := by decide +kernel
theorem dX11_holds_18 : decode cX11_holds 18 = .ok (.ldc2_w 172, 3) := by decide +kernel
theorem dX11_holds_21 : decode cX11_holds 21 = .ok (.invokestatic 145, 3) := by decide +kernel
theorem dX11_holds_24 : decode cX11_holds 24 = .ok (.ifCond .eq 17, 3) := by decide +kernel
theorem dX11_holds_27 : decode cX11_holds 27 = .ok (.iload 4, 2) := by decide +kernel
theorem dX11_holds_29 : decode cX11_holds 29 = .ok (.i2l, 1) := by decide +kernel
theorem dX11_holds_30 : decode cX11_holds 30 = .ok (.iload_n 3, 1) := by decide +kernel
theorem dX11_holds_31 : decode cX11_holds 31 = .ok (.i2l, 1) := by decide +kernel
theorem dX11_holds_32 : decode cX11_holds 32 = .ok (.ldc2_w 172, 3) := by decide +kernel
theorem dX11_holds_35 : decode cX11_holds 35 = .ok (.invokestatic 145, 3) := by decide +kernel
theorem dX11_holds_38 : decode cX11_holds 38 = .ok (.ifCond .ne 7, 3) := by decide +kernel
theorem dX11_holds_41 : decode cX11_holds 41 = .ok (.ldc2_w 149, 3) := by decide +kernel
theorem dX11_holds_44 : decode cX11_holds 44 = .ok (.lreturn, 1) := by decide +kernel
theorem dX11_holds_45 : decode cX11_holds 45 = .ok (.aload_n 0, 1) := by decide +kernel
theorem dX11_holds_46 : decode cX11_holds 46 = .ok (.getfield 28, 3) := by decide +kernel
theorem dX11_holds_49 : decode cX11_holds 49 = .ok (.iload_n 1, 1) := by decide +kernel
theorem dX11_holds_50 : decode cX11_holds 50 = .ok (.iload_n 2, 1) := by decide +kernel
theorem dX11_holds_51 : decode cX11_holds 51 = .ok (.iastore, 1) := by decide +kernel
theorem dX11_holds_52 : decode cX11_holds 52 = .ok (.aload_n 0, 1) := by decide +kernel
theorem dX11_holds_53 : decode cX11_holds 53 = .ok (.getfield 31, 3) := by decide +kernel
theorem dX11_holds_56 : decode cX11_holds 56 = .ok (.iload_n 1, 1) := by decide +kernel
theorem dX11_holds_57 : decode cX11_holds 57 = .ok (.iload_n 3, 1) := by decide +kernel
theorem dX11_holds_58 : decode cX11_holds 58 = .ok (.iastore, 1) := by decide +kernel
theorem dX11_holds_59 : decode cX11_holds 59 = .ok (.aload_n 0, 1) := by decide +kernel
theorem dX11_holds_60 : decode cX11_holds 60 = .ok (.getfield 34, 3) := by decide +kernel
theorem dX11_holds_63 : decode cX11_holds 63 = .ok (.iload_n 1, 1) := by decide +kernel
theorem dX11_holds_64 : decode cX11_holds 64 = .ok (.iload 4, 2) := by decide +kernel
theorem dX11_holds_66 : decode cX11_holds 66 = .ok (.iastore, 1) := by decide +kernel
theorem dX11_holds_67 : decode cX11_holds 67 = .ok (.lconst 0, 1) := by decide +kernel
theorem dX11_holds_68 : decode cX11_holds 68 = .ok (.lreturn, 1) := by decide +kernel
theorem dX11_doubt_0 : decode cX11_doubt 0 = .ok (.aload_n 0, 1) := by decide +kernel
theorem dX11_doubt_1 : decode cX11_doubt 1 = .ok (.iload_n 1, 1) := by decide +kernel
theorem dX11_doubt_2 : decode cX11_doubt 2 = .ok (.invokevirtual 169, 3) := by decide +kernel
theorem dX11_doubt_5 : decode cX11_doubt 5 = .ok (.ifCond .eq 27, 3) := by decide +kernel
theorem dX11_doubt_8 : decode cX11_doubt 8 = .ok (.iload_n 2, 1) := by decide +kernel
theorem dX11_doubt_9 : decode cX11_doubt 9 = .ok (.i2l, 1) := by decide +kernel
theorem dX11_doubt_10 : decode cX11_doubt 10 = .ok (.lconst 0, 1) := by decide +kernel
theorem dX11_doubt_11 : decode cX11_doubt 11 = .ok (.ldc2_w 174, 3) := by decide +kernel
theorem dX11_doubt_14 : decode cX11_doubt 14 = .ok (.invokestatic 145, 3) := by decide +kernel
theorem dX11_doubt_17 : decode cX11_doubt 17 = .ok (.ifCond .eq 15, 3) := by decide +kernel
theorem dX11_doubt_20 : decode cX11_doubt 20 = .ok (.iload_n 3, 1) := by decide +kernel
theorem dX11_doubt_21 : decode cX11_doubt 21 = .ok (.i2l, 1) := by decide +kernel
theorem dX11_doubt_22 : decode cX11_doubt 22 = .ok (.lconst 0, 1) := by decide +kernel
theorem dX11_doubt_23 : decode cX11_doubt 23 = .ok (.ldc2_w 176, 3) := by decide +kernel
theorem dX11_doubt_26 : decode cX11_doubt 26 = .ok (.invokestatic 145, 3) := by decide +kernel
theorem dX11_doubt_29 : decode cX11_doubt 29 = .ok (.ifCond .ne 7, 3) := by decide +kernel
theorem dX11_doubt_32 : decode cX11_doubt 32 = .ok (.ldc2_w 149, 3) := by decide +kernel
theorem dX11_doubt_35 : decode cX11_doubt 35 = .ok (.lreturn, 1) := by decide +kernel
theorem dX11_doubt_36 : decode cX11_doubt 36 = .ok (.aload_n 0, 1) := by decide +kernel
theorem dX11_doubt_37 : decode cX11_doubt 37 = .ok (.getfield 37, 3) := by decide +kernel
theorem dX11_doubt_40 : decode cX11_doubt 40 = .ok (.iload_n 1, 1) := by decide +kernel
theorem dX11_doubt_41 : decode cX11_doubt 41 = .ok (.iload_n 2, 1) := by decide +kernel
theorem dX11_doubt_42 : decode cX11_doubt 42 = .ok (.iastore, 1) := by decide +kernel
theorem dX11_doubt_43 : decode cX11_doubt 43 = .ok (.aload_n 0, 1) := by decide +kernel
theorem dX11_doubt_44 : decode cX11_doubt 44 = .ok (.getfield 40, 3) := by decide +kernel
theorem dX11_doubt_47 : decode cX11_doubt 47 = .ok (.iload_n 1, 1) := by decide +kernel
theorem dX11_doubt_48 : decode cX11_doubt 48 = .ok (.iload_n 3, 1) := by decide +kernel
theorem dX11_doubt_49 : decode cX11_doubt 49 = .ok (.iastore, 1) := by decide +kernel
theorem dX11_doubt_50 : decode cX11_doubt 50 = .ok (.lconst 0, 1) := by decide +kernel
theorem dX11_doubt_51 : decode cX11_doubt 51 = .ok (.lreturn, 1) := by decide +kernel
theorem dX11_isDoubtful_0 : decode cX11_isDoubtful 0 = .ok (.aload_n 0, 1) := by decide +kernel
theorem dX11_isDoubtful_1 : decode cX11_isDoubtful 1 = .ok (.getfield 13, 3) := by decide +kernel
theorem dX11_isDoubtful_4 : decode cX11_isDoubtful 4 = .ok (.iload_n 1, 1) := by decide +kernel
theorem dX11_isDoubtful_5 : decode cX11_isDoubtful 5 = .ok (.iaload, 1) := by decide +kernel
theorem dX11_isDoubtful_6 : decode cX11_isDoubtful 6 = .ok (.iconst 2, 1) := by decide +kernel
theorem dX11_isDoubtful_7 : decode cX11_isDoubtful 7 = .ok (.if_icmp .eq 13, 3) := by decide +kernel
theorem dX11_isDoubtful_10 : decode cX11_isDoubtful 10 = .ok (.aload_n 0, 1) := by decide +kernel
theorem dX11_isDoubtful_11 : decode cX11_isDoubtful 11 = .ok (.getfield 13, 3) := by decide +kernel
theorem dX11_isDoubtful_14 : decode cX11_isDoubtful 14 = .ok (.iload_n 1, 1) := by decide +kernel
theorem dX11_isDoubtful_15 : decode cX11_isDoubtful 15 = .ok (.iaload, 1) := by decide +kernel
theorem dX11_isDoubtful_16 : decode cX11_isDoubtful 16 = .ok (.iconst 4, 1) := by decide +kernel
theorem dX11_isDoubtful_17 : decode cX11_isDoubtful 17 = .ok (.if_icmp .ne 7, 3) := by decide +kernel
theorem dX11_isDoubtful_20 : decode cX11_isDoubtful 20 = .ok (.iconst 1, 1) := by decide +kernel
theorem dX11_isDoubtful_21 : decode cX11_isDoubtful 21 = .ok (.goto 4, 3) := by decide +kernel
theorem dX11_isDoubtful_24 : decode cX11_isDoubtful 24 = .ok (.iconst 0, 1) := by decide +kernel
theorem dX11_isDoubtful_25 : decode cX11_isDoubtful 25 = .ok (.ireturn, 1) := by decide +kernel
theorem dX11_isHeaped_0 : decode cX11_isHeaped 0 = .ok (.aload_n 0, 1) := by decide +kernel
theorem dX11_isHeaped_1 : decode cX11_isHeaped 1 = .ok (.getfield 13, 3) := by decide +kernel
theorem dX11_isHeaped_4 : decode cX11_isHeaped 4 = .ok (.iload_n 1, 1) := by decide +kernel
theorem dX11_isHeaped_5 : decode cX11_isHeaped 5 = .ok (.iaload, 1) := by decide +kernel
theorem dX11_isHeaped_6 : decode cX11_isHeaped 6 = .ok (.iconst 1, 1) := by decide +kernel
theorem dX11_isHeaped_7 : decode cX11_isHeaped 7 = .ok (.if_icmp .eq 13, 3) := by decide +kernel
theorem dX11_isHeaped_10 : decode cX11_isHeaped 10 = .ok (.aload_n 0, 1) := by decide +kernel
theorem dX11_isHeaped_11 : decode cX11_isHeaped 11 = .ok (.getfield 13, 3) := by decide +kernel
theorem dX11_isHeaped_14 : decode cX11_isHeaped 14 = .ok (.iload_n 1, 1) := by decide +kernel
theorem dX11_isHeaped_15 : decode cX11_isHeaped 15 = .ok (.iaload, 1) := by decide +kernel
theorem dX11_isHeaped_16 : decode cX11_isHeaped 16 = .ok (.iconst 3, 1) := by decide +kernel
theorem dX11_isHeaped_17 : decode cX11_isHeaped 17 = .ok (.if_icmp .ne 7, 3) := by decide +kernel
theorem dX11_isHeaped_20 : decode cX11_isHeaped 20 = .ok (.iconst 1, 1) := by decide +kernel
theorem dX11_isHeaped_21 : decode cX11_isHeaped 21 = .ok (.goto 4, 3) := by decide +kernel
theorem dX11_isHeaped_24 : decode cX11_isHeaped 24 = .ok (.iconst 0, 1) := by decide +kernel
theorem dX11_isHeaped_25 : decode cX11_isHeaped 25 = .ok (.ireturn, 1) := by decide +kernel
theorem dX11_drop_0 : decode cX11_drop 0 = .ok (.aload_n 0, 1) := by decide +kernel
theorem dX11_drop_1 : decode cX11_drop 1 = .ok (.iload_n 1, 1) := by decide +kernel
theorem dX11_drop_2 : decode cX11_drop 2 = .ok (.invokevirtual 169, 3) := by decide +kernel
theorem dX11_drop_5 : decode cX11_drop 5 = .ok (.ifCond .eq 13, 3) := by decide +kernel
theorem dX11_drop_8 : decode cX11_drop 8 = .ok (.iload_n 2, 1) := by decide +kernel
theorem dX11_drop_9 : decode cX11_drop 9 = .ok (.i2l, 1) := by decide +kernel
theorem dX11_drop_10 : decode cX11_drop 10 = .ok (.lconst 0, 1) := by decide +kernel
theorem dX11_drop_11 : decode cX11_drop 11 = .ok (.lconst 1, 1) := by decide +kernel
theorem dX11_drop_12 : decode cX11_drop 12 = .ok (.invokestatic 145, 3) := by decide +kernel
theorem dX11_drop_15 : decode cX11_drop 15 = .ok (.ifCond .ne 7, 3) := by decide +kernel
theorem dX11_drop_18 : decode cX11_drop 18 = .ok (.ldc2_w 149, 3) := by decide +kernel
theorem dX11_drop_21 : decode cX11_drop 21 = .ok (.lreturn, 1) := by decide +kernel
theorem dX11_drop_22 : decode cX11_drop 22 = .ok (.aload_n 0, 1) := by decide +kernel
theorem dX11_drop_23 : decode cX11_drop 23 = .ok (.iload_n 1, 1) := by decide +kernel
theorem dX11_drop_24 : decode cX11_drop 24 = .ok (.invokevirtual 178, 3) := by decide +kernel
theorem dX11_drop_27 : decode cX11_drop 27 = .ok (.ifCond .ne 7, 3) := by decide +kernel
theorem dX11_drop_30 : decode cX11_drop 30 = .ok (.ldc2_w 181, 3) := by decide +kernel
theorem dX11_drop_33 : decode cX11_drop 33 = .ok (.lreturn, 1) := by decide +kernel
theorem dX11_drop_34 : decode cX11_drop 34 = .ok (.aload_n 0, 1) := by decide +kernel
theorem dX11_drop_35 : decode cX11_drop 35 = .ok (.getfield 43, 3) := by decide +kernel
theorem dX11_drop_38 : decode cX11_drop 38 = .ok (.iload_n 1, 1) := by decide +kernel
theorem dX11_drop_39 : decode cX11_drop 39 = .ok (.baload, 1) := by decide +kernel
theorem dX11_drop_40 : decode cX11_drop 40 = .ok (.istore_n 3, 1) := by decide +kernel
theorem dX11_drop_41 : decode cX11_drop 41 = .ok (.aload_n 0, 1) := by decide +kernel
theorem dX11_drop_42 : decode cX11_drop 42 = .ok (.getfield 43, 3) := by decide +kernel
theorem dX11_drop_45 : decode cX11_drop 45 = .ok (.iload_n 1, 1) := by decide +kernel
theorem dX11_drop_46 : decode cX11_drop 46 = .ok (.iload_n 2, 1) := by decide +kernel
theorem dX11_drop_47 : decode cX11_drop 47 = .ok (.iconst 1, 1) := by decide +kernel
theorem dX11_drop_48 : decode cX11_drop 48 = .ok (.if_icmp .ne 7, 3) := by decide +kernel
theorem dX11_drop_51 : decode cX11_drop 51 = .ok (.iconst 1, 1) := by decide +kernel
theorem dX11_drop_52 : decode cX11_drop 52 = .ok (.goto 4, 3) := by decide +kernel
theorem dX11_drop_55 : decode cX11_drop 55 = .ok (.iconst 0, 1) := by decide +kernel
theorem dX11_drop_56 : decode cX11_drop 56 = .ok (.bastore, 1) := by decide +kernel
theorem dX11_drop_57 : decode cX11_drop 57 = .ok (.iload_n 3, 1) := by decide +kernel
theorem dX11_drop_58 : decode cX11_drop 58 = .ok (.ifCond .eq 7, 3) := by decide +kernel
theorem dX11_drop_61 : decode cX11_drop 61 = .ok (.lconst 1, 1) := by decide +kernel
theorem dX11_drop_62 : decode cX11_drop 62 = .ok (.goto 4, 3) := by decide +kernel
theorem dX11_drop_65 : decode cX11_drop 65 = .ok (.lconst 0, 1) := by decide +kernel
theorem dX11_drop_66 : decode cX11_drop 66 = .ok (.lreturn, 1) := by decide +kernel
theorem dX11_forget_0 : decode cX11_forget 0 = .ok (.aload_n 0, 1) := by decide +kernel
theorem dX11_forget_1 : decode cX11_forget 1 = .ok (.getfield 159, 3) := by decide +kernel
theorem dX11_forget_4 : decode cX11_forget 4 = .ok (.ifCond .ne 7, 3) := by decide +kernel
theorem dX11_forget_7 : decode cX11_forget 7 = .ok (.ldc2_w 181, 3) := by decide +kernel
theorem dX11_forget_10 : decode cX11_forget 10 = .ok (.lreturn, 1) := by decide +kernel
theorem dX11_forget_11 : decode cX11_forget 11 = .ok (.aload_n 0, 1) := by decide +kernel
theorem dX11_forget_12 : decode cX11_forget 12 = .ok (.dup, 1) := by decide +kernel
theorem dX11_forget_13 : decode cX11_forget 13 = .ok (.getfield 159, 3) := by decide +kernel
theorem dX11_forget_16 : decode cX11_forget 16 = .ok (.iconst 1, 1) := by decide +kernel
theorem dX11_forget_17 : decode cX11_forget 17 = .ok (.isub, 1) := by decide +kernel
theorem dX11_forget_18 : decode cX11_forget 18 = .ok (.putfield 159, 3) := by decide +kernel
theorem dX11_forget_21 : decode cX11_forget 21 = .ok (.aload_n 0, 1) := by decide +kernel
theorem dX11_forget_22 : decode cX11_forget 22 = .ok (.getfield 159, 3) := by decide +kernel
theorem dX11_forget_25 : decode cX11_forget 25 = .ok (.i2l, 1) := by decide +kernel
theorem dX11_forget_26 : decode cX11_forget 26 = .ok (.lreturn, 1) := by decide +kernel
theorem dX11_told_0 : decode cX11_told 0 = .ok (.aload_n 0, 1) := by decide +kernel
theorem dX11_told_1 : decode cX11_told 1 = .ok (.iload_n 1, 1) := by decide +kernel
theorem dX11_told_2 : decode cX11_told 2 = .ok (.invokevirtual 169, 3) := by decide +kernel
theorem dX11_told_5 : decode cX11_told 5 = .ok (.ifCond .eq 15, 3) := by decide +kernel
theorem dX11_told_8 : decode cX11_told 8 = .ok (.iload_n 2, 1) := by decide +kernel
theorem dX11_told_9 : decode cX11_told 9 = .ok (.i2l, 1) := by decide +kernel
theorem dX11_told_10 : decode cX11_told 10 = .ok (.lconst 0, 1) := by decide +kernel
theorem dX11_told_11 : decode cX11_told 11 = .ok (.ldc2_w 112, 3) := by decide +kernel
theorem dX11_told_14 : decode cX11_told 14 = .ok (.invokestatic 145, 3) := by decide +kernel
theorem dX11_told_17 : decode cX11_told 17 = .ok (.ifCond .ne 7, 3) := by decide +kernel
theorem dX11_told_20 : decode cX11_told 20 = .ok (.ldc2_w 149, 3) := by decide +kernel
theorem dX11_told_23 : decode cX11_told 23 = .ok (.lreturn, 1) := by decide +kernel
theorem dX11_told_24 : decode cX11_told 24 = .ok (.iload_n 2, 1) := by decide +kernel
theorem dX11_told_25 : decode cX11_told 25 = .ok (.tableswitch 135 0 9 #[55, 63, 71, 79, 87, 95, 103, 111, 119, 127], 55) := by decide +kernel
theorem dX11_told_80 : decode cX11_told 80 = .ok (.aload_n 0, 1) := by decide +kernel
theorem dX11_told_81 : decode cX11_told 81 = .ok (.getfield 13, 3) := by decide +kernel
theorem dX11_told_84 : decode cX11_told 84 = .ok (.iload_n 1, 1) := by decide +kernel
theorem dX11_told_85 : decode cX11_told 85 = .ok (.iaload, 1) := by decide +kernel
theorem dX11_told_86 : decode cX11_told 86 = .ok (.i2l, 1) := by decide +kernel
theorem dX11_told_87 : decode cX11_told 87 = .ok (.lreturn, 1) := by decide +kernel
theorem dX11_told_88 : decode cX11_told 88 = .ok (.aload_n 0, 1) := by decide +kernel
theorem dX11_told_89 : decode cX11_told 89 = .ok (.getfield 16, 3) := by decide +kernel
theorem dX11_told_92 : decode cX11_told 92 = .ok (.iload_n 1, 1) := by decide +kernel
theorem dX11_told_93 : decode cX11_told 93 = .ok (.iaload, 1) := by decide +kernel
theorem dX11_told_94 : decode cX11_told 94 = .ok (.i2l, 1) := by decide +kernel
theorem dX11_told_95 : decode cX11_told 95 = .ok (.lreturn, 1) := by decide +kernel
theorem dX11_told_96 : decode cX11_told 96 = .ok (.aload_n 0, 1) := by decide +kernel
theorem dX11_told_97 : decode cX11_told 97 = .ok (.getfield 19, 3) := by decide +kernel
theorem dX11_told_100 : decode cX11_told 100 = .ok (.iload_n 1, 1) := by decide +kernel
theorem dX11_told_101 : decode cX11_told 101 = .ok (.iaload, 1) := by decide +kernel
theorem dX11_told_102 : decode cX11_told 102 = .ok (.i2l, 1) := by decide +kernel
theorem dX11_told_103 : decode cX11_told 103 = .ok (.lreturn, 1) := by decide +kernel
theorem dX11_told_104 : decode cX11_told 104 = .ok (.aload_n 0, 1) := by decide +kernel
theorem dX11_told_105 : decode cX11_told 105 = .ok (.getfield 22, 3) := by decide +kernel
theorem dX11_told_108 : decode cX11_told 108 = .ok (.iload_n 1, 1) := by decide +kernel
theorem dX11_told_109 : decode cX11_told 109 = .ok (.iaload, 1) := by decide +kernel
theorem dX11_told_110 : decode cX11_told 110 = .ok (.i2l, 1) := by decide +kernel
theorem dX11_told_111 : decode cX11_told 111 = .ok (.lreturn, 1) := by decide +kernel
theorem dX11_told_112 : decode cX11_told 112 = .ok (.aload_n 0, 1) := by decide +kernel
theorem dX11_told_113 : decode cX11_told 113 = .ok (.getfield 25, 3) := by decide +kernel
theorem dX11_told_116 : decode cX11_told 116 = .ok (.iload_n 1, 1) := by decide +kernel
theorem dX11_told_117 : decode cX11_told 117 = .ok (.iaload, 1) := by decide +kernel
theorem dX11_told_118 : decode cX11_told 118 = .ok (.i2l, 1) := by decide +kernel
theorem dX11_told_119 : decode cX11_told 119 = .ok (.lreturn, 1) := by decide +kernel
theorem dX11_told_120 : decode cX11_told 120 = .ok (.aload_n 0, 1) := by decide +kernel
theorem dX11_told_121 : decode cX11_told 121 = .ok (.getfield 28, 3) := by decide +kernel
theorem dX11_told_124 : decode cX11_told 124 = .ok (.iload_n 1, 1) := by decide +kernel
theorem dX11_told_125 : decode cX11_told 125 = .ok (.iaload, 1) := by decide +kernel
theorem dX11_told_126 : decode cX11_told 126 = .ok (.i2l, 1) := by decide +kernel
theorem dX11_told_127 : decode cX11_told 127 = .ok (.lreturn, 1) := by decide +kernel
theorem dX11_told_128 : decode cX11_told 128 = .ok (.aload_n 0, 1) := by decide +kernel
theorem dX11_told_129 : decode cX11_told 129 = .ok (.getfield 31, 3) := by decide +kernel
theorem dX11_told_132 : decode cX11_told 132 = .ok (.iload_n 1, 1) := by decide +kernel
theorem dX11_told_133 : decode cX11_told 133 = .ok (.iaload, 1) := by decide +kernel
theorem dX11_told_134 : decode cX11_told 134 = .ok (.i2l, 1) := by decide +kernel
theorem dX11_told_135 : decode cX11_told 135 = .ok (.lreturn, 1) := by decide +kernel
theorem dX11_told_136 : decode cX11_told 136 = .ok (.aload_n 0, 1) := by decide +kernel
theorem dX11_told_137 : decode cX11_told 137 = .ok (.getfield 34, 3) := by decide +kernel
theorem dX11_told_140 : decode cX11_told 140 = .ok (.iload_n 1, 1) := by decide +kernel
theorem dX11_told_141 : decode cX11_told 141 = .ok (.iaload, 1) := by decide +kernel
theorem dX11_told_142 : decode cX11_told 142 = .ok (.i2l, 1) := by decide +kernel
theorem dX11_told_143 : decode cX11_told 143 = .ok (.lreturn, 1) := by decide +kernel
theorem dX11_told_144 : decode cX11_told 144 = .ok (.aload_n 0, 1) := by decide +kernel
theorem dX11_told_145 : decode cX11_told 145 = .ok (.getfield 37, 3) := by decide +kernel
theorem dX11_told_148 : decode cX11_told 148 = .ok (.iload_n 1, 1) := by decide +kernel
theorem dX11_told_149 : decode cX11_told 149 = .ok (.iaload, 1) := by decide +kernel
theorem dX11_told_150 : decode cX11_told 150 = .ok (.i2l, 1) := by decide +kernel
theorem dX11_told_151 : decode cX11_told 151 = .ok (.lreturn, 1) := by decide +kernel
theorem dX11_told_152 : decode cX11_told 152 = .ok (.aload_n 0, 1) := by decide +kernel
theorem dX11_told_153 : decode cX11_told 153 = .ok (.getfield 40, 3) := by decide +kernel
theorem dX11_told_156 : decode cX11_told 156 = .ok (.iload_n 1, 1) := by decide +kernel
theorem dX11_told_157 : decode cX11_told 157 = .ok (.iaload, 1) := by decide +kernel
theorem dX11_told_158 : decode cX11_told 158 = .ok (.i2l, 1) := by decide +kernel
theorem dX11_told_159 : decode cX11_told 159 = .ok (.lreturn, 1) := by decide +kernel
theorem dX11_told_160 : decode cX11_told 160 = .ok (.aload_n 0, 1) := by decide +kernel
theorem dX11_told_161 : decode cX11_told 161 = .ok (.getfield 43, 3) := by decide +kernel
theorem dX11_told_164 : decode cX11_told 164 = .ok (.iload_n 1, 1) := by decide +kernel
theorem dX11_told_165 : decode cX11_told 165 = .ok (.baload, 1) := by decide +kernel
theorem dX11_told_166 : decode cX11_told 166 = .ok (.ifCond .eq 7, 3) := by decide +kernel
theorem dX11_told_169 : decode cX11_told 169 = .ok (.lconst 1, 1) := by decide +kernel
theorem dX11_told_170 : decode cX11_told 170 = .ok (.goto 4, 3) := by decide +kernel
theorem dX11_told_173 : decode cX11_told 173 = .ok (.lconst 0, 1) := by decide +kernel
theorem dX11_told_174 : decode cX11_told 174 = .ok (.lreturn, 1) := by decide +kernel
theorem dX11_isOf_0 : decode cX11_isOf 0 = .ok (.aload_n 0, 1) := by decide +kernel
theorem dX11_isOf_1 : decode cX11_isOf 1 = .ok (.iload_n 1, 1) := by decide +kernel
theorem dX11_isOf_2 : decode cX11_isOf 2 = .ok (.invokevirtual 169, 3) := by decide +kernel
theorem dX11_isOf_5 : decode cX11_isOf 5 = .ok (.ifCond .eq 15, 3) := by decide +kernel
theorem dX11_isOf_8 : decode cX11_isOf 8 = .ok (.iload_n 2, 1) := by decide +kernel
theorem dX11_isOf_9 : decode cX11_isOf 9 = .ok (.i2l, 1) := by decide +kernel
theorem dX11_isOf_10 : decode cX11_isOf 10 = .ok (.lconst 0, 1) := by decide +kernel
theorem dX11_isOf_11 : decode cX11_isOf 11 = .ok (.ldc2_w 163, 3) := by decide +kernel
theorem dX11_isOf_14 : decode cX11_isOf 14 = .ok (.invokestatic 145, 3) := by decide +kernel
theorem dX11_isOf_17 : decode cX11_isOf 17 = .ok (.ifCond .ne 7, 3) := by decide +kernel
theorem dX11_isOf_20 : decode cX11_isOf 20 = .ok (.ldc2_w 149, 3) := by decide +kernel
theorem dX11_isOf_23 : decode cX11_isOf 23 = .ok (.lreturn, 1) := by decide +kernel
theorem dX11_isOf_24 : decode cX11_isOf 24 = .ok (.iload_n 2, 1) := by decide +kernel
theorem dX11_isOf_25 : decode cX11_isOf 25 = .ok (.ifCond .eq 39, 3) := by decide +kernel
theorem dX11_isOf_28 : decode cX11_isOf 28 = .ok (.aload_n 0, 1) := by decide +kernel
theorem dX11_isOf_29 : decode cX11_isOf 29 = .ok (.getfield 13, 3) := by decide +kernel
theorem dX11_isOf_32 : decode cX11_isOf 32 = .ok (.iload_n 1, 1) := by decide +kernel
theorem dX11_isOf_33 : decode cX11_isOf 33 = .ok (.iaload, 1) := by decide +kernel
theorem dX11_isOf_34 : decode cX11_isOf 34 = .ok (.iload_n 2, 1) := by decide +kernel
theorem dX11_isOf_35 : decode cX11_isOf 35 = .ok (.if_icmp .eq 29, 3) := by decide +kernel
theorem dX11_isOf_38 : decode cX11_isOf 38 = .ok (.iload_n 2, 1) := by decide +kernel
theorem dX11_isOf_39 : decode cX11_isOf 39 = .ok (.iconst 1, 1) := by decide +kernel
theorem dX11_isOf_40 : decode cX11_isOf 40 = .ok (.if_icmp .ne 11, 3) := by decide +kernel
theorem dX11_isOf_43 : decode cX11_isOf 43 = .ok (.aload_n 0, 1) := by decide +kernel
theorem dX11_isOf_44 : decode cX11_isOf 44 = .ok (.iload_n 1, 1) := by decide +kernel
theorem dX11_isOf_45 : decode cX11_isOf 45 = .ok (.invokevirtual 183, 3) := by decide +kernel
theorem dX11_isOf_48 : decode cX11_isOf 48 = .ok (.ifCond .ne 16, 3) := by decide +kernel
theorem dX11_isOf_51 : decode cX11_isOf 51 = .ok (.iload_n 2, 1) := by decide +kernel
theorem dX11_isOf_52 : decode cX11_isOf 52 = .ok (.iconst 2, 1) := by decide +kernel
theorem dX11_isOf_53 : decode cX11_isOf 53 = .ok (.if_icmp .ne 15, 3) := by decide +kernel
theorem dX11_isOf_56 : decode cX11_isOf 56 = .ok (.aload_n 0, 1) := by decide +kernel
theorem dX11_isOf_57 : decode cX11_isOf 57 = .ok (.iload_n 1, 1) := by decide +kernel
theorem dX11_isOf_58 : decode cX11_isOf 58 = .ok (.invokevirtual 178, 3) := by decide +kernel
theorem dX11_isOf_61 : decode cX11_isOf 61 = .ok (.ifCond .eq 7, 3) := by decide +kernel
theorem dX11_isOf_64 : decode cX11_isOf 64 = .ok (.lconst 1, 1) := by decide +kernel
theorem dX11_isOf_65 : decode cX11_isOf 65 = .ok (.goto 4, 3) := by decide +kernel
theorem dX11_isOf_68 : decode cX11_isOf 68 = .ok (.lconst 0, 1) := by decide +kernel
theorem dX11_isOf_69 : decode cX11_isOf 69 = .ok (.lreturn, 1) := by decide +kernel
theorem dX11_endOf_0 : decode cX11_endOf 0 = .ok (.aload_n 0, 1) := by decide +kernel
theorem dX11_endOf_1 : decode cX11_endOf 1 = .ok (.aload_n 0, 1) := by decide +kernel
theorem dX11_endOf_2 : decode cX11_endOf 2 = .ok (.getfield 22, 3) := by decide +kernel
theorem dX11_endOf_5 : decode cX11_endOf 5 = .ok (.iload_n 1, 1) := by decide +kernel
theorem dX11_endOf_6 : decode cX11_endOf 6 = .ok (.iaload, 1) := by decide +kernel
theorem dX11_endOf_7 : decode cX11_endOf 7 = .ok (.i2l, 1) := by decide +kernel
theorem dX11_endOf_8 : decode cX11_endOf 8 = .ok (.aload_n 0, 1) := by decide +kernel
theorem dX11_endOf_9 : decode cX11_endOf 9 = .ok (.getfield 25, 3) := by decide +kernel
theorem dX11_endOf_12 : decode cX11_endOf 12 = .ok (.iload_n 1, 1) := by decide +kernel
theorem dX11_endOf_13 : decode cX11_endOf 13 = .ok (.iaload, 1) := by decide +kernel
theorem dX11_endOf_14 : decode cX11_endOf 14 = .ok (.i2l, 1) := by decide +kernel
theorem dX11_endOf_15 : decode cX11_endOf 15 = .ok (.invokevirtual 186, 3) := by decide +kernel
theorem dX11_endOf_18 : decode cX11_endOf 18 = .ok (.aload_n 0, 1) := by decide +kernel
theorem dX11_endOf_19 : decode cX11_endOf 19 = .ok (.iload_n 1, 1) := by decide +kernel
theorem dX11_endOf_20 : decode cX11_endOf 20 = .ok (.invokevirtual 183, 3) := by decide +kernel
theorem dX11_endOf_23 : decode cX11_endOf 23 = .ok (.ifCond .eq 34, 3) := by decide +kernel
theorem dX11_endOf_26 : decode cX11_endOf 26 = .ok (.aload_n 0, 1) := by decide +kernel
theorem dX11_endOf_27 : decode cX11_endOf 27 = .ok (.aload_n 0, 1) := by decide +kernel
theorem dX11_endOf_28 : decode cX11_endOf 28 = .ok (.getfield 94, 3) := by decide +kernel
theorem dX11_endOf_31 : decode cX11_endOf 31 = .ok (.ldc2_w 124, 3) := by decide +kernel
theorem dX11_endOf_34 : decode cX11_endOf 34 = .ok (.aload_n 0, 1) := by decide +kernel
theorem dX11_endOf_35 : decode cX11_endOf 35 = .ok (.getfield 40, 3) := by decide +kernel
theorem dX11_endOf_38 : decode cX11_endOf 38 = .ok (.iload_n 1, 1) := by decide +kernel
theorem dX11_endOf_39 : decode cX11_endOf 39 = .ok (.iaload, 1) := by decide +kernel
theorem dX11_endOf_40 : decode cX11_endOf 40 = .ok (.i2l, 1) := by decide +kernel
theorem dX11_endOf_41 : decode cX11_endOf 41 = .ok (.ladd, 1) := by decide +kernel
theorem dX11_endOf_42 : decode cX11_endOf 42 = .ok (.lmul, 1) := by decide +kernel
theorem dX11_endOf_43 : decode cX11_endOf 43 = .ok (.aload_n 0, 1) := by decide +kernel
theorem dX11_endOf_44 : decode cX11_endOf 44 = .ok (.getfield 98, 3) := by decide +kernel
theorem dX11_endOf_47 : decode cX11_endOf 47 = .ok (.ldc2_w 124, 3) := by decide +kernel
theorem dX11_endOf_50 : decode cX11_endOf 50 = .ok (.lmul, 1) := by decide +kernel
theorem dX11_endOf_51 : decode cX11_endOf 51 = .ok (.invokevirtual 186, 3) := by decide +kernel
theorem dX11_endOf_54 : decode cX11_endOf 54 = .ok (.goto 57, 3) := by decide +kernel
theorem dX11_endOf_57 : decode cX11_endOf 57 = .ok (.aload_n 0, 1) := by decide +kernel
theorem dX11_endOf_58 : decode cX11_endOf 58 = .ok (.iload_n 1, 1) := by decide +kernel
theorem dX11_endOf_59 : decode cX11_endOf 59 = .ok (.invokevirtual 178, 3) := by decide +kernel
theorem dX11_endOf_62 : decode cX11_endOf 62 = .ok (.ifCond .eq 49, 3) := by decide +kernel
theorem dX11_endOf_65 : decode cX11_endOf 65 = .ok (.aload_n 0, 1) := by decide +kernel
theorem dX11_endOf_66 : decode cX11_endOf 66 = .ok (.aload_n 0, 1) := by decide +kernel
theorem dX11_endOf_67 : decode cX11_endOf 67 = .ok (.getfield 94, 3) := by decide +kernel
theorem dX11_endOf_70 : decode cX11_endOf 70 = .ok (.iload_n 2, 1) := by decide +kernel
theorem dX11_endOf_71 : decode cX11_endOf 71 = .ok (.ifCond .ne 17, 3) := by decide +kernel
theorem dX11_endOf_74 : decode cX11_endOf 74 = .ok (.ldc2_w 124, 3) := by decide +kernel
theorem dX11_endOf_77 : decode cX11_endOf 77 = .ok (.aload_n 0, 1) := by decide +kernel
theorem dX11_endOf_78 : decode cX11_endOf 78 = .ok (.getfield 40, 3) := by decide +kernel
theorem dX11_endOf_81 : decode cX11_endOf 81 = .ok (.iload_n 1, 1) := by decide +kernel
theorem dX11_endOf_82 : decode cX11_endOf 82 = .ok (.iaload, 1) := by decide +kernel
theorem dX11_endOf_83 : decode cX11_endOf 83 = .ok (.i2l, 1) := by decide +kernel
theorem dX11_endOf_84 : decode cX11_endOf 84 = .ok (.lsub, 1) := by decide +kernel
end
section
theorem dX11_endOf_85 : decode cX11_endOf 85 = .ok (.goto 14, 3) := by decide +kernel
theorem dX11_endOf_88 : decode cX11_endOf 88 = .ok (.ldc2_w 124, 3) := by decide +kernel
theorem dX11_endOf_91 : decode cX11_endOf 91 = .ok (.aload_n 0, 1) := by decide +kernel
theorem dX11_endOf_92 : decode cX11_endOf 92 = .ok (.getfield 40, 3) := by decide +kernel
theorem dX11_endOf_95 : decode cX11_endOf 95 = .ok (.iload_n 1, 1) := by decide +kernel
theorem dX11_endOf_96 : decode cX11_endOf 96 = .ok (.iaload, 1) := by decide +kernel
theorem dX11_endOf_97 : decode cX11_endOf 97 = .ok (.i2l, 1) := by decide +kernel
theorem dX11_endOf_98 : decode cX11_endOf 98 = .ok (.ladd, 1) := by decide +kernel
theorem dX11_endOf_99 : decode cX11_endOf 99 = .ok (.lmul, 1) := by decide +kernel
theorem dX11_endOf_100 : decode cX11_endOf 100 = .ok (.aload_n 0, 1) := by decide +kernel
theorem dX11_endOf_101 : decode cX11_endOf 101 = .ok (.getfield 98, 3) := by decide +kernel
theorem dX11_endOf_104 : decode cX11_endOf 104 = .ok (.ldc2_w 124, 3) := by decide +kernel
theorem dX11_endOf_107 : decode cX11_endOf 107 = .ok (.lmul, 1) := by decide +kernel
theorem dX11_endOf_108 : decode cX11_endOf 108 = .ok (.invokevirtual 186, 3) := by decide +kernel
theorem dX11_endOf_111 : decode cX11_endOf 111 = .ok (.aload_n 0, 1) := by decide +kernel
theorem dX11_endOf_112 : decode cX11_endOf 112 = .ok (.getfield 13, 3) := by decide +kernel
theorem dX11_endOf_115 : decode cX11_endOf 115 = .ok (.iload_n 1, 1) := by decide +kernel
theorem dX11_endOf_116 : decode cX11_endOf 116 = .ok (.iaload, 1) := by decide +kernel
theorem dX11_endOf_117 : decode cX11_endOf 117 = .ok (.iconst 4, 1) := by decide +kernel
theorem dX11_endOf_118 : decode cX11_endOf 118 = .ok (.if_icmp .ne 45, 3) := by decide +kernel
theorem dX11_endOf_121 : decode cX11_endOf 121 = .ok (.aload_n 0, 1) := by decide +kernel
theorem dX11_endOf_122 : decode cX11_endOf 122 = .ok (.iload_n 2, 1) := by decide +kernel
theorem dX11_endOf_123 : decode cX11_endOf 123 = .ok (.ifCond .ne 10, 3) := by decide +kernel
theorem dX11_endOf_126 : decode cX11_endOf 126 = .ok (.aload_n 0, 1) := by decide +kernel
theorem dX11_endOf_127 : decode cX11_endOf 127 = .ok (.getfield 94, 3) := by decide +kernel
theorem dX11_endOf_130 : decode cX11_endOf 130 = .ok (.goto 11, 3) := by decide +kernel
theorem dX11_endOf_133 : decode cX11_endOf 133 = .ok (.ldc2_w 189, 3) := by decide +kernel
theorem dX11_endOf_136 : decode cX11_endOf 136 = .ok (.aload_n 0, 1) := by decide +kernel
theorem dX11_endOf_137 : decode cX11_endOf 137 = .ok (.getfield 94, 3) := by decide +kernel
theorem dX11_endOf_140 : decode cX11_endOf 140 = .ok (.lmul, 1) := by decide +kernel
theorem dX11_endOf_141 : decode cX11_endOf 141 = .ok (.iload_n 2, 1) := by decide +kernel
theorem dX11_endOf_142 : decode cX11_endOf 142 = .ok (.ifCond .ne 14, 3) := by decide +kernel
theorem dX11_endOf_145 : decode cX11_endOf 145 = .ok (.ldc2_w 189, 3) := by decide +kernel
theorem dX11_endOf_148 : decode cX11_endOf 148 = .ok (.aload_n 0, 1) := by decide +kernel
theorem dX11_endOf_149 : decode cX11_endOf 149 = .ok (.getfield 98, 3) := by decide +kernel
theorem dX11_endOf_152 : decode cX11_endOf 152 = .ok (.lmul, 1) := by decide +kernel
theorem dX11_endOf_153 : decode cX11_endOf 153 = .ok (.goto 7, 3) := by decide +kernel
theorem dX11_endOf_156 : decode cX11_endOf 156 = .ok (.aload_n 0, 1) := by decide +kernel
theorem dX11_endOf_157 : decode cX11_endOf 157 = .ok (.getfield 98, 3) := by decide +kernel
theorem dX11_endOf_160 : decode cX11_endOf 160 = .ok (.invokevirtual 186, 3) := by decide +kernel
theorem dX11_endOf_163 : decode cX11_endOf 163 = .ok (.return_, 1) := by decide +kernel
theorem dX11_end_0 : decode cX11_end 0 = .ok (.aload_n 0, 1) := by decide +kernel
theorem dX11_end_1 : decode cX11_end 1 = .ok (.iload_n 1, 1) := by decide +kernel
theorem dX11_end_2 : decode cX11_end 2 = .ok (.invokevirtual 169, 3) := by decide +kernel
theorem dX11_end_5 : decode cX11_end 5 = .ok (.ifCond .eq 23, 3) := by decide +kernel
theorem dX11_end_8 : decode cX11_end 8 = .ok (.iload_n 2, 1) := by decide +kernel
theorem dX11_end_9 : decode cX11_end 9 = .ok (.i2l, 1) := by decide +kernel
theorem dX11_end_10 : decode cX11_end 10 = .ok (.lconst 0, 1) := by decide +kernel
theorem dX11_end_11 : decode cX11_end 11 = .ok (.lconst 1, 1) := by decide +kernel
theorem dX11_end_12 : decode cX11_end 12 = .ok (.invokestatic 145, 3) := by decide +kernel
theorem dX11_end_15 : decode cX11_end 15 = .ok (.ifCond .eq 13, 3) := by decide +kernel
theorem dX11_end_18 : decode cX11_end 18 = .ok (.iload_n 3, 1) := by decide +kernel
theorem dX11_end_19 : decode cX11_end 19 = .ok (.i2l, 1) := by decide +kernel
theorem dX11_end_20 : decode cX11_end 20 = .ok (.lconst 0, 1) := by decide +kernel
theorem dX11_end_21 : decode cX11_end 21 = .ok (.lconst 1, 1) := by decide +kernel
theorem dX11_end_22 : decode cX11_end 22 = .ok (.invokestatic 145, 3) := by decide +kernel
theorem dX11_end_25 : decode cX11_end 25 = .ok (.ifCond .ne 7, 3) := by decide +kernel
theorem dX11_end_28 : decode cX11_end 28 = .ok (.ldc2_w 149, 3) := by decide +kernel
theorem dX11_end_31 : decode cX11_end 31 = .ok (.lreturn, 1) := by decide +kernel
theorem dX11_end_32 : decode cX11_end 32 = .ok (.aload_n 0, 1) := by decide +kernel
theorem dX11_end_33 : decode cX11_end 33 = .ok (.iload_n 1, 1) := by decide +kernel
theorem dX11_end_34 : decode cX11_end 34 = .ok (.iload_n 2, 1) := by decide +kernel
theorem dX11_end_35 : decode cX11_end 35 = .ok (.invokevirtual 191, 3) := by decide +kernel
theorem dX11_end_38 : decode cX11_end 38 = .ok (.iload_n 3, 1) := by decide +kernel
theorem dX11_end_39 : decode cX11_end 39 = .ok (.ifCond .ne 10, 3) := by decide +kernel
theorem dX11_end_42 : decode cX11_end 42 = .ok (.aload_n 0, 1) := by decide +kernel
theorem dX11_end_43 : decode cX11_end 43 = .ok (.getfield 94, 3) := by decide +kernel
theorem dX11_end_46 : decode cX11_end 46 = .ok (.goto 7, 3) := by decide +kernel
theorem dX11_end_49 : decode cX11_end 49 = .ok (.aload_n 0, 1) := by decide +kernel
theorem dX11_end_50 : decode cX11_end 50 = .ok (.getfield 98, 3) := by decide +kernel
theorem dX11_end_53 : decode cX11_end 53 = .ok (.lreturn, 1) := by decide +kernel
theorem dX11_doesCount_0 : decode cX11_doesCount 0 = .ok (.aload_n 0, 1) := by decide +kernel
theorem dX11_doesCount_1 : decode cX11_doesCount 1 = .ok (.getfield 43, 3) := by decide +kernel
theorem dX11_doesCount_4 : decode cX11_doesCount 4 = .ok (.iload_n 1, 1) := by decide +kernel
theorem dX11_doesCount_5 : decode cX11_doesCount 5 = .ok (.baload, 1) := by decide +kernel
theorem dX11_doesCount_6 : decode cX11_doesCount 6 = .ok (.ifCond .ne 23, 3) := by decide +kernel
theorem dX11_doesCount_9 : decode cX11_doesCount 9 = .ok (.iload_n 3, 1) := by decide +kernel
theorem dX11_doesCount_10 : decode cX11_doesCount 10 = .ok (.aload_n 0, 1) := by decide +kernel
theorem dX11_doesCount_11 : decode cX11_doesCount 11 = .ok (.getfield 31, 3) := by decide +kernel
theorem dX11_doesCount_14 : decode cX11_doesCount 14 = .ok (.iload_n 1, 1) := by decide +kernel
theorem dX11_doesCount_15 : decode cX11_doesCount 15 = .ok (.iaload, 1) := by decide +kernel
theorem dX11_doesCount_16 : decode cX11_doesCount 16 = .ok (.if_icmp .lt 13, 3) := by decide +kernel
theorem dX11_doesCount_19 : decode cX11_doesCount 19 = .ok (.iload_n 3, 1) := by decide +kernel
theorem dX11_doesCount_20 : decode cX11_doesCount 20 = .ok (.aload_n 0, 1) := by decide +kernel
theorem dX11_doesCount_21 : decode cX11_doesCount 21 = .ok (.getfield 34, 3) := by decide +kernel
theorem dX11_doesCount_24 : decode cX11_doesCount 24 = .ok (.iload_n 1, 1) := by decide +kernel
theorem dX11_doesCount_25 : decode cX11_doesCount 25 = .ok (.iaload, 1) := by decide +kernel
theorem dX11_doesCount_26 : decode cX11_doesCount 26 = .ok (.if_icmp .le 5, 3) := by decide +kernel
theorem dX11_doesCount_29 : decode cX11_doesCount 29 = .ok (.iconst 0, 1) := by decide +kernel
theorem dX11_doesCount_30 : decode cX11_doesCount 30 = .ok (.ireturn, 1) := by decide +kernel
theorem dX11_doesCount_31 : decode cX11_doesCount 31 = .ok (.aload_n 0, 1) := by decide +kernel
theorem dX11_doesCount_32 : decode cX11_doesCount 32 = .ok (.getfield 13, 3) := by decide +kernel
theorem dX11_doesCount_35 : decode cX11_doesCount 35 = .ok (.iload_n 1, 1) := by decide +kernel
theorem dX11_doesCount_36 : decode cX11_doesCount 36 = .ok (.iaload, 1) := by decide +kernel
theorem dX11_doesCount_37 : decode cX11_doesCount 37 = .ok (.iconst 3, 1) := by decide +kernel
theorem dX11_doesCount_38 : decode cX11_doesCount 38 = .ok (.if_icmp .ne 21, 3) := by decide +kernel
theorem dX11_doesCount_41 : decode cX11_doesCount 41 = .ok (.iload_n 2, 1) := by decide +kernel
theorem dX11_doesCount_42 : decode cX11_doesCount 42 = .ok (.aload_n 0, 1) := by decide +kernel
theorem dX11_doesCount_43 : decode cX11_doesCount 43 = .ok (.getfield 28, 3) := by decide +kernel
theorem dX11_doesCount_46 : decode cX11_doesCount 46 = .ok (.iload_n 1, 1) := by decide +kernel
theorem dX11_doesCount_47 : decode cX11_doesCount 47 = .ok (.iaload, 1) := by decide +kernel
theorem dX11_doesCount_48 : decode cX11_doesCount 48 = .ok (.if_icmp .ne 7, 3) := by decide +kernel
theorem dX11_doesCount_51 : decode cX11_doesCount 51 = .ok (.iconst 1, 1) := by decide +kernel
theorem dX11_doesCount_52 : decode cX11_doesCount 52 = .ok (.goto 18, 3) := by decide +kernel
theorem dX11_doesCount_55 : decode cX11_doesCount 55 = .ok (.iconst 0, 1) := by decide +kernel
theorem dX11_doesCount_56 : decode cX11_doesCount 56 = .ok (.goto 14, 3) := by decide +kernel
theorem dX11_doesCount_59 : decode cX11_doesCount 59 = .ok (.aload_n 0, 1) := by decide +kernel
theorem dX11_doesCount_60 : decode cX11_doesCount 60 = .ok (.iload_n 2, 1) := by decide +kernel
theorem dX11_doesCount_61 : decode cX11_doesCount 61 = .ok (.aload_n 0, 1) := by decide +kernel
theorem dX11_doesCount_62 : decode cX11_doesCount 62 = .ok (.getfield 28, 3) := by decide +kernel
theorem dX11_doesCount_65 : decode cX11_doesCount 65 = .ok (.iload_n 1, 1) := by decide +kernel
theorem dX11_doesCount_66 : decode cX11_doesCount 66 = .ok (.iaload, 1) := by decide +kernel
theorem dX11_doesCount_67 : decode cX11_doesCount 67 = .ok (.invokevirtual 155, 3) := by decide +kernel
theorem dX11_doesCount_70 : decode cX11_doesCount 70 = .ok (.ireturn, 1) := by decide +kernel
theorem dX11_isDay_0 : decode cX11_isDay 0 = .ok (.iload_n 0, 1) := by decide +kernel
theorem dX11_isDay_1 : decode cX11_isDay 1 = .ok (.i2l, 1) := by decide +kernel
theorem dX11_isDay_2 : decode cX11_isDay 2 = .ok (.lconst 0, 1) := by decide +kernel
theorem dX11_isDay_3 : decode cX11_isDay 3 = .ok (.ldc2_w 172, 3) := by decide +kernel
theorem dX11_isDay_6 : decode cX11_isDay 6 = .ok (.invokestatic 145, 3) := by decide +kernel
theorem dX11_isDay_9 : decode cX11_isDay 9 = .ok (.ireturn, 1) := by decide +kernel
theorem dX11_counts_0 : decode cX11_counts 0 = .ok (.aload_n 0, 1) := by decide +kernel
theorem dX11_counts_1 : decode cX11_counts 1 = .ok (.iload_n 1, 1) := by decide +kernel
theorem dX11_counts_2 : decode cX11_counts 2 = .ok (.invokevirtual 169, 3) := by decide +kernel
theorem dX11_counts_5 : decode cX11_counts 5 = .ok (.ifCond .eq 17, 3) := by decide +kernel
theorem dX11_counts_8 : decode cX11_counts 8 = .ok (.iload_n 2, 1) := by decide +kernel
theorem dX11_counts_9 : decode cX11_counts 9 = .ok (.invokestatic 151, 3) := by decide +kernel
theorem dX11_counts_12 : decode cX11_counts 12 = .ok (.ifCond .eq 10, 3) := by decide +kernel
theorem dX11_counts_15 : decode cX11_counts 15 = .ok (.iload_n 3, 1) := by decide +kernel
theorem dX11_counts_16 : decode cX11_counts 16 = .ok (.invokestatic 195, 3) := by decide +kernel
theorem dX11_counts_19 : decode cX11_counts 19 = .ok (.ifCond .ne 7, 3) := by decide +kernel
theorem dX11_counts_22 : decode cX11_counts 22 = .ok (.ldc2_w 149, 3) := by decide +kernel
theorem dX11_counts_25 : decode cX11_counts 25 = .ok (.lreturn, 1) := by decide +kernel
theorem dX11_counts_26 : decode cX11_counts 26 = .ok (.aload_n 0, 1) := by decide +kernel
theorem dX11_counts_27 : decode cX11_counts 27 = .ok (.iload_n 1, 1) := by decide +kernel
theorem dX11_counts_28 : decode cX11_counts 28 = .ok (.iload_n 2, 1) := by decide +kernel
theorem dX11_counts_29 : decode cX11_counts 29 = .ok (.iload_n 3, 1) := by decide +kernel
theorem dX11_counts_30 : decode cX11_counts 30 = .ok (.invokevirtual 198, 3) := by decide +kernel
theorem dX11_counts_33 : decode cX11_counts 33 = .ok (.ifCond .eq 7, 3) := by decide +kernel
theorem dX11_counts_36 : decode cX11_counts 36 = .ok (.lconst 1, 1) := by decide +kernel
theorem dX11_counts_37 : decode cX11_counts 37 = .ok (.goto 4, 3) := by decide +kernel
theorem dX11_counts_40 : decode cX11_counts 40 = .ok (.lconst 0, 1) := by decide +kernel
theorem dX11_counts_41 : decode cX11_counts 41 = .ok (.lreturn, 1) := by decide +kernel
theorem dX11_findCounted_0 : decode cX11_findCounted 0 = .ok (.iconst 0, 1) := by decide +kernel
theorem dX11_findCounted_1 : decode cX11_findCounted 1 = .ok (.istore_n 3, 1) := by decide +kernel
theorem dX11_findCounted_2 : decode cX11_findCounted 2 = .ok (.iload_n 3, 1) := by decide +kernel
theorem dX11_findCounted_3 : decode cX11_findCounted 3 = .ok (.aload_n 0, 1) := by decide +kernel
theorem dX11_findCounted_4 : decode cX11_findCounted 4 = .ok (.getfield 159, 3) := by decide +kernel
theorem dX11_findCounted_7 : decode cX11_findCounted 7 = .ok (.if_icmp .ge 22, 3) := by decide +kernel
theorem dX11_findCounted_10 : decode cX11_findCounted 10 = .ok (.aload_n 0, 1) := by decide +kernel
theorem dX11_findCounted_11 : decode cX11_findCounted 11 = .ok (.getfield 69, 3) := by decide +kernel
theorem dX11_findCounted_14 : decode cX11_findCounted 14 = .ok (.iload_n 3, 1) := by decide +kernel
theorem dX11_findCounted_15 : decode cX11_findCounted 15 = .ok (.aload_n 0, 1) := by decide +kernel
theorem dX11_findCounted_16 : decode cX11_findCounted 16 = .ok (.iload_n 3, 1) := by decide +kernel
theorem dX11_findCounted_17 : decode cX11_findCounted 17 = .ok (.iload_n 1, 1) := by decide +kernel
theorem dX11_findCounted_18 : decode cX11_findCounted 18 = .ok (.iload_n 2, 1) := by decide +kernel
theorem dX11_findCounted_19 : decode cX11_findCounted 19 = .ok (.invokevirtual 198, 3) := by decide +kernel
theorem dX11_findCounted_22 : decode cX11_findCounted 22 = .ok (.bastore, 1) := by decide +kernel
theorem dX11_findCounted_23 : decode cX11_findCounted 23 = .ok (.iinc 3 1, 3) := by decide +kernel
theorem dX11_findCounted_26 : decode cX11_findCounted 26 = .ok (.goto (-24), 3) := by decide +kernel
theorem dX11_findCounted_29 : decode cX11_findCounted 29 = .ok (.return_, 1) := by decide +kernel
theorem dX11_product_0 : decode cX11_product 0 = .ok (.aload_n 0, 1) := by decide +kernel
theorem dX11_product_1 : decode cX11_product 1 = .ok (.lconst 1, 1) := by decide +kernel
theorem dX11_product_2 : decode cX11_product 2 = .ok (.lconst 1, 1) := by decide +kernel
theorem dX11_product_3 : decode cX11_product 3 = .ok (.invokevirtual 186, 3) := by decide +kernel
theorem dX11_product_6 : decode cX11_product 6 = .ok (.lconst 1, 1) := by decide +kernel
theorem dX11_product_7 : decode cX11_product 7 = .ok (.lstore 4, 2) := by decide +kernel
theorem dX11_product_9 : decode cX11_product 9 = .ok (.lconst 1, 1) := by decide +kernel
theorem dX11_product_10 : decode cX11_product 10 = .ok (.lstore 6, 2) := by decide +kernel
theorem dX11_product_12 : decode cX11_product 12 = .ok (.iconst 0, 1) := by decide +kernel
theorem dX11_product_13 : decode cX11_product 13 = .ok (.istore 8, 2) := by decide +kernel
theorem dX11_product_15 : decode cX11_product 15 = .ok (.iload 8, 2) := by decide +kernel
theorem dX11_product_17 : decode cX11_product 17 = .ok (.iload_n 2, 1) := by decide +kernel
theorem dX11_product_18 : decode cX11_product 18 = .ok (.if_icmp .ge 123, 3) := by decide +kernel
theorem dX11_product_21 : decode cX11_product 21 = .ok (.aload_n 0, 1) := by decide +kernel
theorem dX11_product_22 : decode cX11_product 22 = .ok (.getfield 103, 3) := by decide +kernel
theorem dX11_product_25 : decode cX11_product 25 = .ok (.ifCond .ne 116, 3) := by decide +kernel
theorem dX11_product_28 : decode cX11_product 28 = .ok (.aload_n 1, 1) := by decide +kernel
theorem dX11_product_29 : decode cX11_product 29 = .ok (.iload 8, 2) := by decide +kernel
theorem dX11_product_31 : decode cX11_product 31 = .ok (.iaload, 1) := by decide +kernel
theorem dX11_product_32 : decode cX11_product 32 = .ok (.bipush 100, 2) := by decide +kernel
theorem dX11_product_34 : decode cX11_product 34 = .ok (.if_icmp .lt 7, 3) := by decide +kernel
theorem dX11_product_37 : decode cX11_product 37 = .ok (.iconst 1, 1) := by decide +kernel
theorem dX11_product_38 : decode cX11_product 38 = .ok (.goto 4, 3) := by decide +kernel
theorem dX11_product_41 : decode cX11_product 41 = .ok (.iconst 0, 1) := by decide +kernel
theorem dX11_product_42 : decode cX11_product 42 = .ok (.istore 9, 2) := by decide +kernel
theorem dX11_product_44 : decode cX11_product 44 = .ok (.aload_n 0, 1) := by decide +kernel
theorem dX11_product_45 : decode cX11_product 45 = .ok (.aload_n 1, 1) := by decide +kernel
theorem dX11_product_46 : decode cX11_product 46 = .ok (.iload 8, 2) := by decide +kernel
theorem dX11_product_48 : decode cX11_product 48 = .ok (.iaload, 1) := by decide +kernel
theorem dX11_product_49 : decode cX11_product 49 = .ok (.bipush 100, 2) := by decide +kernel
theorem dX11_product_51 : decode cX11_product 51 = .ok (.irem, 1) := by decide +kernel
theorem dX11_product_52 : decode cX11_product 52 = .ok (.iload 9, 2) := by decide +kernel
theorem dX11_product_54 : decode cX11_product 54 = .ok (.ifCond .eq 9, 3) := by decide +kernel
theorem dX11_product_57 : decode cX11_product 57 = .ok (.iconst 1, 1) := by decide +kernel
theorem dX11_product_58 : decode cX11_product 58 = .ok (.iload_n 3, 1) := by decide +kernel
theorem dX11_product_59 : decode cX11_product 59 = .ok (.isub, 1) := by decide +kernel
theorem dX11_product_60 : decode cX11_product 60 = .ok (.goto 4, 3) := by decide +kernel
theorem dX11_product_63 : decode cX11_product 63 = .ok (.iload_n 3, 1) := by decide +kernel
theorem dX11_product_64 : decode cX11_product 64 = .ok (.invokevirtual 191, 3) := by decide +kernel
theorem dX11_product_67 : decode cX11_product 67 = .ok (.iload 9, 2) := by decide +kernel
theorem dX11_product_69 : decode cX11_product 69 = .ok (.ifCond .eq 10, 3) := by decide +kernel
theorem dX11_product_72 : decode cX11_product 72 = .ok (.aload_n 0, 1) := by decide +kernel
theorem dX11_product_73 : decode cX11_product 73 = .ok (.getfield 98, 3) := by decide +kernel
theorem dX11_product_76 : decode cX11_product 76 = .ok (.goto 7, 3) := by decide +kernel
theorem dX11_product_79 : decode cX11_product 79 = .ok (.aload_n 0, 1) := by decide +kernel
theorem dX11_product_80 : decode cX11_product 80 = .ok (.getfield 94, 3) := by decide +kernel
theorem dX11_product_83 : decode cX11_product 83 = .ok (.lstore 10, 2) := by decide +kernel
theorem dX11_product_85 : decode cX11_product 85 = .ok (.iload 9, 2) := by decide +kernel
theorem dX11_product_87 : decode cX11_product 87 = .ok (.ifCond .eq 10, 3) := by decide +kernel
theorem dX11_product_90 : decode cX11_product 90 = .ok (.aload_n 0, 1) := by decide +kernel
theorem dX11_product_91 : decode cX11_product 91 = .ok (.getfield 94, 3) := by decide +kernel
theorem dX11_product_94 : decode cX11_product 94 = .ok (.goto 7, 3) := by decide +kernel
theorem dX11_product_97 : decode cX11_product 97 = .ok (.aload_n 0, 1) := by decide +kernel
theorem dX11_product_98 : decode cX11_product 98 = .ok (.getfield 98, 3) := by decide +kernel
theorem dX11_product_101 : decode cX11_product 101 = .ok (.lstore 12, 2) := by decide +kernel
theorem dX11_product_103 : decode cX11_product 103 = .ok (.aload_n 0, 1) := by decide +kernel
theorem dX11_product_104 : decode cX11_product 104 = .ok (.lload 4, 2) := by decide +kernel
theorem dX11_product_106 : decode cX11_product 106 = .ok (.putfield 94, 3) := by decide +kernel
theorem dX11_product_109 : decode cX11_product 109 = .ok (.aload_n 0, 1) := by decide +kernel
theorem dX11_product_110 : decode cX11_product 110 = .ok (.lload 6, 2) := by decide +kernel
theorem dX11_product_112 : decode cX11_product 112 = .ok (.putfield 98, 3) := by decide +kernel
theorem dX11_product_115 : decode cX11_product 115 = .ok (.aload_n 0, 1) := by decide +kernel
theorem dX11_product_116 : decode cX11_product 116 = .ok (.lload 10, 2) := by decide +kernel
theorem dX11_product_118 : decode cX11_product 118 = .ok (.lload 12, 2) := by decide +kernel
theorem dX11_product_120 : decode cX11_product 120 = .ok (.invokevirtual 202, 3) := by decide +kernel
theorem dX11_product_123 : decode cX11_product 123 = .ok (.aload_n 0, 1) := by decide +kernel
theorem dX11_product_124 : decode cX11_product 124 = .ok (.getfield 94, 3) := by decide +kernel
theorem dX11_product_127 : decode cX11_product 127 = .ok (.lstore 4, 2) := by decide +kernel
theorem dX11_product_129 : decode cX11_product 129 = .ok (.aload_n 0, 1) := by decide +kernel
theorem dX11_product_130 : decode cX11_product 130 = .ok (.getfield 98, 3) := by decide +kernel
theorem dX11_product_133 : decode cX11_product 133 = .ok (.lstore 6, 2) := by decide +kernel
theorem dX11_product_135 : decode cX11_product 135 = .ok (.iinc 8 1, 3) := by decide +kernel
theorem dX11_product_138 : decode cX11_product 138 = .ok (.goto (-123), 3) := by decide +kernel
theorem dX11_product_141 : decode cX11_product 141 = .ok (.return_, 1) := by decide +kernel
theorem dX11_widen_0 : decode cX11_widen 0 = .ok (.aload_n 0, 1) := by decide +kernel
theorem dX11_widen_1 : decode cX11_widen 1 = .ok (.aload_n 0, 1) := by decide +kernel
theorem dX11_widen_2 : decode cX11_widen 2 = .ok (.getfield 75, 3) := by decide +kernel
theorem dX11_widen_5 : decode cX11_widen 5 = .ok (.aload_n 0, 1) := by decide +kernel
theorem dX11_widen_6 : decode cX11_widen 6 = .ok (.getfield 205, 3) := by decide +kernel
theorem dX11_widen_9 : decode cX11_widen 9 = .ok (.iconst 0, 1) := by decide +kernel
theorem dX11_widen_10 : decode cX11_widen 10 = .ok (.invokevirtual 208, 3) := by decide +kernel
theorem dX11_widen_13 : decode cX11_widen 13 = .ok (.aload_n 0, 1) := by decide +kernel
theorem dX11_widen_14 : decode cX11_widen 14 = .ok (.getfield 212, 3) := by decide +kernel
theorem dX11_widen_17 : decode cX11_widen 17 = .ok (.ifCond .eq 26, 3) := by decide +kernel
theorem dX11_widen_20 : decode cX11_widen 20 = .ok (.aload_n 0, 1) := by decide +kernel
theorem dX11_widen_21 : decode cX11_widen 21 = .ok (.aload_n 0, 1) := by decide +kernel
theorem dX11_widen_22 : decode cX11_widen 22 = .ok (.getfield 94, 3) := by decide +kernel
theorem dX11_widen_25 : decode cX11_widen 25 = .ok (.aload_n 0, 1) := by decide +kernel
theorem dX11_widen_26 : decode cX11_widen 26 = .ok (.getfield 98, 3) := by decide +kernel
theorem dX11_widen_29 : decode cX11_widen 29 = .ok (.aload_n 0, 1) := by decide +kernel
theorem dX11_widen_30 : decode cX11_widen 30 = .ok (.getfield 215, 3) := by decide +kernel
theorem dX11_widen_33 : decode cX11_widen 33 = .ok (.aload_n 0, 1) := by decide +kernel
theorem dX11_widen_34 : decode cX11_widen 34 = .ok (.getfield 218, 3) := by decide +kernel
theorem dX11_widen_37 : decode cX11_widen 37 = .ok (.invokevirtual 221, 3) := by decide +kernel
theorem dX11_widen_40 : decode cX11_widen 40 = .ok (.ifCond .eq 19, 3) := by decide +kernel
theorem dX11_widen_43 : decode cX11_widen 43 = .ok (.aload_n 0, 1) := by decide +kernel
theorem dX11_widen_44 : decode cX11_widen 44 = .ok (.aload_n 0, 1) := by decide +kernel
theorem dX11_widen_45 : decode cX11_widen 45 = .ok (.getfield 94, 3) := by decide +kernel
theorem dX11_widen_48 : decode cX11_widen 48 = .ok (.putfield 215, 3) := by decide +kernel
theorem dX11_widen_51 : decode cX11_widen 51 = .ok (.aload_n 0, 1) := by decide +kernel
theorem dX11_widen_52 : decode cX11_widen 52 = .ok (.aload_n 0, 1) := by decide +kernel
theorem dX11_widen_53 : decode cX11_widen 53 = .ok (.getfield 98, 3) := by decide +kernel
theorem dX11_widen_56 : decode cX11_widen 56 = .ok (.putfield 218, 3) := by decide +kernel
theorem dX11_widen_59 : decode cX11_widen 59 = .ok (.aload_n 0, 1) := by decide +kernel
theorem dX11_widen_60 : decode cX11_widen 60 = .ok (.aload_n 0, 1) := by decide +kernel
theorem dX11_widen_61 : decode cX11_widen 61 = .ok (.getfield 75, 3) := by decide +kernel
theorem dX11_widen_64 : decode cX11_widen 64 = .ok (.aload_n 0, 1) := by decide +kernel
theorem dX11_widen_65 : decode cX11_widen 65 = .ok (.getfield 205, 3) := by decide +kernel
theorem dX11_widen_68 : decode cX11_widen 68 = .ok (.iconst 1, 1) := by decide +kernel
theorem dX11_widen_69 : decode cX11_widen 69 = .ok (.invokevirtual 208, 3) := by decide +kernel
theorem dX11_widen_72 : decode cX11_widen 72 = .ok (.aload_n 0, 1) := by decide +kernel
theorem dX11_widen_73 : decode cX11_widen 73 = .ok (.getfield 212, 3) := by decide +kernel
theorem dX11_widen_76 : decode cX11_widen 76 = .ok (.ifCond .eq 26, 3) := by decide +kernel
theorem dX11_widen_79 : decode cX11_widen 79 = .ok (.aload_n 0, 1) := by decide +kernel
theorem dX11_widen_80 : decode cX11_widen 80 = .ok (.aload_n 0, 1) := by decide +kernel
theorem dX11_widen_81 : decode cX11_widen 81 = .ok (.getfield 225, 3) := by decide +kernel
theorem dX11_widen_84 : decode cX11_widen 84 = .ok (.aload_n 0, 1) := by decide +kernel
theorem dX11_widen_85 : decode cX11_widen 85 = .ok (.getfield 228, 3) := by decide +kernel
theorem dX11_widen_88 : decode cX11_widen 88 = .ok (.aload_n 0, 1) := by decide +kernel
theorem dX11_widen_89 : decode cX11_widen 89 = .ok (.getfield 94, 3) := by decide +kernel
theorem dX11_widen_92 : decode cX11_widen 92 = .ok (.aload_n 0, 1) := by decide +kernel
theorem dX11_widen_93 : decode cX11_widen 93 = .ok (.getfield 98, 3) := by decide +kernel
theorem dX11_widen_96 : decode cX11_widen 96 = .ok (.invokevirtual 221, 3) := by decide +kernel
theorem dX11_widen_99 : decode cX11_widen 99 = .ok (.ifCond .eq 19, 3) := by decide +kernel
theorem dX11_widen_102 : decode cX11_widen 102 = .ok (.aload_n 0, 1) := by decide +kernel
theorem dX11_widen_103 : decode cX11_widen 103 = .ok (.aload_n 0, 1) := by decide +kernel
theorem dX11_widen_104 : decode cX11_widen 104 = .ok (.getfield 94, 3) := by decide +kernel
theorem dX11_widen_107 : decode cX11_widen 107 = .ok (.putfield 225, 3) := by decide +kernel
theorem dX11_widen_110 : decode cX11_widen 110 = .ok (.aload_n 0, 1) := by decide +kernel
theorem dX11_widen_111 : decode cX11_widen 111 = .ok (.aload_n 0, 1) := by decide +kernel
theorem dX11_widen_112 : decode cX11_widen 112 = .ok (.getfield 98, 3) := by decide +kernel
theorem dX11_widen_115 : decode cX11_widen 115 = .ok (.putfield 228, 3) := by decide +kernel
theorem dX11_widen_118 : decode cX11_widen 118 = .ok (.aload_n 0, 1) := by decide +kernel
theorem dX11_widen_119 : decode cX11_widen 119 = .ok (.iconst 1, 1) := by decide +kernel
theorem dX11_widen_120 : decode cX11_widen 120 = .ok (.putfield 212, 3) := by decide +kernel
theorem dX11_widen_123 : decode cX11_widen 123 = .ok (.return_, 1) := by decide +kernel
theorem dX11_isMet_0 : decode cX11_isMet 0 = .ok (.iconst 0, 1) := by decide +kernel
theorem dX11_isMet_1 : decode cX11_isMet 1 = .ok (.istore_n 3, 1) := by decide +kernel
theorem dX11_isMet_2 : decode cX11_isMet 2 = .ok (.iload_n 3, 1) := by decide +kernel
theorem dX11_isMet_3 : decode cX11_isMet 3 = .ok (.iload_n 1, 1) := by decide +kernel
theorem dX11_isMet_4 : decode cX11_isMet 4 = .ok (.if_icmp .gt 21, 3) := by decide +kernel
theorem dX11_isMet_7 : decode cX11_isMet 7 = .ok (.aload_n 0, 1) := by decide +kernel
theorem dX11_isMet_8 : decode cX11_isMet 8 = .ok (.getfield 72, 3) := by decide +kernel
theorem dX11_isMet_11 : decode cX11_isMet 11 = .ok (.iload_n 3, 1) := by decide +kernel
theorem dX11_isMet_12 : decode cX11_isMet 12 = .ok (.iaload, 1) := by decide +kernel
theorem dX11_isMet_13 : decode cX11_isMet 13 = .ok (.iload_n 2, 1) := by decide +kernel
theorem dX11_isMet_14 : decode cX11_isMet 14 = .ok (.if_icmp .ne 5, 3) := by decide +kernel
theorem dX11_isMet_17 : decode cX11_isMet 17 = .ok (.iconst 1, 1) := by decide +kernel
theorem dX11_isMet_18 : decode cX11_isMet 18 = .ok (.ireturn, 1) := by decide +kernel
theorem dX11_isMet_19 : decode cX11_isMet 19 = .ok (.iinc 3 1, 3) := by decide +kernel
theorem dX11_isMet_22 : decode cX11_isMet 22 = .ok (.goto (-20), 3) := by decide +kernel
theorem dX11_isMet_25 : decode cX11_isMet 25 = .ok (.iconst 0, 1) := by decide +kernel
theorem dX11_isMet_26 : decode cX11_isMet 26 = .ok (.ireturn, 1) := by decide +kernel
theorem dX11_go_0 : decode cX11_go 0 = .ok (.iload_n 1, 1) := by decide +kernel
theorem dX11_go_1 : decode cX11_go 1 = .ok (.aload_n 0, 1) := by decide +kernel
theorem dX11_go_2 : decode cX11_go 2 = .ok (.getfield 205, 3) := by decide +kernel
theorem dX11_go_5 : decode cX11_go 5 = .ok (.if_icmp .ne 81, 3) := by decide +kernel
theorem dX11_go_8 : decode cX11_go 8 = .ok (.aload_n 0, 1) := by decide +kernel
theorem dX11_go_9 : decode cX11_go 9 = .ok (.getfield 72, 3) := by decide +kernel
theorem dX11_go_12 : decode cX11_go 12 = .ok (.iload_n 1, 1) := by decide +kernel
theorem dX11_go_13 : decode cX11_go 13 = .ok (.iaload, 1) := by decide +kernel
theorem dX11_go_14 : decode cX11_go 14 = .ok (.iload_n 2, 1) := by decide +kernel
theorem dX11_go_15 : decode cX11_go 15 = .ok (.if_icmp .ne 70, 3) := by decide +kernel
theorem dX11_go_18 : decode cX11_go 18 = .ok (.aload_n 0, 1) := by decide +kernel
theorem dX11_go_19 : decode cX11_go 19 = .ok (.getfield 231, 3) := by decide +kernel
theorem dX11_go_22 : decode cX11_go 22 = .ok (.aload_n 0, 1) := by decide +kernel
theorem dX11_go_23 : decode cX11_go 23 = .ok (.getfield 234, 3) := by decide +kernel
theorem dX11_go_26 : decode cX11_go 26 = .ok (.if_icmp .ne 38, 3) := by decide +kernel
theorem dX11_go_29 : decode cX11_go 29 = .ok (.aload_n 0, 1) := by decide +kernel
theorem dX11_go_30 : decode cX11_go 30 = .ok (.iconst 1, 1) := by decide +kernel
theorem dX11_go_31 : decode cX11_go 31 = .ok (.putfield 237, 3) := by decide +kernel
theorem dX11_go_34 : decode cX11_go 34 = .ok (.aload_n 0, 1) := by decide +kernel
theorem dX11_go_35 : decode cX11_go 35 = .ok (.iload_n 1, 1) := by decide +kernel
theorem dX11_go_36 : decode cX11_go 36 = .ok (.putfield 240, 3) := by decide +kernel
theorem dX11_go_39 : decode cX11_go 39 = .ok (.iconst 0, 1) := by decide +kernel
theorem dX11_go_40 : decode cX11_go 40 = .ok (.istore_n 3, 1) := by decide +kernel
theorem dX11_go_41 : decode cX11_go 41 = .ok (.iload_n 3, 1) := by decide +kernel
theorem dX11_go_42 : decode cX11_go 42 = .ok (.iload_n 1, 1) := by decide +kernel
theorem dX11_go_43 : decode cX11_go 43 = .ok (.if_icmp .ge 21, 3) := by decide +kernel
theorem dX11_go_46 : decode cX11_go 46 = .ok (.aload_n 0, 1) := by decide +kernel
theorem dX11_go_47 : decode cX11_go 47 = .ok (.getfield 78, 3) := by decide +kernel
theorem dX11_go_50 : decode cX11_go 50 = .ok (.iload_n 3, 1) := by decide +kernel
theorem dX11_go_51 : decode cX11_go 51 = .ok (.aload_n 0, 1) := by decide +kernel
theorem dX11_go_52 : decode cX11_go 52 = .ok (.getfield 75, 3) := by decide +kernel
theorem dX11_go_55 : decode cX11_go 55 = .ok (.iload_n 3, 1) := by decide +kernel
theorem dX11_go_56 : decode cX11_go 56 = .ok (.iaload, 1) := by decide +kernel
theorem dX11_go_57 : decode cX11_go 57 = .ok (.iastore, 1) := by decide +kernel
theorem dX11_go_58 : decode cX11_go 58 = .ok (.iinc 3 1, 3) := by decide +kernel
theorem dX11_go_61 : decode cX11_go 61 = .ok (.goto (-20), 3) := by decide +kernel
theorem dX11_go_64 : decode cX11_go 64 = .ok (.aload_n 0, 1) := by decide +kernel
theorem dX11_go_65 : decode cX11_go 65 = .ok (.getfield 243, 3) := by decide +kernel
theorem dX11_go_68 : decode cX11_go 68 = .ok (.ifCond .eq 7, 3) := by decide +kernel
theorem dX11_go_71 : decode cX11_go 71 = .ok (.aload_n 0, 1) := by decide +kernel
theorem dX11_go_72 : decode cX11_go 72 = .ok (.invokevirtual 246, 3) := by decide +kernel
theorem dX11_go_75 : decode cX11_go 75 = .ok (.aload_n 0, 1) := by decide +kernel
theorem dX11_go_76 : decode cX11_go 76 = .ok (.dup, 1) := by decide +kernel
theorem dX11_go_77 : decode cX11_go 77 = .ok (.getfield 231, 3) := by decide +kernel
theorem dX11_go_80 : decode cX11_go 80 = .ok (.iconst 1, 1) := by decide +kernel
theorem dX11_go_81 : decode cX11_go 81 = .ok (.iadd, 1) := by decide +kernel
theorem dX11_go_82 : decode cX11_go 82 = .ok (.putfield 231, 3) := by decide +kernel
theorem dX11_go_85 : decode cX11_go 85 = .ok (.return_, 1) := by decide +kernel
theorem dX11_go_86 : decode cX11_go 86 = .ok (.iload_n 1, 1) := by decide +kernel
theorem dX11_go_87 : decode cX11_go 87 = .ok (.ifCond .le 14, 3) := by decide +kernel
theorem dX11_go_90 : decode cX11_go 90 = .ok (.aload_n 0, 1) := by decide +kernel
theorem dX11_go_91 : decode cX11_go 91 = .ok (.getfield 72, 3) := by decide +kernel
theorem dX11_go_94 : decode cX11_go 94 = .ok (.iload_n 1, 1) := by decide +kernel
theorem dX11_go_95 : decode cX11_go 95 = .ok (.iaload, 1) := by decide +kernel
theorem dX11_go_96 : decode cX11_go 96 = .ok (.iload_n 2, 1) := by decide +kernel
theorem dX11_go_97 : decode cX11_go 97 = .ok (.if_icmp .ne 4, 3) := by decide +kernel
theorem dX11_go_100 : decode cX11_go 100 = .ok (.return_, 1) := by decide +kernel
theorem dX11_go_101 : decode cX11_go 101 = .ok (.iconst 0, 1) := by decide +kernel
theorem dX11_go_102 : decode cX11_go 102 = .ok (.istore_n 3, 1) := by decide +kernel
theorem dX11_go_103 : decode cX11_go 103 = .ok (.iload_n 3, 1) := by decide +kernel
theorem dX11_go_104 : decode cX11_go 104 = .ok (.aload_n 0, 1) := by decide +kernel
theorem dX11_go_105 : decode cX11_go 105 = .ok (.getfield 159, 3) := by decide +kernel
theorem dX11_go_108 : decode cX11_go 108 = .ok (.if_icmp .ge 154, 3) := by decide +kernel
theorem dX11_go_111 : decode cX11_go 111 = .ok (.aload_n 0, 1) := by decide +kernel
theorem dX11_go_112 : decode cX11_go 112 = .ok (.getfield 69, 3) := by decide +kernel
theorem dX11_go_115 : decode cX11_go 115 = .ok (.iload_n 3, 1) := by decide +kernel
theorem dX11_go_116 : decode cX11_go 116 = .ok (.baload, 1) := by decide +kernel
theorem dX11_go_117 : decode cX11_go 117 = .ok (.ifCond .eq 139, 3) := by decide +kernel
theorem dX11_go_120 : decode cX11_go 120 = .ok (.aload_n 0, 1) := by decide +kernel
theorem dX11_go_121 : decode cX11_go 121 = .ok (.getfield 16, 3) := by decide +kernel
theorem dX11_go_124 : decode cX11_go 124 = .ok (.iload_n 3, 1) := by decide +kernel
theorem dX11_go_125 : decode cX11_go 125 = .ok (.iaload, 1) := by decide +kernel
theorem dX11_go_126 : decode cX11_go 126 = .ok (.aload_n 0, 1) := by decide +kernel
theorem dX11_go_127 : decode cX11_go 127 = .ok (.getfield 19, 3) := by decide +kernel
theorem dX11_go_130 : decode cX11_go 130 = .ok (.iload_n 3, 1) := by decide +kernel
theorem dX11_go_131 : decode cX11_go 131 = .ok (.iaload, 1) := by decide +kernel
theorem dX11_go_132 : decode cX11_go 132 = .ok (.if_icmp .eq 124, 3) := by decide +kernel
theorem dX11_go_135 : decode cX11_go 135 = .ok (.aload_n 0, 1) := by decide +kernel
theorem dX11_go_136 : decode cX11_go 136 = .ok (.getfield 16, 3) := by decide +kernel
theorem dX11_go_139 : decode cX11_go 139 = .ok (.iload_n 3, 1) := by decide +kernel
theorem dX11_go_140 : decode cX11_go 140 = .ok (.iaload, 1) := by decide +kernel
theorem dX11_go_141 : decode cX11_go 141 = .ok (.aload_n 0, 1) := by decide +kernel
theorem dX11_go_142 : decode cX11_go 142 = .ok (.getfield 72, 3) := by decide +kernel
theorem dX11_go_145 : decode cX11_go 145 = .ok (.iload_n 1, 1) := by decide +kernel
theorem dX11_go_146 : decode cX11_go 146 = .ok (.iaload, 1) := by decide +kernel
theorem dX11_go_147 : decode cX11_go 147 = .ok (.if_icmp .eq 18, 3) := by decide +kernel
theorem dX11_go_150 : decode cX11_go 150 = .ok (.aload_n 0, 1) := by decide +kernel
theorem dX11_go_151 : decode cX11_go 151 = .ok (.getfield 19, 3) := by decide +kernel
theorem dX11_go_154 : decode cX11_go 154 = .ok (.iload_n 3, 1) := by decide +kernel
theorem dX11_go_155 : decode cX11_go 155 = .ok (.iaload, 1) := by decide +kernel
theorem dX11_go_156 : decode cX11_go 156 = .ok (.aload_n 0, 1) := by decide +kernel
theorem dX11_go_157 : decode cX11_go 157 = .ok (.getfield 72, 3) := by decide +kernel
theorem dX11_go_160 : decode cX11_go 160 = .ok (.iload_n 1, 1) := by decide +kernel
theorem dX11_go_161 : decode cX11_go 161 = .ok (.iaload, 1) := by decide +kernel
theorem dX11_go_162 : decode cX11_go 162 = .ok (.if_icmp .ne 94, 3) := by decide +kernel
theorem dX11_go_165 : decode cX11_go 165 = .ok (.aload_n 0, 1) := by decide +kernel
theorem dX11_go_166 : decode cX11_go 166 = .ok (.getfield 19, 3) := by decide +kernel
theorem dX11_go_169 : decode cX11_go 169 = .ok (.iload_n 3, 1) := by decide +kernel
theorem dX11_go_170 : decode cX11_go 170 = .ok (.iaload, 1) := by decide +kernel
theorem dX11_go_171 : decode cX11_go 171 = .ok (.aload_n 0, 1) := by decide +kernel
theorem dX11_go_172 : decode cX11_go 172 = .ok (.getfield 72, 3) := by decide +kernel
theorem dX11_go_175 : decode cX11_go 175 = .ok (.iload_n 1, 1) := by decide +kernel
theorem dX11_go_176 : decode cX11_go 176 = .ok (.iaload, 1) := by decide +kernel
theorem dX11_go_177 : decode cX11_go 177 = .ok (.if_icmp .ne 7, 3) := by decide +kernel
theorem dX11_go_180 : decode cX11_go 180 = .ok (.iconst 1, 1) := by decide +kernel
theorem dX11_go_181 : decode cX11_go 181 = .ok (.goto 4, 3) := by decide +kernel
theorem dX11_go_184 : decode cX11_go 184 = .ok (.iconst 0, 1) := by decide +kernel
theorem dX11_go_185 : decode cX11_go 185 = .ok (.istore 4, 2) := by decide +kernel
theorem dX11_go_187 : decode cX11_go 187 = .ok (.iload 4, 2) := by decide +kernel
theorem dX11_go_189 : decode cX11_go 189 = .ok (.ifCond .eq 12, 3) := by decide +kernel
theorem dX11_go_192 : decode cX11_go 192 = .ok (.aload_n 0, 1) := by decide +kernel
theorem dX11_go_193 : decode cX11_go 193 = .ok (.getfield 16, 3) := by decide +kernel
theorem dX11_go_196 : decode cX11_go 196 = .ok (.iload_n 3, 1) := by decide +kernel
theorem dX11_go_197 : decode cX11_go 197 = .ok (.iaload, 1) := by decide +kernel
theorem dX11_go_198 : decode cX11_go 198 = .ok (.goto 9, 3) := by decide +kernel
theorem dX11_go_201 : decode cX11_go 201 = .ok (.aload_n 0, 1) := by decide +kernel
theorem dX11_go_202 : decode cX11_go 202 = .ok (.getfield 19, 3) := by decide +kernel
theorem dX11_go_205 : decode cX11_go 205 = .ok (.iload_n 3, 1) := by decide +kernel
theorem dX11_go_206 : decode cX11_go 206 = .ok (.iaload, 1) := by decide +kernel
theorem dX11_go_207 : decode cX11_go 207 = .ok (.istore 5, 2) := by decide +kernel
theorem dX11_go_209 : decode cX11_go 209 = .ok (.aload_n 0, 1) := by decide +kernel
theorem dX11_go_210 : decode cX11_go 210 = .ok (.iload_n 1, 1) := by decide +kernel
theorem dX11_go_211 : decode cX11_go 211 = .ok (.iload 5, 2) := by decide +kernel
theorem dX11_go_213 : decode cX11_go 213 = .ok (.invokevirtual 249, 3) := by decide +kernel
theorem dX11_go_216 : decode cX11_go 216 = .ok (.ifCond .ne 40, 3) := by decide +kernel
theorem dX11_go_219 : decode cX11_go 219 = .ok (.aload_n 0, 1) := by decide +kernel
theorem dX11_go_220 : decode cX11_go 220 = .ok (.getfield 75, 3) := by decide +kernel
theorem dX11_go_223 : decode cX11_go 223 = .ok (.iload_n 1, 1) := by decide +kernel
theorem dX11_go_224 : decode cX11_go 224 = .ok (.iload 4, 2) := by decide +kernel
theorem dX11_go_226 : decode cX11_go 226 = .ok (.ifCond .eq 10, 3) := by decide +kernel
theorem dX11_go_229 : decode cX11_go 229 = .ok (.bipush 100, 2) := by decide +kernel
theorem dX11_go_231 : decode cX11_go 231 = .ok (.iload_n 3, 1) := by decide +kernel
theorem dX11_go_232 : decode cX11_go 232 = .ok (.iadd, 1) := by decide +kernel
theorem dX11_go_233 : decode cX11_go 233 = .ok (.goto 4, 3) := by decide +kernel
theorem dX11_go_236 : decode cX11_go 236 = .ok (.iload_n 3, 1) := by decide +kernel
theorem dX11_go_237 : decode cX11_go 237 = .ok (.iastore, 1) := by decide +kernel
theorem dX11_go_238 : decode cX11_go 238 = .ok (.aload_n 0, 1) := by decide +kernel
theorem dX11_go_239 : decode cX11_go 239 = .ok (.getfield 72, 3) := by decide +kernel
theorem dX11_go_242 : decode cX11_go 242 = .ok (.iload_n 1, 1) := by decide +kernel
theorem dX11_go_243 : decode cX11_go 243 = .ok (.iconst 1, 1) := by decide +kernel
theorem dX11_go_244 : decode cX11_go 244 = .ok (.iadd, 1) := by decide +kernel
theorem dX11_go_245 : decode cX11_go 245 = .ok (.iload 5, 2) := by decide +kernel
theorem dX11_go_247 : decode cX11_go 247 = .ok (.iastore, 1) := by decide +kernel
theorem dX11_go_248 : decode cX11_go 248 = .ok (.aload_n 0, 1) := by decide +kernel
theorem dX11_go_249 : decode cX11_go 249 = .ok (.iload_n 1, 1) := by decide +kernel
theorem dX11_go_250 : decode cX11_go 250 = .ok (.iconst 1, 1) := by decide +kernel
theorem dX11_go_251 : decode cX11_go 251 = .ok (.iadd, 1) := by decide +kernel
theorem dX11_go_252 : decode cX11_go 252 = .ok (.iload_n 2, 1) := by decide +kernel
theorem dX11_go_253 : decode cX11_go 253 = .ok (.invokevirtual 252, 3) := by decide +kernel
theorem dX11_go_256 : decode cX11_go 256 = .ok (.iinc 3 1, 3) := by decide +kernel
theorem dX11_go_259 : decode cX11_go 259 = .ok (.goto (-156), 3) := by decide +kernel
theorem dX11_go_262 : decode cX11_go 262 = .ok (.return_, 1) := by decide +kernel
theorem dX11_seek_0 : decode cX11_seek 0 = .ok (.aload_n 0, 1) := by decide +kernel
theorem dX11_seek_1 : decode cX11_seek 1 = .ok (.iconst 0, 1) := by decide +kernel
theorem dX11_seek_2 : decode cX11_seek 2 = .ok (.putfield 231, 3) := by decide +kernel
theorem dX11_seek_5 : decode cX11_seek 5 = .ok (.aload_n 0, 1) := by decide +kernel
theorem dX11_seek_6 : decode cX11_seek 6 = .ok (.iload_n 3, 1) := by decide +kernel
theorem dX11_seek_7 : decode cX11_seek 7 = .ok (.putfield 234, 3) := by decide +kernel
theorem dX11_seek_10 : decode cX11_seek 10 = .ok (.aload_n 0, 1) := by decide +kernel
theorem dX11_seek_11 : decode cX11_seek 11 = .ok (.iconst 0, 1) := by decide +kernel
theorem dX11_seek_12 : decode cX11_seek 12 = .ok (.putfield 237, 3) := by decide +kernel
theorem dX11_seek_15 : decode cX11_seek 15 = .ok (.aload_n 0, 1) := by decide +kernel
theorem dX11_seek_16 : decode cX11_seek 16 = .ok (.iload 4, 2) := by decide +kernel
theorem dX11_seek_18 : decode cX11_seek 18 = .ok (.putfield 243, 3) := by decide +kernel
theorem dX11_seek_21 : decode cX11_seek 21 = .ok (.aload_n 0, 1) := by decide +kernel
theorem dX11_seek_22 : decode cX11_seek 22 = .ok (.iconst 0, 1) := by decide +kernel
theorem dX11_seek_23 : decode cX11_seek 23 = .ok (.putfield 212, 3) := by decide +kernel
theorem dX11_seek_26 : decode cX11_seek 26 = .ok (.aload_n 0, 1) := by decide +kernel
theorem dX11_seek_27 : decode cX11_seek 27 = .ok (.iconst 0, 1) := by decide +kernel
theorem dX11_seek_28 : decode cX11_seek 28 = .ok (.putfield 103, 3) := by decide +kernel
theorem dX11_seek_31 : decode cX11_seek 31 = .ok (.aload_n 0, 1) := by decide +kernel
theorem dX11_seek_32 : decode cX11_seek 32 = .ok (.getfield 72, 3) := by decide +kernel
theorem dX11_seek_35 : decode cX11_seek 35 = .ok (.iconst 0, 1) := by decide +kernel
theorem dX11_seek_36 : decode cX11_seek 36 = .ok (.iload_n 1, 1) := by decide +kernel
theorem dX11_seek_37 : decode cX11_seek 37 = .ok (.iastore, 1) := by decide +kernel
theorem dX11_seek_38 : decode cX11_seek 38 = .ok (.aload_n 0, 1) := by decide +kernel
theorem dX11_seek_39 : decode cX11_seek 39 = .ok (.iconst 0, 1) := by decide +kernel
theorem dX11_seek_40 : decode cX11_seek 40 = .ok (.putfield 205, 3) := by decide +kernel
theorem dX11_seek_43 : decode cX11_seek 43 = .ok (.aload_n 0, 1) := by decide +kernel
theorem dX11_seek_44 : decode cX11_seek 44 = .ok (.getfield 205, 3) := by decide +kernel
theorem dX11_seek_47 : decode cX11_seek 47 = .ok (.bipush 10, 2) := by decide +kernel
theorem dX11_seek_49 : decode cX11_seek 49 = .ok (.if_icmp .ge 50, 3) := by decide +kernel
theorem dX11_seek_52 : decode cX11_seek 52 = .ok (.aload_n 0, 1) := by decide +kernel
theorem dX11_seek_53 : decode cX11_seek 53 = .ok (.getfield 237, 3) := by decide +kernel
theorem dX11_seek_56 : decode cX11_seek 56 = .ok (.ifCond .eq 12, 3) := by decide +kernel
theorem dX11_seek_59 : decode cX11_seek 59 = .ok (.iload 4, 2) := by decide +kernel
theorem dX11_seek_61 : decode cX11_seek 61 = .ok (.ifCond .ne 7, 3) := by decide +kernel
theorem dX11_seek_64 : decode cX11_seek 64 = .ok (.iload_n 3, 1) := by decide +kernel
theorem dX11_seek_65 : decode cX11_seek 65 = .ok (.ifCond .ge 34, 3) := by decide +kernel
theorem dX11_seek_68 : decode cX11_seek 68 = .ok (.iload_n 1, 1) := by decide +kernel
theorem dX11_seek_69 : decode cX11_seek 69 = .ok (.iload_n 2, 1) := by decide +kernel
theorem dX11_seek_70 : decode cX11_seek 70 = .ok (.if_icmp .ne 10, 3) := by decide +kernel
theorem dX11_seek_73 : decode cX11_seek 73 = .ok (.aload_n 0, 1) := by decide +kernel
theorem dX11_seek_74 : decode cX11_seek 74 = .ok (.getfield 205, 3) := by decide +kernel
theorem dX11_seek_77 : decode cX11_seek 77 = .ok (.ifCond .ne 9, 3) := by decide +kernel
theorem dX11_seek_80 : decode cX11_seek 80 = .ok (.aload_n 0, 1) := by decide +kernel
theorem dX11_seek_81 : decode cX11_seek 81 = .ok (.iconst 0, 1) := by decide +kernel
theorem dX11_seek_82 : decode cX11_seek 82 = .ok (.iload_n 2, 1) := by decide +kernel
theorem dX11_seek_83 : decode cX11_seek 83 = .ok (.invokevirtual 252, 3) := by decide +kernel
theorem dX11_seek_86 : decode cX11_seek 86 = .ok (.aload_n 0, 1) := by decide +kernel
theorem dX11_seek_87 : decode cX11_seek 87 = .ok (.dup, 1) := by decide +kernel
theorem dX11_seek_88 : decode cX11_seek 88 = .ok (.getfield 205, 3) := by decide +kernel
theorem dX11_seek_91 : decode cX11_seek 91 = .ok (.iconst 1, 1) := by decide +kernel
theorem dX11_seek_92 : decode cX11_seek 92 = .ok (.iadd, 1) := by decide +kernel
theorem dX11_seek_93 : decode cX11_seek 93 = .ok (.putfield 205, 3) := by decide +kernel
theorem dX11_seek_96 : decode cX11_seek 96 = .ok (.goto (-53), 3) := by decide +kernel
theorem dX11_seek_99 : decode cX11_seek 99 = .ok (.return_, 1) := by decide +kernel
theorem dX11_isPair_0 : decode cX11_isPair 0 = .ok (.iload_n 0, 1) := by decide +kernel
theorem dX11_isPair_1 : decode cX11_isPair 1 = .ok (.i2l, 1) := by decide +kernel
theorem dX11_isPair_2 : decode cX11_isPair 2 = .ok (.lconst 0, 1) := by decide +kernel
theorem dX11_isPair_3 : decode cX11_isPair 3 = .ok (.ldc2_w 165, 3) := by decide +kernel
theorem dX11_isPair_6 : decode cX11_isPair 6 = .ok (.invokestatic 145, 3) := by decide +kernel
theorem dX11_isPair_9 : decode cX11_isPair 9 = .ok (.ireturn, 1) := by decide +kernel
theorem dX11_isTime_0 : decode cX11_isTime 0 = .ok (.iload_n 0, 1) := by decide +kernel
theorem dX11_isTime_1 : decode cX11_isTime 1 = .ok (.i2l, 1) := by decide +kernel
theorem dX11_isTime_2 : decode cX11_isTime 2 = .ok (.lconst 0, 1) := by decide +kernel
theorem dX11_isTime_3 : decode cX11_isTime 3 = .ok (.ldc2_w 255, 3) := by decide +kernel
theorem dX11_isTime_6 : decode cX11_isTime 6 = .ok (.invokestatic 145, 3) := by decide +kernel
theorem dX11_isTime_9 : decode cX11_isTime 9 = .ok (.ireturn, 1) := by decide +kernel
theorem dX11_ways_0 : decode cX11_ways 0 = .ok (.iload_n 1, 1) := by decide +kernel
theorem dX11_ways_1 : decode cX11_ways 1 = .ok (.invokestatic 257, 3) := by decide +kernel
theorem dX11_ways_4 : decode cX11_ways 4 = .ok (.ifCond .eq 10, 3) := by decide +kernel
theorem dX11_ways_7 : decode cX11_ways 7 = .ok (.iload_n 2, 1) := by decide +kernel
theorem dX11_ways_8 : decode cX11_ways 8 = .ok (.invokestatic 260, 3) := by decide +kernel
theorem dX11_ways_11 : decode cX11_ways 11 = .ok (.ifCond .ne 7, 3) := by decide +kernel
theorem dX11_ways_14 : decode cX11_ways 14 = .ok (.ldc2_w 149, 3) := by decide +kernel
theorem dX11_ways_17 : decode cX11_ways 17 = .ok (.lreturn, 1) := by decide +kernel
theorem dX11_ways_18 : decode cX11_ways 18 = .ok (.aload_n 0, 1) := by decide +kernel
theorem dX11_ways_19 : decode cX11_ways 19 = .ok (.iload_n 2, 1) := by decide +kernel
theorem dX11_ways_20 : decode cX11_ways 20 = .ok (.sipush 10000, 3) := by decide +kernel
theorem dX11_ways_23 : decode cX11_ways 23 = .ok (.idiv, 1) := by decide +kernel
theorem dX11_ways_24 : decode cX11_ways 24 = .ok (.iload_n 2, 1) := by decide +kernel
theorem dX11_ways_25 : decode cX11_ways 25 = .ok (.sipush 10000, 3) := by decide +kernel
theorem dX11_ways_28 : decode cX11_ways 28 = .ok (.irem, 1) := by decide +kernel
theorem dX11_ways_29 : decode cX11_ways 29 = .ok (.invokevirtual 263, 3) := by decide +kernel
theorem dX11_ways_32 : decode cX11_ways 32 = .ok (.aload_n 0, 1) := by decide +kernel
theorem dX11_ways_33 : decode cX11_ways 33 = .ok (.iload_n 1, 1) := by decide +kernel
theorem dX11_ways_34 : decode cX11_ways 34 = .ok (.bipush 10, 2) := by decide +kernel
theorem dX11_ways_36 : decode cX11_ways 36 = .ok (.idiv, 1) := by decide +kernel
theorem dX11_ways_37 : decode cX11_ways 37 = .ok (.iload_n 1, 1) := by decide +kernel
theorem dX11_ways_38 : decode cX11_ways 38 = .ok (.bipush 10, 2) := by decide +kernel
theorem dX11_ways_40 : decode cX11_ways 40 = .ok (.irem, 1) := by decide +kernel
theorem dX11_ways_41 : decode cX11_ways 41 = .ok (.iconst (-1), 1) := by decide +kernel
theorem dX11_ways_42 : decode cX11_ways 42 = .ok (.iconst 0, 1) := by decide +kernel
theorem dX11_ways_43 : decode cX11_ways 43 = .ok (.invokevirtual 266, 3) := by decide +kernel
theorem dX11_ways_46 : decode cX11_ways 46 = .ok (.aload_n 0, 1) := by decide +kernel
theorem dX11_ways_47 : decode cX11_ways 47 = .ok (.getfield 231, 3) := by decide +kernel
theorem dX11_ways_50 : decode cX11_ways 50 = .ok (.i2l, 1) := by decide +kernel
theorem dX11_ways_51 : decode cX11_ways 51 = .ok (.lreturn, 1) := by decide +kernel
theorem dX11_way_0 : decode cX11_way 0 = .ok (.iload_n 1, 1) := by decide +kernel
theorem dX11_way_1 : decode cX11_way 1 = .ok (.invokestatic 257, 3) := by decide +kernel
theorem dX11_way_4 : decode cX11_way 4 = .ok (.ifCond .eq 19, 3) := by decide +kernel
theorem dX11_way_7 : decode cX11_way 7 = .ok (.iload_n 2, 1) := by decide +kernel
theorem dX11_way_8 : decode cX11_way 8 = .ok (.invokestatic 260, 3) := by decide +kernel
theorem dX11_way_11 : decode cX11_way 11 = .ok (.ifCond .eq 12, 3) := by decide +kernel
theorem dX11_way_14 : decode cX11_way 14 = .ok (.iload_n 3, 1) := by decide +kernel
theorem dX11_way_15 : decode cX11_way 15 = .ok (.ifCond .lt 8, 3) := by decide +kernel
theorem dX11_way_18 : decode cX11_way 18 = .ok (.iload 4, 2) := by decide +kernel
theorem dX11_way_20 : decode cX11_way 20 = .ok (.ifCond .ge 7, 3) := by decide +kernel
theorem dX11_way_23 : decode cX11_way 23 = .ok (.ldc2_w 149, 3) := by decide +kernel
theorem dX11_way_26 : decode cX11_way 26 = .ok (.lreturn, 1) := by decide +kernel
theorem dX11_way_27 : decode cX11_way 27 = .ok (.aload_n 0, 1) := by decide +kernel
theorem dX11_way_28 : decode cX11_way 28 = .ok (.iload_n 2, 1) := by decide +kernel
theorem dX11_way_29 : decode cX11_way 29 = .ok (.sipush 10000, 3) := by decide +kernel
theorem dX11_way_32 : decode cX11_way 32 = .ok (.idiv, 1) := by decide +kernel
theorem dX11_way_33 : decode cX11_way 33 = .ok (.iload_n 2, 1) := by decide +kernel
theorem dX11_way_34 : decode cX11_way 34 = .ok (.sipush 10000, 3) := by decide +kernel
theorem dX11_way_37 : decode cX11_way 37 = .ok (.irem, 1) := by decide +kernel
theorem dX11_way_38 : decode cX11_way 38 = .ok (.invokevirtual 263, 3) := by decide +kernel
theorem dX11_way_41 : decode cX11_way 41 = .ok (.aload_n 0, 1) := by decide +kernel
theorem dX11_way_42 : decode cX11_way 42 = .ok (.iload_n 1, 1) := by decide +kernel
theorem dX11_way_43 : decode cX11_way 43 = .ok (.bipush 10, 2) := by decide +kernel
theorem dX11_way_45 : decode cX11_way 45 = .ok (.idiv, 1) := by decide +kernel
theorem dX11_way_46 : decode cX11_way 46 = .ok (.iload_n 1, 1) := by decide +kernel
theorem dX11_way_47 : decode cX11_way 47 = .ok (.bipush 10, 2) := by decide +kernel
theorem dX11_way_49 : decode cX11_way 49 = .ok (.irem, 1) := by decide +kernel
theorem dX11_way_50 : decode cX11_way 50 = .ok (.iload_n 3, 1) := by decide +kernel
theorem dX11_way_51 : decode cX11_way 51 = .ok (.iconst 0, 1) := by decide +kernel
theorem dX11_way_52 : decode cX11_way 52 = .ok (.invokevirtual 266, 3) := by decide +kernel
theorem dX11_way_55 : decode cX11_way 55 = .ok (.aload_n 0, 1) := by decide +kernel
theorem dX11_way_56 : decode cX11_way 56 = .ok (.getfield 237, 3) := by decide +kernel
theorem dX11_way_59 : decode cX11_way 59 = .ok (.ifCond .eq 23, 3) := by decide +kernel
theorem dX11_way_62 : decode cX11_way 62 = .ok (.iload 4, 2) := by decide +kernel
theorem dX11_way_64 : decode cX11_way 64 = .ok (.aload_n 0, 1) := by decide +kernel
theorem dX11_way_65 : decode cX11_way 65 = .ok (.getfield 240, 3) := by decide +kernel
theorem dX11_way_68 : decode cX11_way 68 = .ok (.if_icmp .ge 14, 3) := by decide +kernel
theorem dX11_way_71 : decode cX11_way 71 = .ok (.aload_n 0, 1) := by decide +kernel
theorem dX11_way_72 : decode cX11_way 72 = .ok (.getfield 78, 3) := by decide +kernel
theorem dX11_way_75 : decode cX11_way 75 = .ok (.iload 4, 2) := by decide +kernel
theorem dX11_way_77 : decode cX11_way 77 = .ok (.iaload, 1) := by decide +kernel
theorem dX11_way_78 : decode cX11_way 78 = .ok (.i2l, 1) := by decide +kernel
theorem dX11_way_79 : decode cX11_way 79 = .ok (.goto 6, 3) := by decide +kernel
theorem dX11_way_82 : decode cX11_way 82 = .ok (.ldc2_w 270, 3) := by decide +kernel
theorem dX11_way_85 : decode cX11_way 85 = .ok (.lreturn, 1) := by decide +kernel
theorem dX11_theWay_0 : decode cX11_theWay 0 = .ok (.aload_n 0, 1) := by decide +kernel
theorem dX11_theWay_1 : decode cX11_theWay 1 = .ok (.iload_n 3, 1) := by decide +kernel
theorem dX11_theWay_2 : decode cX11_theWay 2 = .ok (.iload 4, 2) := by decide +kernel
theorem dX11_theWay_4 : decode cX11_theWay 4 = .ok (.invokevirtual 263, 3) := by decide +kernel
theorem dX11_theWay_7 : decode cX11_theWay 7 = .ok (.aload_n 0, 1) := by decide +kernel
theorem dX11_theWay_8 : decode cX11_theWay 8 = .ok (.iload_n 1, 1) := by decide +kernel
theorem dX11_theWay_9 : decode cX11_theWay 9 = .ok (.iload_n 2, 1) := by decide +kernel
theorem dX11_theWay_10 : decode cX11_theWay 10 = .ok (.iconst 0, 1) := by decide +kernel
theorem dX11_theWay_11 : decode cX11_theWay 11 = .ok (.iconst 0, 1) := by decide +kernel
theorem dX11_theWay_12 : decode cX11_theWay 12 = .ok (.invokevirtual 266, 3) := by decide +kernel
theorem dX11_theWay_15 : decode cX11_theWay 15 = .ok (.aload_n 0, 1) := by decide +kernel
theorem dX11_theWay_16 : decode cX11_theWay 16 = .ok (.getfield 237, 3) := by decide +kernel
theorem dX11_theWay_19 : decode cX11_theWay 19 = .ok (.ifCond .ne 7, 3) := by decide +kernel
theorem dX11_theWay_22 : decode cX11_theWay 22 = .ok (.ldc2_w 270, 3) := by decide +kernel
theorem dX11_theWay_25 : decode cX11_theWay 25 = .ok (.lreturn, 1) := by decide +kernel
theorem dX11_theWay_26 : decode cX11_theWay 26 = .ok (.aload_n 0, 1) := by decide +kernel
theorem dX11_theWay_27 : decode cX11_theWay 27 = .ok (.aload_n 0, 1) := by decide +kernel
theorem dX11_theWay_28 : decode cX11_theWay 28 = .ok (.getfield 78, 3) := by decide +kernel
theorem dX11_theWay_31 : decode cX11_theWay 31 = .ok (.aload_n 0, 1) := by decide +kernel
theorem dX11_theWay_32 : decode cX11_theWay 32 = .ok (.getfield 240, 3) := by decide +kernel
theorem dX11_theWay_35 : decode cX11_theWay 35 = .ok (.iconst 0, 1) := by decide +kernel
theorem dX11_theWay_36 : decode cX11_theWay 36 = .ok (.invokevirtual 208, 3) := by decide +kernel
theorem dX11_theWay_39 : decode cX11_theWay 39 = .ok (.aload_n 0, 1) := by decide +kernel
theorem dX11_theWay_40 : decode cX11_theWay 40 = .ok (.aload_n 0, 1) := by decide +kernel
theorem dX11_theWay_41 : decode cX11_theWay 41 = .ok (.getfield 94, 3) := by decide +kernel
theorem dX11_theWay_44 : decode cX11_theWay 44 = .ok (.putfield 215, 3) := by decide +kernel
theorem dX11_theWay_47 : decode cX11_theWay 47 = .ok (.aload_n 0, 1) := by decide +kernel
theorem dX11_theWay_48 : decode cX11_theWay 48 = .ok (.aload_n 0, 1) := by decide +kernel
theorem dX11_theWay_49 : decode cX11_theWay 49 = .ok (.getfield 98, 3) := by decide +kernel
theorem dX11_theWay_52 : decode cX11_theWay 52 = .ok (.putfield 218, 3) := by decide +kernel
theorem dX11_theWay_55 : decode cX11_theWay 55 = .ok (.aload_n 0, 1) := by decide +kernel
theorem dX11_theWay_56 : decode cX11_theWay 56 = .ok (.aload_n 0, 1) := by decide +kernel
theorem dX11_theWay_57 : decode cX11_theWay 57 = .ok (.getfield 78, 3) := by decide +kernel
theorem dX11_theWay_60 : decode cX11_theWay 60 = .ok (.aload_n 0, 1) := by decide +kernel
theorem dX11_theWay_61 : decode cX11_theWay 61 = .ok (.getfield 240, 3) := by decide +kernel
theorem dX11_theWay_64 : decode cX11_theWay 64 = .ok (.iconst 1, 1) := by decide +kernel
theorem dX11_theWay_65 : decode cX11_theWay 65 = .ok (.invokevirtual 208, 3) := by decide +kernel
theorem dX11_theWay_68 : decode cX11_theWay 68 = .ok (.aload_n 0, 1) := by decide +kernel
theorem dX11_theWay_69 : decode cX11_theWay 69 = .ok (.aload_n 0, 1) := by decide +kernel
theorem dX11_theWay_70 : decode cX11_theWay 70 = .ok (.getfield 94, 3) := by decide +kernel
theorem dX11_theWay_73 : decode cX11_theWay 73 = .ok (.putfield 225, 3) := by decide +kernel
theorem dX11_theWay_76 : decode cX11_theWay 76 = .ok (.aload_n 0, 1) := by decide +kernel
theorem dX11_theWay_77 : decode cX11_theWay 77 = .ok (.aload_n 0, 1) := by decide +kernel
theorem dX11_theWay_78 : decode cX11_theWay 78 = .ok (.getfield 98, 3) := by decide +kernel
theorem dX11_theWay_81 : decode cX11_theWay 81 = .ok (.putfield 228, 3) := by decide +kernel
theorem dX11_theWay_84 : decode cX11_theWay 84 = .ok (.aload_n 0, 1) := by decide +kernel
theorem dX11_theWay_85 : decode cX11_theWay 85 = .ok (.getfield 103, 3) := by decide +kernel
theorem dX11_theWay_88 : decode cX11_theWay 88 = .ok (.ifCond .eq 9, 3) := by decide +kernel
theorem dX11_theWay_91 : decode cX11_theWay 91 = .ok (.ldc2_w 272, 3) := by decide +kernel
theorem dX11_theWay_94 : decode cX11_theWay 94 = .ok (.goto 4, 3) := by decide +kernel
theorem dX11_theWay_97 : decode cX11_theWay 97 = .ok (.lconst 0, 1) := by decide +kernel
theorem dX11_theWay_98 : decode cX11_theWay 98 = .ok (.lreturn, 1) := by decide +kernel
theorem dX11_endTold_0 : decode cX11_endTold 0 = .ok (.iload_n 1, 1) := by decide +kernel
theorem dX11_endTold_1 : decode cX11_endTold 1 = .ok (.ifCond .ne 21, 3) := by decide +kernel
theorem dX11_endTold_4 : decode cX11_endTold 4 = .ok (.iload_n 2, 1) := by decide +kernel
theorem dX11_endTold_5 : decode cX11_endTold 5 = .ok (.ifCond .ne 10, 3) := by decide +kernel
theorem dX11_endTold_8 : decode cX11_endTold 8 = .ok (.aload_n 0, 1) := by decide +kernel
theorem dX11_endTold_9 : decode cX11_endTold 9 = .ok (.getfield 215, 3) := by decide +kernel
theorem dX11_endTold_12 : decode cX11_endTold 12 = .ok (.goto 25, 3) := by decide +kernel
theorem dX11_endTold_15 : decode cX11_endTold 15 = .ok (.aload_n 0, 1) := by decide +kernel
theorem dX11_endTold_16 : decode cX11_endTold 16 = .ok (.getfield 218, 3) := by decide +kernel
theorem dX11_endTold_19 : decode cX11_endTold 19 = .ok (.goto 18, 3) := by decide +kernel
theorem dX11_endTold_22 : decode cX11_endTold 22 = .ok (.iload_n 2, 1) := by decide +kernel
theorem dX11_endTold_23 : decode cX11_endTold 23 = .ok (.ifCond .ne 10, 3) := by decide +kernel
theorem dX11_endTold_26 : decode cX11_endTold 26 = .ok (.aload_n 0, 1) := by decide +kernel
theorem dX11_endTold_27 : decode cX11_endTold 27 = .ok (.getfield 225, 3) := by decide +kernel
theorem dX11_endTold_30 : decode cX11_endTold 30 = .ok (.goto 7, 3) := by decide +kernel
theorem dX11_endTold_33 : decode cX11_endTold 33 = .ok (.aload_n 0, 1) := by decide +kernel
theorem dX11_endTold_34 : decode cX11_endTold 34 = .ok (.getfield 228, 3) := by decide +kernel
theorem dX11_endTold_37 : decode cX11_endTold 37 = .ok (.lreturn, 1) := by decide +kernel
theorem dX11_isEnd_0 : decode cX11_isEnd 0 = .ok (.iload_n 0, 1) := by decide +kernel
theorem dX11_isEnd_1 : decode cX11_isEnd 1 = .ok (.i2l, 1) := by decide +kernel
theorem dX11_isEnd_2 : decode cX11_isEnd 2 = .ok (.lconst 0, 1) := by decide +kernel
theorem dX11_isEnd_3 : decode cX11_isEnd 3 = .ok (.lconst 1, 1) := by decide +kernel
theorem dX11_isEnd_4 : decode cX11_isEnd 4 = .ok (.invokestatic 145, 3) := by decide +kernel
theorem dX11_isEnd_7 : decode cX11_isEnd 7 = .ok (.ifCond .eq 17, 3) := by decide +kernel
theorem dX11_isEnd_10 : decode cX11_isEnd 10 = .ok (.iload_n 1, 1) := by decide +kernel
theorem dX11_isEnd_11 : decode cX11_isEnd 11 = .ok (.i2l, 1) := by decide +kernel
theorem dX11_isEnd_12 : decode cX11_isEnd 12 = .ok (.lconst 0, 1) := by decide +kernel
theorem dX11_isEnd_13 : decode cX11_isEnd 13 = .ok (.lconst 1, 1) := by decide +kernel
theorem dX11_isEnd_14 : decode cX11_isEnd 14 = .ok (.invokestatic 145, 3) := by decide +kernel
theorem dX11_isEnd_17 : decode cX11_isEnd 17 = .ok (.ifCond .eq 7, 3) := by decide +kernel
theorem dX11_isEnd_20 : decode cX11_isEnd 20 = .ok (.iconst 1, 1) := by decide +kernel
theorem dX11_isEnd_21 : decode cX11_isEnd 21 = .ok (.goto 4, 3) := by decide +kernel
theorem dX11_isEnd_24 : decode cX11_isEnd 24 = .ok (.iconst 0, 1) := by decide +kernel
theorem dX11_isEnd_25 : decode cX11_isEnd 25 = .ok (.ireturn, 1) := by decide +kernel
theorem dX11_factor_0 : decode cX11_factor 0 = .ok (.iload_n 1, 1) := by decide +kernel
theorem dX11_factor_1 : decode cX11_factor 1 = .ok (.invokestatic 257, 3) := by decide +kernel
theorem dX11_factor_4 : decode cX11_factor 4 = .ok (.ifCond .eq 19, 3) := by decide +kernel
theorem dX11_factor_7 : decode cX11_factor 7 = .ok (.iload_n 2, 1) := by decide +kernel
theorem dX11_factor_8 : decode cX11_factor 8 = .ok (.invokestatic 260, 3) := by decide +kernel
theorem dX11_factor_11 : decode cX11_factor 11 = .ok (.ifCond .eq 12, 3) := by decide +kernel
theorem dX11_factor_14 : decode cX11_factor 14 = .ok (.iload_n 3, 1) := by decide +kernel
theorem dX11_factor_15 : decode cX11_factor 15 = .ok (.iload 4, 2) := by decide +kernel
theorem dX11_factor_17 : decode cX11_factor 17 = .ok (.invokestatic 274, 3) := by decide +kernel
theorem dX11_factor_20 : decode cX11_factor 20 = .ok (.ifCond .ne 7, 3) := by decide +kernel
theorem dX11_factor_23 : decode cX11_factor 23 = .ok (.ldc2_w 149, 3) := by decide +kernel
theorem dX11_factor_26 : decode cX11_factor 26 = .ok (.lreturn, 1) := by decide +kernel
theorem dX11_factor_27 : decode cX11_factor 27 = .ok (.aload_n 0, 1) := by decide +kernel
theorem dX11_factor_28 : decode cX11_factor 28 = .ok (.iload_n 1, 1) := by decide +kernel
theorem dX11_factor_29 : decode cX11_factor 29 = .ok (.bipush 10, 2) := by decide +kernel
theorem dX11_factor_31 : decode cX11_factor 31 = .ok (.idiv, 1) := by decide +kernel
theorem dX11_factor_32 : decode cX11_factor 32 = .ok (.iload_n 1, 1) := by decide +kernel
theorem dX11_factor_33 : decode cX11_factor 33 = .ok (.bipush 10, 2) := by decide +kernel
theorem dX11_factor_35 : decode cX11_factor 35 = .ok (.irem, 1) := by decide +kernel
theorem dX11_factor_36 : decode cX11_factor 36 = .ok (.iload_n 2, 1) := by decide +kernel
theorem dX11_factor_37 : decode cX11_factor 37 = .ok (.sipush 10000, 3) := by decide +kernel
theorem dX11_factor_40 : decode cX11_factor 40 = .ok (.idiv, 1) := by decide +kernel
theorem dX11_factor_41 : decode cX11_factor 41 = .ok (.iload_n 2, 1) := by decide +kernel
theorem dX11_factor_42 : decode cX11_factor 42 = .ok (.sipush 10000, 3) := by decide +kernel
theorem dX11_factor_45 : decode cX11_factor 45 = .ok (.irem, 1) := by decide +kernel
theorem dX11_factor_46 : decode cX11_factor 46 = .ok (.invokevirtual 277, 3) := by decide +kernel
theorem dX11_factor_49 : decode cX11_factor 49 = .ok (.lstore 5, 2) := by decide +kernel
theorem dX11_factor_51 : decode cX11_factor 51 = .ok (.lload 5, 2) := by decide +kernel
theorem dX11_factor_53 : decode cX11_factor 53 = .ok (.lconst 0, 1) := by decide +kernel
theorem dX11_factor_54 : decode cX11_factor 54 = .ok (.lcmp, 1) := by decide +kernel
theorem dX11_factor_55 : decode cX11_factor 55 = .ok (.ifCond .eq 8, 3) := by decide +kernel
theorem dX11_factor_58 : decode cX11_factor 58 = .ok (.lload 5, 2) := by decide +kernel
theorem dX11_factor_60 : decode cX11_factor 60 = .ok (.goto 10, 3) := by decide +kernel
theorem dX11_factor_63 : decode cX11_factor 63 = .ok (.aload_n 0, 1) := by decide +kernel
theorem dX11_factor_64 : decode cX11_factor 64 = .ok (.iload_n 3, 1) := by decide +kernel
theorem dX11_factor_65 : decode cX11_factor 65 = .ok (.iload 4, 2) := by decide +kernel
theorem dX11_factor_67 : decode cX11_factor 67 = .ok (.invokevirtual 281, 3) := by decide +kernel
theorem dX11_factor_70 : decode cX11_factor 70 = .ok (.lreturn, 1) := by decide +kernel
theorem dX11_span_0 : decode cX11_span 0 = .ok (.iload_n 1, 1) := by decide +kernel
theorem dX11_span_1 : decode cX11_span 1 = .ok (.invokestatic 257, 3) := by decide +kernel
theorem dX11_span_4 : decode cX11_span 4 = .ok (.ifCond .eq 19, 3) := by decide +kernel
theorem dX11_span_7 : decode cX11_span 7 = .ok (.iload_n 2, 1) := by decide +kernel
theorem dX11_span_8 : decode cX11_span 8 = .ok (.invokestatic 260, 3) := by decide +kernel
theorem dX11_span_11 : decode cX11_span 11 = .ok (.ifCond .eq 12, 3) := by decide +kernel
theorem dX11_span_14 : decode cX11_span 14 = .ok (.iload_n 3, 1) := by decide +kernel
theorem dX11_span_15 : decode cX11_span 15 = .ok (.iload 4, 2) := by decide +kernel
theorem dX11_span_17 : decode cX11_span 17 = .ok (.invokestatic 274, 3) := by decide +kernel
theorem dX11_span_20 : decode cX11_span 20 = .ok (.ifCond .ne 7, 3) := by decide +kernel
theorem dX11_span_23 : decode cX11_span 23 = .ok (.ldc2_w 149, 3) := by decide +kernel
theorem dX11_span_26 : decode cX11_span 26 = .ok (.lreturn, 1) := by decide +kernel
theorem dX11_span_27 : decode cX11_span 27 = .ok (.aload_n 0, 1) := by decide +kernel
theorem dX11_span_28 : decode cX11_span 28 = .ok (.iload_n 2, 1) := by decide +kernel
theorem dX11_span_29 : decode cX11_span 29 = .ok (.sipush 10000, 3) := by decide +kernel
theorem dX11_span_32 : decode cX11_span 32 = .ok (.idiv, 1) := by decide +kernel
theorem dX11_span_33 : decode cX11_span 33 = .ok (.iload_n 2, 1) := by decide +kernel
theorem dX11_span_34 : decode cX11_span 34 = .ok (.sipush 10000, 3) := by decide +kernel
theorem dX11_span_37 : decode cX11_span 37 = .ok (.irem, 1) := by decide +kernel
theorem dX11_span_38 : decode cX11_span 38 = .ok (.invokevirtual 263, 3) := by decide +kernel
theorem dX11_span_41 : decode cX11_span 41 = .ok (.aload_n 0, 1) := by decide +kernel
theorem dX11_span_42 : decode cX11_span 42 = .ok (.iload_n 1, 1) := by decide +kernel
theorem dX11_span_43 : decode cX11_span 43 = .ok (.bipush 10, 2) := by decide +kernel
theorem dX11_span_45 : decode cX11_span 45 = .ok (.idiv, 1) := by decide +kernel
theorem dX11_span_46 : decode cX11_span 46 = .ok (.iload_n 1, 1) := by decide +kernel
theorem dX11_span_47 : decode cX11_span 47 = .ok (.bipush 10, 2) := by decide +kernel
theorem dX11_span_49 : decode cX11_span 49 = .ok (.irem, 1) := by decide +kernel
theorem dX11_span_50 : decode cX11_span 50 = .ok (.iconst (-1), 1) := by decide +kernel
theorem dX11_span_51 : decode cX11_span 51 = .ok (.iconst 1, 1) := by decide +kernel
theorem dX11_span_52 : decode cX11_span 52 = .ok (.invokevirtual 266, 3) := by decide +kernel
theorem dX11_span_55 : decode cX11_span 55 = .ok (.aload_n 0, 1) := by decide +kernel
theorem dX11_span_56 : decode cX11_span 56 = .ok (.getfield 231, 3) := by decide +kernel
theorem dX11_span_59 : decode cX11_span 59 = .ok (.ifCond .ne 7, 3) := by decide +kernel
theorem dX11_span_62 : decode cX11_span 62 = .ok (.ldc2_w 270, 3) := by decide +kernel
theorem dX11_span_65 : decode cX11_span 65 = .ok (.lreturn, 1) := by decide +kernel
theorem dX11_span_66 : decode cX11_span 66 = .ok (.aload_n 0, 1) := by decide +kernel
theorem dX11_span_67 : decode cX11_span 67 = .ok (.getfield 103, 3) := by decide +kernel
theorem dX11_span_70 : decode cX11_span 70 = .ok (.ifCond .eq 9, 3) := by decide +kernel
theorem dX11_span_73 : decode cX11_span 73 = .ok (.ldc2_w 272, 3) := by decide +kernel
theorem dX11_span_76 : decode cX11_span 76 = .ok (.goto 10, 3) := by decide +kernel
theorem dX11_span_79 : decode cX11_span 79 = .ok (.aload_n 0, 1) := by decide +kernel
theorem dX11_span_80 : decode cX11_span 80 = .ok (.iload_n 3, 1) := by decide +kernel
theorem dX11_span_81 : decode cX11_span 81 = .ok (.iload 4, 2) := by decide +kernel
theorem dX11_span_83 : decode cX11_span 83 = .ok (.invokevirtual 281, 3) := by decide +kernel
theorem dX11_span_86 : decode cX11_span 86 = .ok (.lreturn, 1) := by decide +kernel
theorem dX11_ring_0 : decode cX11_ring 0 = .ok (.aload_n 0, 1) := by decide +kernel
theorem dX11_ring_1 : decode cX11_ring 1 = .ok (.aload_n 0, 1) := by decide +kernel
theorem dX11_ring_2 : decode cX11_ring 2 = .ok (.getfield 75, 3) := by decide +kernel
theorem dX11_ring_5 : decode cX11_ring 5 = .ok (.aload_n 0, 1) := by decide +kernel
theorem dX11_ring_6 : decode cX11_ring 6 = .ok (.getfield 205, 3) := by decide +kernel
theorem dX11_ring_9 : decode cX11_ring 9 = .ok (.iconst 0, 1) := by decide +kernel
theorem dX11_ring_10 : decode cX11_ring 10 = .ok (.invokevirtual 208, 3) := by decide +kernel
theorem dX11_ring_13 : decode cX11_ring 13 = .ok (.aload_n 0, 1) := by decide +kernel
theorem dX11_ring_14 : decode cX11_ring 14 = .ok (.getfield 94, 3) := by decide +kernel
theorem dX11_ring_17 : decode cX11_ring 17 = .ok (.lstore_n 1, 1) := by decide +kernel
theorem dX11_ring_18 : decode cX11_ring 18 = .ok (.aload_n 0, 1) := by decide +kernel
theorem dX11_ring_19 : decode cX11_ring 19 = .ok (.getfield 98, 3) := by decide +kernel
theorem dX11_ring_22 : decode cX11_ring 22 = .ok (.lstore_n 3, 1) := by decide +kernel
theorem dX11_ring_23 : decode cX11_ring 23 = .ok (.aload_n 0, 1) := by decide +kernel
theorem dX11_ring_24 : decode cX11_ring 24 = .ok (.aload_n 0, 1) := by decide +kernel
theorem dX11_ring_25 : decode cX11_ring 25 = .ok (.getfield 75, 3) := by decide +kernel
theorem dX11_ring_28 : decode cX11_ring 28 = .ok (.aload_n 0, 1) := by decide +kernel
theorem dX11_ring_29 : decode cX11_ring 29 = .ok (.getfield 205, 3) := by decide +kernel
theorem dX11_ring_32 : decode cX11_ring 32 = .ok (.iconst 1, 1) := by decide +kernel
theorem dX11_ring_33 : decode cX11_ring 33 = .ok (.invokevirtual 208, 3) := by decide +kernel
theorem dX11_ring_36 : decode cX11_ring 36 = .ok (.aload_n 0, 1) := by decide +kernel
theorem dX11_ring_37 : decode cX11_ring 37 = .ok (.getfield 103, 3) := by decide +kernel
theorem dX11_ring_40 : decode cX11_ring 40 = .ok (.ifCond .ne 9, 3) := by decide +kernel
theorem dX11_ring_43 : decode cX11_ring 43 = .ok (.lload_n 1, 1) := by decide +kernel
theorem dX11_ring_44 : decode cX11_ring 44 = .ok (.lload_n 3, 1) := by decide +kernel
theorem dX11_ring_45 : decode cX11_ring 45 = .ok (.lcmp, 1) := by decide +kernel
theorem dX11_ring_46 : decode cX11_ring 46 = .ok (.ifCond .gt 4, 3) := by decide +kernel
theorem dX11_ring_49 : decode cX11_ring 49 = .ok (.return_, 1) := by decide +kernel
theorem dX11_ring_50 : decode cX11_ring 50 = .ok (.aload_n 0, 1) := by decide +kernel
theorem dX11_ring_51 : decode cX11_ring 51 = .ok (.getfield 285, 3) := by decide +kernel
theorem dX11_ring_54 : decode cX11_ring 54 = .ok (.ifCond .eq 21, 3) := by decide +kernel
theorem dX11_ring_57 : decode cX11_ring 57 = .ok (.aload_n 0, 1) := by decide +kernel
theorem dX11_ring_58 : decode cX11_ring 58 = .ok (.getfield 240, 3) := by decide +kernel
theorem dX11_ring_61 : decode cX11_ring 61 = .ok (.aload_n 0, 1) := by decide +kernel
theorem dX11_ring_62 : decode cX11_ring 62 = .ok (.getfield 205, 3) := by decide +kernel
theorem dX11_ring_65 : decode cX11_ring 65 = .ok (.if_icmp .ne 55, 3) := by decide +kernel
theorem dX11_ring_68 : decode cX11_ring 68 = .ok (.aload_n 0, 1) := by decide +kernel
theorem dX11_ring_69 : decode cX11_ring 69 = .ok (.invokevirtual 288, 3) := by decide +kernel
theorem dX11_ring_72 : decode cX11_ring 72 = .ok (.ifCond .eq 48, 3) := by decide +kernel
theorem dX11_ring_75 : decode cX11_ring 75 = .ok (.aload_n 0, 1) := by decide +kernel
theorem dX11_ring_76 : decode cX11_ring 76 = .ok (.iconst 1, 1) := by decide +kernel
theorem dX11_ring_77 : decode cX11_ring 77 = .ok (.putfield 285, 3) := by decide +kernel
theorem dX11_ring_80 : decode cX11_ring 80 = .ok (.aload_n 0, 1) := by decide +kernel
theorem dX11_ring_81 : decode cX11_ring 81 = .ok (.aload_n 0, 1) := by decide +kernel
theorem dX11_ring_82 : decode cX11_ring 82 = .ok (.getfield 205, 3) := by decide +kernel
theorem dX11_ring_85 : decode cX11_ring 85 = .ok (.putfield 240, 3) := by decide +kernel
theorem dX11_ring_88 : decode cX11_ring 88 = .ok (.iconst 0, 1) := by decide +kernel
theorem dX11_ring_89 : decode cX11_ring 89 = .ok (.istore 5, 2) := by decide +kernel
theorem dX11_ring_91 : decode cX11_ring 91 = .ok (.iload 5, 2) := by decide +kernel
theorem dX11_ring_93 : decode cX11_ring 93 = .ok (.aload_n 0, 1) := by decide +kernel
theorem dX11_ring_94 : decode cX11_ring 94 = .ok (.getfield 205, 3) := by decide +kernel
theorem dX11_ring_97 : decode cX11_ring 97 = .ok (.if_icmp .ge 23, 3) := by decide +kernel
theorem dX11_ring_100 : decode cX11_ring 100 = .ok (.aload_n 0, 1) := by decide +kernel
theorem dX11_ring_101 : decode cX11_ring 101 = .ok (.getfield 78, 3) := by decide +kernel
theorem dX11_ring_104 : decode cX11_ring 104 = .ok (.iload 5, 2) := by decide +kernel
theorem dX11_ring_106 : decode cX11_ring 106 = .ok (.aload_n 0, 1) := by decide +kernel
theorem dX11_ring_107 : decode cX11_ring 107 = .ok (.getfield 75, 3) := by decide +kernel
theorem dX11_ring_110 : decode cX11_ring 110 = .ok (.iload 5, 2) := by decide +kernel
theorem dX11_ring_112 : decode cX11_ring 112 = .ok (.iaload, 1) := by decide +kernel
theorem dX11_ring_113 : decode cX11_ring 113 = .ok (.iastore, 1) := by decide +kernel
theorem dX11_ring_114 : decode cX11_ring 114 = .ok (.iinc 5 1, 3) := by decide +kernel
theorem dX11_ring_117 : decode cX11_ring 117 = .ok (.goto (-26), 3) := by decide +kernel
theorem dX11_ring_120 : decode cX11_ring 120 = .ok (.iconst 0, 1) := by decide +kernel
theorem dX11_ring_121 : decode cX11_ring 121 = .ok (.istore 5, 2) := by decide +kernel
theorem dX11_ring_123 : decode cX11_ring 123 = .ok (.iconst 0, 1) := by decide +kernel
theorem dX11_ring_124 : decode cX11_ring 124 = .ok (.istore 6, 2) := by decide +kernel
theorem dX11_ring_126 : decode cX11_ring 126 = .ok (.iload 6, 2) := by decide +kernel
theorem dX11_ring_128 : decode cX11_ring 128 = .ok (.aload_n 0, 1) := by decide +kernel
theorem dX11_ring_129 : decode cX11_ring 129 = .ok (.getfield 205, 3) := by decide +kernel
theorem dX11_ring_132 : decode cX11_ring 132 = .ok (.if_icmp .ge 53, 3) := by decide +kernel
theorem dX11_ring_135 : decode cX11_ring 135 = .ok (.iload 5, 2) := by decide +kernel
theorem dX11_ring_137 : decode cX11_ring 137 = .ok (.aload_n 0, 1) := by decide +kernel
theorem dX11_ring_138 : decode cX11_ring 138 = .ok (.getfield 84, 3) := by decide +kernel
theorem dX11_ring_141 : decode cX11_ring 141 = .ok (.aload_n 0, 1) := by decide +kernel
theorem dX11_ring_142 : decode cX11_ring 142 = .ok (.getfield 75, 3) := by decide +kernel
theorem dX11_ring_145 : decode cX11_ring 145 = .ok (.iload 6, 2) := by decide +kernel
theorem dX11_ring_147 : decode cX11_ring 147 = .ok (.iaload, 1) := by decide +kernel
theorem dX11_ring_148 : decode cX11_ring 148 = .ok (.bipush 100, 2) := by decide +kernel
theorem dX11_ring_150 : decode cX11_ring 150 = .ok (.irem, 1) := by decide +kernel
theorem dX11_ring_151 : decode cX11_ring 151 = .ok (.iaload, 1) := by decide +kernel
theorem dX11_ring_152 : decode cX11_ring 152 = .ok (.ifCond .lt 23, 3) := by decide +kernel
theorem dX11_ring_155 : decode cX11_ring 155 = .ok (.iconst 1, 1) := by decide +kernel
theorem dX11_ring_156 : decode cX11_ring 156 = .ok (.aload_n 0, 1) := by decide +kernel
theorem dX11_ring_157 : decode cX11_ring 157 = .ok (.getfield 84, 3) := by decide +kernel
theorem dX11_ring_160 : decode cX11_ring 160 = .ok (.aload_n 0, 1) := by decide +kernel
theorem dX11_ring_161 : decode cX11_ring 161 = .ok (.getfield 75, 3) := by decide +kernel
theorem dX11_ring_164 : decode cX11_ring 164 = .ok (.iload 6, 2) := by decide +kernel
theorem dX11_ring_166 : decode cX11_ring 166 = .ok (.iaload, 1) := by decide +kernel
theorem dX11_ring_167 : decode cX11_ring 167 = .ok (.bipush 100, 2) := by decide +kernel
theorem dX11_ring_169 : decode cX11_ring 169 = .ok (.irem, 1) := by decide +kernel
theorem dX11_ring_170 : decode cX11_ring 170 = .ok (.iaload, 1) := by decide +kernel
theorem dX11_ring_171 : decode cX11_ring 171 = .ok (.ishl, 1) := by decide +kernel
theorem dX11_ring_172 : decode cX11_ring 172 = .ok (.goto 4, 3) := by decide +kernel
theorem dX11_ring_175 : decode cX11_ring 175 = .ok (.iconst 0, 1) := by decide +kernel
theorem dX11_ring_176 : decode cX11_ring 176 = .ok (.ior, 1) := by decide +kernel
theorem dX11_ring_177 : decode cX11_ring 177 = .ok (.istore 5, 2) := by decide +kernel
theorem dX11_ring_179 : decode cX11_ring 179 = .ok (.iinc 6 1, 3) := by decide +kernel
theorem dX11_ring_182 : decode cX11_ring 182 = .ok (.goto (-56), 3) := by decide +kernel
theorem dX11_ring_185 : decode cX11_ring 185 = .ok (.aload_n 0, 1) := by decide +kernel
theorem dX11_ring_186 : decode cX11_ring 186 = .ok (.getfield 81, 3) := by decide +kernel
theorem dX11_ring_189 : decode cX11_ring 189 = .ok (.iload 5, 2) := by decide +kernel
theorem dX11_ring_191 : decode cX11_ring 191 = .ok (.iconst 1, 1) := by decide +kernel
theorem dX11_ring_192 : decode cX11_ring 192 = .ok (.bastore, 1) := by decide +kernel
theorem dX11_ring_193 : decode cX11_ring 193 = .ok (.return_, 1) := by decide +kernel
theorem dX11_isAhead_0 : decode cX11_isAhead 0 = .ok (.iconst 0, 1) := by decide +kernel
theorem dX11_isAhead_1 : decode cX11_isAhead 1 = .ok (.istore_n 1, 1) := by decide +kernel
theorem dX11_isAhead_2 : decode cX11_isAhead 2 = .ok (.iload_n 1, 1) := by decide +kernel
theorem dX11_isAhead_3 : decode cX11_isAhead 3 = .ok (.aload_n 0, 1) := by decide +kernel
theorem dX11_isAhead_4 : decode cX11_isAhead 4 = .ok (.getfield 205, 3) := by decide +kernel
theorem dX11_isAhead_7 : decode cX11_isAhead 7 = .ok (.iconst 1, 1) := by decide +kernel
theorem dX11_isAhead_8 : decode cX11_isAhead 8 = .ok (.isub, 1) := by decide +kernel
theorem dX11_isAhead_9 : decode cX11_isAhead 9 = .ok (.if_icmp .ge 30, 3) := by decide +kernel
theorem dX11_isAhead_12 : decode cX11_isAhead 12 = .ok (.aload_n 0, 1) := by decide +kernel
theorem dX11_isAhead_13 : decode cX11_isAhead 13 = .ok (.getfield 75, 3) := by decide +kernel
theorem dX11_isAhead_16 : decode cX11_isAhead 16 = .ok (.iload_n 1, 1) := by decide +kernel
theorem dX11_isAhead_17 : decode cX11_isAhead 17 = .ok (.iaload, 1) := by decide +kernel
theorem dX11_isAhead_18 : decode cX11_isAhead 18 = .ok (.bipush 100, 2) := by decide +kernel
theorem dX11_isAhead_20 : decode cX11_isAhead 20 = .ok (.irem, 1) := by decide +kernel
theorem dX11_isAhead_21 : decode cX11_isAhead 21 = .ok (.aload_n 0, 1) := by decide +kernel
theorem dX11_isAhead_22 : decode cX11_isAhead 22 = .ok (.getfield 78, 3) := by decide +kernel
theorem dX11_isAhead_25 : decode cX11_isAhead 25 = .ok (.iload_n 1, 1) := by decide +kernel
theorem dX11_isAhead_26 : decode cX11_isAhead 26 = .ok (.iaload, 1) := by decide +kernel
theorem dX11_isAhead_27 : decode cX11_isAhead 27 = .ok (.bipush 100, 2) := by decide +kernel
theorem dX11_isAhead_29 : decode cX11_isAhead 29 = .ok (.irem, 1) := by decide +kernel
end
section
theorem dX11_isAhead_30 : decode cX11_isAhead 30 = .ok (.if_icmp .ne 9, 3) := by decide +kernel
theorem dX11_isAhead_33 : decode cX11_isAhead 33 = .ok (.iinc 1 1, 3) := by decide +kernel
theorem dX11_isAhead_36 : decode cX11_isAhead 36 = .ok (.goto (-34), 3) := by decide +kernel
theorem dX11_isAhead_39 : decode cX11_isAhead 39 = .ok (.aload_n 0, 1) := by decide +kernel
theorem dX11_isAhead_40 : decode cX11_isAhead 40 = .ok (.getfield 75, 3) := by decide +kernel
theorem dX11_isAhead_43 : decode cX11_isAhead 43 = .ok (.iload_n 1, 1) := by decide +kernel
theorem dX11_isAhead_44 : decode cX11_isAhead 44 = .ok (.iaload, 1) := by decide +kernel
theorem dX11_isAhead_45 : decode cX11_isAhead 45 = .ok (.bipush 100, 2) := by decide +kernel
theorem dX11_isAhead_47 : decode cX11_isAhead 47 = .ok (.irem, 1) := by decide +kernel
theorem dX11_isAhead_48 : decode cX11_isAhead 48 = .ok (.aload_n 0, 1) := by decide +kernel
theorem dX11_isAhead_49 : decode cX11_isAhead 49 = .ok (.getfield 78, 3) := by decide +kernel
theorem dX11_isAhead_52 : decode cX11_isAhead 52 = .ok (.iload_n 1, 1) := by decide +kernel
theorem dX11_isAhead_53 : decode cX11_isAhead 53 = .ok (.iaload, 1) := by decide +kernel
theorem dX11_isAhead_54 : decode cX11_isAhead 54 = .ok (.bipush 100, 2) := by decide +kernel
theorem dX11_isAhead_56 : decode cX11_isAhead 56 = .ok (.irem, 1) := by decide +kernel
theorem dX11_isAhead_57 : decode cX11_isAhead 57 = .ok (.if_icmp .ge 7, 3) := by decide +kernel
theorem dX11_isAhead_60 : decode cX11_isAhead 60 = .ok (.iconst 1, 1) := by decide +kernel
theorem dX11_isAhead_61 : decode cX11_isAhead 61 = .ok (.goto 4, 3) := by decide +kernel
theorem dX11_isAhead_64 : decode cX11_isAhead 64 = .ok (.iconst 0, 1) := by decide +kernel
theorem dX11_isAhead_65 : decode cX11_isAhead 65 = .ok (.ireturn, 1) := by decide +kernel
theorem dX11_round_0 : decode cX11_round 0 = .ok (.aload_n 0, 1) := by decide +kernel
theorem dX11_round_1 : decode cX11_round 1 = .ok (.getfield 103, 3) := by decide +kernel
theorem dX11_round_4 : decode cX11_round 4 = .ok (.ifCond .eq 4, 3) := by decide +kernel
theorem dX11_round_7 : decode cX11_round 7 = .ok (.return_, 1) := by decide +kernel
theorem dX11_round_8 : decode cX11_round 8 = .ok (.iload_n 2, 1) := by decide +kernel
theorem dX11_round_9 : decode cX11_round 9 = .ok (.iconst 1, 1) := by decide +kernel
theorem dX11_round_10 : decode cX11_round 10 = .ok (.iadd, 1) := by decide +kernel
theorem dX11_round_11 : decode cX11_round 11 = .ok (.istore_n 3, 1) := by decide +kernel
theorem dX11_round_12 : decode cX11_round 12 = .ok (.iload_n 3, 1) := by decide +kernel
theorem dX11_round_13 : decode cX11_round 13 = .ok (.aload_n 0, 1) := by decide +kernel
theorem dX11_round_14 : decode cX11_round 14 = .ok (.getfield 159, 3) := by decide +kernel
theorem dX11_round_17 : decode cX11_round 17 = .ok (.if_icmp .ge 191, 3) := by decide +kernel
theorem dX11_round_20 : decode cX11_round 20 = .ok (.aload_n 0, 1) := by decide +kernel
theorem dX11_round_21 : decode cX11_round 21 = .ok (.getfield 69, 3) := by decide +kernel
theorem dX11_round_24 : decode cX11_round 24 = .ok (.iload_n 3, 1) := by decide +kernel
theorem dX11_round_25 : decode cX11_round 25 = .ok (.baload, 1) := by decide +kernel
theorem dX11_round_26 : decode cX11_round 26 = .ok (.ifCond .eq 176, 3) := by decide +kernel
theorem dX11_round_29 : decode cX11_round 29 = .ok (.aload_n 0, 1) := by decide +kernel
theorem dX11_round_30 : decode cX11_round 30 = .ok (.getfield 16, 3) := by decide +kernel
theorem dX11_round_33 : decode cX11_round 33 = .ok (.iload_n 3, 1) := by decide +kernel
theorem dX11_round_34 : decode cX11_round 34 = .ok (.iaload, 1) := by decide +kernel
theorem dX11_round_35 : decode cX11_round 35 = .ok (.aload_n 0, 1) := by decide +kernel
theorem dX11_round_36 : decode cX11_round 36 = .ok (.getfield 19, 3) := by decide +kernel
theorem dX11_round_39 : decode cX11_round 39 = .ok (.iload_n 3, 1) := by decide +kernel
theorem dX11_round_40 : decode cX11_round 40 = .ok (.iaload, 1) := by decide +kernel
theorem dX11_round_41 : decode cX11_round 41 = .ok (.if_icmp .eq 161, 3) := by decide +kernel
theorem dX11_round_44 : decode cX11_round 44 = .ok (.aload_n 0, 1) := by decide +kernel
theorem dX11_round_45 : decode cX11_round 45 = .ok (.getfield 16, 3) := by decide +kernel
theorem dX11_round_48 : decode cX11_round 48 = .ok (.iload_n 3, 1) := by decide +kernel
theorem dX11_round_49 : decode cX11_round 49 = .ok (.iaload, 1) := by decide +kernel
theorem dX11_round_50 : decode cX11_round 50 = .ok (.aload_n 0, 1) := by decide +kernel
theorem dX11_round_51 : decode cX11_round 51 = .ok (.getfield 72, 3) := by decide +kernel
theorem dX11_round_54 : decode cX11_round 54 = .ok (.iload_n 1, 1) := by decide +kernel
theorem dX11_round_55 : decode cX11_round 55 = .ok (.iaload, 1) := by decide +kernel
theorem dX11_round_56 : decode cX11_round 56 = .ok (.if_icmp .eq 18, 3) := by decide +kernel
theorem dX11_round_59 : decode cX11_round 59 = .ok (.aload_n 0, 1) := by decide +kernel
theorem dX11_round_60 : decode cX11_round 60 = .ok (.getfield 19, 3) := by decide +kernel
theorem dX11_round_63 : decode cX11_round 63 = .ok (.iload_n 3, 1) := by decide +kernel
theorem dX11_round_64 : decode cX11_round 64 = .ok (.iaload, 1) := by decide +kernel
theorem dX11_round_65 : decode cX11_round 65 = .ok (.aload_n 0, 1) := by decide +kernel
theorem dX11_round_66 : decode cX11_round 66 = .ok (.getfield 72, 3) := by decide +kernel
theorem dX11_round_69 : decode cX11_round 69 = .ok (.iload_n 1, 1) := by decide +kernel
theorem dX11_round_70 : decode cX11_round 70 = .ok (.iaload, 1) := by decide +kernel
theorem dX11_round_71 : decode cX11_round 71 = .ok (.if_icmp .ne 131, 3) := by decide +kernel
theorem dX11_round_74 : decode cX11_round 74 = .ok (.aload_n 0, 1) := by decide +kernel
theorem dX11_round_75 : decode cX11_round 75 = .ok (.iload_n 1, 1) := by decide +kernel
theorem dX11_round_76 : decode cX11_round 76 = .ok (.iload_n 3, 1) := by decide +kernel
theorem dX11_round_77 : decode cX11_round 77 = .ok (.invokevirtual 292, 3) := by decide +kernel
theorem dX11_round_80 : decode cX11_round 80 = .ok (.ifCond .ne 122, 3) := by decide +kernel
theorem dX11_round_83 : decode cX11_round 83 = .ok (.aload_n 0, 1) := by decide +kernel
theorem dX11_round_84 : decode cX11_round 84 = .ok (.getfield 19, 3) := by decide +kernel
theorem dX11_round_87 : decode cX11_round 87 = .ok (.iload_n 3, 1) := by decide +kernel
theorem dX11_round_88 : decode cX11_round 88 = .ok (.iaload, 1) := by decide +kernel
theorem dX11_round_89 : decode cX11_round 89 = .ok (.aload_n 0, 1) := by decide +kernel
theorem dX11_round_90 : decode cX11_round 90 = .ok (.getfield 72, 3) := by decide +kernel
theorem dX11_round_93 : decode cX11_round 93 = .ok (.iload_n 1, 1) := by decide +kernel
theorem dX11_round_94 : decode cX11_round 94 = .ok (.iaload, 1) := by decide +kernel
theorem dX11_round_95 : decode cX11_round 95 = .ok (.if_icmp .ne 7, 3) := by decide +kernel
theorem dX11_round_98 : decode cX11_round 98 = .ok (.iconst 1, 1) := by decide +kernel
theorem dX11_round_99 : decode cX11_round 99 = .ok (.goto 4, 3) := by decide +kernel
theorem dX11_round_102 : decode cX11_round 102 = .ok (.iconst 0, 1) := by decide +kernel
theorem dX11_round_103 : decode cX11_round 103 = .ok (.istore 4, 2) := by decide +kernel
theorem dX11_round_105 : decode cX11_round 105 = .ok (.iload 4, 2) := by decide +kernel
theorem dX11_round_107 : decode cX11_round 107 = .ok (.ifCond .eq 12, 3) := by decide +kernel
theorem dX11_round_110 : decode cX11_round 110 = .ok (.aload_n 0, 1) := by decide +kernel
theorem dX11_round_111 : decode cX11_round 111 = .ok (.getfield 16, 3) := by decide +kernel
theorem dX11_round_114 : decode cX11_round 114 = .ok (.iload_n 3, 1) := by decide +kernel
theorem dX11_round_115 : decode cX11_round 115 = .ok (.iaload, 1) := by decide +kernel
theorem dX11_round_116 : decode cX11_round 116 = .ok (.goto 9, 3) := by decide +kernel
theorem dX11_round_119 : decode cX11_round 119 = .ok (.aload_n 0, 1) := by decide +kernel
theorem dX11_round_120 : decode cX11_round 120 = .ok (.getfield 19, 3) := by decide +kernel
theorem dX11_round_123 : decode cX11_round 123 = .ok (.iload_n 3, 1) := by decide +kernel
theorem dX11_round_124 : decode cX11_round 124 = .ok (.iaload, 1) := by decide +kernel
theorem dX11_round_125 : decode cX11_round 125 = .ok (.istore 5, 2) := by decide +kernel
theorem dX11_round_127 : decode cX11_round 127 = .ok (.aload_n 0, 1) := by decide +kernel
theorem dX11_round_128 : decode cX11_round 128 = .ok (.getfield 75, 3) := by decide +kernel
theorem dX11_round_131 : decode cX11_round 131 = .ok (.iload_n 1, 1) := by decide +kernel
theorem dX11_round_132 : decode cX11_round 132 = .ok (.iload 4, 2) := by decide +kernel
theorem dX11_round_134 : decode cX11_round 134 = .ok (.ifCond .eq 10, 3) := by decide +kernel
theorem dX11_round_137 : decode cX11_round 137 = .ok (.bipush 100, 2) := by decide +kernel
theorem dX11_round_139 : decode cX11_round 139 = .ok (.iload_n 3, 1) := by decide +kernel
theorem dX11_round_140 : decode cX11_round 140 = .ok (.iadd, 1) := by decide +kernel
theorem dX11_round_141 : decode cX11_round 141 = .ok (.goto 4, 3) := by decide +kernel
theorem dX11_round_144 : decode cX11_round 144 = .ok (.iload_n 3, 1) := by decide +kernel
theorem dX11_round_145 : decode cX11_round 145 = .ok (.iastore, 1) := by decide +kernel
theorem dX11_round_146 : decode cX11_round 146 = .ok (.iload_n 1, 1) := by decide +kernel
theorem dX11_round_147 : decode cX11_round 147 = .ok (.aload_n 0, 1) := by decide +kernel
theorem dX11_round_148 : decode cX11_round 148 = .ok (.getfield 205, 3) := by decide +kernel
theorem dX11_round_151 : decode cX11_round 151 = .ok (.iconst 1, 1) := by decide +kernel
theorem dX11_round_152 : decode cX11_round 152 = .ok (.isub, 1) := by decide +kernel
theorem dX11_round_153 : decode cX11_round 153 = .ok (.if_icmp .ne 21, 3) := by decide +kernel
theorem dX11_round_156 : decode cX11_round 156 = .ok (.iload 5, 2) := by decide +kernel
theorem dX11_round_158 : decode cX11_round 158 = .ok (.aload_n 0, 1) := by decide +kernel
theorem dX11_round_159 : decode cX11_round 159 = .ok (.getfield 72, 3) := by decide +kernel
theorem dX11_round_162 : decode cX11_round 162 = .ok (.iconst 0, 1) := by decide +kernel
theorem dX11_round_163 : decode cX11_round 163 = .ok (.iaload, 1) := by decide +kernel
theorem dX11_round_164 : decode cX11_round 164 = .ok (.if_icmp .ne 38, 3) := by decide +kernel
theorem dX11_round_167 : decode cX11_round 167 = .ok (.aload_n 0, 1) := by decide +kernel
theorem dX11_round_168 : decode cX11_round 168 = .ok (.invokevirtual 295, 3) := by decide +kernel
theorem dX11_round_171 : decode cX11_round 171 = .ok (.goto 31, 3) := by decide +kernel
theorem dX11_round_174 : decode cX11_round 174 = .ok (.aload_n 0, 1) := by decide +kernel
theorem dX11_round_175 : decode cX11_round 175 = .ok (.iload_n 1, 1) := by decide +kernel
theorem dX11_round_176 : decode cX11_round 176 = .ok (.iload 5, 2) := by decide +kernel
theorem dX11_round_178 : decode cX11_round 178 = .ok (.invokevirtual 249, 3) := by decide +kernel
theorem dX11_round_181 : decode cX11_round 181 = .ok (.ifCond .ne 21, 3) := by decide +kernel
theorem dX11_round_184 : decode cX11_round 184 = .ok (.aload_n 0, 1) := by decide +kernel
theorem dX11_round_185 : decode cX11_round 185 = .ok (.getfield 72, 3) := by decide +kernel
theorem dX11_round_188 : decode cX11_round 188 = .ok (.iload_n 1, 1) := by decide +kernel
theorem dX11_round_189 : decode cX11_round 189 = .ok (.iconst 1, 1) := by decide +kernel
theorem dX11_round_190 : decode cX11_round 190 = .ok (.iadd, 1) := by decide +kernel
theorem dX11_round_191 : decode cX11_round 191 = .ok (.iload 5, 2) := by decide +kernel
theorem dX11_round_193 : decode cX11_round 193 = .ok (.iastore, 1) := by decide +kernel
theorem dX11_round_194 : decode cX11_round 194 = .ok (.aload_n 0, 1) := by decide +kernel
theorem dX11_round_195 : decode cX11_round 195 = .ok (.iload_n 1, 1) := by decide +kernel
theorem dX11_round_196 : decode cX11_round 196 = .ok (.iconst 1, 1) := by decide +kernel
theorem dX11_round_197 : decode cX11_round 197 = .ok (.iadd, 1) := by decide +kernel
theorem dX11_round_198 : decode cX11_round 198 = .ok (.iload_n 2, 1) := by decide +kernel
theorem dX11_round_199 : decode cX11_round 199 = .ok (.invokevirtual 298, 3) := by decide +kernel
theorem dX11_round_202 : decode cX11_round 202 = .ok (.iinc 3 1, 3) := by decide +kernel
theorem dX11_round_205 : decode cX11_round 205 = .ok (.goto (-193), 3) := by decide +kernel
theorem dX11_round_208 : decode cX11_round 208 = .ok (.return_, 1) := by decide +kernel
theorem dX11_isUsed_0 : decode cX11_isUsed 0 = .ok (.iconst 0, 1) := by decide +kernel
theorem dX11_isUsed_1 : decode cX11_isUsed 1 = .ok (.istore_n 3, 1) := by decide +kernel
theorem dX11_isUsed_2 : decode cX11_isUsed 2 = .ok (.iload_n 3, 1) := by decide +kernel
theorem dX11_isUsed_3 : decode cX11_isUsed 3 = .ok (.iload_n 1, 1) := by decide +kernel
theorem dX11_isUsed_4 : decode cX11_isUsed 4 = .ok (.if_icmp .ge 24, 3) := by decide +kernel
theorem dX11_isUsed_7 : decode cX11_isUsed 7 = .ok (.aload_n 0, 1) := by decide +kernel
theorem dX11_isUsed_8 : decode cX11_isUsed 8 = .ok (.getfield 75, 3) := by decide +kernel
theorem dX11_isUsed_11 : decode cX11_isUsed 11 = .ok (.iload_n 3, 1) := by decide +kernel
theorem dX11_isUsed_12 : decode cX11_isUsed 12 = .ok (.iaload, 1) := by decide +kernel
theorem dX11_isUsed_13 : decode cX11_isUsed 13 = .ok (.bipush 100, 2) := by decide +kernel
theorem dX11_isUsed_15 : decode cX11_isUsed 15 = .ok (.irem, 1) := by decide +kernel
theorem dX11_isUsed_16 : decode cX11_isUsed 16 = .ok (.iload_n 2, 1) := by decide +kernel
theorem dX11_isUsed_17 : decode cX11_isUsed 17 = .ok (.if_icmp .ne 5, 3) := by decide +kernel
theorem dX11_isUsed_20 : decode cX11_isUsed 20 = .ok (.iconst 1, 1) := by decide +kernel
theorem dX11_isUsed_21 : decode cX11_isUsed 21 = .ok (.ireturn, 1) := by decide +kernel
theorem dX11_isUsed_22 : decode cX11_isUsed 22 = .ok (.iinc 3 1, 3) := by decide +kernel
theorem dX11_isUsed_25 : decode cX11_isUsed 25 = .ok (.goto (-23), 3) := by decide +kernel
theorem dX11_isUsed_28 : decode cX11_isUsed 28 = .ok (.iconst 0, 1) := by decide +kernel
theorem dX11_isUsed_29 : decode cX11_isUsed 29 = .ok (.ireturn, 1) := by decide +kernel
theorem dX11_findRings_0 : decode cX11_findRings 0 = .ok (.aload_n 0, 1) := by decide +kernel
theorem dX11_findRings_1 : decode cX11_findRings 1 = .ok (.iload_n 1, 1) := by decide +kernel
theorem dX11_findRings_2 : decode cX11_findRings 2 = .ok (.iload_n 2, 1) := by decide +kernel
theorem dX11_findRings_3 : decode cX11_findRings 3 = .ok (.invokevirtual 263, 3) := by decide +kernel
theorem dX11_findRings_6 : decode cX11_findRings 6 = .ok (.aload_n 0, 1) := by decide +kernel
theorem dX11_findRings_7 : decode cX11_findRings 7 = .ok (.iconst 0, 1) := by decide +kernel
theorem dX11_findRings_8 : decode cX11_findRings 8 = .ok (.putfield 301, 3) := by decide +kernel
theorem dX11_findRings_11 : decode cX11_findRings 11 = .ok (.iconst 0, 1) := by decide +kernel
theorem dX11_findRings_12 : decode cX11_findRings 12 = .ok (.istore 4, 2) := by decide +kernel
theorem dX11_findRings_14 : decode cX11_findRings 14 = .ok (.iload 4, 2) := by decide +kernel
theorem dX11_findRings_16 : decode cX11_findRings 16 = .ok (.aload_n 0, 1) := by decide +kernel
theorem dX11_findRings_17 : decode cX11_findRings 17 = .ok (.getfield 159, 3) := by decide +kernel
theorem dX11_findRings_20 : decode cX11_findRings 20 = .ok (.if_icmp .ge 74, 3) := by decide +kernel
theorem dX11_findRings_23 : decode cX11_findRings 23 = .ok (.aload_n 0, 1) := by decide +kernel
theorem dX11_findRings_24 : decode cX11_findRings 24 = .ok (.getfield 84, 3) := by decide +kernel
theorem dX11_findRings_27 : decode cX11_findRings 27 = .ok (.iload 4, 2) := by decide +kernel
theorem dX11_findRings_29 : decode cX11_findRings 29 = .ok (.iconst (-1), 1) := by decide +kernel
theorem dX11_findRings_30 : decode cX11_findRings 30 = .ok (.iastore, 1) := by decide +kernel
theorem dX11_findRings_31 : decode cX11_findRings 31 = .ok (.aload_n 0, 1) := by decide +kernel
theorem dX11_findRings_32 : decode cX11_findRings 32 = .ok (.getfield 69, 3) := by decide +kernel
theorem dX11_findRings_35 : decode cX11_findRings 35 = .ok (.iload 4, 2) := by decide +kernel
theorem dX11_findRings_37 : decode cX11_findRings 37 = .ok (.baload, 1) := by decide +kernel
theorem dX11_findRings_38 : decode cX11_findRings 38 = .ok (.ifCond .eq 50, 3) := by decide +kernel
theorem dX11_findRings_41 : decode cX11_findRings 41 = .ok (.aload_n 0, 1) := by decide +kernel
theorem dX11_findRings_42 : decode cX11_findRings 42 = .ok (.iload 4, 2) := by decide +kernel
theorem dX11_findRings_44 : decode cX11_findRings 44 = .ok (.invokevirtual 178, 3) := by decide +kernel
theorem dX11_findRings_47 : decode cX11_findRings 47 = .ok (.ifCond .eq 41, 3) := by decide +kernel
theorem dX11_findRings_50 : decode cX11_findRings 50 = .ok (.aload_n 0, 1) := by decide +kernel
theorem dX11_findRings_51 : decode cX11_findRings 51 = .ok (.getfield 84, 3) := by decide +kernel
theorem dX11_findRings_54 : decode cX11_findRings 54 = .ok (.iload 4, 2) := by decide +kernel
theorem dX11_findRings_56 : decode cX11_findRings 56 = .ok (.iload_n 3, 1) := by decide +kernel
theorem dX11_findRings_57 : decode cX11_findRings 57 = .ok (.ifCond .eq 19, 3) := by decide +kernel
theorem dX11_findRings_60 : decode cX11_findRings 60 = .ok (.aload_n 0, 1) := by decide +kernel
theorem dX11_findRings_61 : decode cX11_findRings 61 = .ok (.getfield 301, 3) := by decide +kernel
theorem dX11_findRings_64 : decode cX11_findRings 64 = .ok (.bipush 10, 2) := by decide +kernel
theorem dX11_findRings_66 : decode cX11_findRings 66 = .ok (.if_icmp .ge 10, 3) := by decide +kernel
theorem dX11_findRings_69 : decode cX11_findRings 69 = .ok (.aload_n 0, 1) := by decide +kernel
theorem dX11_findRings_70 : decode cX11_findRings 70 = .ok (.getfield 301, 3) := by decide +kernel
theorem dX11_findRings_73 : decode cX11_findRings 73 = .ok (.goto 4, 3) := by decide +kernel
theorem dX11_findRings_76 : decode cX11_findRings 76 = .ok (.iconst (-1), 1) := by decide +kernel
theorem dX11_findRings_77 : decode cX11_findRings 77 = .ok (.iastore, 1) := by decide +kernel
theorem dX11_findRings_78 : decode cX11_findRings 78 = .ok (.aload_n 0, 1) := by decide +kernel
theorem dX11_findRings_79 : decode cX11_findRings 79 = .ok (.dup, 1) := by decide +kernel
theorem dX11_findRings_80 : decode cX11_findRings 80 = .ok (.getfield 301, 3) := by decide +kernel
theorem dX11_findRings_83 : decode cX11_findRings 83 = .ok (.iconst 1, 1) := by decide +kernel
theorem dX11_findRings_84 : decode cX11_findRings 84 = .ok (.iadd, 1) := by decide +kernel
theorem dX11_findRings_85 : decode cX11_findRings 85 = .ok (.putfield 301, 3) := by decide +kernel
theorem dX11_findRings_88 : decode cX11_findRings 88 = .ok (.iinc 4 1, 3) := by decide +kernel
theorem dX11_findRings_91 : decode cX11_findRings 91 = .ok (.goto (-77), 3) := by decide +kernel
theorem dX11_findRings_94 : decode cX11_findRings 94 = .ok (.iconst 0, 1) := by decide +kernel
theorem dX11_findRings_95 : decode cX11_findRings 95 = .ok (.istore 4, 2) := by decide +kernel
theorem dX11_findRings_97 : decode cX11_findRings 97 = .ok (.iload 4, 2) := by decide +kernel
theorem dX11_findRings_99 : decode cX11_findRings 99 = .ok (.sipush 1024, 3) := by decide +kernel
theorem dX11_findRings_102 : decode cX11_findRings 102 = .ok (.if_icmp .ge 17, 3) := by decide +kernel
theorem dX11_findRings_105 : decode cX11_findRings 105 = .ok (.aload_n 0, 1) := by decide +kernel
theorem dX11_findRings_106 : decode cX11_findRings 106 = .ok (.getfield 81, 3) := by decide +kernel
theorem dX11_findRings_109 : decode cX11_findRings 109 = .ok (.iload 4, 2) := by decide +kernel
theorem dX11_findRings_111 : decode cX11_findRings 111 = .ok (.iconst 0, 1) := by decide +kernel
theorem dX11_findRings_112 : decode cX11_findRings 112 = .ok (.bastore, 1) := by decide +kernel
theorem dX11_findRings_113 : decode cX11_findRings 113 = .ok (.iinc 4 1, 3) := by decide +kernel
theorem dX11_findRings_116 : decode cX11_findRings 116 = .ok (.goto (-19), 3) := by decide +kernel
theorem dX11_findRings_119 : decode cX11_findRings 119 = .ok (.aload_n 0, 1) := by decide +kernel
theorem dX11_findRings_120 : decode cX11_findRings 120 = .ok (.iconst 0, 1) := by decide +kernel
theorem dX11_findRings_121 : decode cX11_findRings 121 = .ok (.putfield 285, 3) := by decide +kernel
theorem dX11_findRings_124 : decode cX11_findRings 124 = .ok (.aload_n 0, 1) := by decide +kernel
theorem dX11_findRings_125 : decode cX11_findRings 125 = .ok (.iconst 0, 1) := by decide +kernel
theorem dX11_findRings_126 : decode cX11_findRings 126 = .ok (.putfield 103, 3) := by decide +kernel
theorem dX11_findRings_129 : decode cX11_findRings 129 = .ok (.aload_n 0, 1) := by decide +kernel
theorem dX11_findRings_130 : decode cX11_findRings 130 = .ok (.iconst 1, 1) := by decide +kernel
theorem dX11_findRings_131 : decode cX11_findRings 131 = .ok (.putfield 205, 3) := by decide +kernel
theorem dX11_findRings_134 : decode cX11_findRings 134 = .ok (.aload_n 0, 1) := by decide +kernel
theorem dX11_findRings_135 : decode cX11_findRings 135 = .ok (.getfield 205, 3) := by decide +kernel
theorem dX11_findRings_138 : decode cX11_findRings 138 = .ok (.bipush 10, 2) := by decide +kernel
theorem dX11_findRings_140 : decode cX11_findRings 140 = .ok (.if_icmp .gt 65, 3) := by decide +kernel
theorem dX11_findRings_143 : decode cX11_findRings 143 = .ok (.iconst 0, 1) := by decide +kernel
theorem dX11_findRings_144 : decode cX11_findRings 144 = .ok (.istore 4, 2) := by decide +kernel
theorem dX11_findRings_146 : decode cX11_findRings 146 = .ok (.iload 4, 2) := by decide +kernel
theorem dX11_findRings_148 : decode cX11_findRings 148 = .ok (.aload_n 0, 1) := by decide +kernel
theorem dX11_findRings_149 : decode cX11_findRings 149 = .ok (.getfield 159, 3) := by decide +kernel
theorem dX11_findRings_152 : decode cX11_findRings 152 = .ok (.if_icmp .ge 40, 3) := by decide +kernel
theorem dX11_findRings_155 : decode cX11_findRings 155 = .ok (.aload_n 0, 1) := by decide +kernel
theorem dX11_findRings_156 : decode cX11_findRings 156 = .ok (.getfield 103, 3) := by decide +kernel
theorem dX11_findRings_159 : decode cX11_findRings 159 = .ok (.ifCond .ne 33, 3) := by decide +kernel
theorem dX11_findRings_162 : decode cX11_findRings 162 = .ok (.aload_n 0, 1) := by decide +kernel
theorem dX11_findRings_163 : decode cX11_findRings 163 = .ok (.getfield 69, 3) := by decide +kernel
theorem dX11_findRings_166 : decode cX11_findRings 166 = .ok (.iload 4, 2) := by decide +kernel
theorem dX11_findRings_168 : decode cX11_findRings 168 = .ok (.baload, 1) := by decide +kernel
theorem dX11_findRings_169 : decode cX11_findRings 169 = .ok (.ifCond .eq 17, 3) := by decide +kernel
theorem dX11_findRings_172 : decode cX11_findRings 172 = .ok (.aload_n 0, 1) := by decide +kernel
theorem dX11_findRings_173 : decode cX11_findRings 173 = .ok (.iload 4, 2) := by decide +kernel
theorem dX11_findRings_175 : decode cX11_findRings 175 = .ok (.iconst 0, 1) := by decide +kernel
theorem dX11_findRings_176 : decode cX11_findRings 176 = .ok (.invokevirtual 304, 3) := by decide +kernel
theorem dX11_findRings_179 : decode cX11_findRings 179 = .ok (.aload_n 0, 1) := by decide +kernel
theorem dX11_findRings_180 : decode cX11_findRings 180 = .ok (.iload 4, 2) := by decide +kernel
theorem dX11_findRings_182 : decode cX11_findRings 182 = .ok (.iconst 1, 1) := by decide +kernel
theorem dX11_findRings_183 : decode cX11_findRings 183 = .ok (.invokevirtual 304, 3) := by decide +kernel
theorem dX11_findRings_186 : decode cX11_findRings 186 = .ok (.iinc 4 1, 3) := by decide +kernel
theorem dX11_findRings_189 : decode cX11_findRings 189 = .ok (.goto (-43), 3) := by decide +kernel
theorem dX11_findRings_192 : decode cX11_findRings 192 = .ok (.aload_n 0, 1) := by decide +kernel
theorem dX11_findRings_193 : decode cX11_findRings 193 = .ok (.dup, 1) := by decide +kernel
theorem dX11_findRings_194 : decode cX11_findRings 194 = .ok (.getfield 205, 3) := by decide +kernel
theorem dX11_findRings_197 : decode cX11_findRings 197 = .ok (.iconst 1, 1) := by decide +kernel
theorem dX11_findRings_198 : decode cX11_findRings 198 = .ok (.iadd, 1) := by decide +kernel
theorem dX11_findRings_199 : decode cX11_findRings 199 = .ok (.putfield 205, 3) := by decide +kernel
theorem dX11_findRings_202 : decode cX11_findRings 202 = .ok (.goto (-68), 3) := by decide +kernel
theorem dX11_findRings_205 : decode cX11_findRings 205 = .ok (.aload_n 0, 1) := by decide +kernel
theorem dX11_findRings_206 : decode cX11_findRings 206 = .ok (.getfield 103, 3) := by decide +kernel
theorem dX11_findRings_209 : decode cX11_findRings 209 = .ok (.ifCond .ne 20, 3) := by decide +kernel
theorem dX11_findRings_212 : decode cX11_findRings 212 = .ok (.iload_n 3, 1) := by decide +kernel
theorem dX11_findRings_213 : decode cX11_findRings 213 = .ok (.ifCond .eq 12, 3) := by decide +kernel
theorem dX11_findRings_216 : decode cX11_findRings 216 = .ok (.aload_n 0, 1) := by decide +kernel
theorem dX11_findRings_217 : decode cX11_findRings 217 = .ok (.getfield 301, 3) := by decide +kernel
theorem dX11_findRings_220 : decode cX11_findRings 220 = .ok (.bipush 10, 2) := by decide +kernel
theorem dX11_findRings_222 : decode cX11_findRings 222 = .ok (.if_icmp .gt 7, 3) := by decide +kernel
theorem dX11_findRings_225 : decode cX11_findRings 225 = .ok (.iconst 1, 1) := by decide +kernel
theorem dX11_findRings_226 : decode cX11_findRings 226 = .ok (.goto 4, 3) := by decide +kernel
theorem dX11_findRings_229 : decode cX11_findRings 229 = .ok (.iconst 0, 1) := by decide +kernel
theorem dX11_findRings_230 : decode cX11_findRings 230 = .ok (.ireturn, 1) := by decide +kernel
theorem dX11_begin_0 : decode cX11_begin 0 = .ok (.aload_n 0, 1) := by decide +kernel
theorem dX11_begin_1 : decode cX11_begin 1 = .ok (.getfield 75, 3) := by decide +kernel
theorem dX11_begin_4 : decode cX11_begin 4 = .ok (.iconst 0, 1) := by decide +kernel
theorem dX11_begin_5 : decode cX11_begin 5 = .ok (.iload_n 2, 1) := by decide +kernel
theorem dX11_begin_6 : decode cX11_begin 6 = .ok (.ifCond .eq 10, 3) := by decide +kernel
theorem dX11_begin_9 : decode cX11_begin 9 = .ok (.bipush 100, 2) := by decide +kernel
theorem dX11_begin_11 : decode cX11_begin 11 = .ok (.iload_n 1, 1) := by decide +kernel
theorem dX11_begin_12 : decode cX11_begin 12 = .ok (.iadd, 1) := by decide +kernel
theorem dX11_begin_13 : decode cX11_begin 13 = .ok (.goto 4, 3) := by decide +kernel
theorem dX11_begin_16 : decode cX11_begin 16 = .ok (.iload_n 1, 1) := by decide +kernel
theorem dX11_begin_17 : decode cX11_begin 17 = .ok (.iastore, 1) := by decide +kernel
theorem dX11_begin_18 : decode cX11_begin 18 = .ok (.aload_n 0, 1) := by decide +kernel
theorem dX11_begin_19 : decode cX11_begin 19 = .ok (.getfield 16, 3) := by decide +kernel
theorem dX11_begin_22 : decode cX11_begin 22 = .ok (.iload_n 1, 1) := by decide +kernel
theorem dX11_begin_23 : decode cX11_begin 23 = .ok (.iaload, 1) := by decide +kernel
theorem dX11_begin_24 : decode cX11_begin 24 = .ok (.aload_n 0, 1) := by decide +kernel
theorem dX11_begin_25 : decode cX11_begin 25 = .ok (.getfield 19, 3) := by decide +kernel
theorem dX11_begin_28 : decode cX11_begin 28 = .ok (.iload_n 1, 1) := by decide +kernel
theorem dX11_begin_29 : decode cX11_begin 29 = .ok (.iaload, 1) := by decide +kernel
theorem dX11_begin_30 : decode cX11_begin 30 = .ok (.if_icmp .ne 16, 3) := by decide +kernel
theorem dX11_begin_33 : decode cX11_begin 33 = .ok (.aload_n 0, 1) := by decide +kernel
theorem dX11_begin_34 : decode cX11_begin 34 = .ok (.getfield 205, 3) := by decide +kernel
theorem dX11_begin_37 : decode cX11_begin 37 = .ok (.iconst 1, 1) := by decide +kernel
theorem dX11_begin_38 : decode cX11_begin 38 = .ok (.if_icmp .ne 7, 3) := by decide +kernel
theorem dX11_begin_41 : decode cX11_begin 41 = .ok (.aload_n 0, 1) := by decide +kernel
theorem dX11_begin_42 : decode cX11_begin 42 = .ok (.invokevirtual 295, 3) := by decide +kernel
theorem dX11_begin_45 : decode cX11_begin 45 = .ok (.return_, 1) := by decide +kernel
theorem dX11_begin_46 : decode cX11_begin 46 = .ok (.aload_n 0, 1) := by decide +kernel
theorem dX11_begin_47 : decode cX11_begin 47 = .ok (.getfield 72, 3) := by decide +kernel
theorem dX11_begin_50 : decode cX11_begin 50 = .ok (.iconst 0, 1) := by decide +kernel
theorem dX11_begin_51 : decode cX11_begin 51 = .ok (.iload_n 2, 1) := by decide +kernel
theorem dX11_begin_52 : decode cX11_begin 52 = .ok (.ifCond .eq 12, 3) := by decide +kernel
theorem dX11_begin_55 : decode cX11_begin 55 = .ok (.aload_n 0, 1) := by decide +kernel
theorem dX11_begin_56 : decode cX11_begin 56 = .ok (.getfield 19, 3) := by decide +kernel
theorem dX11_begin_59 : decode cX11_begin 59 = .ok (.iload_n 1, 1) := by decide +kernel
theorem dX11_begin_60 : decode cX11_begin 60 = .ok (.iaload, 1) := by decide +kernel
theorem dX11_begin_61 : decode cX11_begin 61 = .ok (.goto 9, 3) := by decide +kernel
theorem dX11_begin_64 : decode cX11_begin 64 = .ok (.aload_n 0, 1) := by decide +kernel
theorem dX11_begin_65 : decode cX11_begin 65 = .ok (.getfield 16, 3) := by decide +kernel
theorem dX11_begin_68 : decode cX11_begin 68 = .ok (.iload_n 1, 1) := by decide +kernel
theorem dX11_begin_69 : decode cX11_begin 69 = .ok (.iaload, 1) := by decide +kernel
theorem dX11_begin_70 : decode cX11_begin 70 = .ok (.iastore, 1) := by decide +kernel
theorem dX11_begin_71 : decode cX11_begin 71 = .ok (.aload_n 0, 1) := by decide +kernel
theorem dX11_begin_72 : decode cX11_begin 72 = .ok (.getfield 72, 3) := by decide +kernel
theorem dX11_begin_75 : decode cX11_begin 75 = .ok (.iconst 1, 1) := by decide +kernel
theorem dX11_begin_76 : decode cX11_begin 76 = .ok (.iload_n 2, 1) := by decide +kernel
theorem dX11_begin_77 : decode cX11_begin 77 = .ok (.ifCond .eq 12, 3) := by decide +kernel
theorem dX11_begin_80 : decode cX11_begin 80 = .ok (.aload_n 0, 1) := by decide +kernel
theorem dX11_begin_81 : decode cX11_begin 81 = .ok (.getfield 16, 3) := by decide +kernel
theorem dX11_begin_84 : decode cX11_begin 84 = .ok (.iload_n 1, 1) := by decide +kernel
theorem dX11_begin_85 : decode cX11_begin 85 = .ok (.iaload, 1) := by decide +kernel
theorem dX11_begin_86 : decode cX11_begin 86 = .ok (.goto 9, 3) := by decide +kernel
theorem dX11_begin_89 : decode cX11_begin 89 = .ok (.aload_n 0, 1) := by decide +kernel
theorem dX11_begin_90 : decode cX11_begin 90 = .ok (.getfield 19, 3) := by decide +kernel
theorem dX11_begin_93 : decode cX11_begin 93 = .ok (.iload_n 1, 1) := by decide +kernel
theorem dX11_begin_94 : decode cX11_begin 94 = .ok (.iaload, 1) := by decide +kernel
theorem dX11_begin_95 : decode cX11_begin 95 = .ok (.iastore, 1) := by decide +kernel
theorem dX11_begin_96 : decode cX11_begin 96 = .ok (.aload_n 0, 1) := by decide +kernel
theorem dX11_begin_97 : decode cX11_begin 97 = .ok (.getfield 205, 3) := by decide +kernel
theorem dX11_begin_100 : decode cX11_begin 100 = .ok (.iconst 1, 1) := by decide +kernel
theorem dX11_begin_101 : decode cX11_begin 101 = .ok (.if_icmp .le 9, 3) := by decide +kernel
theorem dX11_begin_104 : decode cX11_begin 104 = .ok (.aload_n 0, 1) := by decide +kernel
theorem dX11_begin_105 : decode cX11_begin 105 = .ok (.iconst 1, 1) := by decide +kernel
theorem dX11_begin_106 : decode cX11_begin 106 = .ok (.iload_n 1, 1) := by decide +kernel
theorem dX11_begin_107 : decode cX11_begin 107 = .ok (.invokevirtual 298, 3) := by decide +kernel
theorem dX11_begin_110 : decode cX11_begin 110 = .ok (.return_, 1) := by decide +kernel
theorem dX11_quarrel_0 : decode cX11_quarrel 0 = .ok (.iload_n 1, 1) := by decide +kernel
theorem dX11_quarrel_1 : decode cX11_quarrel 1 = .ok (.invokestatic 260, 3) := by decide +kernel
theorem dX11_quarrel_4 : decode cX11_quarrel 4 = .ok (.ifCond .eq 7, 3) := by decide +kernel
theorem dX11_quarrel_7 : decode cX11_quarrel 7 = .ok (.iload_n 2, 1) := by decide +kernel
theorem dX11_quarrel_8 : decode cX11_quarrel 8 = .ok (.ifCond .ge 7, 3) := by decide +kernel
theorem dX11_quarrel_11 : decode cX11_quarrel 11 = .ok (.ldc2_w 149, 3) := by decide +kernel
theorem dX11_quarrel_14 : decode cX11_quarrel 14 = .ok (.lreturn, 1) := by decide +kernel
theorem dX11_quarrel_15 : decode cX11_quarrel 15 = .ok (.aload_n 0, 1) := by decide +kernel
theorem dX11_quarrel_16 : decode cX11_quarrel 16 = .ok (.iload_n 1, 1) := by decide +kernel
theorem dX11_quarrel_17 : decode cX11_quarrel 17 = .ok (.sipush 10000, 3) := by decide +kernel
theorem dX11_quarrel_20 : decode cX11_quarrel 20 = .ok (.idiv, 1) := by decide +kernel
theorem dX11_quarrel_21 : decode cX11_quarrel 21 = .ok (.iload_n 1, 1) := by decide +kernel
theorem dX11_quarrel_22 : decode cX11_quarrel 22 = .ok (.sipush 10000, 3) := by decide +kernel
theorem dX11_quarrel_25 : decode cX11_quarrel 25 = .ok (.irem, 1) := by decide +kernel
theorem dX11_quarrel_26 : decode cX11_quarrel 26 = .ok (.iconst 0, 1) := by decide +kernel
theorem dX11_quarrel_27 : decode cX11_quarrel 27 = .ok (.invokevirtual 308, 3) := by decide +kernel
theorem dX11_quarrel_30 : decode cX11_quarrel 30 = .ok (.ifCond .ne 7, 3) := by decide +kernel
theorem dX11_quarrel_33 : decode cX11_quarrel 33 = .ok (.ldc2_w 272, 3) := by decide +kernel
theorem dX11_quarrel_36 : decode cX11_quarrel 36 = .ok (.lreturn, 1) := by decide +kernel
theorem dX11_quarrel_37 : decode cX11_quarrel 37 = .ok (.aload_n 0, 1) := by decide +kernel
theorem dX11_quarrel_38 : decode cX11_quarrel 38 = .ok (.getfield 285, 3) := by decide +kernel
theorem dX11_quarrel_41 : decode cX11_quarrel 41 = .ok (.ifCond .eq 21, 3) := by decide +kernel
theorem dX11_quarrel_44 : decode cX11_quarrel 44 = .ok (.iload_n 2, 1) := by decide +kernel
theorem dX11_quarrel_45 : decode cX11_quarrel 45 = .ok (.aload_n 0, 1) := by decide +kernel
theorem dX11_quarrel_46 : decode cX11_quarrel 46 = .ok (.getfield 240, 3) := by decide +kernel
theorem dX11_quarrel_49 : decode cX11_quarrel 49 = .ok (.if_icmp .ge 13, 3) := by decide +kernel
theorem dX11_quarrel_52 : decode cX11_quarrel 52 = .ok (.aload_n 0, 1) := by decide +kernel
theorem dX11_quarrel_53 : decode cX11_quarrel 53 = .ok (.getfield 78, 3) := by decide +kernel
theorem dX11_quarrel_56 : decode cX11_quarrel 56 = .ok (.iload_n 2, 1) := by decide +kernel
theorem dX11_quarrel_57 : decode cX11_quarrel 57 = .ok (.iaload, 1) := by decide +kernel
theorem dX11_quarrel_58 : decode cX11_quarrel 58 = .ok (.i2l, 1) := by decide +kernel
theorem dX11_quarrel_59 : decode cX11_quarrel 59 = .ok (.goto 6, 3) := by decide +kernel
theorem dX11_quarrel_62 : decode cX11_quarrel 62 = .ok (.ldc2_w 270, 3) := by decide +kernel
theorem dX11_quarrel_65 : decode cX11_quarrel 65 = .ok (.lreturn, 1) := by decide +kernel
theorem dX11_cureOf_0 : decode cX11_cureOf 0 = .ok (.aload_n 0, 1) := by decide +kernel
theorem dX11_cureOf_1 : decode cX11_cureOf 1 = .ok (.iload_n 1, 1) := by decide +kernel
theorem dX11_cureOf_2 : decode cX11_cureOf 2 = .ok (.iload_n 2, 1) := by decide +kernel
theorem dX11_cureOf_3 : decode cX11_cureOf 3 = .ok (.iconst 1, 1) := by decide +kernel
theorem dX11_cureOf_4 : decode cX11_cureOf 4 = .ok (.invokevirtual 308, 3) := by decide +kernel
theorem dX11_cureOf_7 : decode cX11_cureOf 7 = .ok (.ifCond .ne 7, 3) := by decide +kernel
theorem dX11_cureOf_10 : decode cX11_cureOf 10 = .ok (.ldc2_w 272, 3) := by decide +kernel
theorem dX11_cureOf_13 : decode cX11_cureOf 13 = .ok (.lreturn, 1) := by decide +kernel
theorem dX11_cureOf_14 : decode cX11_cureOf 14 = .ok (.ldc2_w 270, 3) := by decide +kernel
theorem dX11_cureOf_17 : decode cX11_cureOf 17 = .ok (.lstore_n 3, 1) := by decide +kernel
theorem dX11_cureOf_18 : decode cX11_cureOf 18 = .ok (.iconst 0, 1) := by decide +kernel
theorem dX11_cureOf_19 : decode cX11_cureOf 19 = .ok (.istore 5, 2) := by decide +kernel
theorem dX11_cureOf_21 : decode cX11_cureOf 21 = .ok (.iconst 0, 1) := by decide +kernel
theorem dX11_cureOf_22 : decode cX11_cureOf 22 = .ok (.istore 6, 2) := by decide +kernel
theorem dX11_cureOf_24 : decode cX11_cureOf 24 = .ok (.iconst 0, 1) := by decide +kernel
theorem dX11_cureOf_25 : decode cX11_cureOf 25 = .ok (.istore 7, 2) := by decide +kernel
theorem dX11_cureOf_27 : decode cX11_cureOf 27 = .ok (.iload 7, 2) := by decide +kernel
theorem dX11_cureOf_29 : decode cX11_cureOf 29 = .ok (.iconst 1, 1) := by decide +kernel
theorem dX11_cureOf_30 : decode cX11_cureOf 30 = .ok (.aload_n 0, 1) := by decide +kernel
theorem dX11_cureOf_31 : decode cX11_cureOf 31 = .ok (.getfield 301, 3) := by decide +kernel
theorem dX11_cureOf_34 : decode cX11_cureOf 34 = .ok (.ishl, 1) := by decide +kernel
theorem dX11_cureOf_35 : decode cX11_cureOf 35 = .ok (.if_icmp .ge 195, 3) := by decide +kernel
theorem dX11_cureOf_38 : decode cX11_cureOf 38 = .ok (.iconst 1, 1) := by decide +kernel
theorem dX11_cureOf_39 : decode cX11_cureOf 39 = .ok (.istore 8, 2) := by decide +kernel
theorem dX11_cureOf_41 : decode cX11_cureOf 41 = .ok (.iconst 0, 1) := by decide +kernel
theorem dX11_cureOf_42 : decode cX11_cureOf 42 = .ok (.istore 9, 2) := by decide +kernel
theorem dX11_cureOf_44 : decode cX11_cureOf 44 = .ok (.iload 9, 2) := by decide +kernel
theorem dX11_cureOf_46 : decode cX11_cureOf 46 = .ok (.sipush 1024, 3) := by decide +kernel
theorem dX11_cureOf_49 : decode cX11_cureOf 49 = .ok (.if_icmp .ge 39, 3) := by decide +kernel
theorem dX11_cureOf_52 : decode cX11_cureOf 52 = .ok (.iload 8, 2) := by decide +kernel
theorem dX11_cureOf_54 : decode cX11_cureOf 54 = .ok (.ifCond .eq 34, 3) := by decide +kernel
theorem dX11_cureOf_57 : decode cX11_cureOf 57 = .ok (.aload_n 0, 1) := by decide +kernel
theorem dX11_cureOf_58 : decode cX11_cureOf 58 = .ok (.getfield 81, 3) := by decide +kernel
theorem dX11_cureOf_61 : decode cX11_cureOf 61 = .ok (.iload 9, 2) := by decide +kernel
theorem dX11_cureOf_63 : decode cX11_cureOf 63 = .ok (.baload, 1) := by decide +kernel
theorem dX11_cureOf_64 : decode cX11_cureOf 64 = .ok (.ifCond .eq 11, 3) := by decide +kernel
theorem dX11_cureOf_67 : decode cX11_cureOf 67 = .ok (.iload 9, 2) := by decide +kernel
theorem dX11_cureOf_69 : decode cX11_cureOf 69 = .ok (.iload 7, 2) := by decide +kernel
theorem dX11_cureOf_71 : decode cX11_cureOf 71 = .ok (.iand, 1) := by decide +kernel
theorem dX11_cureOf_72 : decode cX11_cureOf 72 = .ok (.ifCond .eq 7, 3) := by decide +kernel
theorem dX11_cureOf_75 : decode cX11_cureOf 75 = .ok (.iconst 1, 1) := by decide +kernel
theorem dX11_cureOf_76 : decode cX11_cureOf 76 = .ok (.goto 4, 3) := by decide +kernel
theorem dX11_cureOf_79 : decode cX11_cureOf 79 = .ok (.iconst 0, 1) := by decide +kernel
theorem dX11_cureOf_80 : decode cX11_cureOf 80 = .ok (.istore 8, 2) := by decide +kernel
theorem dX11_cureOf_82 : decode cX11_cureOf 82 = .ok (.iinc 9 1, 3) := by decide +kernel
theorem dX11_cureOf_85 : decode cX11_cureOf 85 = .ok (.goto (-41), 3) := by decide +kernel
theorem dX11_cureOf_88 : decode cX11_cureOf 88 = .ok (.iload 8, 2) := by decide +kernel
theorem dX11_cureOf_90 : decode cX11_cureOf 90 = .ok (.ifCond .eq 134, 3) := by decide +kernel
theorem dX11_cureOf_93 : decode cX11_cureOf 93 = .ok (.iconst 0, 1) := by decide +kernel
theorem dX11_cureOf_94 : decode cX11_cureOf 94 = .ok (.istore 9, 2) := by decide +kernel
theorem dX11_cureOf_96 : decode cX11_cureOf 96 = .ok (.iconst 0, 1) := by decide +kernel
theorem dX11_cureOf_97 : decode cX11_cureOf 97 = .ok (.istore 10, 2) := by decide +kernel
theorem dX11_cureOf_99 : decode cX11_cureOf 99 = .ok (.lconst 0, 1) := by decide +kernel
theorem dX11_cureOf_100 : decode cX11_cureOf 100 = .ok (.lstore 11, 2) := by decide +kernel
theorem dX11_cureOf_102 : decode cX11_cureOf 102 = .ok (.iconst 0, 1) := by decide +kernel
theorem dX11_cureOf_103 : decode cX11_cureOf 103 = .ok (.istore 13, 2) := by decide +kernel
theorem dX11_cureOf_105 : decode cX11_cureOf 105 = .ok (.iload 13, 2) := by decide +kernel
theorem dX11_cureOf_107 : decode cX11_cureOf 107 = .ok (.aload_n 0, 1) := by decide +kernel
theorem dX11_cureOf_108 : decode cX11_cureOf 108 = .ok (.getfield 159, 3) := by decide +kernel
theorem dX11_cureOf_111 : decode cX11_cureOf 111 = .ok (.if_icmp .ge 59, 3) := by decide +kernel
theorem dX11_cureOf_114 : decode cX11_cureOf 114 = .ok (.aload_n 0, 1) := by decide +kernel
theorem dX11_cureOf_115 : decode cX11_cureOf 115 = .ok (.getfield 84, 3) := by decide +kernel
theorem dX11_cureOf_118 : decode cX11_cureOf 118 = .ok (.iload 13, 2) := by decide +kernel
theorem dX11_cureOf_120 : decode cX11_cureOf 120 = .ok (.iaload, 1) := by decide +kernel
theorem dX11_cureOf_121 : decode cX11_cureOf 121 = .ok (.ifCond .lt 43, 3) := by decide +kernel
theorem dX11_cureOf_124 : decode cX11_cureOf 124 = .ok (.iload 7, 2) := by decide +kernel
theorem dX11_cureOf_126 : decode cX11_cureOf 126 = .ok (.aload_n 0, 1) := by decide +kernel
theorem dX11_cureOf_127 : decode cX11_cureOf 127 = .ok (.getfield 84, 3) := by decide +kernel
theorem dX11_cureOf_130 : decode cX11_cureOf 130 = .ok (.iload 13, 2) := by decide +kernel
theorem dX11_cureOf_132 : decode cX11_cureOf 132 = .ok (.iaload, 1) := by decide +kernel
theorem dX11_cureOf_133 : decode cX11_cureOf 133 = .ok (.ishr, 1) := by decide +kernel
theorem dX11_cureOf_134 : decode cX11_cureOf 134 = .ok (.iconst 1, 1) := by decide +kernel
theorem dX11_cureOf_135 : decode cX11_cureOf 135 = .ok (.iand, 1) := by decide +kernel
theorem dX11_cureOf_136 : decode cX11_cureOf 136 = .ok (.iconst 1, 1) := by decide +kernel
theorem dX11_cureOf_137 : decode cX11_cureOf 137 = .ok (.if_icmp .ne 27, 3) := by decide +kernel
theorem dX11_cureOf_140 : decode cX11_cureOf 140 = .ok (.iload 9, 2) := by decide +kernel
theorem dX11_cureOf_142 : decode cX11_cureOf 142 = .ok (.aload_n 0, 1) := by decide +kernel
theorem dX11_cureOf_143 : decode cX11_cureOf 143 = .ok (.getfield 37, 3) := by decide +kernel
theorem dX11_cureOf_146 : decode cX11_cureOf 146 = .ok (.iload 13, 2) := by decide +kernel
theorem dX11_cureOf_148 : decode cX11_cureOf 148 = .ok (.iaload, 1) := by decide +kernel
theorem dX11_cureOf_149 : decode cX11_cureOf 149 = .ok (.iadd, 1) := by decide +kernel
theorem dX11_cureOf_150 : decode cX11_cureOf 150 = .ok (.istore 9, 2) := by decide +kernel
theorem dX11_cureOf_152 : decode cX11_cureOf 152 = .ok (.iinc 10 1, 3) := by decide +kernel
theorem dX11_cureOf_155 : decode cX11_cureOf 155 = .ok (.lload 11, 2) := by decide +kernel
theorem dX11_cureOf_157 : decode cX11_cureOf 157 = .ok (.lconst 1, 1) := by decide +kernel
theorem dX11_cureOf_158 : decode cX11_cureOf 158 = .ok (.iload 13, 2) := by decide +kernel
theorem dX11_cureOf_160 : decode cX11_cureOf 160 = .ok (.lshl, 1) := by decide +kernel
theorem dX11_cureOf_161 : decode cX11_cureOf 161 = .ok (.lor, 1) := by decide +kernel
theorem dX11_cureOf_162 : decode cX11_cureOf 162 = .ok (.lstore 11, 2) := by decide +kernel
theorem dX11_cureOf_164 : decode cX11_cureOf 164 = .ok (.iinc 13 1, 3) := by decide +kernel
theorem dX11_cureOf_167 : decode cX11_cureOf 167 = .ok (.goto (-62), 3) := by decide +kernel
theorem dX11_cureOf_170 : decode cX11_cureOf 170 = .ok (.lload_n 3, 1) := by decide +kernel
theorem dX11_cureOf_171 : decode cX11_cureOf 171 = .ok (.ldc2_w 270, 3) := by decide +kernel
theorem dX11_cureOf_174 : decode cX11_cureOf 174 = .ok (.lcmp, 1) := by decide +kernel
theorem dX11_cureOf_175 : decode cX11_cureOf 175 = .ok (.ifCond .eq 38, 3) := by decide +kernel
theorem dX11_cureOf_178 : decode cX11_cureOf 178 = .ok (.iload 9, 2) := by decide +kernel
theorem dX11_cureOf_180 : decode cX11_cureOf 180 = .ok (.iload 5, 2) := by decide +kernel
theorem dX11_cureOf_182 : decode cX11_cureOf 182 = .ok (.if_icmp .lt 31, 3) := by decide +kernel
theorem dX11_cureOf_185 : decode cX11_cureOf 185 = .ok (.iload 9, 2) := by decide +kernel
theorem dX11_cureOf_187 : decode cX11_cureOf 187 = .ok (.iload 5, 2) := by decide +kernel
theorem dX11_cureOf_189 : decode cX11_cureOf 189 = .ok (.if_icmp .ne 35, 3) := by decide +kernel
theorem dX11_cureOf_192 : decode cX11_cureOf 192 = .ok (.iload 10, 2) := by decide +kernel
theorem dX11_cureOf_194 : decode cX11_cureOf 194 = .ok (.iload 6, 2) := by decide +kernel
theorem dX11_cureOf_196 : decode cX11_cureOf 196 = .ok (.if_icmp .lt 17, 3) := by decide +kernel
theorem dX11_cureOf_199 : decode cX11_cureOf 199 = .ok (.iload 10, 2) := by decide +kernel
theorem dX11_cureOf_201 : decode cX11_cureOf 201 = .ok (.iload 6, 2) := by decide +kernel
theorem dX11_cureOf_203 : decode cX11_cureOf 203 = .ok (.if_icmp .ne 21, 3) := by decide +kernel
theorem dX11_cureOf_206 : decode cX11_cureOf 206 = .ok (.lload 11, 2) := by decide +kernel
theorem dX11_cureOf_208 : decode cX11_cureOf 208 = .ok (.lload_n 3, 1) := by decide +kernel
theorem dX11_cureOf_209 : decode cX11_cureOf 209 = .ok (.lcmp, 1) := by decide +kernel
theorem dX11_cureOf_210 : decode cX11_cureOf 210 = .ok (.ifCond .ge 14, 3) := by decide +kernel
theorem dX11_cureOf_213 : decode cX11_cureOf 213 = .ok (.lload 11, 2) := by decide +kernel
theorem dX11_cureOf_215 : decode cX11_cureOf 215 = .ok (.lstore_n 3, 1) := by decide +kernel
theorem dX11_cureOf_216 : decode cX11_cureOf 216 = .ok (.iload 9, 2) := by decide +kernel
theorem dX11_cureOf_218 : decode cX11_cureOf 218 = .ok (.istore 5, 2) := by decide +kernel
theorem dX11_cureOf_220 : decode cX11_cureOf 220 = .ok (.iload 10, 2) := by decide +kernel
theorem dX11_cureOf_222 : decode cX11_cureOf 222 = .ok (.istore 6, 2) := by decide +kernel
theorem dX11_cureOf_224 : decode cX11_cureOf 224 = .ok (.iinc 7 1, 3) := by decide +kernel
theorem dX11_cureOf_227 : decode cX11_cureOf 227 = .ok (.goto (-200), 3) := by decide +kernel
theorem dX11_cureOf_230 : decode cX11_cureOf 230 = .ok (.lload_n 3, 1) := by decide +kernel
theorem dX11_cureOf_231 : decode cX11_cureOf 231 = .ok (.lreturn, 1) := by decide +kernel
theorem dX11_cure_0 : decode cX11_cure 0 = .ok (.iload_n 1, 1) := by decide +kernel
theorem dX11_cure_1 : decode cX11_cure 1 = .ok (.invokestatic 260, 3) := by decide +kernel
theorem dX11_cure_4 : decode cX11_cure 4 = .ok (.ifCond .eq 20, 3) := by decide +kernel
theorem dX11_cure_7 : decode cX11_cure 7 = .ok (.aload_n 0, 1) := by decide +kernel
theorem dX11_cure_8 : decode cX11_cure 8 = .ok (.iload_n 1, 1) := by decide +kernel
theorem dX11_cure_9 : decode cX11_cure 9 = .ok (.sipush 10000, 3) := by decide +kernel
theorem dX11_cure_12 : decode cX11_cure 12 = .ok (.idiv, 1) := by decide +kernel
theorem dX11_cure_13 : decode cX11_cure 13 = .ok (.iload_n 1, 1) := by decide +kernel
theorem dX11_cure_14 : decode cX11_cure 14 = .ok (.sipush 10000, 3) := by decide +kernel
theorem dX11_cure_17 : decode cX11_cure 17 = .ok (.irem, 1) := by decide +kernel
theorem dX11_cure_18 : decode cX11_cure 18 = .ok (.invokevirtual 312, 3) := by decide +kernel
theorem dX11_cure_21 : decode cX11_cure 21 = .ok (.goto 6, 3) := by decide +kernel
theorem dX11_cure_24 : decode cX11_cure 24 = .ok (.ldc2_w 149, 3) := by decide +kernel
theorem dX11_cure_27 : decode cX11_cure 27 = .ok (.lreturn, 1) := by decide +kernel
theorem dX11_heal_0 : decode cX11_heal 0 = .ok (.iload_n 1, 1) := by decide +kernel
theorem dX11_heal_1 : decode cX11_heal 1 = .ok (.invokestatic 260, 3) := by decide +kernel
theorem dX11_heal_4 : decode cX11_heal 4 = .ok (.ifCond .ne 7, 3) := by decide +kernel
theorem dX11_heal_7 : decode cX11_heal 7 = .ok (.ldc2_w 149, 3) := by decide +kernel
theorem dX11_heal_10 : decode cX11_heal 10 = .ok (.lreturn, 1) := by decide +kernel
theorem dX11_heal_11 : decode cX11_heal 11 = .ok (.aload_n 0, 1) := by decide +kernel
theorem dX11_heal_12 : decode cX11_heal 12 = .ok (.iload_n 1, 1) := by decide +kernel
theorem dX11_heal_13 : decode cX11_heal 13 = .ok (.sipush 10000, 3) := by decide +kernel
theorem dX11_heal_16 : decode cX11_heal 16 = .ok (.idiv, 1) := by decide +kernel
theorem dX11_heal_17 : decode cX11_heal 17 = .ok (.iload_n 1, 1) := by decide +kernel
theorem dX11_heal_18 : decode cX11_heal 18 = .ok (.sipush 10000, 3) := by decide +kernel
theorem dX11_heal_21 : decode cX11_heal 21 = .ok (.irem, 1) := by decide +kernel
theorem dX11_heal_22 : decode cX11_heal 22 = .ok (.invokevirtual 312, 3) := by decide +kernel
theorem dX11_heal_25 : decode cX11_heal 25 = .ok (.lstore_n 2, 1) := by decide +kernel
theorem dX11_heal_26 : decode cX11_heal 26 = .ok (.lload_n 2, 1) := by decide +kernel
theorem dX11_heal_27 : decode cX11_heal 27 = .ok (.lconst 0, 1) := by decide +kernel
theorem dX11_heal_28 : decode cX11_heal 28 = .ok (.lcmp, 1) := by decide +kernel
theorem dX11_heal_29 : decode cX11_heal 29 = .ok (.ifCond .ge 5, 3) := by decide +kernel
theorem dX11_heal_32 : decode cX11_heal 32 = .ok (.lload_n 2, 1) := by decide +kernel
theorem dX11_heal_33 : decode cX11_heal 33 = .ok (.lreturn, 1) := by decide +kernel
theorem dX11_heal_34 : decode cX11_heal 34 = .ok (.lconst 0, 1) := by decide +kernel
theorem dX11_heal_35 : decode cX11_heal 35 = .ok (.lstore 4, 2) := by decide +kernel
theorem dX11_heal_37 : decode cX11_heal 37 = .ok (.iconst 0, 1) := by decide +kernel
theorem dX11_heal_38 : decode cX11_heal 38 = .ok (.istore 6, 2) := by decide +kernel
theorem dX11_heal_40 : decode cX11_heal 40 = .ok (.iload 6, 2) := by decide +kernel
theorem dX11_heal_42 : decode cX11_heal 42 = .ok (.aload_n 0, 1) := by decide +kernel
theorem dX11_heal_43 : decode cX11_heal 43 = .ok (.getfield 159, 3) := by decide +kernel
theorem dX11_heal_46 : decode cX11_heal 46 = .ok (.if_icmp .ge 34, 3) := by decide +kernel
theorem dX11_heal_49 : decode cX11_heal 49 = .ok (.lload_n 2, 1) := by decide +kernel
theorem dX11_heal_50 : decode cX11_heal 50 = .ok (.iload 6, 2) := by decide +kernel
theorem dX11_heal_52 : decode cX11_heal 52 = .ok (.lshr, 1) := by decide +kernel
theorem dX11_heal_53 : decode cX11_heal 53 = .ok (.lconst 1, 1) := by decide +kernel
theorem dX11_heal_54 : decode cX11_heal 54 = .ok (.land, 1) := by decide +kernel
theorem dX11_heal_55 : decode cX11_heal 55 = .ok (.lconst 1, 1) := by decide +kernel
theorem dX11_heal_56 : decode cX11_heal 56 = .ok (.lcmp, 1) := by decide +kernel
theorem dX11_heal_57 : decode cX11_heal 57 = .ok (.ifCond .ne 17, 3) := by decide +kernel
theorem dX11_heal_60 : decode cX11_heal 60 = .ok (.aload_n 0, 1) := by decide +kernel
theorem dX11_heal_61 : decode cX11_heal 61 = .ok (.getfield 43, 3) := by decide +kernel
theorem dX11_heal_64 : decode cX11_heal 64 = .ok (.iload 6, 2) := by decide +kernel
theorem dX11_heal_66 : decode cX11_heal 66 = .ok (.iconst 1, 1) := by decide +kernel
theorem dX11_heal_67 : decode cX11_heal 67 = .ok (.bastore, 1) := by decide +kernel
theorem dX11_heal_68 : decode cX11_heal 68 = .ok (.lload 4, 2) := by decide +kernel
theorem dX11_heal_70 : decode cX11_heal 70 = .ok (.lconst 1, 1) := by decide +kernel
theorem dX11_heal_71 : decode cX11_heal 71 = .ok (.ladd, 1) := by decide +kernel
theorem dX11_heal_72 : decode cX11_heal 72 = .ok (.lstore 4, 2) := by decide +kernel
theorem dX11_heal_74 : decode cX11_heal 74 = .ok (.iinc 6 1, 3) := by decide +kernel
theorem dX11_heal_77 : decode cX11_heal 77 = .ok (.goto (-37), 3) := by decide +kernel
theorem dX11_heal_80 : decode cX11_heal 80 = .ok (.lload 4, 2) := by decide +kernel
theorem dX11_heal_82 : decode cX11_heal 82 = .ok (.lreturn, 1) := by decide +kernel
theorem dX11_isCustom_0 : decode cX11_isCustom 0 = .ok (.iload_n 0, 1) := by decide +kernel
theorem dX11_isCustom_1 : decode cX11_isCustom 1 = .ok (.i2l, 1) := by decide +kernel
theorem dX11_isCustom_2 : decode cX11_isCustom 2 = .ok (.lconst 0, 1) := by decide +kernel
theorem dX11_isCustom_3 : decode cX11_isCustom 3 = .ok (.ldc2_w 315, 3) := by decide +kernel
theorem dX11_isCustom_6 : decode cX11_isCustom 6 = .ok (.invokestatic 145, 3) := by decide +kernel
theorem dX11_isCustom_9 : decode cX11_isCustom 9 = .ok (.ireturn, 1) := by decide +kernel
theorem dX11_custom_0 : decode cX11_custom 0 = .ok (.iload_n 1, 1) := by decide +kernel
theorem dX11_custom_1 : decode cX11_custom 1 = .ok (.invokestatic 317, 3) := by decide +kernel
theorem dX11_custom_4 : decode cX11_custom 4 = .ok (.ifCond .eq 8, 3) := by decide +kernel
theorem dX11_custom_7 : decode cX11_custom 7 = .ok (.iload_n 2, 1) := by decide +kernel
theorem dX11_custom_8 : decode cX11_custom 8 = .ok (.iconst 5, 1) := by decide +kernel
theorem dX11_custom_9 : decode cX11_custom 9 = .ok (.if_icmp .le 7, 3) := by decide +kernel
theorem dX11_custom_12 : decode cX11_custom 12 = .ok (.ldc2_w 149, 3) := by decide +kernel
theorem dX11_custom_15 : decode cX11_custom 15 = .ok (.lreturn, 1) := by decide +kernel
theorem dX11_custom_16 : decode cX11_custom 16 = .ok (.iload_n 2, 1) := by decide +kernel
theorem dX11_custom_17 : decode cX11_custom 17 = .ok (.ifCond .ge 7, 3) := by decide +kernel
theorem dX11_custom_20 : decode cX11_custom 20 = .ok (.ldc2_w 320, 3) := by decide +kernel
theorem dX11_custom_23 : decode cX11_custom 23 = .ok (.lreturn, 1) := by decide +kernel
theorem dX11_custom_24 : decode cX11_custom 24 = .ok (.aload_n 0, 1) := by decide +kernel
theorem dX11_custom_25 : decode cX11_custom 25 = .ok (.getfield 47, 3) := by decide +kernel
theorem dX11_custom_28 : decode cX11_custom 28 = .ok (.iload_n 1, 1) := by decide +kernel
theorem dX11_custom_29 : decode cX11_custom 29 = .ok (.iload_n 2, 1) := by decide +kernel
theorem dX11_custom_30 : decode cX11_custom 30 = .ok (.iastore, 1) := by decide +kernel
theorem dX11_custom_31 : decode cX11_custom 31 = .ok (.iconst 0, 1) := by decide +kernel
theorem dX11_custom_32 : decode cX11_custom 32 = .ok (.istore_n 3, 1) := by decide +kernel
theorem dX11_custom_33 : decode cX11_custom 33 = .ok (.iload_n 3, 1) := by decide +kernel
theorem dX11_custom_34 : decode cX11_custom 34 = .ok (.iconst 5, 1) := by decide +kernel
theorem dX11_custom_35 : decode cX11_custom 35 = .ok (.if_icmp .ge 20, 3) := by decide +kernel
theorem dX11_custom_38 : decode cX11_custom 38 = .ok (.aload_n 0, 1) := by decide +kernel
theorem dX11_custom_39 : decode cX11_custom 39 = .ok (.getfield 50, 3) := by decide +kernel
theorem dX11_custom_42 : decode cX11_custom 42 = .ok (.iconst 5, 1) := by decide +kernel
theorem dX11_custom_43 : decode cX11_custom 43 = .ok (.iload_n 1, 1) := by decide +kernel
theorem dX11_custom_44 : decode cX11_custom 44 = .ok (.imul, 1) := by decide +kernel
theorem dX11_custom_45 : decode cX11_custom 45 = .ok (.iload_n 3, 1) := by decide +kernel
theorem dX11_custom_46 : decode cX11_custom 46 = .ok (.iadd, 1) := by decide +kernel
theorem dX11_custom_47 : decode cX11_custom 47 = .ok (.iconst 2, 1) := by decide +kernel
theorem dX11_custom_48 : decode cX11_custom 48 = .ok (.iastore, 1) := by decide +kernel
theorem dX11_custom_49 : decode cX11_custom 49 = .ok (.iinc 3 1, 3) := by decide +kernel
theorem dX11_custom_52 : decode cX11_custom 52 = .ok (.goto (-19), 3) := by decide +kernel
theorem dX11_custom_55 : decode cX11_custom 55 = .ok (.iload_n 2, 1) := by decide +kernel
theorem dX11_custom_56 : decode cX11_custom 56 = .ok (.i2l, 1) := by decide +kernel
theorem dX11_custom_57 : decode cX11_custom 57 = .ok (.lreturn, 1) := by decide +kernel
theorem dX11_step_0 : decode cX11_step 0 = .ok (.iload_n 1, 1) := by decide +kernel
theorem dX11_step_1 : decode cX11_step 1 = .ok (.invokestatic 317, 3) := by decide +kernel
theorem dX11_step_4 : decode cX11_step 4 = .ok (.ifCond .ne 7, 3) := by decide +kernel
theorem dX11_step_7 : decode cX11_step 7 = .ok (.ldc2_w 149, 3) := by decide +kernel
theorem dX11_step_10 : decode cX11_step 10 = .ok (.lreturn, 1) := by decide +kernel
theorem dX11_step_11 : decode cX11_step 11 = .ok (.aload_n 0, 1) := by decide +kernel
theorem dX11_step_12 : decode cX11_step 12 = .ok (.getfield 47, 3) := by decide +kernel
theorem dX11_step_15 : decode cX11_step 15 = .ok (.iload_n 1, 1) := by decide +kernel
theorem dX11_step_16 : decode cX11_step 16 = .ok (.iaload, 1) := by decide +kernel
theorem dX11_step_17 : decode cX11_step 17 = .ok (.ifCond .ge 7, 3) := by decide +kernel
theorem dX11_step_20 : decode cX11_step 20 = .ok (.ldc2_w 322, 3) := by decide +kernel
theorem dX11_step_23 : decode cX11_step 23 = .ok (.lreturn, 1) := by decide +kernel
theorem dX11_step_24 : decode cX11_step 24 = .ok (.iload_n 2, 1) := by decide +kernel
theorem dX11_step_25 : decode cX11_step 25 = .ok (.i2l, 1) := by decide +kernel
theorem dX11_step_26 : decode cX11_step 26 = .ok (.lconst 0, 1) := by decide +kernel
theorem dX11_step_27 : decode cX11_step 27 = .ok (.aload_n 0, 1) := by decide +kernel
theorem dX11_step_28 : decode cX11_step 28 = .ok (.getfield 47, 3) := by decide +kernel
theorem dX11_step_31 : decode cX11_step 31 = .ok (.iload_n 1, 1) := by decide +kernel
theorem dX11_step_32 : decode cX11_step 32 = .ok (.iaload, 1) := by decide +kernel
theorem dX11_step_33 : decode cX11_step 33 = .ok (.iconst 1, 1) := by decide +kernel
theorem dX11_step_34 : decode cX11_step 34 = .ok (.isub, 1) := by decide +kernel
theorem dX11_step_35 : decode cX11_step 35 = .ok (.i2l, 1) := by decide +kernel
theorem dX11_step_36 : decode cX11_step 36 = .ok (.invokestatic 145, 3) := by decide +kernel
theorem dX11_step_39 : decode cX11_step 39 = .ok (.ifCond .ne 7, 3) := by decide +kernel
theorem dX11_step_42 : decode cX11_step 42 = .ok (.ldc2_w 324, 3) := by decide +kernel
theorem dX11_step_45 : decode cX11_step 45 = .ok (.lreturn, 1) := by decide +kernel
theorem dX11_step_46 : decode cX11_step 46 = .ok (.iload_n 3, 1) := by decide +kernel
theorem dX11_step_47 : decode cX11_step 47 = .ok (.i2l, 1) := by decide +kernel
theorem dX11_step_48 : decode cX11_step 48 = .ok (.ldc2_w 189, 3) := by decide +kernel
theorem dX11_step_51 : decode cX11_step 51 = .ok (.ldc2_w 124, 3) := by decide +kernel
theorem dX11_step_54 : decode cX11_step 54 = .ok (.invokestatic 145, 3) := by decide +kernel
theorem dX11_step_57 : decode cX11_step 57 = .ok (.ifCond .ne 7, 3) := by decide +kernel
theorem dX11_step_60 : decode cX11_step 60 = .ok (.ldc2_w 149, 3) := by decide +kernel
theorem dX11_step_63 : decode cX11_step 63 = .ok (.lreturn, 1) := by decide +kernel
theorem dX11_step_64 : decode cX11_step 64 = .ok (.aload_n 0, 1) := by decide +kernel
theorem dX11_step_65 : decode cX11_step 65 = .ok (.getfield 50, 3) := by decide +kernel
theorem dX11_step_68 : decode cX11_step 68 = .ok (.iconst 5, 1) := by decide +kernel
theorem dX11_step_69 : decode cX11_step 69 = .ok (.iload_n 1, 1) := by decide +kernel
theorem dX11_step_70 : decode cX11_step 70 = .ok (.imul, 1) := by decide +kernel
theorem dX11_step_71 : decode cX11_step 71 = .ok (.iload_n 2, 1) := by decide +kernel
theorem dX11_step_72 : decode cX11_step 72 = .ok (.iadd, 1) := by decide +kernel
theorem dX11_step_73 : decode cX11_step 73 = .ok (.iaload, 1) := by decide +kernel
theorem dX11_step_74 : decode cX11_step 74 = .ok (.i2l, 1) := by decide +kernel
theorem dX11_step_75 : decode cX11_step 75 = .ok (.lstore 4, 2) := by decide +kernel
theorem dX11_step_77 : decode cX11_step 77 = .ok (.aload_n 0, 1) := by decide +kernel
theorem dX11_step_78 : decode cX11_step 78 = .ok (.getfield 50, 3) := by decide +kernel
theorem dX11_step_81 : decode cX11_step 81 = .ok (.iconst 5, 1) := by decide +kernel
theorem dX11_step_82 : decode cX11_step 82 = .ok (.iload_n 1, 1) := by decide +kernel
theorem dX11_step_83 : decode cX11_step 83 = .ok (.imul, 1) := by decide +kernel
theorem dX11_step_84 : decode cX11_step 84 = .ok (.iload_n 2, 1) := by decide +kernel
theorem dX11_step_85 : decode cX11_step 85 = .ok (.iadd, 1) := by decide +kernel
theorem dX11_step_86 : decode cX11_step 86 = .ok (.iload_n 3, 1) := by decide +kernel
theorem dX11_step_87 : decode cX11_step 87 = .ok (.iastore, 1) := by decide +kernel
theorem dX11_step_88 : decode cX11_step 88 = .ok (.lload 4, 2) := by decide +kernel
theorem dX11_step_90 : decode cX11_step 90 = .ok (.lreturn, 1) := by decide +kernel
theorem dX11_copy_0 : decode cX11_copy 0 = .ok (.iload_n 1, 1) := by decide +kernel
theorem dX11_copy_1 : decode cX11_copy 1 = .ok (.invokestatic 317, 3) := by decide +kernel
theorem dX11_copy_4 : decode cX11_copy 4 = .ok (.ifCond .eq 10, 3) := by decide +kernel
theorem dX11_copy_7 : decode cX11_copy 7 = .ok (.iload_n 2, 1) := by decide +kernel
theorem dX11_copy_8 : decode cX11_copy 8 = .ok (.invokestatic 317, 3) := by decide +kernel
theorem dX11_copy_11 : decode cX11_copy 11 = .ok (.ifCond .ne 7, 3) := by decide +kernel
theorem dX11_copy_14 : decode cX11_copy 14 = .ok (.ldc2_w 149, 3) := by decide +kernel
theorem dX11_copy_17 : decode cX11_copy 17 = .ok (.lreturn, 1) := by decide +kernel
theorem dX11_copy_18 : decode cX11_copy 18 = .ok (.aload_n 0, 1) := by decide +kernel
theorem dX11_copy_19 : decode cX11_copy 19 = .ok (.getfield 47, 3) := by decide +kernel
theorem dX11_copy_22 : decode cX11_copy 22 = .ok (.iload_n 1, 1) := by decide +kernel
theorem dX11_copy_23 : decode cX11_copy 23 = .ok (.iaload, 1) := by decide +kernel
theorem dX11_copy_24 : decode cX11_copy 24 = .ok (.ifCond .lt 12, 3) := by decide +kernel
theorem dX11_copy_27 : decode cX11_copy 27 = .ok (.aload_n 0, 1) := by decide +kernel
theorem dX11_copy_28 : decode cX11_copy 28 = .ok (.getfield 47, 3) := by decide +kernel
theorem dX11_copy_31 : decode cX11_copy 31 = .ok (.iload_n 2, 1) := by decide +kernel
theorem dX11_copy_32 : decode cX11_copy 32 = .ok (.iaload, 1) := by decide +kernel
theorem dX11_copy_33 : decode cX11_copy 33 = .ok (.ifCond .ge 7, 3) := by decide +kernel
theorem dX11_copy_36 : decode cX11_copy 36 = .ok (.ldc2_w 322, 3) := by decide +kernel
theorem dX11_copy_39 : decode cX11_copy 39 = .ok (.lreturn, 1) := by decide +kernel
theorem dX11_copy_40 : decode cX11_copy 40 = .ok (.iload_n 3, 1) := by decide +kernel
theorem dX11_copy_41 : decode cX11_copy 41 = .ok (.ifCond .lt 23, 3) := by decide +kernel
theorem dX11_copy_44 : decode cX11_copy 44 = .ok (.iload_n 3, 1) := by decide +kernel
theorem dX11_copy_45 : decode cX11_copy 45 = .ok (.aload_n 0, 1) := by decide +kernel
theorem dX11_copy_46 : decode cX11_copy 46 = .ok (.getfield 47, 3) := by decide +kernel
theorem dX11_copy_49 : decode cX11_copy 49 = .ok (.iload_n 1, 1) := by decide +kernel
theorem dX11_copy_50 : decode cX11_copy 50 = .ok (.iaload, 1) := by decide +kernel
theorem dX11_copy_51 : decode cX11_copy 51 = .ok (.if_icmp .gt 13, 3) := by decide +kernel
theorem dX11_copy_54 : decode cX11_copy 54 = .ok (.iload_n 3, 1) := by decide +kernel
theorem dX11_copy_55 : decode cX11_copy 55 = .ok (.aload_n 0, 1) := by decide +kernel
theorem dX11_copy_56 : decode cX11_copy 56 = .ok (.getfield 47, 3) := by decide +kernel
theorem dX11_copy_59 : decode cX11_copy 59 = .ok (.iload_n 2, 1) := by decide +kernel
theorem dX11_copy_60 : decode cX11_copy 60 = .ok (.iaload, 1) := by decide +kernel
theorem dX11_copy_61 : decode cX11_copy 61 = .ok (.if_icmp .le 7, 3) := by decide +kernel
theorem dX11_copy_64 : decode cX11_copy 64 = .ok (.ldc2_w 324, 3) := by decide +kernel
theorem dX11_copy_67 : decode cX11_copy 67 = .ok (.lreturn, 1) := by decide +kernel
theorem dX11_copy_68 : decode cX11_copy 68 = .ok (.iconst 0, 1) := by decide +kernel
theorem dX11_copy_69 : decode cX11_copy 69 = .ok (.istore 4, 2) := by decide +kernel
theorem dX11_copy_71 : decode cX11_copy 71 = .ok (.iload 4, 2) := by decide +kernel
theorem dX11_copy_73 : decode cX11_copy 73 = .ok (.iload_n 3, 1) := by decide +kernel
theorem dX11_copy_74 : decode cX11_copy 74 = .ok (.if_icmp .ge 31, 3) := by decide +kernel
theorem dX11_copy_77 : decode cX11_copy 77 = .ok (.aload_n 0, 1) := by decide +kernel
theorem dX11_copy_78 : decode cX11_copy 78 = .ok (.getfield 50, 3) := by decide +kernel
theorem dX11_copy_81 : decode cX11_copy 81 = .ok (.iconst 5, 1) := by decide +kernel
theorem dX11_copy_82 : decode cX11_copy 82 = .ok (.iload_n 2, 1) := by decide +kernel
theorem dX11_copy_83 : decode cX11_copy 83 = .ok (.imul, 1) := by decide +kernel
theorem dX11_copy_84 : decode cX11_copy 84 = .ok (.iload 4, 2) := by decide +kernel
theorem dX11_copy_86 : decode cX11_copy 86 = .ok (.iadd, 1) := by decide +kernel
theorem dX11_copy_87 : decode cX11_copy 87 = .ok (.aload_n 0, 1) := by decide +kernel
theorem dX11_copy_88 : decode cX11_copy 88 = .ok (.getfield 50, 3) := by decide +kernel
theorem dX11_copy_91 : decode cX11_copy 91 = .ok (.iconst 5, 1) := by decide +kernel
theorem dX11_copy_92 : decode cX11_copy 92 = .ok (.iload_n 1, 1) := by decide +kernel
theorem dX11_copy_93 : decode cX11_copy 93 = .ok (.imul, 1) := by decide +kernel
theorem dX11_copy_94 : decode cX11_copy 94 = .ok (.iload 4, 2) := by decide +kernel
theorem dX11_copy_96 : decode cX11_copy 96 = .ok (.iadd, 1) := by decide +kernel
theorem dX11_copy_97 : decode cX11_copy 97 = .ok (.iaload, 1) := by decide +kernel
theorem dX11_copy_98 : decode cX11_copy 98 = .ok (.iastore, 1) := by decide +kernel
theorem dX11_copy_99 : decode cX11_copy 99 = .ok (.iinc 4 1, 3) := by decide +kernel
theorem dX11_copy_102 : decode cX11_copy 102 = .ok (.goto (-31), 3) := by decide +kernel
theorem dX11_copy_105 : decode cX11_copy 105 = .ok (.iload_n 3, 1) := by decide +kernel
theorem dX11_copy_106 : decode cX11_copy 106 = .ok (.i2l, 1) := by decide +kernel
theorem dX11_copy_107 : decode cX11_copy 107 = .ok (.lreturn, 1) := by decide +kernel
theorem dX11_part_0 : decode cX11_part 0 = .ok (.iload_n 1, 1) := by decide +kernel
theorem dX11_part_1 : decode cX11_part 1 = .ok (.invokestatic 317, 3) := by decide +kernel
theorem dX11_part_4 : decode cX11_part 4 = .ok (.ifCond .eq 16, 3) := by decide +kernel
theorem dX11_part_7 : decode cX11_part 7 = .ok (.lload_n 2, 1) := by decide +kernel
theorem dX11_part_8 : decode cX11_part 8 = .ok (.ldc2_w 326, 3) := by decide +kernel
theorem dX11_part_11 : decode cX11_part 11 = .ok (.ldc2_w 116, 3) := by decide +kernel
theorem dX11_part_14 : decode cX11_part 14 = .ok (.invokestatic 145, 3) := by decide +kernel
theorem dX11_part_17 : decode cX11_part 17 = .ok (.ifCond .ne 7, 3) := by decide +kernel
theorem dX11_part_20 : decode cX11_part 20 = .ok (.ldc2_w 149, 3) := by decide +kernel
theorem dX11_part_23 : decode cX11_part 23 = .ok (.lreturn, 1) := by decide +kernel
theorem dX11_part_24 : decode cX11_part 24 = .ok (.aload_n 0, 1) := by decide +kernel
theorem dX11_part_25 : decode cX11_part 25 = .ok (.getfield 47, 3) := by decide +kernel
theorem dX11_part_28 : decode cX11_part 28 = .ok (.iload_n 1, 1) := by decide +kernel
theorem dX11_part_29 : decode cX11_part 29 = .ok (.iaload, 1) := by decide +kernel
theorem dX11_part_30 : decode cX11_part 30 = .ok (.ifCond .ge 7, 3) := by decide +kernel
theorem dX11_part_33 : decode cX11_part 33 = .ok (.ldc2_w 322, 3) := by decide +kernel
theorem dX11_part_36 : decode cX11_part 36 = .ok (.lreturn, 1) := by decide +kernel
theorem dX11_part_37 : decode cX11_part 37 = .ok (.iload 4, 2) := by decide +kernel
theorem dX11_part_39 : decode cX11_part 39 = .ok (.i2l, 1) := by decide +kernel
theorem dX11_part_40 : decode cX11_part 40 = .ok (.lconst 0, 1) := by decide +kernel
theorem dX11_part_41 : decode cX11_part 41 = .ok (.aload_n 0, 1) := by decide +kernel
theorem dX11_part_42 : decode cX11_part 42 = .ok (.getfield 47, 3) := by decide +kernel
theorem dX11_part_45 : decode cX11_part 45 = .ok (.iload_n 1, 1) := by decide +kernel
theorem dX11_part_46 : decode cX11_part 46 = .ok (.iaload, 1) := by decide +kernel
theorem dX11_part_47 : decode cX11_part 47 = .ok (.i2l, 1) := by decide +kernel
theorem dX11_part_48 : decode cX11_part 48 = .ok (.invokestatic 145, 3) := by decide +kernel
theorem dX11_part_51 : decode cX11_part 51 = .ok (.ifCond .ne 7, 3) := by decide +kernel
theorem dX11_part_54 : decode cX11_part 54 = .ok (.ldc2_w 324, 3) := by decide +kernel
theorem dX11_part_57 : decode cX11_part 57 = .ok (.lreturn, 1) := by decide +kernel
theorem dX11_part_58 : decode cX11_part 58 = .ok (.lload_n 2, 1) := by decide +kernel
theorem dX11_part_59 : decode cX11_part 59 = .ok (.lconst 0, 1) := by decide +kernel
theorem dX11_part_60 : decode cX11_part 60 = .ok (.lcmp, 1) := by decide +kernel
theorem dX11_part_61 : decode cX11_part 61 = .ok (.ifCond .ge 8, 3) := by decide +kernel
theorem dX11_part_64 : decode cX11_part 64 = .ok (.lload_n 2, 1) := by decide +kernel
theorem dX11_part_65 : decode cX11_part 65 = .ok (.lneg, 1) := by decide +kernel
theorem dX11_part_66 : decode cX11_part 66 = .ok (.goto 4, 3) := by decide +kernel
theorem dX11_part_69 : decode cX11_part 69 = .ok (.lload_n 2, 1) := by decide +kernel
theorem dX11_part_70 : decode cX11_part 70 = .ok (.lstore 5, 2) := by decide +kernel
theorem dX11_part_72 : decode cX11_part 72 = .ok (.aload_n 0, 1) := by decide +kernel
theorem dX11_part_73 : decode cX11_part 73 = .ok (.getfield 47, 3) := by decide +kernel
theorem dX11_part_76 : decode cX11_part 76 = .ok (.iload_n 1, 1) := by decide +kernel
theorem dX11_part_77 : decode cX11_part 77 = .ok (.iaload, 1) := by decide +kernel
theorem dX11_part_78 : decode cX11_part 78 = .ok (.istore 7, 2) := by decide +kernel
theorem dX11_part_80 : decode cX11_part 80 = .ok (.iload 7, 2) := by decide +kernel
theorem dX11_part_82 : decode cX11_part 82 = .ok (.iload 4, 2) := by decide +kernel
theorem dX11_part_84 : decode cX11_part 84 = .ok (.if_icmp .le 28, 3) := by decide +kernel
theorem dX11_part_87 : decode cX11_part 87 = .ok (.lload 5, 2) := by decide +kernel
theorem dX11_part_89 : decode cX11_part 89 = .ok (.aload_n 0, 1) := by decide +kernel
theorem dX11_part_90 : decode cX11_part 90 = .ok (.getfield 50, 3) := by decide +kernel
theorem dX11_part_93 : decode cX11_part 93 = .ok (.iconst 5, 1) := by decide +kernel
theorem dX11_part_94 : decode cX11_part 94 = .ok (.iload_n 1, 1) := by decide +kernel
theorem dX11_part_95 : decode cX11_part 95 = .ok (.imul, 1) := by decide +kernel
theorem dX11_part_96 : decode cX11_part 96 = .ok (.iload 7, 2) := by decide +kernel
theorem dX11_part_98 : decode cX11_part 98 = .ok (.iadd, 1) := by decide +kernel
theorem dX11_part_99 : decode cX11_part 99 = .ok (.iconst 1, 1) := by decide +kernel
theorem dX11_part_100 : decode cX11_part 100 = .ok (.isub, 1) := by decide +kernel
theorem dX11_part_101 : decode cX11_part 101 = .ok (.iaload, 1) := by decide +kernel
theorem dX11_part_102 : decode cX11_part 102 = .ok (.i2l, 1) := by decide +kernel
theorem dX11_part_103 : decode cX11_part 103 = .ok (.ldiv, 1) := by decide +kernel
theorem dX11_part_104 : decode cX11_part 104 = .ok (.lstore 5, 2) := by decide +kernel
theorem dX11_part_106 : decode cX11_part 106 = .ok (.iinc 7 (-1), 3) := by decide +kernel
theorem dX11_part_109 : decode cX11_part 109 = .ok (.goto (-29), 3) := by decide +kernel
theorem dX11_part_112 : decode cX11_part 112 = .ok (.iload 4, 2) := by decide +kernel
theorem dX11_part_114 : decode cX11_part 114 = .ok (.ifCond .le 23, 3) := by decide +kernel
theorem dX11_part_117 : decode cX11_part 117 = .ok (.lload 5, 2) := by decide +kernel
theorem dX11_part_119 : decode cX11_part 119 = .ok (.aload_n 0, 1) := by decide +kernel
theorem dX11_part_120 : decode cX11_part 120 = .ok (.getfield 50, 3) := by decide +kernel
theorem dX11_part_123 : decode cX11_part 123 = .ok (.iconst 5, 1) := by decide +kernel
theorem dX11_part_124 : decode cX11_part 124 = .ok (.iload_n 1, 1) := by decide +kernel
theorem dX11_part_125 : decode cX11_part 125 = .ok (.imul, 1) := by decide +kernel
theorem dX11_part_126 : decode cX11_part 126 = .ok (.iload 4, 2) := by decide +kernel
theorem dX11_part_128 : decode cX11_part 128 = .ok (.iadd, 1) := by decide +kernel
theorem dX11_part_129 : decode cX11_part 129 = .ok (.iconst 1, 1) := by decide +kernel
theorem dX11_part_130 : decode cX11_part 130 = .ok (.isub, 1) := by decide +kernel
theorem dX11_part_131 : decode cX11_part 131 = .ok (.iaload, 1) := by decide +kernel
theorem dX11_part_132 : decode cX11_part 132 = .ok (.i2l, 1) := by decide +kernel
theorem dX11_part_133 : decode cX11_part 133 = .ok (.lrem, 1) := by decide +kernel
theorem dX11_part_134 : decode cX11_part 134 = .ok (.goto 5, 3) := by decide +kernel
theorem dX11_part_137 : decode cX11_part 137 = .ok (.lload 5, 2) := by decide +kernel
theorem dX11_part_139 : decode cX11_part 139 = .ok (.lstore 7, 2) := by decide +kernel
theorem dX11_part_141 : decode cX11_part 141 = .ok (.lload_n 2, 1) := by decide +kernel
theorem dX11_part_142 : decode cX11_part 142 = .ok (.lconst 0, 1) := by decide +kernel
theorem dX11_part_143 : decode cX11_part 143 = .ok (.lcmp, 1) := by decide +kernel
theorem dX11_part_144 : decode cX11_part 144 = .ok (.ifCond .ge 9, 3) := by decide +kernel
theorem dX11_part_147 : decode cX11_part 147 = .ok (.lload 7, 2) := by decide +kernel
theorem dX11_part_149 : decode cX11_part 149 = .ok (.lneg, 1) := by decide +kernel
theorem dX11_part_150 : decode cX11_part 150 = .ok (.goto 5, 3) := by decide +kernel
theorem dX11_part_153 : decode cX11_part 153 = .ok (.lload 7, 2) := by decide +kernel
theorem dX11_part_155 : decode cX11_part 155 = .ok (.lreturn, 1) := by decide +kernel
theorem dX11_whole_0 : decode cX11_whole 0 = .ok (.iload_n 1, 1) := by decide +kernel
theorem dX11_whole_1 : decode cX11_whole 1 = .ok (.invokestatic 317, 3) := by decide +kernel
theorem dX11_whole_4 : decode cX11_whole 4 = .ok (.ifCond .eq 17, 3) := by decide +kernel
theorem dX11_whole_7 : decode cX11_whole 7 = .ok (.lload_n 2, 1) := by decide +kernel
theorem dX11_whole_8 : decode cX11_whole 8 = .ok (.lconst 0, 1) := by decide +kernel
theorem dX11_whole_9 : decode cX11_whole 9 = .ok (.lcmp, 1) := by decide +kernel
theorem dX11_whole_10 : decode cX11_whole 10 = .ok (.ifCond .lt 11, 3) := by decide +kernel
theorem dX11_whole_13 : decode cX11_whole 13 = .ok (.lload_n 2, 1) := by decide +kernel
theorem dX11_whole_14 : decode cX11_whole 14 = .ok (.ldc2_w 328, 3) := by decide +kernel
theorem dX11_whole_17 : decode cX11_whole 17 = .ok (.lcmp, 1) := by decide +kernel
theorem dX11_whole_18 : decode cX11_whole 18 = .ok (.ifCond .lt 7, 3) := by decide +kernel
theorem dX11_whole_21 : decode cX11_whole 21 = .ok (.ldc2_w 149, 3) := by decide +kernel
theorem dX11_whole_24 : decode cX11_whole 24 = .ok (.lreturn, 1) := by decide +kernel
theorem dX11_whole_25 : decode cX11_whole 25 = .ok (.aload_n 0, 1) := by decide +kernel
theorem dX11_whole_26 : decode cX11_whole 26 = .ok (.getfield 47, 3) := by decide +kernel
theorem dX11_whole_29 : decode cX11_whole 29 = .ok (.iload_n 1, 1) := by decide +kernel
theorem dX11_whole_30 : decode cX11_whole 30 = .ok (.iaload, 1) := by decide +kernel
theorem dX11_whole_31 : decode cX11_whole 31 = .ok (.ifCond .ge 7, 3) := by decide +kernel
theorem dX11_whole_34 : decode cX11_whole 34 = .ok (.ldc2_w 322, 3) := by decide +kernel
theorem dX11_whole_37 : decode cX11_whole 37 = .ok (.lreturn, 1) := by decide +kernel
theorem dX11_whole_38 : decode cX11_whole 38 = .ok (.lload_n 2, 1) := by decide +kernel
theorem dX11_whole_39 : decode cX11_whole 39 = .ok (.lstore 4, 2) := by decide +kernel
theorem dX11_whole_41 : decode cX11_whole 41 = .ok (.lconst 1, 1) := by decide +kernel
theorem dX11_whole_42 : decode cX11_whole 42 = .ok (.lstore 6, 2) := by decide +kernel
theorem dX11_whole_44 : decode cX11_whole 44 = .ok (.lconst 0, 1) := by decide +kernel
theorem dX11_whole_45 : decode cX11_whole 45 = .ok (.lstore 8, 2) := by decide +kernel
theorem dX11_whole_47 : decode cX11_whole 47 = .ok (.aload_n 0, 1) := by decide +kernel
theorem dX11_whole_48 : decode cX11_whole 48 = .ok (.getfield 47, 3) := by decide +kernel
theorem dX11_whole_51 : decode cX11_whole 51 = .ok (.iload_n 1, 1) := by decide +kernel
theorem dX11_whole_52 : decode cX11_whole 52 = .ok (.iaload, 1) := by decide +kernel
theorem dX11_whole_53 : decode cX11_whole 53 = .ok (.istore 10, 2) := by decide +kernel
theorem dX11_whole_55 : decode cX11_whole 55 = .ok (.iload 10, 2) := by decide +kernel
theorem dX11_whole_57 : decode cX11_whole 57 = .ok (.ifCond .lt 59, 3) := by decide +kernel
theorem dX11_whole_60 : decode cX11_whole 60 = .ok (.lload 8, 2) := by decide +kernel
theorem dX11_whole_62 : decode cX11_whole 62 = .ok (.lload 4, 2) := by decide +kernel
theorem dX11_whole_64 : decode cX11_whole 64 = .ok (.ldc2_w 124, 3) := by decide +kernel
theorem dX11_whole_67 : decode cX11_whole 67 = .ok (.lrem, 1) := by decide +kernel
theorem dX11_whole_68 : decode cX11_whole 68 = .ok (.lload 6, 2) := by decide +kernel
theorem dX11_whole_70 : decode cX11_whole 70 = .ok (.lmul, 1) := by decide +kernel
theorem dX11_whole_71 : decode cX11_whole 71 = .ok (.ladd, 1) := by decide +kernel
theorem dX11_whole_72 : decode cX11_whole 72 = .ok (.lstore 8, 2) := by decide +kernel
theorem dX11_whole_74 : decode cX11_whole 74 = .ok (.lload 4, 2) := by decide +kernel
theorem dX11_whole_76 : decode cX11_whole 76 = .ok (.ldc2_w 124, 3) := by decide +kernel
theorem dX11_whole_79 : decode cX11_whole 79 = .ok (.ldiv, 1) := by decide +kernel
theorem dX11_whole_80 : decode cX11_whole 80 = .ok (.lstore 4, 2) := by decide +kernel
theorem dX11_whole_82 : decode cX11_whole 82 = .ok (.lload 6, 2) := by decide +kernel
theorem dX11_whole_84 : decode cX11_whole 84 = .ok (.iload 10, 2) := by decide +kernel
theorem dX11_whole_86 : decode cX11_whole 86 = .ok (.ifCond .le 20, 3) := by decide +kernel
theorem dX11_whole_89 : decode cX11_whole 89 = .ok (.aload_n 0, 1) := by decide +kernel
theorem dX11_whole_90 : decode cX11_whole 90 = .ok (.getfield 50, 3) := by decide +kernel
theorem dX11_whole_93 : decode cX11_whole 93 = .ok (.iconst 5, 1) := by decide +kernel
theorem dX11_whole_94 : decode cX11_whole 94 = .ok (.iload_n 1, 1) := by decide +kernel
theorem dX11_whole_95 : decode cX11_whole 95 = .ok (.imul, 1) := by decide +kernel
theorem dX11_whole_96 : decode cX11_whole 96 = .ok (.iload 10, 2) := by decide +kernel
theorem dX11_whole_98 : decode cX11_whole 98 = .ok (.iadd, 1) := by decide +kernel
theorem dX11_whole_99 : decode cX11_whole 99 = .ok (.iconst 1, 1) := by decide +kernel
theorem dX11_whole_100 : decode cX11_whole 100 = .ok (.isub, 1) := by decide +kernel
theorem dX11_whole_101 : decode cX11_whole 101 = .ok (.iaload, 1) := by decide +kernel
theorem dX11_whole_102 : decode cX11_whole 102 = .ok (.i2l, 1) := by decide +kernel
theorem dX11_whole_103 : decode cX11_whole 103 = .ok (.goto 4, 3) := by decide +kernel
theorem dX11_whole_106 : decode cX11_whole 106 = .ok (.lconst 1, 1) := by decide +kernel
theorem dX11_whole_107 : decode cX11_whole 107 = .ok (.lmul, 1) := by decide +kernel
theorem dX11_whole_108 : decode cX11_whole 108 = .ok (.lstore 6, 2) := by decide +kernel
theorem dX11_whole_110 : decode cX11_whole 110 = .ok (.iinc 10 (-1), 3) := by decide +kernel
theorem dX11_whole_113 : decode cX11_whole 113 = .ok (.goto (-58), 3) := by decide +kernel
theorem dX11_whole_116 : decode cX11_whole 116 = .ok (.lload 8, 2) := by decide +kernel
theorem dX11_whole_118 : decode cX11_whole 118 = .ok (.lreturn, 1) := by decide +kernel
theorem dX11_line_0 : decode cX11_line 0 = .ok (.iload_n 1, 1) := by decide +kernel
theorem dX11_line_1 : decode cX11_line 1 = .ok (.i2l, 1) := by decide +kernel
theorem dX11_line_2 : decode cX11_line 2 = .ok (.ldc2_w 330, 3) := by decide +kernel
theorem dX11_line_5 : decode cX11_line 5 = .ok (.ldc2_w 332, 3) := by decide +kernel
theorem dX11_line_8 : decode cX11_line 8 = .ok (.invokestatic 145, 3) := by decide +kernel
theorem dX11_line_11 : decode cX11_line 11 = .ok (.ifCond .eq 30, 3) := by decide +kernel
theorem dX11_line_14 : decode cX11_line 14 = .ok (.iload_n 2, 1) := by decide +kernel
theorem dX11_line_15 : decode cX11_line 15 = .ok (.i2l, 1) := by decide +kernel
theorem dX11_line_16 : decode cX11_line 16 = .ok (.lconst 0, 1) := by decide +kernel
theorem dX11_line_17 : decode cX11_line 17 = .ok (.ldc2_w 334, 3) := by decide +kernel
theorem dX11_line_20 : decode cX11_line 20 = .ok (.invokestatic 145, 3) := by decide +kernel
theorem dX11_line_23 : decode cX11_line 23 = .ok (.ifCond .eq 18, 3) := by decide +kernel
theorem dX11_line_26 : decode cX11_line 26 = .ok (.iload_n 3, 1) := by decide +kernel
theorem dX11_line_27 : decode cX11_line 27 = .ok (.invokestatic 151, 3) := by decide +kernel
theorem dX11_line_30 : decode cX11_line 30 = .ok (.ifCond .eq 11, 3) := by decide +kernel
theorem dX11_line_33 : decode cX11_line 33 = .ok (.iload 4, 2) := by decide +kernel
theorem dX11_line_35 : decode cX11_line 35 = .ok (.invokestatic 195, 3) := by decide +kernel
theorem dX11_line_38 : decode cX11_line 38 = .ok (.ifCond .ne 7, 3) := by decide +kernel
theorem dX11_line_41 : decode cX11_line 41 = .ok (.ldc2_w 149, 3) := by decide +kernel
theorem dX11_line_44 : decode cX11_line 44 = .ok (.lreturn, 1) := by decide +kernel
theorem dX11_line_45 : decode cX11_line 45 = .ok (.aload_n 0, 1) := by decide +kernel
theorem dX11_line_46 : decode cX11_line 46 = .ok (.getfield 336, 3) := by decide +kernel
theorem dX11_line_49 : decode cX11_line 49 = .ok (.bipush 20, 2) := by decide +kernel
end
section
theorem dX11_line_51 : decode cX11_line 51 = .ok (.if_icmp .ne 7, 3) := by decide +kernel
theorem dX11_line_54 : decode cX11_line 54 = .ok (.ldc2_w 167, 3) := by decide +kernel
theorem dX11_line_57 : decode cX11_line 57 = .ok (.lreturn, 1) := by decide +kernel
theorem dX11_line_58 : decode cX11_line 58 = .ok (.aload_n 0, 1) := by decide +kernel
theorem dX11_line_59 : decode cX11_line 59 = .ok (.getfield 53, 3) := by decide +kernel
theorem dX11_line_62 : decode cX11_line 62 = .ok (.aload_n 0, 1) := by decide +kernel
theorem dX11_line_63 : decode cX11_line 63 = .ok (.getfield 336, 3) := by decide +kernel
theorem dX11_line_66 : decode cX11_line 66 = .ok (.iload_n 1, 1) := by decide +kernel
theorem dX11_line_67 : decode cX11_line 67 = .ok (.iastore, 1) := by decide +kernel
theorem dX11_line_68 : decode cX11_line 68 = .ok (.aload_n 0, 1) := by decide +kernel
theorem dX11_line_69 : decode cX11_line 69 = .ok (.getfield 56, 3) := by decide +kernel
theorem dX11_line_72 : decode cX11_line 72 = .ok (.aload_n 0, 1) := by decide +kernel
theorem dX11_line_73 : decode cX11_line 73 = .ok (.getfield 336, 3) := by decide +kernel
theorem dX11_line_76 : decode cX11_line 76 = .ok (.iload_n 2, 1) := by decide +kernel
theorem dX11_line_77 : decode cX11_line 77 = .ok (.iastore, 1) := by decide +kernel
theorem dX11_line_78 : decode cX11_line 78 = .ok (.aload_n 0, 1) := by decide +kernel
theorem dX11_line_79 : decode cX11_line 79 = .ok (.getfield 59, 3) := by decide +kernel
theorem dX11_line_82 : decode cX11_line 82 = .ok (.aload_n 0, 1) := by decide +kernel
theorem dX11_line_83 : decode cX11_line 83 = .ok (.getfield 336, 3) := by decide +kernel
theorem dX11_line_86 : decode cX11_line 86 = .ok (.iload_n 3, 1) := by decide +kernel
theorem dX11_line_87 : decode cX11_line 87 = .ok (.iastore, 1) := by decide +kernel
theorem dX11_line_88 : decode cX11_line 88 = .ok (.aload_n 0, 1) := by decide +kernel
theorem dX11_line_89 : decode cX11_line 89 = .ok (.getfield 62, 3) := by decide +kernel
theorem dX11_line_92 : decode cX11_line 92 = .ok (.aload_n 0, 1) := by decide +kernel
theorem dX11_line_93 : decode cX11_line 93 = .ok (.getfield 336, 3) := by decide +kernel
theorem dX11_line_96 : decode cX11_line 96 = .ok (.iload 4, 2) := by decide +kernel
theorem dX11_line_98 : decode cX11_line 98 = .ok (.iastore, 1) := by decide +kernel
theorem dX11_line_99 : decode cX11_line 99 = .ok (.aload_n 0, 1) := by decide +kernel
theorem dX11_line_100 : decode cX11_line 100 = .ok (.dup, 1) := by decide +kernel
theorem dX11_line_101 : decode cX11_line 101 = .ok (.getfield 336, 3) := by decide +kernel
theorem dX11_line_104 : decode cX11_line 104 = .ok (.iconst 1, 1) := by decide +kernel
theorem dX11_line_105 : decode cX11_line 105 = .ok (.iadd, 1) := by decide +kernel
theorem dX11_line_106 : decode cX11_line 106 = .ok (.putfield 336, 3) := by decide +kernel
theorem dX11_line_109 : decode cX11_line 109 = .ok (.aload_n 0, 1) := by decide +kernel
theorem dX11_line_110 : decode cX11_line 110 = .ok (.getfield 336, 3) := by decide +kernel
theorem dX11_line_113 : decode cX11_line 113 = .ok (.iconst 1, 1) := by decide +kernel
theorem dX11_line_114 : decode cX11_line 114 = .ok (.isub, 1) := by decide +kernel
theorem dX11_line_115 : decode cX11_line 115 = .ok (.i2l, 1) := by decide +kernel
theorem dX11_line_116 : decode cX11_line 116 = .ok (.lreturn, 1) := by decide +kernel
theorem dX11_amend_0 : decode cX11_amend 0 = .ok (.iload_n 1, 1) := by decide +kernel
theorem dX11_amend_1 : decode cX11_amend 1 = .ok (.i2l, 1) := by decide +kernel
theorem dX11_amend_2 : decode cX11_amend 2 = .ok (.lconst 0, 1) := by decide +kernel
theorem dX11_amend_3 : decode cX11_amend 3 = .ok (.aload_n 0, 1) := by decide +kernel
theorem dX11_amend_4 : decode cX11_amend 4 = .ok (.getfield 336, 3) := by decide +kernel
theorem dX11_amend_7 : decode cX11_amend 7 = .ok (.iconst 1, 1) := by decide +kernel
theorem dX11_amend_8 : decode cX11_amend 8 = .ok (.isub, 1) := by decide +kernel
theorem dX11_amend_9 : decode cX11_amend 9 = .ok (.i2l, 1) := by decide +kernel
theorem dX11_amend_10 : decode cX11_amend 10 = .ok (.invokestatic 145, 3) := by decide +kernel
theorem dX11_amend_13 : decode cX11_amend 13 = .ok (.ifCond .eq 17, 3) := by decide +kernel
theorem dX11_amend_16 : decode cX11_amend 16 = .ok (.iload_n 2, 1) := by decide +kernel
theorem dX11_amend_17 : decode cX11_amend 17 = .ok (.i2l, 1) := by decide +kernel
theorem dX11_amend_18 : decode cX11_amend 18 = .ok (.ldc2_w 330, 3) := by decide +kernel
theorem dX11_amend_21 : decode cX11_amend 21 = .ok (.ldc2_w 332, 3) := by decide +kernel
theorem dX11_amend_24 : decode cX11_amend 24 = .ok (.invokestatic 145, 3) := by decide +kernel
theorem dX11_amend_27 : decode cX11_amend 27 = .ok (.ifCond .ne 7, 3) := by decide +kernel
theorem dX11_amend_30 : decode cX11_amend 30 = .ok (.ldc2_w 149, 3) := by decide +kernel
theorem dX11_amend_33 : decode cX11_amend 33 = .ok (.lreturn, 1) := by decide +kernel
theorem dX11_amend_34 : decode cX11_amend 34 = .ok (.aload_n 0, 1) := by decide +kernel
theorem dX11_amend_35 : decode cX11_amend 35 = .ok (.getfield 53, 3) := by decide +kernel
theorem dX11_amend_38 : decode cX11_amend 38 = .ok (.iload_n 1, 1) := by decide +kernel
theorem dX11_amend_39 : decode cX11_amend 39 = .ok (.iaload, 1) := by decide +kernel
theorem dX11_amend_40 : decode cX11_amend 40 = .ok (.i2l, 1) := by decide +kernel
theorem dX11_amend_41 : decode cX11_amend 41 = .ok (.lstore_n 3, 1) := by decide +kernel
theorem dX11_amend_42 : decode cX11_amend 42 = .ok (.aload_n 0, 1) := by decide +kernel
theorem dX11_amend_43 : decode cX11_amend 43 = .ok (.getfield 53, 3) := by decide +kernel
theorem dX11_amend_46 : decode cX11_amend 46 = .ok (.iload_n 1, 1) := by decide +kernel
theorem dX11_amend_47 : decode cX11_amend 47 = .ok (.iload_n 2, 1) := by decide +kernel
theorem dX11_amend_48 : decode cX11_amend 48 = .ok (.iastore, 1) := by decide +kernel
theorem dX11_amend_49 : decode cX11_amend 49 = .ok (.lload_n 3, 1) := by decide +kernel
theorem dX11_amend_50 : decode cX11_amend 50 = .ok (.lreturn, 1) := by decide +kernel
theorem dX11_clear_0 : decode cX11_clear 0 = .ok (.aload_n 0, 1) := by decide +kernel
theorem dX11_clear_1 : decode cX11_clear 1 = .ok (.getfield 336, 3) := by decide +kernel
theorem dX11_clear_4 : decode cX11_clear 4 = .ok (.i2l, 1) := by decide +kernel
theorem dX11_clear_5 : decode cX11_clear 5 = .ok (.lstore_n 1, 1) := by decide +kernel
theorem dX11_clear_6 : decode cX11_clear 6 = .ok (.aload_n 0, 1) := by decide +kernel
theorem dX11_clear_7 : decode cX11_clear 7 = .ok (.iconst 0, 1) := by decide +kernel
theorem dX11_clear_8 : decode cX11_clear 8 = .ok (.putfield 336, 3) := by decide +kernel
theorem dX11_clear_11 : decode cX11_clear 11 = .ok (.lload_n 1, 1) := by decide +kernel
theorem dX11_clear_12 : decode cX11_clear 12 = .ok (.lreturn, 1) := by decide +kernel
theorem dX11_findEnds_0 : decode cX11_findEnds 0 = .ok (.iconst 0, 1) := by decide +kernel
theorem dX11_findEnds_1 : decode cX11_findEnds 1 = .ok (.istore_n 2, 1) := by decide +kernel
theorem dX11_findEnds_2 : decode cX11_findEnds 2 = .ok (.iconst 0, 1) := by decide +kernel
theorem dX11_findEnds_3 : decode cX11_findEnds 3 = .ok (.istore_n 3, 1) := by decide +kernel
theorem dX11_findEnds_4 : decode cX11_findEnds 4 = .ok (.iload_n 3, 1) := by decide +kernel
theorem dX11_findEnds_5 : decode cX11_findEnds 5 = .ok (.aload_n 0, 1) := by decide +kernel
theorem dX11_findEnds_6 : decode cX11_findEnds 6 = .ok (.getfield 336, 3) := by decide +kernel
theorem dX11_findEnds_9 : decode cX11_findEnds 9 = .ok (.if_icmp .ge 120, 3) := by decide +kernel
theorem dX11_findEnds_12 : decode cX11_findEnds 12 = .ok (.aload_n 0, 1) := by decide +kernel
theorem dX11_findEnds_13 : decode cX11_findEnds 13 = .ok (.aload_n 0, 1) := by decide +kernel
theorem dX11_findEnds_14 : decode cX11_findEnds 14 = .ok (.getfield 56, 3) := by decide +kernel
theorem dX11_findEnds_17 : decode cX11_findEnds 17 = .ok (.iload_n 3, 1) := by decide +kernel
theorem dX11_findEnds_18 : decode cX11_findEnds 18 = .ok (.iaload, 1) := by decide +kernel
theorem dX11_findEnds_19 : decode cX11_findEnds 19 = .ok (.iload_n 1, 1) := by decide +kernel
theorem dX11_findEnds_20 : decode cX11_findEnds 20 = .ok (.aload_n 0, 1) := by decide +kernel
theorem dX11_findEnds_21 : decode cX11_findEnds 21 = .ok (.getfield 59, 3) := by decide +kernel
theorem dX11_findEnds_24 : decode cX11_findEnds 24 = .ok (.iload_n 3, 1) := by decide +kernel
theorem dX11_findEnds_25 : decode cX11_findEnds 25 = .ok (.iaload, 1) := by decide +kernel
theorem dX11_findEnds_26 : decode cX11_findEnds 26 = .ok (.aload_n 0, 1) := by decide +kernel
theorem dX11_findEnds_27 : decode cX11_findEnds 27 = .ok (.getfield 62, 3) := by decide +kernel
theorem dX11_findEnds_30 : decode cX11_findEnds 30 = .ok (.iload_n 3, 1) := by decide +kernel
theorem dX11_findEnds_31 : decode cX11_findEnds 31 = .ok (.iaload, 1) := by decide +kernel
theorem dX11_findEnds_32 : decode cX11_findEnds 32 = .ok (.invokevirtual 277, 3) := by decide +kernel
theorem dX11_findEnds_35 : decode cX11_findEnds 35 = .ok (.lstore 4, 2) := by decide +kernel
theorem dX11_findEnds_37 : decode cX11_findEnds 37 = .ok (.lload 4, 2) := by decide +kernel
theorem dX11_findEnds_39 : decode cX11_findEnds 39 = .ok (.ldc2_w 270, 3) := by decide +kernel
theorem dX11_findEnds_42 : decode cX11_findEnds 42 = .ok (.lcmp, 1) := by decide +kernel
theorem dX11_findEnds_43 : decode cX11_findEnds 43 = .ok (.ifCond .ne 7, 3) := by decide +kernel
theorem dX11_findEnds_46 : decode cX11_findEnds 46 = .ok (.ldc2_w 270, 3) := by decide +kernel
theorem dX11_findEnds_49 : decode cX11_findEnds 49 = .ok (.lreturn, 1) := by decide +kernel
theorem dX11_findEnds_50 : decode cX11_findEnds 50 = .ok (.iload_n 2, 1) := by decide +kernel
theorem dX11_findEnds_51 : decode cX11_findEnds 51 = .ok (.ifCond .ne 12, 3) := by decide +kernel
theorem dX11_findEnds_54 : decode cX11_findEnds 54 = .ok (.lload 4, 2) := by decide +kernel
theorem dX11_findEnds_56 : decode cX11_findEnds 56 = .ok (.ldc2_w 272, 3) := by decide +kernel
theorem dX11_findEnds_59 : decode cX11_findEnds 59 = .ok (.lcmp, 1) := by decide +kernel
theorem dX11_findEnds_60 : decode cX11_findEnds 60 = .ok (.ifCond .ne 7, 3) := by decide +kernel
theorem dX11_findEnds_63 : decode cX11_findEnds 63 = .ok (.iconst 1, 1) := by decide +kernel
theorem dX11_findEnds_64 : decode cX11_findEnds 64 = .ok (.goto 4, 3) := by decide +kernel
theorem dX11_findEnds_67 : decode cX11_findEnds 67 = .ok (.iconst 0, 1) := by decide +kernel
theorem dX11_findEnds_68 : decode cX11_findEnds 68 = .ok (.istore_n 2, 1) := by decide +kernel
theorem dX11_findEnds_69 : decode cX11_findEnds 69 = .ok (.aload_n 0, 1) := by decide +kernel
theorem dX11_findEnds_70 : decode cX11_findEnds 70 = .ok (.getfield 87, 3) := by decide +kernel
theorem dX11_findEnds_73 : decode cX11_findEnds 73 = .ok (.iconst 4, 1) := by decide +kernel
theorem dX11_findEnds_74 : decode cX11_findEnds 74 = .ok (.iload_n 3, 1) := by decide +kernel
theorem dX11_findEnds_75 : decode cX11_findEnds 75 = .ok (.imul, 1) := by decide +kernel
theorem dX11_findEnds_76 : decode cX11_findEnds 76 = .ok (.aload_n 0, 1) := by decide +kernel
theorem dX11_findEnds_77 : decode cX11_findEnds 77 = .ok (.getfield 215, 3) := by decide +kernel
theorem dX11_findEnds_80 : decode cX11_findEnds 80 = .ok (.lastore, 1) := by decide +kernel
theorem dX11_findEnds_81 : decode cX11_findEnds 81 = .ok (.aload_n 0, 1) := by decide +kernel
theorem dX11_findEnds_82 : decode cX11_findEnds 82 = .ok (.getfield 87, 3) := by decide +kernel
theorem dX11_findEnds_85 : decode cX11_findEnds 85 = .ok (.iconst 4, 1) := by decide +kernel
theorem dX11_findEnds_86 : decode cX11_findEnds 86 = .ok (.iload_n 3, 1) := by decide +kernel
theorem dX11_findEnds_87 : decode cX11_findEnds 87 = .ok (.imul, 1) := by decide +kernel
theorem dX11_findEnds_88 : decode cX11_findEnds 88 = .ok (.iconst 1, 1) := by decide +kernel
theorem dX11_findEnds_89 : decode cX11_findEnds 89 = .ok (.iadd, 1) := by decide +kernel
theorem dX11_findEnds_90 : decode cX11_findEnds 90 = .ok (.aload_n 0, 1) := by decide +kernel
theorem dX11_findEnds_91 : decode cX11_findEnds 91 = .ok (.getfield 218, 3) := by decide +kernel
theorem dX11_findEnds_94 : decode cX11_findEnds 94 = .ok (.lastore, 1) := by decide +kernel
theorem dX11_findEnds_95 : decode cX11_findEnds 95 = .ok (.aload_n 0, 1) := by decide +kernel
theorem dX11_findEnds_96 : decode cX11_findEnds 96 = .ok (.getfield 87, 3) := by decide +kernel
theorem dX11_findEnds_99 : decode cX11_findEnds 99 = .ok (.iconst 4, 1) := by decide +kernel
theorem dX11_findEnds_100 : decode cX11_findEnds 100 = .ok (.iload_n 3, 1) := by decide +kernel
theorem dX11_findEnds_101 : decode cX11_findEnds 101 = .ok (.imul, 1) := by decide +kernel
theorem dX11_findEnds_102 : decode cX11_findEnds 102 = .ok (.iconst 2, 1) := by decide +kernel
theorem dX11_findEnds_103 : decode cX11_findEnds 103 = .ok (.iadd, 1) := by decide +kernel
theorem dX11_findEnds_104 : decode cX11_findEnds 104 = .ok (.aload_n 0, 1) := by decide +kernel
theorem dX11_findEnds_105 : decode cX11_findEnds 105 = .ok (.getfield 225, 3) := by decide +kernel
theorem dX11_findEnds_108 : decode cX11_findEnds 108 = .ok (.lastore, 1) := by decide +kernel
theorem dX11_findEnds_109 : decode cX11_findEnds 109 = .ok (.aload_n 0, 1) := by decide +kernel
theorem dX11_findEnds_110 : decode cX11_findEnds 110 = .ok (.getfield 87, 3) := by decide +kernel
theorem dX11_findEnds_113 : decode cX11_findEnds 113 = .ok (.iconst 4, 1) := by decide +kernel
theorem dX11_findEnds_114 : decode cX11_findEnds 114 = .ok (.iload_n 3, 1) := by decide +kernel
theorem dX11_findEnds_115 : decode cX11_findEnds 115 = .ok (.imul, 1) := by decide +kernel
theorem dX11_findEnds_116 : decode cX11_findEnds 116 = .ok (.iconst 3, 1) := by decide +kernel
theorem dX11_findEnds_117 : decode cX11_findEnds 117 = .ok (.iadd, 1) := by decide +kernel
theorem dX11_findEnds_118 : decode cX11_findEnds 118 = .ok (.aload_n 0, 1) := by decide +kernel
theorem dX11_findEnds_119 : decode cX11_findEnds 119 = .ok (.getfield 228, 3) := by decide +kernel
theorem dX11_findEnds_122 : decode cX11_findEnds 122 = .ok (.lastore, 1) := by decide +kernel
theorem dX11_findEnds_123 : decode cX11_findEnds 123 = .ok (.iinc 3 1, 3) := by decide +kernel
theorem dX11_findEnds_126 : decode cX11_findEnds 126 = .ok (.goto (-122), 3) := by decide +kernel
theorem dX11_findEnds_129 : decode cX11_findEnds 129 = .ok (.iload_n 2, 1) := by decide +kernel
theorem dX11_findEnds_130 : decode cX11_findEnds 130 = .ok (.ifCond .eq 9, 3) := by decide +kernel
theorem dX11_findEnds_133 : decode cX11_findEnds 133 = .ok (.ldc2_w 272, 3) := by decide +kernel
theorem dX11_findEnds_136 : decode cX11_findEnds 136 = .ok (.goto 4, 3) := by decide +kernel
theorem dX11_findEnds_139 : decode cX11_findEnds 139 = .ok (.lconst 0, 1) := by decide +kernel
theorem dX11_findEnds_140 : decode cX11_findEnds 140 = .ok (.lreturn, 1) := by decide +kernel
theorem dX11_totalOf_0 : decode cX11_totalOf 0 = .ok (.lconst 0, 1) := by decide +kernel
theorem dX11_totalOf_1 : decode cX11_totalOf 1 = .ok (.lstore 4, 2) := by decide +kernel
theorem dX11_totalOf_3 : decode cX11_totalOf 3 = .ok (.lconst 1, 1) := by decide +kernel
theorem dX11_totalOf_4 : decode cX11_totalOf 4 = .ok (.lstore 6, 2) := by decide +kernel
theorem dX11_totalOf_6 : decode cX11_totalOf 6 = .ok (.iconst 0, 1) := by decide +kernel
theorem dX11_totalOf_7 : decode cX11_totalOf 7 = .ok (.istore 8, 2) := by decide +kernel
theorem dX11_totalOf_9 : decode cX11_totalOf 9 = .ok (.iload 8, 2) := by decide +kernel
theorem dX11_totalOf_11 : decode cX11_totalOf 11 = .ok (.aload_n 0, 1) := by decide +kernel
theorem dX11_totalOf_12 : decode cX11_totalOf 12 = .ok (.getfield 336, 3) := by decide +kernel
theorem dX11_totalOf_15 : decode cX11_totalOf 15 = .ok (.if_icmp .ge 135, 3) := by decide +kernel
theorem dX11_totalOf_18 : decode cX11_totalOf 18 = .ok (.aload_n 0, 1) := by decide +kernel
theorem dX11_totalOf_19 : decode cX11_totalOf 19 = .ok (.getfield 103, 3) := by decide +kernel
theorem dX11_totalOf_22 : decode cX11_totalOf 22 = .ok (.ifCond .ne 128, 3) := by decide +kernel
theorem dX11_totalOf_25 : decode cX11_totalOf 25 = .ok (.iload 8, 2) := by decide +kernel
theorem dX11_totalOf_27 : decode cX11_totalOf 27 = .ok (.iload_n 2, 1) := by decide +kernel
theorem dX11_totalOf_28 : decode cX11_totalOf 28 = .ok (.if_icmp .ne 7, 3) := by decide +kernel
theorem dX11_totalOf_31 : decode cX11_totalOf 31 = .ok (.iload_n 3, 1) := by decide +kernel
theorem dX11_totalOf_32 : decode cX11_totalOf 32 = .ok (.goto 10, 3) := by decide +kernel
theorem dX11_totalOf_35 : decode cX11_totalOf 35 = .ok (.aload_n 0, 1) := by decide +kernel
theorem dX11_totalOf_36 : decode cX11_totalOf 36 = .ok (.getfield 53, 3) := by decide +kernel
theorem dX11_totalOf_39 : decode cX11_totalOf 39 = .ok (.iload 8, 2) := by decide +kernel
theorem dX11_totalOf_41 : decode cX11_totalOf 41 = .ok (.iaload, 1) := by decide +kernel
theorem dX11_totalOf_42 : decode cX11_totalOf 42 = .ok (.istore 9, 2) := by decide +kernel
theorem dX11_totalOf_44 : decode cX11_totalOf 44 = .ok (.iconst 4, 1) := by decide +kernel
theorem dX11_totalOf_45 : decode cX11_totalOf 45 = .ok (.iload 8, 2) := by decide +kernel
theorem dX11_totalOf_47 : decode cX11_totalOf 47 = .ok (.imul, 1) := by decide +kernel
theorem dX11_totalOf_48 : decode cX11_totalOf 48 = .ok (.iconst 2, 1) := by decide +kernel
theorem dX11_totalOf_49 : decode cX11_totalOf 49 = .ok (.iload 9, 2) := by decide +kernel
theorem dX11_totalOf_51 : decode cX11_totalOf 51 = .ok (.ifCond .ge 9, 3) := by decide +kernel
theorem dX11_totalOf_54 : decode cX11_totalOf 54 = .ok (.iconst 1, 1) := by decide +kernel
theorem dX11_totalOf_55 : decode cX11_totalOf 55 = .ok (.iload_n 1, 1) := by decide +kernel
theorem dX11_totalOf_56 : decode cX11_totalOf 56 = .ok (.isub, 1) := by decide +kernel
theorem dX11_totalOf_57 : decode cX11_totalOf 57 = .ok (.goto 4, 3) := by decide +kernel
theorem dX11_totalOf_60 : decode cX11_totalOf 60 = .ok (.iload_n 1, 1) := by decide +kernel
theorem dX11_totalOf_61 : decode cX11_totalOf 61 = .ok (.imul, 1) := by decide +kernel
theorem dX11_totalOf_62 : decode cX11_totalOf 62 = .ok (.iadd, 1) := by decide +kernel
theorem dX11_totalOf_63 : decode cX11_totalOf 63 = .ok (.istore 10, 2) := by decide +kernel
theorem dX11_totalOf_65 : decode cX11_totalOf 65 = .ok (.aload_n 0, 1) := by decide +kernel
theorem dX11_totalOf_66 : decode cX11_totalOf 66 = .ok (.aload_n 0, 1) := by decide +kernel
theorem dX11_totalOf_67 : decode cX11_totalOf 67 = .ok (.getfield 87, 3) := by decide +kernel
theorem dX11_totalOf_70 : decode cX11_totalOf 70 = .ok (.iload 10, 2) := by decide +kernel
theorem dX11_totalOf_72 : decode cX11_totalOf 72 = .ok (.laload, 1) := by decide +kernel
theorem dX11_totalOf_73 : decode cX11_totalOf 73 = .ok (.aload_n 0, 1) := by decide +kernel
theorem dX11_totalOf_74 : decode cX11_totalOf 74 = .ok (.getfield 87, 3) := by decide +kernel
theorem dX11_totalOf_77 : decode cX11_totalOf 77 = .ok (.iload 10, 2) := by decide +kernel
theorem dX11_totalOf_79 : decode cX11_totalOf 79 = .ok (.iconst 1, 1) := by decide +kernel
theorem dX11_totalOf_80 : decode cX11_totalOf 80 = .ok (.iadd, 1) := by decide +kernel
theorem dX11_totalOf_81 : decode cX11_totalOf 81 = .ok (.laload, 1) := by decide +kernel
theorem dX11_totalOf_82 : decode cX11_totalOf 82 = .ok (.invokevirtual 186, 3) := by decide +kernel
theorem dX11_totalOf_85 : decode cX11_totalOf 85 = .ok (.aload_n 0, 1) := by decide +kernel
theorem dX11_totalOf_86 : decode cX11_totalOf 86 = .ok (.iload 9, 2) := by decide +kernel
theorem dX11_totalOf_88 : decode cX11_totalOf 88 = .ok (.i2l, 1) := by decide +kernel
theorem dX11_totalOf_89 : decode cX11_totalOf 89 = .ok (.lconst 1, 1) := by decide +kernel
theorem dX11_totalOf_90 : decode cX11_totalOf 90 = .ok (.invokevirtual 202, 3) := by decide +kernel
theorem dX11_totalOf_93 : decode cX11_totalOf 93 = .ok (.aload_n 0, 1) := by decide +kernel
theorem dX11_totalOf_94 : decode cX11_totalOf 94 = .ok (.getfield 94, 3) := by decide +kernel
theorem dX11_totalOf_97 : decode cX11_totalOf 97 = .ok (.lstore 11, 2) := by decide +kernel
theorem dX11_totalOf_99 : decode cX11_totalOf 99 = .ok (.aload_n 0, 1) := by decide +kernel
theorem dX11_totalOf_100 : decode cX11_totalOf 100 = .ok (.getfield 98, 3) := by decide +kernel
theorem dX11_totalOf_103 : decode cX11_totalOf 103 = .ok (.lstore 13, 2) := by decide +kernel
theorem dX11_totalOf_105 : decode cX11_totalOf 105 = .ok (.aload_n 0, 1) := by decide +kernel
theorem dX11_totalOf_106 : decode cX11_totalOf 106 = .ok (.lload 4, 2) := by decide +kernel
theorem dX11_totalOf_108 : decode cX11_totalOf 108 = .ok (.putfield 94, 3) := by decide +kernel
theorem dX11_totalOf_111 : decode cX11_totalOf 111 = .ok (.aload_n 0, 1) := by decide +kernel
theorem dX11_totalOf_112 : decode cX11_totalOf 112 = .ok (.lload 6, 2) := by decide +kernel
theorem dX11_totalOf_114 : decode cX11_totalOf 114 = .ok (.putfield 98, 3) := by decide +kernel
theorem dX11_totalOf_117 : decode cX11_totalOf 117 = .ok (.aload_n 0, 1) := by decide +kernel
theorem dX11_totalOf_118 : decode cX11_totalOf 118 = .ok (.getfield 103, 3) := by decide +kernel
theorem dX11_totalOf_121 : decode cX11_totalOf 121 = .ok (.ifCond .ne 11, 3) := by decide +kernel
theorem dX11_totalOf_124 : decode cX11_totalOf 124 = .ok (.aload_n 0, 1) := by decide +kernel
theorem dX11_totalOf_125 : decode cX11_totalOf 125 = .ok (.lload 11, 2) := by decide +kernel
theorem dX11_totalOf_127 : decode cX11_totalOf 127 = .ok (.lload 13, 2) := by decide +kernel
theorem dX11_totalOf_129 : decode cX11_totalOf 129 = .ok (.invokevirtual 339, 3) := by decide +kernel
theorem dX11_totalOf_132 : decode cX11_totalOf 132 = .ok (.aload_n 0, 1) := by decide +kernel
theorem dX11_totalOf_133 : decode cX11_totalOf 133 = .ok (.getfield 94, 3) := by decide +kernel
theorem dX11_totalOf_136 : decode cX11_totalOf 136 = .ok (.lstore 4, 2) := by decide +kernel
theorem dX11_totalOf_138 : decode cX11_totalOf 138 = .ok (.aload_n 0, 1) := by decide +kernel
theorem dX11_totalOf_139 : decode cX11_totalOf 139 = .ok (.getfield 98, 3) := by decide +kernel
theorem dX11_totalOf_142 : decode cX11_totalOf 142 = .ok (.lstore 6, 2) := by decide +kernel
theorem dX11_totalOf_144 : decode cX11_totalOf 144 = .ok (.iinc 8 1, 3) := by decide +kernel
theorem dX11_totalOf_147 : decode cX11_totalOf 147 = .ok (.goto (-138), 3) := by decide +kernel
theorem dX11_totalOf_150 : decode cX11_totalOf 150 = .ok (.aload_n 0, 1) := by decide +kernel
theorem dX11_totalOf_151 : decode cX11_totalOf 151 = .ok (.lload 4, 2) := by decide +kernel
theorem dX11_totalOf_153 : decode cX11_totalOf 153 = .ok (.putfield 94, 3) := by decide +kernel
theorem dX11_totalOf_156 : decode cX11_totalOf 156 = .ok (.aload_n 0, 1) := by decide +kernel
theorem dX11_totalOf_157 : decode cX11_totalOf 157 = .ok (.lload 6, 2) := by decide +kernel
theorem dX11_totalOf_159 : decode cX11_totalOf 159 = .ok (.putfield 98, 3) := by decide +kernel
theorem dX11_totalOf_162 : decode cX11_totalOf 162 = .ok (.return_, 1) := by decide +kernel
theorem dX11_bothEnds_0 : decode cX11_bothEnds 0 = .ok (.aload_n 0, 1) := by decide +kernel
theorem dX11_bothEnds_1 : decode cX11_bothEnds 1 = .ok (.iconst 0, 1) := by decide +kernel
theorem dX11_bothEnds_2 : decode cX11_bothEnds 2 = .ok (.putfield 103, 3) := by decide +kernel
theorem dX11_bothEnds_5 : decode cX11_bothEnds 5 = .ok (.aload_n 0, 1) := by decide +kernel
theorem dX11_bothEnds_6 : decode cX11_bothEnds 6 = .ok (.iconst 0, 1) := by decide +kernel
theorem dX11_bothEnds_7 : decode cX11_bothEnds 7 = .ok (.iload_n 1, 1) := by decide +kernel
theorem dX11_bothEnds_8 : decode cX11_bothEnds 8 = .ok (.iload_n 2, 1) := by decide +kernel
theorem dX11_bothEnds_9 : decode cX11_bothEnds 9 = .ok (.invokevirtual 342, 3) := by decide +kernel
theorem dX11_bothEnds_12 : decode cX11_bothEnds 12 = .ok (.aload_n 0, 1) := by decide +kernel
theorem dX11_bothEnds_13 : decode cX11_bothEnds 13 = .ok (.aload_n 0, 1) := by decide +kernel
theorem dX11_bothEnds_14 : decode cX11_bothEnds 14 = .ok (.getfield 94, 3) := by decide +kernel
theorem dX11_bothEnds_17 : decode cX11_bothEnds 17 = .ok (.putfield 215, 3) := by decide +kernel
theorem dX11_bothEnds_20 : decode cX11_bothEnds 20 = .ok (.aload_n 0, 1) := by decide +kernel
theorem dX11_bothEnds_21 : decode cX11_bothEnds 21 = .ok (.aload_n 0, 1) := by decide +kernel
theorem dX11_bothEnds_22 : decode cX11_bothEnds 22 = .ok (.getfield 98, 3) := by decide +kernel
theorem dX11_bothEnds_25 : decode cX11_bothEnds 25 = .ok (.putfield 218, 3) := by decide +kernel
theorem dX11_bothEnds_28 : decode cX11_bothEnds 28 = .ok (.aload_n 0, 1) := by decide +kernel
theorem dX11_bothEnds_29 : decode cX11_bothEnds 29 = .ok (.getfield 103, 3) := by decide +kernel
theorem dX11_bothEnds_32 : decode cX11_bothEnds 32 = .ok (.ifCond .ne 10, 3) := by decide +kernel
theorem dX11_bothEnds_35 : decode cX11_bothEnds 35 = .ok (.aload_n 0, 1) := by decide +kernel
theorem dX11_bothEnds_36 : decode cX11_bothEnds 36 = .ok (.iconst 1, 1) := by decide +kernel
theorem dX11_bothEnds_37 : decode cX11_bothEnds 37 = .ok (.iload_n 1, 1) := by decide +kernel
theorem dX11_bothEnds_38 : decode cX11_bothEnds 38 = .ok (.iload_n 2, 1) := by decide +kernel
theorem dX11_bothEnds_39 : decode cX11_bothEnds 39 = .ok (.invokevirtual 342, 3) := by decide +kernel
theorem dX11_bothEnds_42 : decode cX11_bothEnds 42 = .ok (.aload_n 0, 1) := by decide +kernel
theorem dX11_bothEnds_43 : decode cX11_bothEnds 43 = .ok (.aload_n 0, 1) := by decide +kernel
theorem dX11_bothEnds_44 : decode cX11_bothEnds 44 = .ok (.getfield 94, 3) := by decide +kernel
theorem dX11_bothEnds_47 : decode cX11_bothEnds 47 = .ok (.putfield 225, 3) := by decide +kernel
theorem dX11_bothEnds_50 : decode cX11_bothEnds 50 = .ok (.aload_n 0, 1) := by decide +kernel
theorem dX11_bothEnds_51 : decode cX11_bothEnds 51 = .ok (.aload_n 0, 1) := by decide +kernel
theorem dX11_bothEnds_52 : decode cX11_bothEnds 52 = .ok (.getfield 98, 3) := by decide +kernel
theorem dX11_bothEnds_55 : decode cX11_bothEnds 55 = .ok (.putfield 228, 3) := by decide +kernel
theorem dX11_bothEnds_58 : decode cX11_bothEnds 58 = .ok (.aload_n 0, 1) := by decide +kernel
theorem dX11_bothEnds_59 : decode cX11_bothEnds 59 = .ok (.getfield 103, 3) := by decide +kernel
theorem dX11_bothEnds_62 : decode cX11_bothEnds 62 = .ok (.ifCond .eq 9, 3) := by decide +kernel
theorem dX11_bothEnds_65 : decode cX11_bothEnds 65 = .ok (.ldc2_w 272, 3) := by decide +kernel
theorem dX11_bothEnds_68 : decode cX11_bothEnds 68 = .ok (.goto 4, 3) := by decide +kernel
theorem dX11_bothEnds_71 : decode cX11_bothEnds 71 = .ok (.lconst 0, 1) := by decide +kernel
theorem dX11_bothEnds_72 : decode cX11_bothEnds 72 = .ok (.lreturn, 1) := by decide +kernel
theorem dX11_total_0 : decode cX11_total 0 = .ok (.iload_n 1, 1) := by decide +kernel
theorem dX11_total_1 : decode cX11_total 1 = .ok (.i2l, 1) := by decide +kernel
theorem dX11_total_2 : decode cX11_total 2 = .ok (.lconst 0, 1) := by decide +kernel
theorem dX11_total_3 : decode cX11_total 3 = .ok (.ldc2_w 334, 3) := by decide +kernel
theorem dX11_total_6 : decode cX11_total 6 = .ok (.invokestatic 145, 3) := by decide +kernel
theorem dX11_total_9 : decode cX11_total 9 = .ok (.ifCond .eq 11, 3) := by decide +kernel
theorem dX11_total_12 : decode cX11_total 12 = .ok (.iload_n 2, 1) := by decide +kernel
theorem dX11_total_13 : decode cX11_total 13 = .ok (.iload_n 3, 1) := by decide +kernel
theorem dX11_total_14 : decode cX11_total 14 = .ok (.invokestatic 274, 3) := by decide +kernel
theorem dX11_total_17 : decode cX11_total 17 = .ok (.ifCond .ne 7, 3) := by decide +kernel
theorem dX11_total_20 : decode cX11_total 20 = .ok (.ldc2_w 149, 3) := by decide +kernel
theorem dX11_total_23 : decode cX11_total 23 = .ok (.lreturn, 1) := by decide +kernel
theorem dX11_total_24 : decode cX11_total 24 = .ok (.aload_n 0, 1) := by decide +kernel
theorem dX11_total_25 : decode cX11_total 25 = .ok (.iload_n 1, 1) := by decide +kernel
theorem dX11_total_26 : decode cX11_total 26 = .ok (.invokevirtual 346, 3) := by decide +kernel
theorem dX11_total_29 : decode cX11_total 29 = .ok (.lstore 4, 2) := by decide +kernel
theorem dX11_total_31 : decode cX11_total 31 = .ok (.lload 4, 2) := by decide +kernel
theorem dX11_total_33 : decode cX11_total 33 = .ok (.lconst 0, 1) := by decide +kernel
theorem dX11_total_34 : decode cX11_total 34 = .ok (.lcmp, 1) := by decide +kernel
theorem dX11_total_35 : decode cX11_total 35 = .ok (.ifCond .eq 6, 3) := by decide +kernel
theorem dX11_total_38 : decode cX11_total 38 = .ok (.lload 4, 2) := by decide +kernel
theorem dX11_total_40 : decode cX11_total 40 = .ok (.lreturn, 1) := by decide +kernel
theorem dX11_total_41 : decode cX11_total 41 = .ok (.aload_n 0, 1) := by decide +kernel
theorem dX11_total_42 : decode cX11_total 42 = .ok (.iconst (-1), 1) := by decide +kernel
theorem dX11_total_43 : decode cX11_total 43 = .ok (.iconst 0, 1) := by decide +kernel
theorem dX11_total_44 : decode cX11_total 44 = .ok (.invokevirtual 350, 3) := by decide +kernel
theorem dX11_total_47 : decode cX11_total 47 = .ok (.lstore 4, 2) := by decide +kernel
theorem dX11_total_49 : decode cX11_total 49 = .ok (.lload 4, 2) := by decide +kernel
theorem dX11_total_51 : decode cX11_total 51 = .ok (.lconst 0, 1) := by decide +kernel
theorem dX11_total_52 : decode cX11_total 52 = .ok (.lcmp, 1) := by decide +kernel
theorem dX11_total_53 : decode cX11_total 53 = .ok (.ifCond .eq 8, 3) := by decide +kernel
theorem dX11_total_56 : decode cX11_total 56 = .ok (.lload 4, 2) := by decide +kernel
theorem dX11_total_58 : decode cX11_total 58 = .ok (.goto 9, 3) := by decide +kernel
theorem dX11_total_61 : decode cX11_total 61 = .ok (.aload_n 0, 1) := by decide +kernel
theorem dX11_total_62 : decode cX11_total 62 = .ok (.iload_n 2, 1) := by decide +kernel
theorem dX11_total_63 : decode cX11_total 63 = .ok (.iload_n 3, 1) := by decide +kernel
theorem dX11_total_64 : decode cX11_total 64 = .ok (.invokevirtual 281, 3) := by decide +kernel
theorem dX11_total_67 : decode cX11_total 67 = .ok (.lreturn, 1) := by decide +kernel
theorem dX11_isRight_0 : decode cX11_isRight 0 = .ok (.aload_n 0, 1) := by decide +kernel
theorem dX11_isRight_1 : decode cX11_isRight 1 = .ok (.iload_n 1, 1) := by decide +kernel
theorem dX11_isRight_2 : decode cX11_isRight 2 = .ok (.i2l, 1) := by decide +kernel
theorem dX11_isRight_3 : decode cX11_isRight 3 = .ok (.lconst 1, 1) := by decide +kernel
theorem dX11_isRight_4 : decode cX11_isRight 4 = .ok (.aload_n 0, 1) := by decide +kernel
theorem dX11_isRight_5 : decode cX11_isRight 5 = .ok (.getfield 215, 3) := by decide +kernel
theorem dX11_isRight_8 : decode cX11_isRight 8 = .ok (.aload_n 0, 1) := by decide +kernel
theorem dX11_isRight_9 : decode cX11_isRight 9 = .ok (.getfield 218, 3) := by decide +kernel
theorem dX11_isRight_12 : decode cX11_isRight 12 = .ok (.invokevirtual 221, 3) := by decide +kernel
theorem dX11_isRight_15 : decode cX11_isRight 15 = .ok (.ifCond .ne 25, 3) := by decide +kernel
theorem dX11_isRight_18 : decode cX11_isRight 18 = .ok (.aload_n 0, 1) := by decide +kernel
theorem dX11_isRight_19 : decode cX11_isRight 19 = .ok (.aload_n 0, 1) := by decide +kernel
theorem dX11_isRight_20 : decode cX11_isRight 20 = .ok (.getfield 225, 3) := by decide +kernel
theorem dX11_isRight_23 : decode cX11_isRight 23 = .ok (.aload_n 0, 1) := by decide +kernel
theorem dX11_isRight_24 : decode cX11_isRight 24 = .ok (.getfield 228, 3) := by decide +kernel
theorem dX11_isRight_27 : decode cX11_isRight 27 = .ok (.iload_n 1, 1) := by decide +kernel
theorem dX11_isRight_28 : decode cX11_isRight 28 = .ok (.i2l, 1) := by decide +kernel
theorem dX11_isRight_29 : decode cX11_isRight 29 = .ok (.lconst 1, 1) := by decide +kernel
theorem dX11_isRight_30 : decode cX11_isRight 30 = .ok (.invokevirtual 221, 3) := by decide +kernel
theorem dX11_isRight_33 : decode cX11_isRight 33 = .ok (.ifCond .ne 7, 3) := by decide +kernel
theorem dX11_isRight_36 : decode cX11_isRight 36 = .ok (.iconst 1, 1) := by decide +kernel
theorem dX11_isRight_37 : decode cX11_isRight 37 = .ok (.goto 4, 3) := by decide +kernel
theorem dX11_isRight_40 : decode cX11_isRight 40 = .ok (.iconst 0, 1) := by decide +kernel
theorem dX11_isRight_41 : decode cX11_isRight 41 = .ok (.ireturn, 1) := by decide +kernel
theorem dX11_slip_0 : decode cX11_slip 0 = .ok (.iload_n 1, 1) := by decide +kernel
theorem dX11_slip_1 : decode cX11_slip 1 = .ok (.i2l, 1) := by decide +kernel
theorem dX11_slip_2 : decode cX11_slip 2 = .ok (.lconst 0, 1) := by decide +kernel
theorem dX11_slip_3 : decode cX11_slip 3 = .ok (.ldc2_w 334, 3) := by decide +kernel
theorem dX11_slip_6 : decode cX11_slip 6 = .ok (.invokestatic 145, 3) := by decide +kernel
theorem dX11_slip_9 : decode cX11_slip 9 = .ok (.ifCond .eq 17, 3) := by decide +kernel
theorem dX11_slip_12 : decode cX11_slip 12 = .ok (.iload_n 2, 1) := by decide +kernel
theorem dX11_slip_13 : decode cX11_slip 13 = .ok (.i2l, 1) := by decide +kernel
theorem dX11_slip_14 : decode cX11_slip 14 = .ok (.ldc2_w 353, 3) := by decide +kernel
theorem dX11_slip_17 : decode cX11_slip 17 = .ok (.ldc2_w 355, 3) := by decide +kernel
theorem dX11_slip_20 : decode cX11_slip 20 = .ok (.invokestatic 145, 3) := by decide +kernel
theorem dX11_slip_23 : decode cX11_slip 23 = .ok (.ifCond .ne 7, 3) := by decide +kernel
theorem dX11_slip_26 : decode cX11_slip 26 = .ok (.ldc2_w 149, 3) := by decide +kernel
theorem dX11_slip_29 : decode cX11_slip 29 = .ok (.lreturn, 1) := by decide +kernel
theorem dX11_slip_30 : decode cX11_slip 30 = .ok (.aload_n 0, 1) := by decide +kernel
theorem dX11_slip_31 : decode cX11_slip 31 = .ok (.iload_n 1, 1) := by decide +kernel
theorem dX11_slip_32 : decode cX11_slip 32 = .ok (.invokevirtual 346, 3) := by decide +kernel
theorem dX11_slip_35 : decode cX11_slip 35 = .ok (.lstore_n 3, 1) := by decide +kernel
theorem dX11_slip_36 : decode cX11_slip 36 = .ok (.lload_n 3, 1) := by decide +kernel
theorem dX11_slip_37 : decode cX11_slip 37 = .ok (.lconst 0, 1) := by decide +kernel
theorem dX11_slip_38 : decode cX11_slip 38 = .ok (.lcmp, 1) := by decide +kernel
theorem dX11_slip_39 : decode cX11_slip 39 = .ok (.ifCond .eq 5, 3) := by decide +kernel
theorem dX11_slip_42 : decode cX11_slip 42 = .ok (.lload_n 3, 1) := by decide +kernel
theorem dX11_slip_43 : decode cX11_slip 43 = .ok (.lreturn, 1) := by decide +kernel
theorem dX11_slip_44 : decode cX11_slip 44 = .ok (.aload_n 0, 1) := by decide +kernel
theorem dX11_slip_45 : decode cX11_slip 45 = .ok (.iconst (-1), 1) := by decide +kernel
theorem dX11_slip_46 : decode cX11_slip 46 = .ok (.iconst 0, 1) := by decide +kernel
theorem dX11_slip_47 : decode cX11_slip 47 = .ok (.invokevirtual 350, 3) := by decide +kernel
theorem dX11_slip_50 : decode cX11_slip 50 = .ok (.lconst 0, 1) := by decide +kernel
theorem dX11_slip_51 : decode cX11_slip 51 = .ok (.lcmp, 1) := by decide +kernel
theorem dX11_slip_52 : decode cX11_slip 52 = .ok (.ifCond .eq 7, 3) := by decide +kernel
theorem dX11_slip_55 : decode cX11_slip 55 = .ok (.ldc2_w 272, 3) := by decide +kernel
theorem dX11_slip_58 : decode cX11_slip 58 = .ok (.lreturn, 1) := by decide +kernel
theorem dX11_slip_59 : decode cX11_slip 59 = .ok (.aload_n 0, 1) := by decide +kernel
theorem dX11_slip_60 : decode cX11_slip 60 = .ok (.iload_n 2, 1) := by decide +kernel
theorem dX11_slip_61 : decode cX11_slip 61 = .ok (.invokevirtual 357, 3) := by decide +kernel
theorem dX11_slip_64 : decode cX11_slip 64 = .ok (.ifCond .eq 5, 3) := by decide +kernel
theorem dX11_slip_67 : decode cX11_slip 67 = .ok (.lconst 0, 1) := by decide +kernel
theorem dX11_slip_68 : decode cX11_slip 68 = .ok (.lreturn, 1) := by decide +kernel
theorem dX11_slip_69 : decode cX11_slip 69 = .ok (.iconst 1, 1) := by decide +kernel
theorem dX11_slip_70 : decode cX11_slip 70 = .ok (.istore 5, 2) := by decide +kernel
theorem dX11_slip_72 : decode cX11_slip 72 = .ok (.iload 5, 2) := by decide +kernel
theorem dX11_slip_74 : decode cX11_slip 74 = .ok (.iconst 2, 1) := by decide +kernel
theorem dX11_slip_75 : decode cX11_slip 75 = .ok (.if_icmp .gt 185, 3) := by decide +kernel
theorem dX11_slip_78 : decode cX11_slip 78 = .ok (.iconst 0, 1) := by decide +kernel
theorem dX11_slip_79 : decode cX11_slip 79 = .ok (.istore 6, 2) := by decide +kernel
theorem dX11_slip_81 : decode cX11_slip 81 = .ok (.iload 6, 2) := by decide +kernel
theorem dX11_slip_83 : decode cX11_slip 83 = .ok (.aload_n 0, 1) := by decide +kernel
theorem dX11_slip_84 : decode cX11_slip 84 = .ok (.getfield 336, 3) := by decide +kernel
theorem dX11_slip_87 : decode cX11_slip 87 = .ok (.if_icmp .ge 167, 3) := by decide +kernel
theorem dX11_slip_90 : decode cX11_slip 90 = .ok (.iconst 2, 1) := by decide +kernel
theorem dX11_slip_91 : decode cX11_slip 91 = .ok (.iload 5, 2) := by decide +kernel
theorem dX11_slip_93 : decode cX11_slip 93 = .ok (.imul, 1) := by decide +kernel
theorem dX11_slip_94 : decode cX11_slip 94 = .ok (.iconst 1, 1) := by decide +kernel
theorem dX11_slip_95 : decode cX11_slip 95 = .ok (.isub, 1) := by decide +kernel
theorem dX11_slip_96 : decode cX11_slip 96 = .ok (.istore 7, 2) := by decide +kernel
theorem dX11_slip_98 : decode cX11_slip 98 = .ok (.iload 7, 2) := by decide +kernel
theorem dX11_slip_100 : decode cX11_slip 100 = .ok (.iconst 2, 1) := by decide +kernel
theorem dX11_slip_101 : decode cX11_slip 101 = .ok (.iload 5, 2) := by decide +kernel
theorem dX11_slip_103 : decode cX11_slip 103 = .ok (.imul, 1) := by decide +kernel
theorem dX11_slip_104 : decode cX11_slip 104 = .ok (.if_icmp .gt 144, 3) := by decide +kernel
theorem dX11_slip_107 : decode cX11_slip 107 = .ok (.aload_n 0, 1) := by decide +kernel
theorem dX11_slip_108 : decode cX11_slip 108 = .ok (.getfield 53, 3) := by decide +kernel
theorem dX11_slip_111 : decode cX11_slip 111 = .ok (.iload 6, 2) := by decide +kernel
theorem dX11_slip_113 : decode cX11_slip 113 = .ok (.iaload, 1) := by decide +kernel
theorem dX11_slip_114 : decode cX11_slip 114 = .ok (.istore 8, 2) := by decide +kernel
theorem dX11_slip_116 : decode cX11_slip 116 = .ok (.iload 7, 2) := by decide +kernel
theorem dX11_slip_118 : decode cX11_slip 118 = .ok (.iconst 3, 1) := by decide +kernel
theorem dX11_slip_119 : decode cX11_slip 119 = .ok (.if_icmp .lt 28, 3) := by decide +kernel
theorem dX11_slip_122 : decode cX11_slip 122 = .ok (.iload 7, 2) := by decide +kernel
theorem dX11_slip_124 : decode cX11_slip 124 = .ok (.iconst 3, 1) := by decide +kernel
theorem dX11_slip_125 : decode cX11_slip 125 = .ok (.if_icmp .ne 14, 3) := by decide +kernel
theorem dX11_slip_128 : decode cX11_slip 128 = .ok (.iload 8, 2) := by decide +kernel
theorem dX11_slip_130 : decode cX11_slip 130 = .ok (.bipush 10, 2) := by decide +kernel
theorem dX11_slip_132 : decode cX11_slip 132 = .ok (.irem, 1) := by decide +kernel
theorem dX11_slip_133 : decode cX11_slip 133 = .ok (.ifCond .ne 18, 3) := by decide +kernel
theorem dX11_slip_136 : decode cX11_slip 136 = .ok (.goto 11, 3) := by decide +kernel
theorem dX11_slip_139 : decode cX11_slip 139 = .ok (.iload 8, 2) := by decide +kernel
theorem dX11_slip_141 : decode cX11_slip 141 = .ok (.bipush 12, 2) := by decide +kernel
theorem dX11_slip_143 : decode cX11_slip 143 = .ok (.irem, 1) := by decide +kernel
theorem dX11_slip_144 : decode cX11_slip 144 = .ok (.ifCond .ne 7, 3) := by decide +kernel
theorem dX11_slip_147 : decode cX11_slip 147 = .ok (.iconst 1, 1) := by decide +kernel
theorem dX11_slip_148 : decode cX11_slip 148 = .ok (.goto 4, 3) := by decide +kernel
theorem dX11_slip_151 : decode cX11_slip 151 = .ok (.iconst 0, 1) := by decide +kernel
theorem dX11_slip_152 : decode cX11_slip 152 = .ok (.istore 9, 2) := by decide +kernel
theorem dX11_slip_154 : decode cX11_slip 154 = .ok (.iload 9, 2) := by decide +kernel
theorem dX11_slip_156 : decode cX11_slip 156 = .ok (.ifCond .eq 86, 3) := by decide +kernel
theorem dX11_slip_159 : decode cX11_slip 159 = .ok (.aload_n 0, 1) := by decide +kernel
theorem dX11_slip_160 : decode cX11_slip 160 = .ok (.iload 6, 2) := by decide +kernel
theorem dX11_slip_162 : decode cX11_slip 162 = .ok (.iload 7, 2) := by decide +kernel
theorem dX11_slip_164 : decode cX11_slip 164 = .ok (.iconst 1, 1) := by decide +kernel
theorem dX11_slip_165 : decode cX11_slip 165 = .ok (.if_icmp .ne 10, 3) := by decide +kernel
theorem dX11_slip_168 : decode cX11_slip 168 = .ok (.iconst 2, 1) := by decide +kernel
theorem dX11_slip_169 : decode cX11_slip 169 = .ok (.iload 8, 2) := by decide +kernel
theorem dX11_slip_171 : decode cX11_slip 171 = .ok (.imul, 1) := by decide +kernel
theorem dX11_slip_172 : decode cX11_slip 172 = .ok (.goto 38, 3) := by decide +kernel
theorem dX11_slip_175 : decode cX11_slip 175 = .ok (.iload 7, 2) := by decide +kernel
theorem dX11_slip_177 : decode cX11_slip 177 = .ok (.iconst 2, 1) := by decide +kernel
theorem dX11_slip_178 : decode cX11_slip 178 = .ok (.if_icmp .ne 7, 3) := by decide +kernel
theorem dX11_slip_181 : decode cX11_slip 181 = .ok (.iconst 0, 1) := by decide +kernel
theorem dX11_slip_182 : decode cX11_slip 182 = .ok (.goto 28, 3) := by decide +kernel
theorem dX11_slip_185 : decode cX11_slip 185 = .ok (.iload 7, 2) := by decide +kernel
theorem dX11_slip_187 : decode cX11_slip 187 = .ok (.iconst 3, 1) := by decide +kernel
theorem dX11_slip_188 : decode cX11_slip 188 = .ok (.if_icmp .ne 14, 3) := by decide +kernel
theorem dX11_slip_191 : decode cX11_slip 191 = .ok (.iload 8, 2) := by decide +kernel
theorem dX11_slip_193 : decode cX11_slip 193 = .ok (.bipush 10, 2) := by decide +kernel
theorem dX11_slip_195 : decode cX11_slip 195 = .ok (.idiv, 1) := by decide +kernel
theorem dX11_slip_196 : decode cX11_slip 196 = .ok (.bipush 12, 2) := by decide +kernel
theorem dX11_slip_198 : decode cX11_slip 198 = .ok (.imul, 1) := by decide +kernel
theorem dX11_slip_199 : decode cX11_slip 199 = .ok (.goto 11, 3) := by decide +kernel
theorem dX11_slip_202 : decode cX11_slip 202 = .ok (.iload 8, 2) := by decide +kernel
theorem dX11_slip_204 : decode cX11_slip 204 = .ok (.bipush 12, 2) := by decide +kernel
theorem dX11_slip_206 : decode cX11_slip 206 = .ok (.idiv, 1) := by decide +kernel
theorem dX11_slip_207 : decode cX11_slip 207 = .ok (.bipush 10, 2) := by decide +kernel
theorem dX11_slip_209 : decode cX11_slip 209 = .ok (.imul, 1) := by decide +kernel
theorem dX11_slip_210 : decode cX11_slip 210 = .ok (.invokevirtual 350, 3) := by decide +kernel
theorem dX11_slip_213 : decode cX11_slip 213 = .ok (.lconst 0, 1) := by decide +kernel
theorem dX11_slip_214 : decode cX11_slip 214 = .ok (.lcmp, 1) := by decide +kernel
theorem dX11_slip_215 : decode cX11_slip 215 = .ok (.ifCond .eq 7, 3) := by decide +kernel
theorem dX11_slip_218 : decode cX11_slip 218 = .ok (.ldc2_w 272, 3) := by decide +kernel
theorem dX11_slip_221 : decode cX11_slip 221 = .ok (.lreturn, 1) := by decide +kernel
theorem dX11_slip_222 : decode cX11_slip 222 = .ok (.aload_n 0, 1) := by decide +kernel
theorem dX11_slip_223 : decode cX11_slip 223 = .ok (.iload_n 2, 1) := by decide +kernel
theorem dX11_slip_224 : decode cX11_slip 224 = .ok (.invokevirtual 357, 3) := by decide +kernel
theorem dX11_slip_227 : decode cX11_slip 227 = .ok (.ifCond .eq 15, 3) := by decide +kernel
theorem dX11_slip_230 : decode cX11_slip 230 = .ok (.ldc2_w 112, 3) := by decide +kernel
theorem dX11_slip_233 : decode cX11_slip 233 = .ok (.iload 6, 2) := by decide +kernel
theorem dX11_slip_235 : decode cX11_slip 235 = .ok (.i2l, 1) := by decide +kernel
theorem dX11_slip_236 : decode cX11_slip 236 = .ok (.lmul, 1) := by decide +kernel
theorem dX11_slip_237 : decode cX11_slip 237 = .ok (.iload 7, 2) := by decide +kernel
theorem dX11_slip_239 : decode cX11_slip 239 = .ok (.i2l, 1) := by decide +kernel
theorem dX11_slip_240 : decode cX11_slip 240 = .ok (.ladd, 1) := by decide +kernel
theorem dX11_slip_241 : decode cX11_slip 241 = .ok (.lreturn, 1) := by decide +kernel
theorem dX11_slip_242 : decode cX11_slip 242 = .ok (.iinc 7 1, 3) := by decide +kernel
theorem dX11_slip_245 : decode cX11_slip 245 = .ok (.goto (-147), 3) := by decide +kernel
theorem dX11_slip_248 : decode cX11_slip 248 = .ok (.iinc 6 1, 3) := by decide +kernel
theorem dX11_slip_251 : decode cX11_slip 251 = .ok (.goto (-170), 3) := by decide +kernel
theorem dX11_slip_254 : decode cX11_slip 254 = .ok (.iinc 5 1, 3) := by decide +kernel
theorem dX11_slip_257 : decode cX11_slip 257 = .ok (.goto (-185), 3) := by decide +kernel
theorem dX11_slip_260 : decode cX11_slip 260 = .ok (.ldc2_w 270, 3) := by decide +kernel
theorem dX11_slip_263 : decode cX11_slip 263 = .ok (.lreturn, 1) := by decide +kernel
theorem dX11_count_0 : decode cX11_count 0 = .ok (.lconst 0, 1) := by decide +kernel
theorem dX11_count_1 : decode cX11_count 1 = .ok (.lstore_n 2, 1) := by decide +kernel
theorem dX11_count_2 : decode cX11_count 2 = .ok (.iload_n 1, 1) := by decide +kernel
theorem dX11_count_3 : decode cX11_count 3 = .ok (.tableswitch 192 0 4 #[33, 39, 77, 112, 118], 33) := by decide +kernel
theorem dX11_count_36 : decode cX11_count 36 = .ok (.aload_n 0, 1) := by decide +kernel
theorem dX11_count_37 : decode cX11_count 37 = .ok (.getfield 159, 3) := by decide +kernel
theorem dX11_count_40 : decode cX11_count 40 = .ok (.i2l, 1) := by decide +kernel
theorem dX11_count_41 : decode cX11_count 41 = .ok (.lreturn, 1) := by decide +kernel
theorem dX11_count_42 : decode cX11_count 42 = .ok (.iconst 0, 1) := by decide +kernel
theorem dX11_count_43 : decode cX11_count 43 = .ok (.istore 4, 2) := by decide +kernel
theorem dX11_count_45 : decode cX11_count 45 = .ok (.iload 4, 2) := by decide +kernel
theorem dX11_count_47 : decode cX11_count 47 = .ok (.aload_n 0, 1) := by decide +kernel
theorem dX11_count_48 : decode cX11_count 48 = .ok (.getfield 159, 3) := by decide +kernel
theorem dX11_count_51 : decode cX11_count 51 = .ok (.if_icmp .ge 27, 3) := by decide +kernel
theorem dX11_count_54 : decode cX11_count 54 = .ok (.lload_n 2, 1) := by decide +kernel
theorem dX11_count_55 : decode cX11_count 55 = .ok (.aload_n 0, 1) := by decide +kernel
theorem dX11_count_56 : decode cX11_count 56 = .ok (.getfield 43, 3) := by decide +kernel
theorem dX11_count_59 : decode cX11_count 59 = .ok (.iload 4, 2) := by decide +kernel
theorem dX11_count_61 : decode cX11_count 61 = .ok (.baload, 1) := by decide +kernel
theorem dX11_count_62 : decode cX11_count 62 = .ok (.ifCond .eq 7, 3) := by decide +kernel
theorem dX11_count_65 : decode cX11_count 65 = .ok (.lconst 1, 1) := by decide +kernel
theorem dX11_count_66 : decode cX11_count 66 = .ok (.goto 4, 3) := by decide +kernel
theorem dX11_count_69 : decode cX11_count 69 = .ok (.lconst 0, 1) := by decide +kernel
theorem dX11_count_70 : decode cX11_count 70 = .ok (.ladd, 1) := by decide +kernel
theorem dX11_count_71 : decode cX11_count 71 = .ok (.lstore_n 2, 1) := by decide +kernel
theorem dX11_count_72 : decode cX11_count 72 = .ok (.iinc 4 1, 3) := by decide +kernel
theorem dX11_count_75 : decode cX11_count 75 = .ok (.goto (-30), 3) := by decide +kernel
theorem dX11_count_78 : decode cX11_count 78 = .ok (.lload_n 2, 1) := by decide +kernel
theorem dX11_count_79 : decode cX11_count 79 = .ok (.lreturn, 1) := by decide +kernel
theorem dX11_count_80 : decode cX11_count 80 = .ok (.iconst 0, 1) := by decide +kernel
theorem dX11_count_81 : decode cX11_count 81 = .ok (.istore 4, 2) := by decide +kernel
theorem dX11_count_83 : decode cX11_count 83 = .ok (.iload 4, 2) := by decide +kernel
theorem dX11_count_85 : decode cX11_count 85 = .ok (.iconst 4, 1) := by decide +kernel
theorem dX11_count_86 : decode cX11_count 86 = .ok (.if_icmp .ge 27, 3) := by decide +kernel
theorem dX11_count_89 : decode cX11_count 89 = .ok (.lload_n 2, 1) := by decide +kernel
theorem dX11_count_90 : decode cX11_count 90 = .ok (.aload_n 0, 1) := by decide +kernel
theorem dX11_count_91 : decode cX11_count 91 = .ok (.getfield 47, 3) := by decide +kernel
theorem dX11_count_94 : decode cX11_count 94 = .ok (.iload 4, 2) := by decide +kernel
theorem dX11_count_96 : decode cX11_count 96 = .ok (.iaload, 1) := by decide +kernel
theorem dX11_count_97 : decode cX11_count 97 = .ok (.ifCond .lt 7, 3) := by decide +kernel
theorem dX11_count_100 : decode cX11_count 100 = .ok (.lconst 1, 1) := by decide +kernel
theorem dX11_count_101 : decode cX11_count 101 = .ok (.goto 4, 3) := by decide +kernel
theorem dX11_count_104 : decode cX11_count 104 = .ok (.lconst 0, 1) := by decide +kernel
theorem dX11_count_105 : decode cX11_count 105 = .ok (.ladd, 1) := by decide +kernel
theorem dX11_count_106 : decode cX11_count 106 = .ok (.lstore_n 2, 1) := by decide +kernel
theorem dX11_count_107 : decode cX11_count 107 = .ok (.iinc 4 1, 3) := by decide +kernel
theorem dX11_count_110 : decode cX11_count 110 = .ok (.goto (-27), 3) := by decide +kernel
theorem dX11_count_113 : decode cX11_count 113 = .ok (.lload_n 2, 1) := by decide +kernel
theorem dX11_count_114 : decode cX11_count 114 = .ok (.lreturn, 1) := by decide +kernel
theorem dX11_count_115 : decode cX11_count 115 = .ok (.aload_n 0, 1) := by decide +kernel
theorem dX11_count_116 : decode cX11_count 116 = .ok (.getfield 336, 3) := by decide +kernel
theorem dX11_count_119 : decode cX11_count 119 = .ok (.i2l, 1) := by decide +kernel
theorem dX11_count_120 : decode cX11_count 120 = .ok (.lreturn, 1) := by decide +kernel
theorem dX11_count_121 : decode cX11_count 121 = .ok (.iconst 0, 1) := by decide +kernel
theorem dX11_count_122 : decode cX11_count 122 = .ok (.istore 4, 2) := by decide +kernel
theorem dX11_count_124 : decode cX11_count 124 = .ok (.iconst 0, 1) := by decide +kernel
theorem dX11_count_125 : decode cX11_count 125 = .ok (.istore 5, 2) := by decide +kernel
theorem dX11_count_127 : decode cX11_count 127 = .ok (.iload 5, 2) := by decide +kernel
theorem dX11_count_129 : decode cX11_count 129 = .ok (.aload_n 0, 1) := by decide +kernel
theorem dX11_count_130 : decode cX11_count 130 = .ok (.getfield 159, 3) := by decide +kernel
theorem dX11_count_133 : decode cX11_count 133 = .ok (.if_icmp .ge 33, 3) := by decide +kernel
theorem dX11_count_136 : decode cX11_count 136 = .ok (.iload 4, 2) := by decide +kernel
theorem dX11_count_138 : decode cX11_count 138 = .ok (.iconst 1, 1) := by decide +kernel
theorem dX11_count_139 : decode cX11_count 139 = .ok (.aload_n 0, 1) := by decide +kernel
theorem dX11_count_140 : decode cX11_count 140 = .ok (.getfield 16, 3) := by decide +kernel
theorem dX11_count_143 : decode cX11_count 143 = .ok (.iload 5, 2) := by decide +kernel
theorem dX11_count_145 : decode cX11_count 145 = .ok (.iaload, 1) := by decide +kernel
theorem dX11_count_146 : decode cX11_count 146 = .ok (.ishl, 1) := by decide +kernel
theorem dX11_count_147 : decode cX11_count 147 = .ok (.iconst 1, 1) := by decide +kernel
theorem dX11_count_148 : decode cX11_count 148 = .ok (.aload_n 0, 1) := by decide +kernel
theorem dX11_count_149 : decode cX11_count 149 = .ok (.getfield 19, 3) := by decide +kernel
theorem dX11_count_152 : decode cX11_count 152 = .ok (.iload 5, 2) := by decide +kernel
theorem dX11_count_154 : decode cX11_count 154 = .ok (.iaload, 1) := by decide +kernel
theorem dX11_count_155 : decode cX11_count 155 = .ok (.ishl, 1) := by decide +kernel
theorem dX11_count_156 : decode cX11_count 156 = .ok (.ior, 1) := by decide +kernel
theorem dX11_count_157 : decode cX11_count 157 = .ok (.ior, 1) := by decide +kernel
theorem dX11_count_158 : decode cX11_count 158 = .ok (.istore 4, 2) := by decide +kernel
theorem dX11_count_160 : decode cX11_count 160 = .ok (.iinc 5 1, 3) := by decide +kernel
theorem dX11_count_163 : decode cX11_count 163 = .ok (.goto (-36), 3) := by decide +kernel
theorem dX11_count_166 : decode cX11_count 166 = .ok (.iconst 0, 1) := by decide +kernel
theorem dX11_count_167 : decode cX11_count 167 = .ok (.istore 5, 2) := by decide +kernel
theorem dX11_count_169 : decode cX11_count 169 = .ok (.iload 5, 2) := by decide +kernel
theorem dX11_count_171 : decode cX11_count 171 = .ok (.bipush 10, 2) := by decide +kernel
theorem dX11_count_173 : decode cX11_count 173 = .ok (.if_icmp .ge 20, 3) := by decide +kernel
theorem dX11_count_176 : decode cX11_count 176 = .ok (.lload_n 2, 1) := by decide +kernel
theorem dX11_count_177 : decode cX11_count 177 = .ok (.iload 4, 2) := by decide +kernel
theorem dX11_count_179 : decode cX11_count 179 = .ok (.iload 5, 2) := by decide +kernel
theorem dX11_count_181 : decode cX11_count 181 = .ok (.ishr, 1) := by decide +kernel
theorem dX11_count_182 : decode cX11_count 182 = .ok (.iconst 1, 1) := by decide +kernel
theorem dX11_count_183 : decode cX11_count 183 = .ok (.iand, 1) := by decide +kernel
theorem dX11_count_184 : decode cX11_count 184 = .ok (.i2l, 1) := by decide +kernel
theorem dX11_count_185 : decode cX11_count 185 = .ok (.ladd, 1) := by decide +kernel
theorem dX11_count_186 : decode cX11_count 186 = .ok (.lstore_n 2, 1) := by decide +kernel
theorem dX11_count_187 : decode cX11_count 187 = .ok (.iinc 5 1, 3) := by decide +kernel
theorem dX11_count_190 : decode cX11_count 190 = .ok (.goto (-21), 3) := by decide +kernel
theorem dX11_count_193 : decode cX11_count 193 = .ok (.lload_n 2, 1) := by decide +kernel
theorem dX11_count_194 : decode cX11_count 194 = .ok (.lreturn, 1) := by decide +kernel
theorem dX11_count_195 : decode cX11_count 195 = .ok (.ldc2_w 149, 3) := by decide +kernel
theorem dX11_count_198 : decode cX11_count 198 = .ok (.lreturn, 1) := by decide +kernel
theorem dJ6_bitCount_0f7a4_0 : decode cJ6_bitCount_0f7a4 0 = .ok (.iload_n 0, 1) := by decide +kernel
theorem dJ6_bitCount_0f7a4_1 : decode cJ6_bitCount_0f7a4 1 = .ok (.iload_n 0, 1) := by decide +kernel
theorem dJ6_bitCount_0f7a4_2 : decode cJ6_bitCount_0f7a4 2 = .ok (.iconst 1, 1) := by decide +kernel
theorem dJ6_bitCount_0f7a4_3 : decode cJ6_bitCount_0f7a4 3 = .ok (.iushr, 1) := by decide +kernel
theorem dJ6_bitCount_0f7a4_4 : decode cJ6_bitCount_0f7a4 4 = .ok (.ldc_w 265, 3) := by decide +kernel
theorem dJ6_bitCount_0f7a4_7 : decode cJ6_bitCount_0f7a4 7 = .ok (.iand, 1) := by decide +kernel
theorem dJ6_bitCount_0f7a4_8 : decode cJ6_bitCount_0f7a4 8 = .ok (.isub, 1) := by decide +kernel
theorem dJ6_bitCount_0f7a4_9 : decode cJ6_bitCount_0f7a4 9 = .ok (.istore_n 0, 1) := by decide +kernel
theorem dJ6_bitCount_0f7a4_10 : decode cJ6_bitCount_0f7a4 10 = .ok (.iload_n 0, 1) := by decide +kernel
theorem dJ6_bitCount_0f7a4_11 : decode cJ6_bitCount_0f7a4 11 = .ok (.ldc_w 266, 3) := by decide +kernel
theorem dJ6_bitCount_0f7a4_14 : decode cJ6_bitCount_0f7a4 14 = .ok (.iand, 1) := by decide +kernel
theorem dJ6_bitCount_0f7a4_15 : decode cJ6_bitCount_0f7a4 15 = .ok (.iload_n 0, 1) := by decide +kernel
theorem dJ6_bitCount_0f7a4_16 : decode cJ6_bitCount_0f7a4 16 = .ok (.iconst 2, 1) := by decide +kernel
theorem dJ6_bitCount_0f7a4_17 : decode cJ6_bitCount_0f7a4 17 = .ok (.iushr, 1) := by decide +kernel
theorem dJ6_bitCount_0f7a4_18 : decode cJ6_bitCount_0f7a4 18 = .ok (.ldc_w 266, 3) := by decide +kernel
theorem dJ6_bitCount_0f7a4_21 : decode cJ6_bitCount_0f7a4 21 = .ok (.iand, 1) := by decide +kernel
theorem dJ6_bitCount_0f7a4_22 : decode cJ6_bitCount_0f7a4 22 = .ok (.iadd, 1) := by decide +kernel
theorem dJ6_bitCount_0f7a4_23 : decode cJ6_bitCount_0f7a4 23 = .ok (.istore_n 0, 1) := by decide +kernel
theorem dJ6_bitCount_0f7a4_24 : decode cJ6_bitCount_0f7a4 24 = .ok (.iload_n 0, 1) := by decide +kernel
theorem dJ6_bitCount_0f7a4_25 : decode cJ6_bitCount_0f7a4 25 = .ok (.iload_n 0, 1) := by decide +kernel
theorem dJ6_bitCount_0f7a4_26 : decode cJ6_bitCount_0f7a4 26 = .ok (.iconst 4, 1) := by decide +kernel
theorem dJ6_bitCount_0f7a4_27 : decode cJ6_bitCount_0f7a4 27 = .ok (.iushr, 1) := by decide +kernel
theorem dJ6_bitCount_0f7a4_28 : decode cJ6_bitCount_0f7a4 28 = .ok (.iadd, 1) := by decide +kernel
theorem dJ6_bitCount_0f7a4_29 : decode cJ6_bitCount_0f7a4 29 = .ok (.ldc_w 267, 3) := by decide +kernel
theorem dJ6_bitCount_0f7a4_32 : decode cJ6_bitCount_0f7a4 32 = .ok (.iand, 1) := by decide +kernel
theorem dJ6_bitCount_0f7a4_33 : decode cJ6_bitCount_0f7a4 33 = .ok (.istore_n 0, 1) := by decide +kernel
theorem dJ6_bitCount_0f7a4_34 : decode cJ6_bitCount_0f7a4 34 = .ok (.iload_n 0, 1) := by decide +kernel
theorem dJ6_bitCount_0f7a4_35 : decode cJ6_bitCount_0f7a4 35 = .ok (.iload_n 0, 1) := by decide +kernel
theorem dJ6_bitCount_0f7a4_36 : decode cJ6_bitCount_0f7a4 36 = .ok (.bipush 8, 2) := by decide +kernel
theorem dJ6_bitCount_0f7a4_38 : decode cJ6_bitCount_0f7a4 38 = .ok (.iushr, 1) := by decide +kernel
theorem dJ6_bitCount_0f7a4_39 : decode cJ6_bitCount_0f7a4 39 = .ok (.iadd, 1) := by decide +kernel
theorem dJ6_bitCount_0f7a4_40 : decode cJ6_bitCount_0f7a4 40 = .ok (.istore_n 0, 1) := by decide +kernel
theorem dJ6_bitCount_0f7a4_41 : decode cJ6_bitCount_0f7a4 41 = .ok (.iload_n 0, 1) := by decide +kernel
theorem dJ6_bitCount_0f7a4_42 : decode cJ6_bitCount_0f7a4 42 = .ok (.iload_n 0, 1) := by decide +kernel
theorem dJ6_bitCount_0f7a4_43 : decode cJ6_bitCount_0f7a4 43 = .ok (.bipush 16, 2) := by decide +kernel
theorem dJ6_bitCount_0f7a4_45 : decode cJ6_bitCount_0f7a4 45 = .ok (.iushr, 1) := by decide +kernel
theorem dJ6_bitCount_0f7a4_46 : decode cJ6_bitCount_0f7a4 46 = .ok (.iadd, 1) := by decide +kernel
theorem dJ6_bitCount_0f7a4_47 : decode cJ6_bitCount_0f7a4 47 = .ok (.istore_n 0, 1) := by decide +kernel
theorem dJ6_bitCount_0f7a4_48 : decode cJ6_bitCount_0f7a4 48 = .ok (.iload_n 0, 1) := by decide +kernel
theorem dJ6_bitCount_0f7a4_49 : decode cJ6_bitCount_0f7a4 49 = .ok (.bipush 63, 2) := by decide +kernel
theorem dJ6_bitCount_0f7a4_51 : decode cJ6_bitCount_0f7a4 51 = .ok (.iand, 1) := by decide +kernel
theorem dJ6_bitCount_0f7a4_52 : decode cJ6_bitCount_0f7a4 52 = .ok (.ireturn, 1) := by decide +kernel
theorem dJ13_bitCount_95d88_0 : decode cJ13_bitCount_95d88 0 = .ok (.lload_n 0, 1) := by decide +kernel
theorem dJ13_bitCount_95d88_1 : decode cJ13_bitCount_95d88 1 = .ok (.lload_n 0, 1) := by decide +kernel
theorem dJ13_bitCount_95d88_2 : decode cJ13_bitCount_95d88 2 = .ok (.iconst 1, 1) := by decide +kernel
theorem dJ13_bitCount_95d88_3 : decode cJ13_bitCount_95d88 3 = .ok (.lushr, 1) := by decide +kernel
theorem dJ13_bitCount_95d88_4 : decode cJ13_bitCount_95d88 4 = .ok (.ldc2_w 314, 3) := by decide +kernel
theorem dJ13_bitCount_95d88_7 : decode cJ13_bitCount_95d88 7 = .ok (.land, 1) := by decide +kernel
theorem dJ13_bitCount_95d88_8 : decode cJ13_bitCount_95d88 8 = .ok (.lsub, 1) := by decide +kernel
theorem dJ13_bitCount_95d88_9 : decode cJ13_bitCount_95d88 9 = .ok (.lstore_n 0, 1) := by decide +kernel
theorem dJ13_bitCount_95d88_10 : decode cJ13_bitCount_95d88 10 = .ok (.lload_n 0, 1) := by decide +kernel
theorem dJ13_bitCount_95d88_11 : decode cJ13_bitCount_95d88 11 = .ok (.ldc2_w 316, 3) := by decide +kernel
theorem dJ13_bitCount_95d88_14 : decode cJ13_bitCount_95d88 14 = .ok (.land, 1) := by decide +kernel
theorem dJ13_bitCount_95d88_15 : decode cJ13_bitCount_95d88 15 = .ok (.lload_n 0, 1) := by decide +kernel
theorem dJ13_bitCount_95d88_16 : decode cJ13_bitCount_95d88 16 = .ok (.iconst 2, 1) := by decide +kernel
theorem dJ13_bitCount_95d88_17 : decode cJ13_bitCount_95d88 17 = .ok (.lushr, 1) := by decide +kernel
theorem dJ13_bitCount_95d88_18 : decode cJ13_bitCount_95d88 18 = .ok (.ldc2_w 316, 3) := by decide +kernel
theorem dJ13_bitCount_95d88_21 : decode cJ13_bitCount_95d88 21 = .ok (.land, 1) := by decide +kernel
theorem dJ13_bitCount_95d88_22 : decode cJ13_bitCount_95d88 22 = .ok (.ladd, 1) := by decide +kernel
theorem dJ13_bitCount_95d88_23 : decode cJ13_bitCount_95d88 23 = .ok (.lstore_n 0, 1) := by decide +kernel
theorem dJ13_bitCount_95d88_24 : decode cJ13_bitCount_95d88 24 = .ok (.lload_n 0, 1) := by decide +kernel
theorem dJ13_bitCount_95d88_25 : decode cJ13_bitCount_95d88 25 = .ok (.lload_n 0, 1) := by decide +kernel
theorem dJ13_bitCount_95d88_26 : decode cJ13_bitCount_95d88 26 = .ok (.iconst 4, 1) := by decide +kernel
theorem dJ13_bitCount_95d88_27 : decode cJ13_bitCount_95d88 27 = .ok (.lushr, 1) := by decide +kernel
theorem dJ13_bitCount_95d88_28 : decode cJ13_bitCount_95d88 28 = .ok (.ladd, 1) := by decide +kernel
theorem dJ13_bitCount_95d88_29 : decode cJ13_bitCount_95d88 29 = .ok (.ldc2_w 318, 3) := by decide +kernel
theorem dJ13_bitCount_95d88_32 : decode cJ13_bitCount_95d88 32 = .ok (.land, 1) := by decide +kernel
theorem dJ13_bitCount_95d88_33 : decode cJ13_bitCount_95d88 33 = .ok (.lstore_n 0, 1) := by decide +kernel
theorem dJ13_bitCount_95d88_34 : decode cJ13_bitCount_95d88 34 = .ok (.lload_n 0, 1) := by decide +kernel
theorem dJ13_bitCount_95d88_35 : decode cJ13_bitCount_95d88 35 = .ok (.lload_n 0, 1) := by decide +kernel
theorem dJ13_bitCount_95d88_36 : decode cJ13_bitCount_95d88 36 = .ok (.bipush 8, 2) := by decide +kernel
theorem dJ13_bitCount_95d88_38 : decode cJ13_bitCount_95d88 38 = .ok (.lushr, 1) := by decide +kernel
theorem dJ13_bitCount_95d88_39 : decode cJ13_bitCount_95d88 39 = .ok (.ladd, 1) := by decide +kernel
theorem dJ13_bitCount_95d88_40 : decode cJ13_bitCount_95d88 40 = .ok (.lstore_n 0, 1) := by decide +kernel
theorem dJ13_bitCount_95d88_41 : decode cJ13_bitCount_95d88 41 = .ok (.lload_n 0, 1) := by decide +kernel
theorem dJ13_bitCount_95d88_42 : decode cJ13_bitCount_95d88 42 = .ok (.lload_n 0, 1) := by decide +kernel
theorem dJ13_bitCount_95d88_43 : decode cJ13_bitCount_95d88 43 = .ok (.bipush 16, 2) := by decide +kernel
theorem dJ13_bitCount_95d88_45 : decode cJ13_bitCount_95d88 45 = .ok (.lushr, 1) := by decide +kernel
theorem dJ13_bitCount_95d88_46 : decode cJ13_bitCount_95d88 46 = .ok (.ladd, 1) := by decide +kernel
theorem dJ13_bitCount_95d88_47 : decode cJ13_bitCount_95d88 47 = .ok (.lstore_n 0, 1) := by decide +kernel
theorem dJ13_bitCount_95d88_48 : decode cJ13_bitCount_95d88 48 = .ok (.lload_n 0, 1) := by decide +kernel
theorem dJ13_bitCount_95d88_49 : decode cJ13_bitCount_95d88 49 = .ok (.lload_n 0, 1) := by decide +kernel
theorem dJ13_bitCount_95d88_50 : decode cJ13_bitCount_95d88 50 = .ok (.bipush 32, 2) := by decide +kernel
theorem dJ13_bitCount_95d88_52 : decode cJ13_bitCount_95d88 52 = .ok (.lushr, 1) := by decide +kernel
theorem dJ13_bitCount_95d88_53 : decode cJ13_bitCount_95d88 53 = .ok (.ladd, 1) := by decide +kernel
theorem dJ13_bitCount_95d88_54 : decode cJ13_bitCount_95d88 54 = .ok (.lstore_n 0, 1) := by decide +kernel
theorem dJ13_bitCount_95d88_55 : decode cJ13_bitCount_95d88 55 = .ok (.lload_n 0, 1) := by decide +kernel
theorem dJ13_bitCount_95d88_56 : decode cJ13_bitCount_95d88 56 = .ok (.l2i, 1) := by decide +kernel
theorem dJ13_bitCount_95d88_57 : decode cJ13_bitCount_95d88 57 = .ok (.bipush 127, 2) := by decide +kernel
theorem dJ13_bitCount_95d88_59 : decode cJ13_bitCount_95d88 59 = .ok (.iand, 1) := by decide +kernel
theorem dJ13_bitCount_95d88_60 : decode cJ13_bitCount_95d88 60 = .ok (.ireturn, 1) := by decide +kernel
theorem dJ9_floorDiv_f86c9_0 : decode cJ9_floorDiv_f86c9 0 = .ok (.lload_n 0, 1) := by decide +kernel
theorem dJ9_floorDiv_f86c9_1 : decode cJ9_floorDiv_f86c9 1 = .ok (.lload_n 2, 1) := by decide +kernel
theorem dJ9_floorDiv_f86c9_2 : decode cJ9_floorDiv_f86c9 2 = .ok (.ldiv, 1) := by decide +kernel
theorem dJ9_floorDiv_f86c9_3 : decode cJ9_floorDiv_f86c9 3 = .ok (.lstore 4, 2) := by decide +kernel
theorem dJ9_floorDiv_f86c9_5 : decode cJ9_floorDiv_f86c9 5 = .ok (.lload_n 0, 1) := by decide +kernel
theorem dJ9_floorDiv_f86c9_6 : decode cJ9_floorDiv_f86c9 6 = .ok (.lload_n 2, 1) := by decide +kernel
theorem dJ9_floorDiv_f86c9_7 : decode cJ9_floorDiv_f86c9 7 = .ok (.lxor, 1) := by decide +kernel
theorem dJ9_floorDiv_f86c9_8 : decode cJ9_floorDiv_f86c9 8 = .ok (.lconst 0, 1) := by decide +kernel
theorem dJ9_floorDiv_f86c9_9 : decode cJ9_floorDiv_f86c9 9 = .ok (.lcmp, 1) := by decide +kernel
theorem dJ9_floorDiv_f86c9_10 : decode cJ9_floorDiv_f86c9 10 = .ok (.ifCond .ge 17, 3) := by decide +kernel
theorem dJ9_floorDiv_f86c9_13 : decode cJ9_floorDiv_f86c9 13 = .ok (.lload 4, 2) := by decide +kernel
theorem dJ9_floorDiv_f86c9_15 : decode cJ9_floorDiv_f86c9 15 = .ok (.lload_n 2, 1) := by decide +kernel
theorem dJ9_floorDiv_f86c9_16 : decode cJ9_floorDiv_f86c9 16 = .ok (.lmul, 1) := by decide +kernel
theorem dJ9_floorDiv_f86c9_17 : decode cJ9_floorDiv_f86c9 17 = .ok (.lload_n 0, 1) := by decide +kernel
theorem dJ9_floorDiv_f86c9_18 : decode cJ9_floorDiv_f86c9 18 = .ok (.lcmp, 1) := by decide +kernel
theorem dJ9_floorDiv_f86c9_19 : decode cJ9_floorDiv_f86c9 19 = .ok (.ifCond .eq 8, 3) := by decide +kernel
theorem dJ9_floorDiv_f86c9_22 : decode cJ9_floorDiv_f86c9 22 = .ok (.lload 4, 2) := by decide +kernel
theorem dJ9_floorDiv_f86c9_24 : decode cJ9_floorDiv_f86c9 24 = .ok (.lconst 1, 1) := by decide +kernel
theorem dJ9_floorDiv_f86c9_25 : decode cJ9_floorDiv_f86c9 25 = .ok (.lsub, 1) := by decide +kernel
theorem dJ9_floorDiv_f86c9_26 : decode cJ9_floorDiv_f86c9 26 = .ok (.lreturn, 1) := by decide +kernel
theorem dJ9_floorDiv_f86c9_27 : decode cJ9_floorDiv_f86c9 27 = .ok (.lload 4, 2) := by decide +kernel
theorem dJ9_floorDiv_f86c9_29 : decode cJ9_floorDiv_f86c9 29 = .ok (.lreturn, 1) := by decide +kernel
theorem dJ9_abs_067f4_0 : decode cJ9_abs_067f4 0 = .ok (.lload_n 0, 1) := by decide +kernel
theorem dJ9_abs_067f4_1 : decode cJ9_abs_067f4 1 = .ok (.lconst 0, 1) := by decide +kernel
theorem dJ9_abs_067f4_2 : decode cJ9_abs_067f4 2 = .ok (.lcmp, 1) := by decide +kernel
theorem dJ9_abs_067f4_3 : decode cJ9_abs_067f4 3 = .ok (.ifCond .ge 8, 3) := by decide +kernel
theorem dJ9_abs_067f4_6 : decode cJ9_abs_067f4 6 = .ok (.lload_n 0, 1) := by decide +kernel
theorem dJ9_abs_067f4_7 : decode cJ9_abs_067f4 7 = .ok (.lneg, 1) := by decide +kernel
theorem dJ9_abs_067f4_8 : decode cJ9_abs_067f4 8 = .ok (.goto 4, 3) := by decide +kernel
theorem dJ9_abs_067f4_11 : decode cJ9_abs_067f4 11 = .ok (.lload_n 0, 1) := by decide +kernel
theorem dJ9_abs_067f4_12 : decode cJ9_abs_067f4 12 = .ok (.lreturn, 1) := by decide +kernel
theorem dJ9_max_f86c9_0 : decode cJ9_max_f86c9 0 = .ok (.lload_n 0, 1) := by decide +kernel
theorem dJ9_max_f86c9_1 : decode cJ9_max_f86c9 1 = .ok (.lload_n 2, 1) := by decide +kernel
theorem dJ9_max_f86c9_2 : decode cJ9_max_f86c9 2 = .ok (.lcmp, 1) := by decide +kernel
theorem dJ9_max_f86c9_3 : decode cJ9_max_f86c9 3 = .ok (.ifCond .lt 7, 3) := by decide +kernel
theorem dJ9_max_f86c9_6 : decode cJ9_max_f86c9 6 = .ok (.lload_n 0, 1) := by decide +kernel
theorem dJ9_max_f86c9_7 : decode cJ9_max_f86c9 7 = .ok (.goto 4, 3) := by decide +kernel
theorem dJ9_max_f86c9_10 : decode cJ9_max_f86c9 10 = .ok (.lload_n 2, 1) := by decide +kernel
theorem dJ9_max_f86c9_11 : decode cJ9_max_f86c9 11 = .ok (.lreturn, 1) := by decide +kernel
theorem dJ7_fill_53178_0 : decode cJ7_fill_53178 0 = .ok (.iconst 0, 1) := by decide +kernel
theorem dJ7_fill_53178_1 : decode cJ7_fill_53178 1 = .ok (.istore_n 2, 1) := by decide +kernel
theorem dJ7_fill_53178_2 : decode cJ7_fill_53178 2 = .ok (.aload_n 0, 1) := by decide +kernel
theorem dJ7_fill_53178_3 : decode cJ7_fill_53178 3 = .ok (.arraylength, 1) := by decide +kernel
theorem dJ7_fill_53178_4 : decode cJ7_fill_53178 4 = .ok (.istore_n 3, 1) := by decide +kernel
theorem dJ7_fill_53178_5 : decode cJ7_fill_53178 5 = .ok (.iload_n 2, 1) := by decide +kernel
theorem dJ7_fill_53178_6 : decode cJ7_fill_53178 6 = .ok (.iload_n 3, 1) := by decide +kernel
theorem dJ7_fill_53178_7 : decode cJ7_fill_53178 7 = .ok (.if_icmp .ge 13, 3) := by decide +kernel
theorem dJ7_fill_53178_10 : decode cJ7_fill_53178 10 = .ok (.aload_n 0, 1) := by decide +kernel
theorem dJ7_fill_53178_11 : decode cJ7_fill_53178 11 = .ok (.iload_n 2, 1) := by decide +kernel
theorem dJ7_fill_53178_12 : decode cJ7_fill_53178 12 = .ok (.iload_n 1, 1) := by decide +kernel
theorem dJ7_fill_53178_13 : decode cJ7_fill_53178 13 = .ok (.iastore, 1) := by decide +kernel
theorem dJ7_fill_53178_14 : decode cJ7_fill_53178 14 = .ok (.iinc 2 1, 3) := by decide +kernel
theorem dJ7_fill_53178_17 : decode cJ7_fill_53178 17 = .ok (.goto (-12), 3) := by decide +kernel
theorem dJ7_fill_53178_20 : decode cJ7_fill_53178 20 = .ok (.return_, 1) := by decide +kernel
theorem dL_law_0 : decode cL_law 0 = .ok (.new 7, 3) := by decide +kernel
theorem dL_law_3 : decode cL_law 3 = .ok (.dup, 1) := by decide +kernel
theorem dL_law_4 : decode cL_law 4 = .ok (.invokespecial 9, 3) := by decide +kernel
theorem dL_law_7 : decode cL_law 7 = .ok (.astore_n 1, 1) := by decide +kernel
theorem dL_law_8 : decode cL_law 8 = .ok (.new 10, 3) := by decide +kernel
theorem dL_law_11 : decode cL_law 11 = .ok (.dup, 1) := by decide +kernel
theorem dL_law_12 : decode cL_law 12 = .ok (.invokespecial 12, 3) := by decide +kernel
theorem dL_law_15 : decode cL_law 15 = .ok (.astore_n 2, 1) := by decide +kernel
theorem dL_law_16 : decode cL_law 16 = .ok (.iconst 0, 1) := by decide +kernel
theorem dL_law_17 : decode cL_law 17 = .ok (.istore_n 3, 1) := by decide +kernel
theorem dL_law_18 : decode cL_law 18 = .ok (.iload_n 3, 1) := by decide +kernel
theorem dL_law_19 : decode cL_law 19 = .ok (.aload_n 0, 1) := by decide +kernel
theorem dL_law_20 : decode cL_law 20 = .ok (.arraylength, 1) := by decide +kernel
theorem dL_law_21 : decode cL_law 21 = .ok (.iconst 5, 1) := by decide +kernel
theorem dL_law_22 : decode cL_law 22 = .ok (.isub, 1) := by decide +kernel
theorem dL_law_23 : decode cL_law 23 = .ok (.if_icmp .gt 1313, 3) := by decide +kernel
theorem dL_law_26 : decode cL_law 26 = .ok (.aload_n 0, 1) := by decide +kernel
theorem dL_law_27 : decode cL_law 27 = .ok (.iload_n 3, 1) := by decide +kernel
theorem dL_law_28 : decode cL_law 28 = .ok (.iaload, 1) := by decide +kernel
theorem dL_law_29 : decode cL_law 29 = .ok (.bipush 31, 2) := by decide +kernel
theorem dL_law_31 : decode cL_law 31 = .ok (.iand, 1) := by decide +kernel
theorem dL_law_32 : decode cL_law 32 = .ok (.tableswitch 1298 0 28 #[132, 166, 200, 254, 308, 352, 386, 400, 434, 468, 512, 556, 590, 644, 698, 752, 786, 810, 834, 868, 912, 956, 1030, 1094, 1148, 1182, 1196, 1240, 1274], 132) := by decide +kernel
theorem dL_law_164 : decode cL_law 164 = .ok (.aload_n 1, 1) := by decide +kernel
theorem dL_law_165 : decode cL_law 165 = .ok (.aload_n 0, 1) := by decide +kernel
theorem dL_law_166 : decode cL_law 166 = .ok (.iload_n 3, 1) := by decide +kernel
theorem dL_law_167 : decode cL_law 167 = .ok (.iconst 1, 1) := by decide +kernel
theorem dL_law_168 : decode cL_law 168 = .ok (.iadd, 1) := by decide +kernel
theorem dL_law_169 : decode cL_law 169 = .ok (.iaload, 1) := by decide +kernel
theorem dL_law_170 : decode cL_law 170 = .ok (.aload_n 0, 1) := by decide +kernel
theorem dL_law_171 : decode cL_law 171 = .ok (.iload_n 3, 1) := by decide +kernel
theorem dL_law_172 : decode cL_law 172 = .ok (.iconst 2, 1) := by decide +kernel
theorem dL_law_173 : decode cL_law 173 = .ok (.iadd, 1) := by decide +kernel
theorem dL_law_174 : decode cL_law 174 = .ok (.iaload, 1) := by decide +kernel
theorem dL_law_175 : decode cL_law 175 = .ok (.invokevirtual 13, 3) := by decide +kernel
theorem dL_law_178 : decode cL_law 178 = .ok (.aload_n 2, 1) := by decide +kernel
theorem dL_law_179 : decode cL_law 179 = .ok (.aload_n 0, 1) := by decide +kernel
theorem dL_law_180 : decode cL_law 180 = .ok (.iload_n 3, 1) := by decide +kernel
theorem dL_law_181 : decode cL_law 181 = .ok (.iconst 1, 1) := by decide +kernel
theorem dL_law_182 : decode cL_law 182 = .ok (.iadd, 1) := by decide +kernel
theorem dL_law_183 : decode cL_law 183 = .ok (.iaload, 1) := by decide +kernel
theorem dL_law_184 : decode cL_law 184 = .ok (.aload_n 0, 1) := by decide +kernel
theorem dL_law_185 : decode cL_law 185 = .ok (.iload_n 3, 1) := by decide +kernel
theorem dL_law_186 : decode cL_law 186 = .ok (.iconst 2, 1) := by decide +kernel
theorem dL_law_187 : decode cL_law 187 = .ok (.iadd, 1) := by decide +kernel
theorem dL_law_188 : decode cL_law 188 = .ok (.iaload, 1) := by decide +kernel
theorem dL_law_189 : decode cL_law 189 = .ok (.invokevirtual 17, 3) := by decide +kernel
theorem dL_law_192 : decode cL_law 192 = .ok (.lcmp, 1) := by decide +kernel
theorem dL_law_193 : decode cL_law 193 = .ok (.ifCond .eq 1137, 3) := by decide +kernel
theorem dL_law_196 : decode cL_law 196 = .ok (.iconst 0, 1) := by decide +kernel
theorem dL_law_197 : decode cL_law 197 = .ok (.ireturn, 1) := by decide +kernel
theorem dL_law_198 : decode cL_law 198 = .ok (.aload_n 1, 1) := by decide +kernel
theorem dL_law_199 : decode cL_law 199 = .ok (.aload_n 0, 1) := by decide +kernel
theorem dL_law_200 : decode cL_law 200 = .ok (.iload_n 3, 1) := by decide +kernel
theorem dL_law_201 : decode cL_law 201 = .ok (.iconst 1, 1) := by decide +kernel
theorem dL_law_202 : decode cL_law 202 = .ok (.iadd, 1) := by decide +kernel
theorem dL_law_203 : decode cL_law 203 = .ok (.iaload, 1) := by decide +kernel
theorem dL_law_204 : decode cL_law 204 = .ok (.aload_n 0, 1) := by decide +kernel
theorem dL_law_205 : decode cL_law 205 = .ok (.iload_n 3, 1) := by decide +kernel
theorem dL_law_206 : decode cL_law 206 = .ok (.iconst 2, 1) := by decide +kernel
theorem dL_law_207 : decode cL_law 207 = .ok (.iadd, 1) := by decide +kernel
theorem dL_law_208 : decode cL_law 208 = .ok (.iaload, 1) := by decide +kernel
theorem dL_law_209 : decode cL_law 209 = .ok (.invokevirtual 18, 3) := by decide +kernel
theorem dL_law_212 : decode cL_law 212 = .ok (.aload_n 2, 1) := by decide +kernel
theorem dL_law_213 : decode cL_law 213 = .ok (.aload_n 0, 1) := by decide +kernel
theorem dL_law_214 : decode cL_law 214 = .ok (.iload_n 3, 1) := by decide +kernel
theorem dL_law_215 : decode cL_law 215 = .ok (.iconst 1, 1) := by decide +kernel
theorem dL_law_216 : decode cL_law 216 = .ok (.iadd, 1) := by decide +kernel
theorem dL_law_217 : decode cL_law 217 = .ok (.iaload, 1) := by decide +kernel
theorem dL_law_218 : decode cL_law 218 = .ok (.aload_n 0, 1) := by decide +kernel
theorem dL_law_219 : decode cL_law 219 = .ok (.iload_n 3, 1) := by decide +kernel
theorem dL_law_220 : decode cL_law 220 = .ok (.iconst 2, 1) := by decide +kernel
theorem dL_law_221 : decode cL_law 221 = .ok (.iadd, 1) := by decide +kernel
theorem dL_law_222 : decode cL_law 222 = .ok (.iaload, 1) := by decide +kernel
theorem dL_law_223 : decode cL_law 223 = .ok (.invokevirtual 21, 3) := by decide +kernel
theorem dL_law_226 : decode cL_law 226 = .ok (.lcmp, 1) := by decide +kernel
theorem dL_law_227 : decode cL_law 227 = .ok (.ifCond .eq 1103, 3) := by decide +kernel
theorem dL_law_230 : decode cL_law 230 = .ok (.iconst 0, 1) := by decide +kernel
theorem dL_law_231 : decode cL_law 231 = .ok (.ireturn, 1) := by decide +kernel
theorem dL_law_232 : decode cL_law 232 = .ok (.aload_n 1, 1) := by decide +kernel
theorem dL_law_233 : decode cL_law 233 = .ok (.aload_n 0, 1) := by decide +kernel
theorem dL_law_234 : decode cL_law 234 = .ok (.iload_n 3, 1) := by decide +kernel
theorem dL_law_235 : decode cL_law 235 = .ok (.iconst 1, 1) := by decide +kernel
theorem dL_law_236 : decode cL_law 236 = .ok (.iadd, 1) := by decide +kernel
theorem dL_law_237 : decode cL_law 237 = .ok (.iaload, 1) := by decide +kernel
theorem dL_law_238 : decode cL_law 238 = .ok (.aload_n 0, 1) := by decide +kernel
theorem dL_law_239 : decode cL_law 239 = .ok (.iload_n 3, 1) := by decide +kernel
theorem dL_law_240 : decode cL_law 240 = .ok (.iconst 2, 1) := by decide +kernel
theorem dL_law_241 : decode cL_law 241 = .ok (.iadd, 1) := by decide +kernel
theorem dL_law_242 : decode cL_law 242 = .ok (.iaload, 1) := by decide +kernel
theorem dL_law_243 : decode cL_law 243 = .ok (.aload_n 0, 1) := by decide +kernel
theorem dL_law_244 : decode cL_law 244 = .ok (.iload_n 3, 1) := by decide +kernel
theorem dL_law_245 : decode cL_law 245 = .ok (.iconst 3, 1) := by decide +kernel
theorem dL_law_246 : decode cL_law 246 = .ok (.iadd, 1) := by decide +kernel
theorem dL_law_247 : decode cL_law 247 = .ok (.iaload, 1) := by decide +kernel
theorem dL_law_248 : decode cL_law 248 = .ok (.aload_n 0, 1) := by decide +kernel
theorem dL_law_249 : decode cL_law 249 = .ok (.iload_n 3, 1) := by decide +kernel
theorem dL_law_250 : decode cL_law 250 = .ok (.iconst 4, 1) := by decide +kernel
theorem dL_law_251 : decode cL_law 251 = .ok (.iadd, 1) := by decide +kernel
theorem dL_law_252 : decode cL_law 252 = .ok (.iaload, 1) := by decide +kernel
theorem dL_law_253 : decode cL_law 253 = .ok (.invokevirtual 22, 3) := by decide +kernel
theorem dL_law_256 : decode cL_law 256 = .ok (.aload_n 2, 1) := by decide +kernel
theorem dL_law_257 : decode cL_law 257 = .ok (.aload_n 0, 1) := by decide +kernel
theorem dL_law_258 : decode cL_law 258 = .ok (.iload_n 3, 1) := by decide +kernel
theorem dL_law_259 : decode cL_law 259 = .ok (.iconst 1, 1) := by decide +kernel
theorem dL_law_260 : decode cL_law 260 = .ok (.iadd, 1) := by decide +kernel
theorem dL_law_261 : decode cL_law 261 = .ok (.iaload, 1) := by decide +kernel
theorem dL_law_262 : decode cL_law 262 = .ok (.aload_n 0, 1) := by decide +kernel
theorem dL_law_263 : decode cL_law 263 = .ok (.iload_n 3, 1) := by decide +kernel
theorem dL_law_264 : decode cL_law 264 = .ok (.iconst 2, 1) := by decide +kernel
theorem dL_law_265 : decode cL_law 265 = .ok (.iadd, 1) := by decide +kernel
theorem dL_law_266 : decode cL_law 266 = .ok (.iaload, 1) := by decide +kernel
theorem dL_law_267 : decode cL_law 267 = .ok (.aload_n 0, 1) := by decide +kernel
theorem dL_law_268 : decode cL_law 268 = .ok (.iload_n 3, 1) := by decide +kernel
theorem dL_law_269 : decode cL_law 269 = .ok (.iconst 3, 1) := by decide +kernel
theorem dL_law_270 : decode cL_law 270 = .ok (.iadd, 1) := by decide +kernel
theorem dL_law_271 : decode cL_law 271 = .ok (.iaload, 1) := by decide +kernel
theorem dL_law_272 : decode cL_law 272 = .ok (.aload_n 0, 1) := by decide +kernel
theorem dL_law_273 : decode cL_law 273 = .ok (.iload_n 3, 1) := by decide +kernel
theorem dL_law_274 : decode cL_law 274 = .ok (.iconst 4, 1) := by decide +kernel
theorem dL_law_275 : decode cL_law 275 = .ok (.iadd, 1) := by decide +kernel
theorem dL_law_276 : decode cL_law 276 = .ok (.iaload, 1) := by decide +kernel
theorem dL_law_277 : decode cL_law 277 = .ok (.invokevirtual 26, 3) := by decide +kernel
theorem dL_law_280 : decode cL_law 280 = .ok (.lcmp, 1) := by decide +kernel
theorem dL_law_281 : decode cL_law 281 = .ok (.ifCond .eq 1049, 3) := by decide +kernel
theorem dL_law_284 : decode cL_law 284 = .ok (.iconst 0, 1) := by decide +kernel
theorem dL_law_285 : decode cL_law 285 = .ok (.ireturn, 1) := by decide +kernel
theorem dL_law_286 : decode cL_law 286 = .ok (.aload_n 1, 1) := by decide +kernel
theorem dL_law_287 : decode cL_law 287 = .ok (.aload_n 0, 1) := by decide +kernel
theorem dL_law_288 : decode cL_law 288 = .ok (.iload_n 3, 1) := by decide +kernel
theorem dL_law_289 : decode cL_law 289 = .ok (.iconst 1, 1) := by decide +kernel
theorem dL_law_290 : decode cL_law 290 = .ok (.iadd, 1) := by decide +kernel
theorem dL_law_291 : decode cL_law 291 = .ok (.iaload, 1) := by decide +kernel
theorem dL_law_292 : decode cL_law 292 = .ok (.aload_n 0, 1) := by decide +kernel
theorem dL_law_293 : decode cL_law 293 = .ok (.iload_n 3, 1) := by decide +kernel
theorem dL_law_294 : decode cL_law 294 = .ok (.iconst 2, 1) := by decide +kernel
theorem dL_law_295 : decode cL_law 295 = .ok (.iadd, 1) := by decide +kernel
theorem dL_law_296 : decode cL_law 296 = .ok (.iaload, 1) := by decide +kernel
theorem dL_law_297 : decode cL_law 297 = .ok (.aload_n 0, 1) := by decide +kernel
theorem dL_law_298 : decode cL_law 298 = .ok (.iload_n 3, 1) := by decide +kernel
theorem dL_law_299 : decode cL_law 299 = .ok (.iconst 3, 1) := by decide +kernel
theorem dL_law_300 : decode cL_law 300 = .ok (.iadd, 1) := by decide +kernel
theorem dL_law_301 : decode cL_law 301 = .ok (.iaload, 1) := by decide +kernel
theorem dL_law_302 : decode cL_law 302 = .ok (.aload_n 0, 1) := by decide +kernel
theorem dL_law_303 : decode cL_law 303 = .ok (.iload_n 3, 1) := by decide +kernel
theorem dL_law_304 : decode cL_law 304 = .ok (.iconst 4, 1) := by decide +kernel
theorem dL_law_305 : decode cL_law 305 = .ok (.iadd, 1) := by decide +kernel
theorem dL_law_306 : decode cL_law 306 = .ok (.iaload, 1) := by decide +kernel
theorem dL_law_307 : decode cL_law 307 = .ok (.invokevirtual 27, 3) := by decide +kernel
theorem dL_law_310 : decode cL_law 310 = .ok (.aload_n 2, 1) := by decide +kernel
theorem dL_law_311 : decode cL_law 311 = .ok (.aload_n 0, 1) := by decide +kernel
theorem dL_law_312 : decode cL_law 312 = .ok (.iload_n 3, 1) := by decide +kernel
theorem dL_law_313 : decode cL_law 313 = .ok (.iconst 1, 1) := by decide +kernel
theorem dL_law_314 : decode cL_law 314 = .ok (.iadd, 1) := by decide +kernel
theorem dL_law_315 : decode cL_law 315 = .ok (.iaload, 1) := by decide +kernel
theorem dL_law_316 : decode cL_law 316 = .ok (.aload_n 0, 1) := by decide +kernel
theorem dL_law_317 : decode cL_law 317 = .ok (.iload_n 3, 1) := by decide +kernel
theorem dL_law_318 : decode cL_law 318 = .ok (.iconst 2, 1) := by decide +kernel
theorem dL_law_319 : decode cL_law 319 = .ok (.iadd, 1) := by decide +kernel
theorem dL_law_320 : decode cL_law 320 = .ok (.iaload, 1) := by decide +kernel
theorem dL_law_321 : decode cL_law 321 = .ok (.aload_n 0, 1) := by decide +kernel
theorem dL_law_322 : decode cL_law 322 = .ok (.iload_n 3, 1) := by decide +kernel
end
section
theorem dL_law_323 : decode cL_law 323 = .ok (.iconst 3, 1) := by decide +kernel
theorem dL_law_324 : decode cL_law 324 = .ok (.iadd, 1) := by decide +kernel
theorem dL_law_325 : decode cL_law 325 = .ok (.iaload, 1) := by decide +kernel
theorem dL_law_326 : decode cL_law 326 = .ok (.aload_n 0, 1) := by decide +kernel
theorem dL_law_327 : decode cL_law 327 = .ok (.iload_n 3, 1) := by decide +kernel
theorem dL_law_328 : decode cL_law 328 = .ok (.iconst 4, 1) := by decide +kernel
theorem dL_law_329 : decode cL_law 329 = .ok (.iadd, 1) := by decide +kernel
theorem dL_law_330 : decode cL_law 330 = .ok (.iaload, 1) := by decide +kernel
theorem dL_law_331 : decode cL_law 331 = .ok (.invokevirtual 30, 3) := by decide +kernel
theorem dL_law_334 : decode cL_law 334 = .ok (.lcmp, 1) := by decide +kernel
theorem dL_law_335 : decode cL_law 335 = .ok (.ifCond .eq 995, 3) := by decide +kernel
theorem dL_law_338 : decode cL_law 338 = .ok (.iconst 0, 1) := by decide +kernel
theorem dL_law_339 : decode cL_law 339 = .ok (.ireturn, 1) := by decide +kernel
theorem dL_law_340 : decode cL_law 340 = .ok (.aload_n 1, 1) := by decide +kernel
theorem dL_law_341 : decode cL_law 341 = .ok (.aload_n 0, 1) := by decide +kernel
theorem dL_law_342 : decode cL_law 342 = .ok (.iload_n 3, 1) := by decide +kernel
theorem dL_law_343 : decode cL_law 343 = .ok (.iconst 1, 1) := by decide +kernel
theorem dL_law_344 : decode cL_law 344 = .ok (.iadd, 1) := by decide +kernel
theorem dL_law_345 : decode cL_law 345 = .ok (.iaload, 1) := by decide +kernel
theorem dL_law_346 : decode cL_law 346 = .ok (.aload_n 0, 1) := by decide +kernel
theorem dL_law_347 : decode cL_law 347 = .ok (.iload_n 3, 1) := by decide +kernel
theorem dL_law_348 : decode cL_law 348 = .ok (.iconst 2, 1) := by decide +kernel
theorem dL_law_349 : decode cL_law 349 = .ok (.iadd, 1) := by decide +kernel
theorem dL_law_350 : decode cL_law 350 = .ok (.iaload, 1) := by decide +kernel
theorem dL_law_351 : decode cL_law 351 = .ok (.aload_n 0, 1) := by decide +kernel
theorem dL_law_352 : decode cL_law 352 = .ok (.iload_n 3, 1) := by decide +kernel
theorem dL_law_353 : decode cL_law 353 = .ok (.iconst 3, 1) := by decide +kernel
theorem dL_law_354 : decode cL_law 354 = .ok (.iadd, 1) := by decide +kernel
theorem dL_law_355 : decode cL_law 355 = .ok (.iaload, 1) := by decide +kernel
theorem dL_law_356 : decode cL_law 356 = .ok (.invokevirtual 31, 3) := by decide +kernel
theorem dL_law_359 : decode cL_law 359 = .ok (.aload_n 2, 1) := by decide +kernel
theorem dL_law_360 : decode cL_law 360 = .ok (.aload_n 0, 1) := by decide +kernel
theorem dL_law_361 : decode cL_law 361 = .ok (.iload_n 3, 1) := by decide +kernel
theorem dL_law_362 : decode cL_law 362 = .ok (.iconst 1, 1) := by decide +kernel
theorem dL_law_363 : decode cL_law 363 = .ok (.iadd, 1) := by decide +kernel
theorem dL_law_364 : decode cL_law 364 = .ok (.iaload, 1) := by decide +kernel
theorem dL_law_365 : decode cL_law 365 = .ok (.aload_n 0, 1) := by decide +kernel
theorem dL_law_366 : decode cL_law 366 = .ok (.iload_n 3, 1) := by decide +kernel
theorem dL_law_367 : decode cL_law 367 = .ok (.iconst 2, 1) := by decide +kernel
theorem dL_law_368 : decode cL_law 368 = .ok (.iadd, 1) := by decide +kernel
theorem dL_law_369 : decode cL_law 369 = .ok (.iaload, 1) := by decide +kernel
theorem dL_law_370 : decode cL_law 370 = .ok (.aload_n 0, 1) := by decide +kernel
theorem dL_law_371 : decode cL_law 371 = .ok (.iload_n 3, 1) := by decide +kernel
theorem dL_law_372 : decode cL_law 372 = .ok (.iconst 3, 1) := by decide +kernel
theorem dL_law_373 : decode cL_law 373 = .ok (.iadd, 1) := by decide +kernel
theorem dL_law_374 : decode cL_law 374 = .ok (.iaload, 1) := by decide +kernel
theorem dL_law_375 : decode cL_law 375 = .ok (.invokevirtual 35, 3) := by decide +kernel
theorem dL_law_378 : decode cL_law 378 = .ok (.lcmp, 1) := by decide +kernel
theorem dL_law_379 : decode cL_law 379 = .ok (.ifCond .eq 951, 3) := by decide +kernel
theorem dL_law_382 : decode cL_law 382 = .ok (.iconst 0, 1) := by decide +kernel
theorem dL_law_383 : decode cL_law 383 = .ok (.ireturn, 1) := by decide +kernel
theorem dL_law_384 : decode cL_law 384 = .ok (.aload_n 1, 1) := by decide +kernel
theorem dL_law_385 : decode cL_law 385 = .ok (.aload_n 0, 1) := by decide +kernel
theorem dL_law_386 : decode cL_law 386 = .ok (.iload_n 3, 1) := by decide +kernel
theorem dL_law_387 : decode cL_law 387 = .ok (.iconst 1, 1) := by decide +kernel
theorem dL_law_388 : decode cL_law 388 = .ok (.iadd, 1) := by decide +kernel
theorem dL_law_389 : decode cL_law 389 = .ok (.iaload, 1) := by decide +kernel
theorem dL_law_390 : decode cL_law 390 = .ok (.aload_n 0, 1) := by decide +kernel
theorem dL_law_391 : decode cL_law 391 = .ok (.iload_n 3, 1) := by decide +kernel
theorem dL_law_392 : decode cL_law 392 = .ok (.iconst 2, 1) := by decide +kernel
theorem dL_law_393 : decode cL_law 393 = .ok (.iadd, 1) := by decide +kernel
theorem dL_law_394 : decode cL_law 394 = .ok (.iaload, 1) := by decide +kernel
theorem dL_law_395 : decode cL_law 395 = .ok (.invokevirtual 36, 3) := by decide +kernel
theorem dL_law_398 : decode cL_law 398 = .ok (.aload_n 2, 1) := by decide +kernel
theorem dL_law_399 : decode cL_law 399 = .ok (.aload_n 0, 1) := by decide +kernel
theorem dL_law_400 : decode cL_law 400 = .ok (.iload_n 3, 1) := by decide +kernel
theorem dL_law_401 : decode cL_law 401 = .ok (.iconst 1, 1) := by decide +kernel
theorem dL_law_402 : decode cL_law 402 = .ok (.iadd, 1) := by decide +kernel
theorem dL_law_403 : decode cL_law 403 = .ok (.iaload, 1) := by decide +kernel
theorem dL_law_404 : decode cL_law 404 = .ok (.aload_n 0, 1) := by decide +kernel
theorem dL_law_405 : decode cL_law 405 = .ok (.iload_n 3, 1) := by decide +kernel
theorem dL_law_406 : decode cL_law 406 = .ok (.iconst 2, 1) := by decide +kernel
theorem dL_law_407 : decode cL_law 407 = .ok (.iadd, 1) := by decide +kernel
theorem dL_law_408 : decode cL_law 408 = .ok (.iaload, 1) := by decide +kernel
theorem dL_law_409 : decode cL_law 409 = .ok (.invokevirtual 39, 3) := by decide +kernel
theorem dL_law_412 : decode cL_law 412 = .ok (.lcmp, 1) := by decide +kernel
theorem dL_law_413 : decode cL_law 413 = .ok (.ifCond .eq 917, 3) := by decide +kernel
theorem dL_law_416 : decode cL_law 416 = .ok (.iconst 0, 1) := by decide +kernel
theorem dL_law_417 : decode cL_law 417 = .ok (.ireturn, 1) := by decide +kernel
theorem dL_law_418 : decode cL_law 418 = .ok (.aload_n 1, 1) := by decide +kernel
theorem dL_law_419 : decode cL_law 419 = .ok (.invokevirtual 40, 3) := by decide +kernel
theorem dL_law_422 : decode cL_law 422 = .ok (.aload_n 2, 1) := by decide +kernel
theorem dL_law_423 : decode cL_law 423 = .ok (.invokevirtual 44, 3) := by decide +kernel
theorem dL_law_426 : decode cL_law 426 = .ok (.lcmp, 1) := by decide +kernel
theorem dL_law_427 : decode cL_law 427 = .ok (.ifCond .eq 903, 3) := by decide +kernel
theorem dL_law_430 : decode cL_law 430 = .ok (.iconst 0, 1) := by decide +kernel
theorem dL_law_431 : decode cL_law 431 = .ok (.ireturn, 1) := by decide +kernel
theorem dL_law_432 : decode cL_law 432 = .ok (.aload_n 1, 1) := by decide +kernel
theorem dL_law_433 : decode cL_law 433 = .ok (.aload_n 0, 1) := by decide +kernel
theorem dL_law_434 : decode cL_law 434 = .ok (.iload_n 3, 1) := by decide +kernel
theorem dL_law_435 : decode cL_law 435 = .ok (.iconst 1, 1) := by decide +kernel
theorem dL_law_436 : decode cL_law 436 = .ok (.iadd, 1) := by decide +kernel
theorem dL_law_437 : decode cL_law 437 = .ok (.iaload, 1) := by decide +kernel
theorem dL_law_438 : decode cL_law 438 = .ok (.aload_n 0, 1) := by decide +kernel
theorem dL_law_439 : decode cL_law 439 = .ok (.iload_n 3, 1) := by decide +kernel
theorem dL_law_440 : decode cL_law 440 = .ok (.iconst 2, 1) := by decide +kernel
theorem dL_law_441 : decode cL_law 441 = .ok (.iadd, 1) := by decide +kernel
theorem dL_law_442 : decode cL_law 442 = .ok (.iaload, 1) := by decide +kernel
theorem dL_law_443 : decode cL_law 443 = .ok (.invokevirtual 45, 3) := by decide +kernel
theorem dL_law_446 : decode cL_law 446 = .ok (.aload_n 2, 1) := by decide +kernel
theorem dL_law_447 : decode cL_law 447 = .ok (.aload_n 0, 1) := by decide +kernel
theorem dL_law_448 : decode cL_law 448 = .ok (.iload_n 3, 1) := by decide +kernel
theorem dL_law_449 : decode cL_law 449 = .ok (.iconst 1, 1) := by decide +kernel
theorem dL_law_450 : decode cL_law 450 = .ok (.iadd, 1) := by decide +kernel
theorem dL_law_451 : decode cL_law 451 = .ok (.iaload, 1) := by decide +kernel
theorem dL_law_452 : decode cL_law 452 = .ok (.aload_n 0, 1) := by decide +kernel
theorem dL_law_453 : decode cL_law 453 = .ok (.iload_n 3, 1) := by decide +kernel
theorem dL_law_454 : decode cL_law 454 = .ok (.iconst 2, 1) := by decide +kernel
theorem dL_law_455 : decode cL_law 455 = .ok (.iadd, 1) := by decide +kernel
theorem dL_law_456 : decode cL_law 456 = .ok (.iaload, 1) := by decide +kernel
theorem dL_law_457 : decode cL_law 457 = .ok (.invokevirtual 48, 3) := by decide +kernel
theorem dL_law_460 : decode cL_law 460 = .ok (.lcmp, 1) := by decide +kernel
theorem dL_law_461 : decode cL_law 461 = .ok (.ifCond .eq 869, 3) := by decide +kernel
theorem dL_law_464 : decode cL_law 464 = .ok (.iconst 0, 1) := by decide +kernel
theorem dL_law_465 : decode cL_law 465 = .ok (.ireturn, 1) := by decide +kernel
theorem dL_law_466 : decode cL_law 466 = .ok (.aload_n 1, 1) := by decide +kernel
theorem dL_law_467 : decode cL_law 467 = .ok (.aload_n 0, 1) := by decide +kernel
theorem dL_law_468 : decode cL_law 468 = .ok (.iload_n 3, 1) := by decide +kernel
theorem dL_law_469 : decode cL_law 469 = .ok (.iconst 1, 1) := by decide +kernel
theorem dL_law_470 : decode cL_law 470 = .ok (.iadd, 1) := by decide +kernel
theorem dL_law_471 : decode cL_law 471 = .ok (.iaload, 1) := by decide +kernel
theorem dL_law_472 : decode cL_law 472 = .ok (.aload_n 0, 1) := by decide +kernel
theorem dL_law_473 : decode cL_law 473 = .ok (.iload_n 3, 1) := by decide +kernel
theorem dL_law_474 : decode cL_law 474 = .ok (.iconst 2, 1) := by decide +kernel
theorem dL_law_475 : decode cL_law 475 = .ok (.iadd, 1) := by decide +kernel
theorem dL_law_476 : decode cL_law 476 = .ok (.iaload, 1) := by decide +kernel
theorem dL_law_477 : decode cL_law 477 = .ok (.invokevirtual 49, 3) := by decide +kernel
theorem dL_law_480 : decode cL_law 480 = .ok (.aload_n 2, 1) := by decide +kernel
theorem dL_law_481 : decode cL_law 481 = .ok (.aload_n 0, 1) := by decide +kernel
theorem dL_law_482 : decode cL_law 482 = .ok (.iload_n 3, 1) := by decide +kernel
theorem dL_law_483 : decode cL_law 483 = .ok (.iconst 1, 1) := by decide +kernel
theorem dL_law_484 : decode cL_law 484 = .ok (.iadd, 1) := by decide +kernel
theorem dL_law_485 : decode cL_law 485 = .ok (.iaload, 1) := by decide +kernel
theorem dL_law_486 : decode cL_law 486 = .ok (.aload_n 0, 1) := by decide +kernel
theorem dL_law_487 : decode cL_law 487 = .ok (.iload_n 3, 1) := by decide +kernel
theorem dL_law_488 : decode cL_law 488 = .ok (.iconst 2, 1) := by decide +kernel
theorem dL_law_489 : decode cL_law 489 = .ok (.iadd, 1) := by decide +kernel
theorem dL_law_490 : decode cL_law 490 = .ok (.iaload, 1) := by decide +kernel
theorem dL_law_491 : decode cL_law 491 = .ok (.invokevirtual 52, 3) := by decide +kernel
theorem dL_law_494 : decode cL_law 494 = .ok (.lcmp, 1) := by decide +kernel
theorem dL_law_495 : decode cL_law 495 = .ok (.ifCond .eq 835, 3) := by decide +kernel
theorem dL_law_498 : decode cL_law 498 = .ok (.iconst 0, 1) := by decide +kernel
theorem dL_law_499 : decode cL_law 499 = .ok (.ireturn, 1) := by decide +kernel
theorem dL_law_500 : decode cL_law 500 = .ok (.aload_n 1, 1) := by decide +kernel
theorem dL_law_501 : decode cL_law 501 = .ok (.aload_n 0, 1) := by decide +kernel
theorem dL_law_502 : decode cL_law 502 = .ok (.iload_n 3, 1) := by decide +kernel
theorem dL_law_503 : decode cL_law 503 = .ok (.iconst 1, 1) := by decide +kernel
theorem dL_law_504 : decode cL_law 504 = .ok (.iadd, 1) := by decide +kernel
theorem dL_law_505 : decode cL_law 505 = .ok (.iaload, 1) := by decide +kernel
theorem dL_law_506 : decode cL_law 506 = .ok (.aload_n 0, 1) := by decide +kernel
theorem dL_law_507 : decode cL_law 507 = .ok (.iload_n 3, 1) := by decide +kernel
theorem dL_law_508 : decode cL_law 508 = .ok (.iconst 2, 1) := by decide +kernel
theorem dL_law_509 : decode cL_law 509 = .ok (.iadd, 1) := by decide +kernel
theorem dL_law_510 : decode cL_law 510 = .ok (.iaload, 1) := by decide +kernel
theorem dL_law_511 : decode cL_law 511 = .ok (.aload_n 0, 1) := by decide +kernel
theorem dL_law_512 : decode cL_law 512 = .ok (.iload_n 3, 1) := by decide +kernel
theorem dL_law_513 : decode cL_law 513 = .ok (.iconst 3, 1) := by decide +kernel
theorem dL_law_514 : decode cL_law 514 = .ok (.iadd, 1) := by decide +kernel
theorem dL_law_515 : decode cL_law 515 = .ok (.iaload, 1) := by decide +kernel
theorem dL_law_516 : decode cL_law 516 = .ok (.invokevirtual 53, 3) := by decide +kernel
theorem dL_law_519 : decode cL_law 519 = .ok (.aload_n 2, 1) := by decide +kernel
theorem dL_law_520 : decode cL_law 520 = .ok (.aload_n 0, 1) := by decide +kernel
theorem dL_law_521 : decode cL_law 521 = .ok (.iload_n 3, 1) := by decide +kernel
theorem dL_law_522 : decode cL_law 522 = .ok (.iconst 1, 1) := by decide +kernel
theorem dL_law_523 : decode cL_law 523 = .ok (.iadd, 1) := by decide +kernel
theorem dL_law_524 : decode cL_law 524 = .ok (.iaload, 1) := by decide +kernel
theorem dL_law_525 : decode cL_law 525 = .ok (.aload_n 0, 1) := by decide +kernel
theorem dL_law_526 : decode cL_law 526 = .ok (.iload_n 3, 1) := by decide +kernel
theorem dL_law_527 : decode cL_law 527 = .ok (.iconst 2, 1) := by decide +kernel
theorem dL_law_528 : decode cL_law 528 = .ok (.iadd, 1) := by decide +kernel
theorem dL_law_529 : decode cL_law 529 = .ok (.iaload, 1) := by decide +kernel
theorem dL_law_530 : decode cL_law 530 = .ok (.aload_n 0, 1) := by decide +kernel
theorem dL_law_531 : decode cL_law 531 = .ok (.iload_n 3, 1) := by decide +kernel
theorem dL_law_532 : decode cL_law 532 = .ok (.iconst 3, 1) := by decide +kernel
theorem dL_law_533 : decode cL_law 533 = .ok (.iadd, 1) := by decide +kernel
theorem dL_law_534 : decode cL_law 534 = .ok (.iaload, 1) := by decide +kernel
theorem dL_law_535 : decode cL_law 535 = .ok (.invokevirtual 56, 3) := by decide +kernel
theorem dL_law_538 : decode cL_law 538 = .ok (.lcmp, 1) := by decide +kernel
theorem dL_law_539 : decode cL_law 539 = .ok (.ifCond .eq 791, 3) := by decide +kernel
theorem dL_law_542 : decode cL_law 542 = .ok (.iconst 0, 1) := by decide +kernel
theorem dL_law_543 : decode cL_law 543 = .ok (.ireturn, 1) := by decide +kernel
theorem dL_law_544 : decode cL_law 544 = .ok (.aload_n 1, 1) := by decide +kernel
theorem dL_law_545 : decode cL_law 545 = .ok (.aload_n 0, 1) := by decide +kernel
theorem dL_law_546 : decode cL_law 546 = .ok (.iload_n 3, 1) := by decide +kernel
theorem dL_law_547 : decode cL_law 547 = .ok (.iconst 1, 1) := by decide +kernel
theorem dL_law_548 : decode cL_law 548 = .ok (.iadd, 1) := by decide +kernel
theorem dL_law_549 : decode cL_law 549 = .ok (.iaload, 1) := by decide +kernel
theorem dL_law_550 : decode cL_law 550 = .ok (.aload_n 0, 1) := by decide +kernel
theorem dL_law_551 : decode cL_law 551 = .ok (.iload_n 3, 1) := by decide +kernel
theorem dL_law_552 : decode cL_law 552 = .ok (.iconst 2, 1) := by decide +kernel
theorem dL_law_553 : decode cL_law 553 = .ok (.iadd, 1) := by decide +kernel
theorem dL_law_554 : decode cL_law 554 = .ok (.iaload, 1) := by decide +kernel
theorem dL_law_555 : decode cL_law 555 = .ok (.aload_n 0, 1) := by decide +kernel
theorem dL_law_556 : decode cL_law 556 = .ok (.iload_n 3, 1) := by decide +kernel
theorem dL_law_557 : decode cL_law 557 = .ok (.iconst 3, 1) := by decide +kernel
theorem dL_law_558 : decode cL_law 558 = .ok (.iadd, 1) := by decide +kernel
theorem dL_law_559 : decode cL_law 559 = .ok (.iaload, 1) := by decide +kernel
theorem dL_law_560 : decode cL_law 560 = .ok (.invokevirtual 57, 3) := by decide +kernel
theorem dL_law_563 : decode cL_law 563 = .ok (.aload_n 2, 1) := by decide +kernel
theorem dL_law_564 : decode cL_law 564 = .ok (.aload_n 0, 1) := by decide +kernel
theorem dL_law_565 : decode cL_law 565 = .ok (.iload_n 3, 1) := by decide +kernel
theorem dL_law_566 : decode cL_law 566 = .ok (.iconst 1, 1) := by decide +kernel
theorem dL_law_567 : decode cL_law 567 = .ok (.iadd, 1) := by decide +kernel
theorem dL_law_568 : decode cL_law 568 = .ok (.iaload, 1) := by decide +kernel
theorem dL_law_569 : decode cL_law 569 = .ok (.aload_n 0, 1) := by decide +kernel
theorem dL_law_570 : decode cL_law 570 = .ok (.iload_n 3, 1) := by decide +kernel
theorem dL_law_571 : decode cL_law 571 = .ok (.iconst 2, 1) := by decide +kernel
theorem dL_law_572 : decode cL_law 572 = .ok (.iadd, 1) := by decide +kernel
theorem dL_law_573 : decode cL_law 573 = .ok (.iaload, 1) := by decide +kernel
theorem dL_law_574 : decode cL_law 574 = .ok (.aload_n 0, 1) := by decide +kernel
theorem dL_law_575 : decode cL_law 575 = .ok (.iload_n 3, 1) := by decide +kernel
theorem dL_law_576 : decode cL_law 576 = .ok (.iconst 3, 1) := by decide +kernel
theorem dL_law_577 : decode cL_law 577 = .ok (.iadd, 1) := by decide +kernel
theorem dL_law_578 : decode cL_law 578 = .ok (.iaload, 1) := by decide +kernel
theorem dL_law_579 : decode cL_law 579 = .ok (.invokevirtual 60, 3) := by decide +kernel
theorem dL_law_582 : decode cL_law 582 = .ok (.lcmp, 1) := by decide +kernel
theorem dL_law_583 : decode cL_law 583 = .ok (.ifCond .eq 747, 3) := by decide +kernel
theorem dL_law_586 : decode cL_law 586 = .ok (.iconst 0, 1) := by decide +kernel
theorem dL_law_587 : decode cL_law 587 = .ok (.ireturn, 1) := by decide +kernel
theorem dL_law_588 : decode cL_law 588 = .ok (.aload_n 1, 1) := by decide +kernel
theorem dL_law_589 : decode cL_law 589 = .ok (.aload_n 0, 1) := by decide +kernel
theorem dL_law_590 : decode cL_law 590 = .ok (.iload_n 3, 1) := by decide +kernel
theorem dL_law_591 : decode cL_law 591 = .ok (.iconst 1, 1) := by decide +kernel
theorem dL_law_592 : decode cL_law 592 = .ok (.iadd, 1) := by decide +kernel
theorem dL_law_593 : decode cL_law 593 = .ok (.iaload, 1) := by decide +kernel
theorem dL_law_594 : decode cL_law 594 = .ok (.aload_n 0, 1) := by decide +kernel
theorem dL_law_595 : decode cL_law 595 = .ok (.iload_n 3, 1) := by decide +kernel
theorem dL_law_596 : decode cL_law 596 = .ok (.iconst 2, 1) := by decide +kernel
theorem dL_law_597 : decode cL_law 597 = .ok (.iadd, 1) := by decide +kernel
theorem dL_law_598 : decode cL_law 598 = .ok (.iaload, 1) := by decide +kernel
theorem dL_law_599 : decode cL_law 599 = .ok (.invokevirtual 61, 3) := by decide +kernel
theorem dL_law_602 : decode cL_law 602 = .ok (.aload_n 2, 1) := by decide +kernel
theorem dL_law_603 : decode cL_law 603 = .ok (.aload_n 0, 1) := by decide +kernel
theorem dL_law_604 : decode cL_law 604 = .ok (.iload_n 3, 1) := by decide +kernel
theorem dL_law_605 : decode cL_law 605 = .ok (.iconst 1, 1) := by decide +kernel
theorem dL_law_606 : decode cL_law 606 = .ok (.iadd, 1) := by decide +kernel
theorem dL_law_607 : decode cL_law 607 = .ok (.iaload, 1) := by decide +kernel
theorem dL_law_608 : decode cL_law 608 = .ok (.aload_n 0, 1) := by decide +kernel
theorem dL_law_609 : decode cL_law 609 = .ok (.iload_n 3, 1) := by decide +kernel
theorem dL_law_610 : decode cL_law 610 = .ok (.iconst 2, 1) := by decide +kernel
theorem dL_law_611 : decode cL_law 611 = .ok (.iadd, 1) := by decide +kernel
theorem dL_law_612 : decode cL_law 612 = .ok (.iaload, 1) := by decide +kernel
theorem dL_law_613 : decode cL_law 613 = .ok (.invokevirtual 64, 3) := by decide +kernel
theorem dL_law_616 : decode cL_law 616 = .ok (.lcmp, 1) := by decide +kernel
theorem dL_law_617 : decode cL_law 617 = .ok (.ifCond .eq 713, 3) := by decide +kernel
theorem dL_law_620 : decode cL_law 620 = .ok (.iconst 0, 1) := by decide +kernel
theorem dL_law_621 : decode cL_law 621 = .ok (.ireturn, 1) := by decide +kernel
theorem dL_law_622 : decode cL_law 622 = .ok (.aload_n 1, 1) := by decide +kernel
theorem dL_law_623 : decode cL_law 623 = .ok (.aload_n 0, 1) := by decide +kernel
theorem dL_law_624 : decode cL_law 624 = .ok (.iload_n 3, 1) := by decide +kernel
theorem dL_law_625 : decode cL_law 625 = .ok (.iconst 1, 1) := by decide +kernel
theorem dL_law_626 : decode cL_law 626 = .ok (.iadd, 1) := by decide +kernel
theorem dL_law_627 : decode cL_law 627 = .ok (.iaload, 1) := by decide +kernel
theorem dL_law_628 : decode cL_law 628 = .ok (.aload_n 0, 1) := by decide +kernel
theorem dL_law_629 : decode cL_law 629 = .ok (.iload_n 3, 1) := by decide +kernel
theorem dL_law_630 : decode cL_law 630 = .ok (.iconst 2, 1) := by decide +kernel
theorem dL_law_631 : decode cL_law 631 = .ok (.iadd, 1) := by decide +kernel
theorem dL_law_632 : decode cL_law 632 = .ok (.iaload, 1) := by decide +kernel
theorem dL_law_633 : decode cL_law 633 = .ok (.aload_n 0, 1) := by decide +kernel
theorem dL_law_634 : decode cL_law 634 = .ok (.iload_n 3, 1) := by decide +kernel
theorem dL_law_635 : decode cL_law 635 = .ok (.iconst 3, 1) := by decide +kernel
theorem dL_law_636 : decode cL_law 636 = .ok (.iadd, 1) := by decide +kernel
theorem dL_law_637 : decode cL_law 637 = .ok (.iaload, 1) := by decide +kernel
theorem dL_law_638 : decode cL_law 638 = .ok (.aload_n 0, 1) := by decide +kernel
theorem dL_law_639 : decode cL_law 639 = .ok (.iload_n 3, 1) := by decide +kernel
theorem dL_law_640 : decode cL_law 640 = .ok (.iconst 4, 1) := by decide +kernel
theorem dL_law_641 : decode cL_law 641 = .ok (.iadd, 1) := by decide +kernel
theorem dL_law_642 : decode cL_law 642 = .ok (.iaload, 1) := by decide +kernel
theorem dL_law_643 : decode cL_law 643 = .ok (.invokevirtual 65, 3) := by decide +kernel
theorem dL_law_646 : decode cL_law 646 = .ok (.aload_n 2, 1) := by decide +kernel
theorem dL_law_647 : decode cL_law 647 = .ok (.aload_n 0, 1) := by decide +kernel
theorem dL_law_648 : decode cL_law 648 = .ok (.iload_n 3, 1) := by decide +kernel
theorem dL_law_649 : decode cL_law 649 = .ok (.iconst 1, 1) := by decide +kernel
theorem dL_law_650 : decode cL_law 650 = .ok (.iadd, 1) := by decide +kernel
theorem dL_law_651 : decode cL_law 651 = .ok (.iaload, 1) := by decide +kernel
theorem dL_law_652 : decode cL_law 652 = .ok (.aload_n 0, 1) := by decide +kernel
theorem dL_law_653 : decode cL_law 653 = .ok (.iload_n 3, 1) := by decide +kernel
theorem dL_law_654 : decode cL_law 654 = .ok (.iconst 2, 1) := by decide +kernel
theorem dL_law_655 : decode cL_law 655 = .ok (.iadd, 1) := by decide +kernel
theorem dL_law_656 : decode cL_law 656 = .ok (.iaload, 1) := by decide +kernel
theorem dL_law_657 : decode cL_law 657 = .ok (.aload_n 0, 1) := by decide +kernel
theorem dL_law_658 : decode cL_law 658 = .ok (.iload_n 3, 1) := by decide +kernel
theorem dL_law_659 : decode cL_law 659 = .ok (.iconst 3, 1) := by decide +kernel
theorem dL_law_660 : decode cL_law 660 = .ok (.iadd, 1) := by decide +kernel
theorem dL_law_661 : decode cL_law 661 = .ok (.iaload, 1) := by decide +kernel
theorem dL_law_662 : decode cL_law 662 = .ok (.aload_n 0, 1) := by decide +kernel
theorem dL_law_663 : decode cL_law 663 = .ok (.iload_n 3, 1) := by decide +kernel
theorem dL_law_664 : decode cL_law 664 = .ok (.iconst 4, 1) := by decide +kernel
theorem dL_law_665 : decode cL_law 665 = .ok (.iadd, 1) := by decide +kernel
theorem dL_law_666 : decode cL_law 666 = .ok (.iaload, 1) := by decide +kernel
theorem dL_law_667 : decode cL_law 667 = .ok (.invokevirtual 68, 3) := by decide +kernel
theorem dL_law_670 : decode cL_law 670 = .ok (.lcmp, 1) := by decide +kernel
theorem dL_law_671 : decode cL_law 671 = .ok (.ifCond .eq 659, 3) := by decide +kernel
theorem dL_law_674 : decode cL_law 674 = .ok (.iconst 0, 1) := by decide +kernel
theorem dL_law_675 : decode cL_law 675 = .ok (.ireturn, 1) := by decide +kernel
theorem dL_law_676 : decode cL_law 676 = .ok (.aload_n 1, 1) := by decide +kernel
theorem dL_law_677 : decode cL_law 677 = .ok (.aload_n 0, 1) := by decide +kernel
theorem dL_law_678 : decode cL_law 678 = .ok (.iload_n 3, 1) := by decide +kernel
theorem dL_law_679 : decode cL_law 679 = .ok (.iconst 1, 1) := by decide +kernel
theorem dL_law_680 : decode cL_law 680 = .ok (.iadd, 1) := by decide +kernel
theorem dL_law_681 : decode cL_law 681 = .ok (.iaload, 1) := by decide +kernel
theorem dL_law_682 : decode cL_law 682 = .ok (.aload_n 0, 1) := by decide +kernel
theorem dL_law_683 : decode cL_law 683 = .ok (.iload_n 3, 1) := by decide +kernel
theorem dL_law_684 : decode cL_law 684 = .ok (.iconst 2, 1) := by decide +kernel
theorem dL_law_685 : decode cL_law 685 = .ok (.iadd, 1) := by decide +kernel
theorem dL_law_686 : decode cL_law 686 = .ok (.iaload, 1) := by decide +kernel
theorem dL_law_687 : decode cL_law 687 = .ok (.aload_n 0, 1) := by decide +kernel
theorem dL_law_688 : decode cL_law 688 = .ok (.iload_n 3, 1) := by decide +kernel
theorem dL_law_689 : decode cL_law 689 = .ok (.iconst 3, 1) := by decide +kernel
theorem dL_law_690 : decode cL_law 690 = .ok (.iadd, 1) := by decide +kernel
theorem dL_law_691 : decode cL_law 691 = .ok (.iaload, 1) := by decide +kernel
theorem dL_law_692 : decode cL_law 692 = .ok (.aload_n 0, 1) := by decide +kernel
theorem dL_law_693 : decode cL_law 693 = .ok (.iload_n 3, 1) := by decide +kernel
theorem dL_law_694 : decode cL_law 694 = .ok (.iconst 4, 1) := by decide +kernel
theorem dL_law_695 : decode cL_law 695 = .ok (.iadd, 1) := by decide +kernel
theorem dL_law_696 : decode cL_law 696 = .ok (.iaload, 1) := by decide +kernel
theorem dL_law_697 : decode cL_law 697 = .ok (.invokevirtual 69, 3) := by decide +kernel
theorem dL_law_700 : decode cL_law 700 = .ok (.aload_n 2, 1) := by decide +kernel
theorem dL_law_701 : decode cL_law 701 = .ok (.aload_n 0, 1) := by decide +kernel
theorem dL_law_702 : decode cL_law 702 = .ok (.iload_n 3, 1) := by decide +kernel
theorem dL_law_703 : decode cL_law 703 = .ok (.iconst 1, 1) := by decide +kernel
theorem dL_law_704 : decode cL_law 704 = .ok (.iadd, 1) := by decide +kernel
theorem dL_law_705 : decode cL_law 705 = .ok (.iaload, 1) := by decide +kernel
theorem dL_law_706 : decode cL_law 706 = .ok (.aload_n 0, 1) := by decide +kernel
theorem dL_law_707 : decode cL_law 707 = .ok (.iload_n 3, 1) := by decide +kernel
theorem dL_law_708 : decode cL_law 708 = .ok (.iconst 2, 1) := by decide +kernel
theorem dL_law_709 : decode cL_law 709 = .ok (.iadd, 1) := by decide +kernel
theorem dL_law_710 : decode cL_law 710 = .ok (.iaload, 1) := by decide +kernel
theorem dL_law_711 : decode cL_law 711 = .ok (.aload_n 0, 1) := by decide +kernel
theorem dL_law_712 : decode cL_law 712 = .ok (.iload_n 3, 1) := by decide +kernel
theorem dL_law_713 : decode cL_law 713 = .ok (.iconst 3, 1) := by decide +kernel
theorem dL_law_714 : decode cL_law 714 = .ok (.iadd, 1) := by decide +kernel
theorem dL_law_715 : decode cL_law 715 = .ok (.iaload, 1) := by decide +kernel
theorem dL_law_716 : decode cL_law 716 = .ok (.aload_n 0, 1) := by decide +kernel
theorem dL_law_717 : decode cL_law 717 = .ok (.iload_n 3, 1) := by decide +kernel
theorem dL_law_718 : decode cL_law 718 = .ok (.iconst 4, 1) := by decide +kernel
theorem dL_law_719 : decode cL_law 719 = .ok (.iadd, 1) := by decide +kernel
theorem dL_law_720 : decode cL_law 720 = .ok (.iaload, 1) := by decide +kernel
theorem dL_law_721 : decode cL_law 721 = .ok (.invokevirtual 72, 3) := by decide +kernel
theorem dL_law_724 : decode cL_law 724 = .ok (.lcmp, 1) := by decide +kernel
theorem dL_law_725 : decode cL_law 725 = .ok (.ifCond .eq 605, 3) := by decide +kernel
theorem dL_law_728 : decode cL_law 728 = .ok (.iconst 0, 1) := by decide +kernel
theorem dL_law_729 : decode cL_law 729 = .ok (.ireturn, 1) := by decide +kernel
theorem dL_law_730 : decode cL_law 730 = .ok (.aload_n 1, 1) := by decide +kernel
theorem dL_law_731 : decode cL_law 731 = .ok (.aload_n 0, 1) := by decide +kernel
theorem dL_law_732 : decode cL_law 732 = .ok (.iload_n 3, 1) := by decide +kernel
theorem dL_law_733 : decode cL_law 733 = .ok (.iconst 1, 1) := by decide +kernel
theorem dL_law_734 : decode cL_law 734 = .ok (.iadd, 1) := by decide +kernel
theorem dL_law_735 : decode cL_law 735 = .ok (.iaload, 1) := by decide +kernel
theorem dL_law_736 : decode cL_law 736 = .ok (.aload_n 0, 1) := by decide +kernel
theorem dL_law_737 : decode cL_law 737 = .ok (.iload_n 3, 1) := by decide +kernel
theorem dL_law_738 : decode cL_law 738 = .ok (.iconst 2, 1) := by decide +kernel
theorem dL_law_739 : decode cL_law 739 = .ok (.iadd, 1) := by decide +kernel
theorem dL_law_740 : decode cL_law 740 = .ok (.iaload, 1) := by decide +kernel
theorem dL_law_741 : decode cL_law 741 = .ok (.aload_n 0, 1) := by decide +kernel
theorem dL_law_742 : decode cL_law 742 = .ok (.iload_n 3, 1) := by decide +kernel
theorem dL_law_743 : decode cL_law 743 = .ok (.iconst 3, 1) := by decide +kernel
theorem dL_law_744 : decode cL_law 744 = .ok (.iadd, 1) := by decide +kernel
theorem dL_law_745 : decode cL_law 745 = .ok (.iaload, 1) := by decide +kernel
theorem dL_law_746 : decode cL_law 746 = .ok (.aload_n 0, 1) := by decide +kernel
theorem dL_law_747 : decode cL_law 747 = .ok (.iload_n 3, 1) := by decide +kernel
theorem dL_law_748 : decode cL_law 748 = .ok (.iconst 4, 1) := by decide +kernel
theorem dL_law_749 : decode cL_law 749 = .ok (.iadd, 1) := by decide +kernel
theorem dL_law_750 : decode cL_law 750 = .ok (.iaload, 1) := by decide +kernel
theorem dL_law_751 : decode cL_law 751 = .ok (.invokevirtual 73, 3) := by decide +kernel
theorem dL_law_754 : decode cL_law 754 = .ok (.aload_n 2, 1) := by decide +kernel
theorem dL_law_755 : decode cL_law 755 = .ok (.aload_n 0, 1) := by decide +kernel
theorem dL_law_756 : decode cL_law 756 = .ok (.iload_n 3, 1) := by decide +kernel
theorem dL_law_757 : decode cL_law 757 = .ok (.iconst 1, 1) := by decide +kernel
theorem dL_law_758 : decode cL_law 758 = .ok (.iadd, 1) := by decide +kernel
theorem dL_law_759 : decode cL_law 759 = .ok (.iaload, 1) := by decide +kernel
theorem dL_law_760 : decode cL_law 760 = .ok (.aload_n 0, 1) := by decide +kernel
theorem dL_law_761 : decode cL_law 761 = .ok (.iload_n 3, 1) := by decide +kernel
theorem dL_law_762 : decode cL_law 762 = .ok (.iconst 2, 1) := by decide +kernel
theorem dL_law_763 : decode cL_law 763 = .ok (.iadd, 1) := by decide +kernel
theorem dL_law_764 : decode cL_law 764 = .ok (.iaload, 1) := by decide +kernel
theorem dL_law_765 : decode cL_law 765 = .ok (.aload_n 0, 1) := by decide +kernel
theorem dL_law_766 : decode cL_law 766 = .ok (.iload_n 3, 1) := by decide +kernel
theorem dL_law_767 : decode cL_law 767 = .ok (.iconst 3, 1) := by decide +kernel
theorem dL_law_768 : decode cL_law 768 = .ok (.iadd, 1) := by decide +kernel
theorem dL_law_769 : decode cL_law 769 = .ok (.iaload, 1) := by decide +kernel
theorem dL_law_770 : decode cL_law 770 = .ok (.aload_n 0, 1) := by decide +kernel
theorem dL_law_771 : decode cL_law 771 = .ok (.iload_n 3, 1) := by decide +kernel
theorem dL_law_772 : decode cL_law 772 = .ok (.iconst 4, 1) := by decide +kernel
theorem dL_law_773 : decode cL_law 773 = .ok (.iadd, 1) := by decide +kernel
theorem dL_law_774 : decode cL_law 774 = .ok (.iaload, 1) := by decide +kernel
theorem dL_law_775 : decode cL_law 775 = .ok (.invokevirtual 76, 3) := by decide +kernel
theorem dL_law_778 : decode cL_law 778 = .ok (.lcmp, 1) := by decide +kernel
theorem dL_law_779 : decode cL_law 779 = .ok (.ifCond .eq 551, 3) := by decide +kernel
theorem dL_law_782 : decode cL_law 782 = .ok (.iconst 0, 1) := by decide +kernel
theorem dL_law_783 : decode cL_law 783 = .ok (.ireturn, 1) := by decide +kernel
theorem dL_law_784 : decode cL_law 784 = .ok (.aload_n 1, 1) := by decide +kernel
theorem dL_law_785 : decode cL_law 785 = .ok (.aload_n 0, 1) := by decide +kernel
theorem dL_law_786 : decode cL_law 786 = .ok (.iload_n 3, 1) := by decide +kernel
theorem dL_law_787 : decode cL_law 787 = .ok (.iconst 1, 1) := by decide +kernel
theorem dL_law_788 : decode cL_law 788 = .ok (.iadd, 1) := by decide +kernel
theorem dL_law_789 : decode cL_law 789 = .ok (.iaload, 1) := by decide +kernel
theorem dL_law_790 : decode cL_law 790 = .ok (.aload_n 0, 1) := by decide +kernel
theorem dL_law_791 : decode cL_law 791 = .ok (.iload_n 3, 1) := by decide +kernel
theorem dL_law_792 : decode cL_law 792 = .ok (.iconst 2, 1) := by decide +kernel
theorem dL_law_793 : decode cL_law 793 = .ok (.iadd, 1) := by decide +kernel
theorem dL_law_794 : decode cL_law 794 = .ok (.iaload, 1) := by decide +kernel
theorem dL_law_795 : decode cL_law 795 = .ok (.invokevirtual 77, 3) := by decide +kernel
theorem dL_law_798 : decode cL_law 798 = .ok (.aload_n 2, 1) := by decide +kernel
theorem dL_law_799 : decode cL_law 799 = .ok (.aload_n 0, 1) := by decide +kernel
theorem dL_law_800 : decode cL_law 800 = .ok (.iload_n 3, 1) := by decide +kernel
theorem dL_law_801 : decode cL_law 801 = .ok (.iconst 1, 1) := by decide +kernel
theorem dL_law_802 : decode cL_law 802 = .ok (.iadd, 1) := by decide +kernel
theorem dL_law_803 : decode cL_law 803 = .ok (.iaload, 1) := by decide +kernel
theorem dL_law_804 : decode cL_law 804 = .ok (.aload_n 0, 1) := by decide +kernel
theorem dL_law_805 : decode cL_law 805 = .ok (.iload_n 3, 1) := by decide +kernel
theorem dL_law_806 : decode cL_law 806 = .ok (.iconst 2, 1) := by decide +kernel
theorem dL_law_807 : decode cL_law 807 = .ok (.iadd, 1) := by decide +kernel
theorem dL_law_808 : decode cL_law 808 = .ok (.iaload, 1) := by decide +kernel
theorem dL_law_809 : decode cL_law 809 = .ok (.invokevirtual 80, 3) := by decide +kernel
theorem dL_law_812 : decode cL_law 812 = .ok (.lcmp, 1) := by decide +kernel
theorem dL_law_813 : decode cL_law 813 = .ok (.ifCond .eq 517, 3) := by decide +kernel
theorem dL_law_816 : decode cL_law 816 = .ok (.iconst 0, 1) := by decide +kernel
theorem dL_law_817 : decode cL_law 817 = .ok (.ireturn, 1) := by decide +kernel
theorem dL_law_818 : decode cL_law 818 = .ok (.aload_n 1, 1) := by decide +kernel
theorem dL_law_819 : decode cL_law 819 = .ok (.aload_n 0, 1) := by decide +kernel
theorem dL_law_820 : decode cL_law 820 = .ok (.iload_n 3, 1) := by decide +kernel
theorem dL_law_821 : decode cL_law 821 = .ok (.iconst 1, 1) := by decide +kernel
theorem dL_law_822 : decode cL_law 822 = .ok (.iadd, 1) := by decide +kernel
theorem dL_law_823 : decode cL_law 823 = .ok (.iaload, 1) := by decide +kernel
theorem dL_law_824 : decode cL_law 824 = .ok (.invokevirtual 81, 3) := by decide +kernel
theorem dL_law_827 : decode cL_law 827 = .ok (.aload_n 2, 1) := by decide +kernel
theorem dL_law_828 : decode cL_law 828 = .ok (.aload_n 0, 1) := by decide +kernel
theorem dL_law_829 : decode cL_law 829 = .ok (.iload_n 3, 1) := by decide +kernel
theorem dL_law_830 : decode cL_law 830 = .ok (.iconst 1, 1) := by decide +kernel
theorem dL_law_831 : decode cL_law 831 = .ok (.iadd, 1) := by decide +kernel
theorem dL_law_832 : decode cL_law 832 = .ok (.iaload, 1) := by decide +kernel
theorem dL_law_833 : decode cL_law 833 = .ok (.invokevirtual 85, 3) := by decide +kernel
theorem dL_law_836 : decode cL_law 836 = .ok (.lcmp, 1) := by decide +kernel
theorem dL_law_837 : decode cL_law 837 = .ok (.ifCond .eq 493, 3) := by decide +kernel
theorem dL_law_840 : decode cL_law 840 = .ok (.iconst 0, 1) := by decide +kernel
theorem dL_law_841 : decode cL_law 841 = .ok (.ireturn, 1) := by decide +kernel
theorem dL_law_842 : decode cL_law 842 = .ok (.aload_n 1, 1) := by decide +kernel
theorem dL_law_843 : decode cL_law 843 = .ok (.aload_n 0, 1) := by decide +kernel
theorem dL_law_844 : decode cL_law 844 = .ok (.iload_n 3, 1) := by decide +kernel
theorem dL_law_845 : decode cL_law 845 = .ok (.iconst 1, 1) := by decide +kernel
theorem dL_law_846 : decode cL_law 846 = .ok (.iadd, 1) := by decide +kernel
theorem dL_law_847 : decode cL_law 847 = .ok (.iaload, 1) := by decide +kernel
theorem dL_law_848 : decode cL_law 848 = .ok (.invokevirtual 86, 3) := by decide +kernel
theorem dL_law_851 : decode cL_law 851 = .ok (.aload_n 2, 1) := by decide +kernel
theorem dL_law_852 : decode cL_law 852 = .ok (.aload_n 0, 1) := by decide +kernel
theorem dL_law_853 : decode cL_law 853 = .ok (.iload_n 3, 1) := by decide +kernel
theorem dL_law_854 : decode cL_law 854 = .ok (.iconst 1, 1) := by decide +kernel
theorem dL_law_855 : decode cL_law 855 = .ok (.iadd, 1) := by decide +kernel
theorem dL_law_856 : decode cL_law 856 = .ok (.iaload, 1) := by decide +kernel
theorem dL_law_857 : decode cL_law 857 = .ok (.invokevirtual 89, 3) := by decide +kernel
theorem dL_law_860 : decode cL_law 860 = .ok (.lcmp, 1) := by decide +kernel
theorem dL_law_861 : decode cL_law 861 = .ok (.ifCond .eq 469, 3) := by decide +kernel
theorem dL_law_864 : decode cL_law 864 = .ok (.iconst 0, 1) := by decide +kernel
theorem dL_law_865 : decode cL_law 865 = .ok (.ireturn, 1) := by decide +kernel
theorem dL_law_866 : decode cL_law 866 = .ok (.aload_n 1, 1) := by decide +kernel
theorem dL_law_867 : decode cL_law 867 = .ok (.aload_n 0, 1) := by decide +kernel
theorem dL_law_868 : decode cL_law 868 = .ok (.iload_n 3, 1) := by decide +kernel
theorem dL_law_869 : decode cL_law 869 = .ok (.iconst 1, 1) := by decide +kernel
theorem dL_law_870 : decode cL_law 870 = .ok (.iadd, 1) := by decide +kernel
theorem dL_law_871 : decode cL_law 871 = .ok (.iaload, 1) := by decide +kernel
theorem dL_law_872 : decode cL_law 872 = .ok (.aload_n 0, 1) := by decide +kernel
theorem dL_law_873 : decode cL_law 873 = .ok (.iload_n 3, 1) := by decide +kernel
theorem dL_law_874 : decode cL_law 874 = .ok (.iconst 2, 1) := by decide +kernel
theorem dL_law_875 : decode cL_law 875 = .ok (.iadd, 1) := by decide +kernel
theorem dL_law_876 : decode cL_law 876 = .ok (.iaload, 1) := by decide +kernel
theorem dL_law_877 : decode cL_law 877 = .ok (.invokevirtual 90, 3) := by decide +kernel
theorem dL_law_880 : decode cL_law 880 = .ok (.aload_n 2, 1) := by decide +kernel
theorem dL_law_881 : decode cL_law 881 = .ok (.aload_n 0, 1) := by decide +kernel
theorem dL_law_882 : decode cL_law 882 = .ok (.iload_n 3, 1) := by decide +kernel
theorem dL_law_883 : decode cL_law 883 = .ok (.iconst 1, 1) := by decide +kernel
theorem dL_law_884 : decode cL_law 884 = .ok (.iadd, 1) := by decide +kernel
theorem dL_law_885 : decode cL_law 885 = .ok (.iaload, 1) := by decide +kernel
theorem dL_law_886 : decode cL_law 886 = .ok (.aload_n 0, 1) := by decide +kernel
theorem dL_law_887 : decode cL_law 887 = .ok (.iload_n 3, 1) := by decide +kernel
theorem dL_law_888 : decode cL_law 888 = .ok (.iconst 2, 1) := by decide +kernel
theorem dL_law_889 : decode cL_law 889 = .ok (.iadd, 1) := by decide +kernel
theorem dL_law_890 : decode cL_law 890 = .ok (.iaload, 1) := by decide +kernel
theorem dL_law_891 : decode cL_law 891 = .ok (.invokevirtual 93, 3) := by decide +kernel
theorem dL_law_894 : decode cL_law 894 = .ok (.lcmp, 1) := by decide +kernel
theorem dL_law_895 : decode cL_law 895 = .ok (.ifCond .eq 435, 3) := by decide +kernel
theorem dL_law_898 : decode cL_law 898 = .ok (.iconst 0, 1) := by decide +kernel
theorem dL_law_899 : decode cL_law 899 = .ok (.ireturn, 1) := by decide +kernel
theorem dL_law_900 : decode cL_law 900 = .ok (.aload_n 1, 1) := by decide +kernel
theorem dL_law_901 : decode cL_law 901 = .ok (.aload_n 0, 1) := by decide +kernel
theorem dL_law_902 : decode cL_law 902 = .ok (.iload_n 3, 1) := by decide +kernel
theorem dL_law_903 : decode cL_law 903 = .ok (.iconst 1, 1) := by decide +kernel
theorem dL_law_904 : decode cL_law 904 = .ok (.iadd, 1) := by decide +kernel
theorem dL_law_905 : decode cL_law 905 = .ok (.iaload, 1) := by decide +kernel
theorem dL_law_906 : decode cL_law 906 = .ok (.aload_n 0, 1) := by decide +kernel
theorem dL_law_907 : decode cL_law 907 = .ok (.iload_n 3, 1) := by decide +kernel
theorem dL_law_908 : decode cL_law 908 = .ok (.iconst 2, 1) := by decide +kernel
theorem dL_law_909 : decode cL_law 909 = .ok (.iadd, 1) := by decide +kernel
theorem dL_law_910 : decode cL_law 910 = .ok (.iaload, 1) := by decide +kernel
theorem dL_law_911 : decode cL_law 911 = .ok (.aload_n 0, 1) := by decide +kernel
theorem dL_law_912 : decode cL_law 912 = .ok (.iload_n 3, 1) := by decide +kernel
theorem dL_law_913 : decode cL_law 913 = .ok (.iconst 3, 1) := by decide +kernel
theorem dL_law_914 : decode cL_law 914 = .ok (.iadd, 1) := by decide +kernel
theorem dL_law_915 : decode cL_law 915 = .ok (.iaload, 1) := by decide +kernel
theorem dL_law_916 : decode cL_law 916 = .ok (.invokevirtual 94, 3) := by decide +kernel
theorem dL_law_919 : decode cL_law 919 = .ok (.aload_n 2, 1) := by decide +kernel
theorem dL_law_920 : decode cL_law 920 = .ok (.aload_n 0, 1) := by decide +kernel
theorem dL_law_921 : decode cL_law 921 = .ok (.iload_n 3, 1) := by decide +kernel
theorem dL_law_922 : decode cL_law 922 = .ok (.iconst 1, 1) := by decide +kernel
theorem dL_law_923 : decode cL_law 923 = .ok (.iadd, 1) := by decide +kernel
theorem dL_law_924 : decode cL_law 924 = .ok (.iaload, 1) := by decide +kernel
theorem dL_law_925 : decode cL_law 925 = .ok (.aload_n 0, 1) := by decide +kernel
theorem dL_law_926 : decode cL_law 926 = .ok (.iload_n 3, 1) := by decide +kernel
theorem dL_law_927 : decode cL_law 927 = .ok (.iconst 2, 1) := by decide +kernel
theorem dL_law_928 : decode cL_law 928 = .ok (.iadd, 1) := by decide +kernel
theorem dL_law_929 : decode cL_law 929 = .ok (.iaload, 1) := by decide +kernel
theorem dL_law_930 : decode cL_law 930 = .ok (.aload_n 0, 1) := by decide +kernel
theorem dL_law_931 : decode cL_law 931 = .ok (.iload_n 3, 1) := by decide +kernel
theorem dL_law_932 : decode cL_law 932 = .ok (.iconst 3, 1) := by decide +kernel
theorem dL_law_933 : decode cL_law 933 = .ok (.iadd, 1) := by decide +kernel
theorem dL_law_934 : decode cL_law 934 = .ok (.iaload, 1) := by decide +kernel
theorem dL_law_935 : decode cL_law 935 = .ok (.invokevirtual 97, 3) := by decide +kernel
theorem dL_law_938 : decode cL_law 938 = .ok (.lcmp, 1) := by decide +kernel
theorem dL_law_939 : decode cL_law 939 = .ok (.ifCond .eq 391, 3) := by decide +kernel
theorem dL_law_942 : decode cL_law 942 = .ok (.iconst 0, 1) := by decide +kernel
theorem dL_law_943 : decode cL_law 943 = .ok (.ireturn, 1) := by decide +kernel
theorem dL_law_944 : decode cL_law 944 = .ok (.aload_n 1, 1) := by decide +kernel
theorem dL_law_945 : decode cL_law 945 = .ok (.aload_n 0, 1) := by decide +kernel
theorem dL_law_946 : decode cL_law 946 = .ok (.iload_n 3, 1) := by decide +kernel
theorem dL_law_947 : decode cL_law 947 = .ok (.iconst 1, 1) := by decide +kernel
theorem dL_law_948 : decode cL_law 948 = .ok (.iadd, 1) := by decide +kernel
theorem dL_law_949 : decode cL_law 949 = .ok (.iaload, 1) := by decide +kernel
theorem dL_law_950 : decode cL_law 950 = .ok (.aload_n 0, 1) := by decide +kernel
theorem dL_law_951 : decode cL_law 951 = .ok (.iload_n 3, 1) := by decide +kernel
theorem dL_law_952 : decode cL_law 952 = .ok (.iconst 2, 1) := by decide +kernel
theorem dL_law_953 : decode cL_law 953 = .ok (.iadd, 1) := by decide +kernel
theorem dL_law_954 : decode cL_law 954 = .ok (.iaload, 1) := by decide +kernel
theorem dL_law_955 : decode cL_law 955 = .ok (.aload_n 0, 1) := by decide +kernel
theorem dL_law_956 : decode cL_law 956 = .ok (.iload_n 3, 1) := by decide +kernel
theorem dL_law_957 : decode cL_law 957 = .ok (.iconst 3, 1) := by decide +kernel
theorem dL_law_958 : decode cL_law 958 = .ok (.iadd, 1) := by decide +kernel
theorem dL_law_959 : decode cL_law 959 = .ok (.iaload, 1) := by decide +kernel
theorem dL_law_960 : decode cL_law 960 = .ok (.invokevirtual 98, 3) := by decide +kernel
theorem dL_law_963 : decode cL_law 963 = .ok (.aload_n 2, 1) := by decide +kernel
theorem dL_law_964 : decode cL_law 964 = .ok (.aload_n 0, 1) := by decide +kernel
theorem dL_law_965 : decode cL_law 965 = .ok (.iload_n 3, 1) := by decide +kernel
theorem dL_law_966 : decode cL_law 966 = .ok (.iconst 1, 1) := by decide +kernel
theorem dL_law_967 : decode cL_law 967 = .ok (.iadd, 1) := by decide +kernel
theorem dL_law_968 : decode cL_law 968 = .ok (.iaload, 1) := by decide +kernel
theorem dL_law_969 : decode cL_law 969 = .ok (.aload_n 0, 1) := by decide +kernel
theorem dL_law_970 : decode cL_law 970 = .ok (.iload_n 3, 1) := by decide +kernel
theorem dL_law_971 : decode cL_law 971 = .ok (.iconst 2, 1) := by decide +kernel
theorem dL_law_972 : decode cL_law 972 = .ok (.iadd, 1) := by decide +kernel
theorem dL_law_973 : decode cL_law 973 = .ok (.iaload, 1) := by decide +kernel
theorem dL_law_974 : decode cL_law 974 = .ok (.aload_n 0, 1) := by decide +kernel
theorem dL_law_975 : decode cL_law 975 = .ok (.iload_n 3, 1) := by decide +kernel
theorem dL_law_976 : decode cL_law 976 = .ok (.iconst 3, 1) := by decide +kernel
theorem dL_law_977 : decode cL_law 977 = .ok (.iadd, 1) := by decide +kernel
theorem dL_law_978 : decode cL_law 978 = .ok (.iaload, 1) := by decide +kernel
theorem dL_law_979 : decode cL_law 979 = .ok (.invokevirtual 101, 3) := by decide +kernel
theorem dL_law_982 : decode cL_law 982 = .ok (.lcmp, 1) := by decide +kernel
theorem dL_law_983 : decode cL_law 983 = .ok (.ifCond .eq 347, 3) := by decide +kernel
theorem dL_law_986 : decode cL_law 986 = .ok (.iconst 0, 1) := by decide +kernel
theorem dL_law_987 : decode cL_law 987 = .ok (.ireturn, 1) := by decide +kernel
theorem dL_law_988 : decode cL_law 988 = .ok (.aload_n 1, 1) := by decide +kernel
theorem dL_law_989 : decode cL_law 989 = .ok (.aload_n 0, 1) := by decide +kernel
theorem dL_law_990 : decode cL_law 990 = .ok (.iload_n 3, 1) := by decide +kernel
theorem dL_law_991 : decode cL_law 991 = .ok (.iconst 1, 1) := by decide +kernel
theorem dL_law_992 : decode cL_law 992 = .ok (.iadd, 1) := by decide +kernel
theorem dL_law_993 : decode cL_law 993 = .ok (.iaload, 1) := by decide +kernel
theorem dL_law_994 : decode cL_law 994 = .ok (.aload_n 0, 1) := by decide +kernel
theorem dL_law_995 : decode cL_law 995 = .ok (.iload_n 3, 1) := by decide +kernel
theorem dL_law_996 : decode cL_law 996 = .ok (.iconst 2, 1) := by decide +kernel
theorem dL_law_997 : decode cL_law 997 = .ok (.iadd, 1) := by decide +kernel
theorem dL_law_998 : decode cL_law 998 = .ok (.iaload, 1) := by decide +kernel
theorem dL_law_999 : decode cL_law 999 = .ok (.i2l, 1) := by decide +kernel
theorem dL_law_1000 : decode cL_law 1000 = .ok (.bipush 32, 2) := by decide +kernel
theorem dL_law_1002 : decode cL_law 1002 = .ok (.lshl, 1) := by decide +kernel
theorem dL_law_1003 : decode cL_law 1003 = .ok (.aload_n 0, 1) := by decide +kernel
theorem dL_law_1004 : decode cL_law 1004 = .ok (.iload_n 3, 1) := by decide +kernel
theorem dL_law_1005 : decode cL_law 1005 = .ok (.iconst 3, 1) := by decide +kernel
theorem dL_law_1006 : decode cL_law 1006 = .ok (.iadd, 1) := by decide +kernel
theorem dL_law_1007 : decode cL_law 1007 = .ok (.iaload, 1) := by decide +kernel
theorem dL_law_1008 : decode cL_law 1008 = .ok (.i2l, 1) := by decide +kernel
theorem dL_law_1009 : decode cL_law 1009 = .ok (.ldc2_w 102, 3) := by decide +kernel
theorem dL_law_1012 : decode cL_law 1012 = .ok (.land, 1) := by decide +kernel
theorem dL_law_1013 : decode cL_law 1013 = .ok (.lor, 1) := by decide +kernel
theorem dL_law_1014 : decode cL_law 1014 = .ok (.aload_n 0, 1) := by decide +kernel
theorem dL_law_1015 : decode cL_law 1015 = .ok (.iload_n 3, 1) := by decide +kernel
theorem dL_law_1016 : decode cL_law 1016 = .ok (.iconst 4, 1) := by decide +kernel
theorem dL_law_1017 : decode cL_law 1017 = .ok (.iadd, 1) := by decide +kernel
theorem dL_law_1018 : decode cL_law 1018 = .ok (.iaload, 1) := by decide +kernel
theorem dL_law_1019 : decode cL_law 1019 = .ok (.invokevirtual 104, 3) := by decide +kernel
theorem dL_law_1022 : decode cL_law 1022 = .ok (.aload_n 2, 1) := by decide +kernel
theorem dL_law_1023 : decode cL_law 1023 = .ok (.aload_n 0, 1) := by decide +kernel
theorem dL_law_1024 : decode cL_law 1024 = .ok (.iload_n 3, 1) := by decide +kernel
theorem dL_law_1025 : decode cL_law 1025 = .ok (.iconst 1, 1) := by decide +kernel
theorem dL_law_1026 : decode cL_law 1026 = .ok (.iadd, 1) := by decide +kernel
theorem dL_law_1027 : decode cL_law 1027 = .ok (.iaload, 1) := by decide +kernel
theorem dL_law_1028 : decode cL_law 1028 = .ok (.aload_n 0, 1) := by decide +kernel
theorem dL_law_1029 : decode cL_law 1029 = .ok (.iload_n 3, 1) := by decide +kernel
theorem dL_law_1030 : decode cL_law 1030 = .ok (.iconst 2, 1) := by decide +kernel
theorem dL_law_1031 : decode cL_law 1031 = .ok (.iadd, 1) := by decide +kernel
theorem dL_law_1032 : decode cL_law 1032 = .ok (.iaload, 1) := by decide +kernel
theorem dL_law_1033 : decode cL_law 1033 = .ok (.i2l, 1) := by decide +kernel
theorem dL_law_1034 : decode cL_law 1034 = .ok (.bipush 32, 2) := by decide +kernel
theorem dL_law_1036 : decode cL_law 1036 = .ok (.lshl, 1) := by decide +kernel
theorem dL_law_1037 : decode cL_law 1037 = .ok (.aload_n 0, 1) := by decide +kernel
theorem dL_law_1038 : decode cL_law 1038 = .ok (.iload_n 3, 1) := by decide +kernel
theorem dL_law_1039 : decode cL_law 1039 = .ok (.iconst 3, 1) := by decide +kernel
theorem dL_law_1040 : decode cL_law 1040 = .ok (.iadd, 1) := by decide +kernel
theorem dL_law_1041 : decode cL_law 1041 = .ok (.iaload, 1) := by decide +kernel
theorem dL_law_1042 : decode cL_law 1042 = .ok (.i2l, 1) := by decide +kernel
theorem dL_law_1043 : decode cL_law 1043 = .ok (.ldc2_w 102, 3) := by decide +kernel
theorem dL_law_1046 : decode cL_law 1046 = .ok (.land, 1) := by decide +kernel
theorem dL_law_1047 : decode cL_law 1047 = .ok (.lor, 1) := by decide +kernel
theorem dL_law_1048 : decode cL_law 1048 = .ok (.aload_n 0, 1) := by decide +kernel
theorem dL_law_1049 : decode cL_law 1049 = .ok (.iload_n 3, 1) := by decide +kernel
theorem dL_law_1050 : decode cL_law 1050 = .ok (.iconst 4, 1) := by decide +kernel
theorem dL_law_1051 : decode cL_law 1051 = .ok (.iadd, 1) := by decide +kernel
theorem dL_law_1052 : decode cL_law 1052 = .ok (.iaload, 1) := by decide +kernel
theorem dL_law_1053 : decode cL_law 1053 = .ok (.invokevirtual 108, 3) := by decide +kernel
theorem dL_law_1056 : decode cL_law 1056 = .ok (.lcmp, 1) := by decide +kernel
theorem dL_law_1057 : decode cL_law 1057 = .ok (.ifCond .eq 273, 3) := by decide +kernel
theorem dL_law_1060 : decode cL_law 1060 = .ok (.iconst 0, 1) := by decide +kernel
theorem dL_law_1061 : decode cL_law 1061 = .ok (.ireturn, 1) := by decide +kernel
theorem dL_law_1062 : decode cL_law 1062 = .ok (.aload_n 1, 1) := by decide +kernel
theorem dL_law_1063 : decode cL_law 1063 = .ok (.aload_n 0, 1) := by decide +kernel
theorem dL_law_1064 : decode cL_law 1064 = .ok (.iload_n 3, 1) := by decide +kernel
theorem dL_law_1065 : decode cL_law 1065 = .ok (.iconst 1, 1) := by decide +kernel
theorem dL_law_1066 : decode cL_law 1066 = .ok (.iadd, 1) := by decide +kernel
theorem dL_law_1067 : decode cL_law 1067 = .ok (.iaload, 1) := by decide +kernel
theorem dL_law_1068 : decode cL_law 1068 = .ok (.aload_n 0, 1) := by decide +kernel
theorem dL_law_1069 : decode cL_law 1069 = .ok (.iload_n 3, 1) := by decide +kernel
theorem dL_law_1070 : decode cL_law 1070 = .ok (.iconst 2, 1) := by decide +kernel
theorem dL_law_1071 : decode cL_law 1071 = .ok (.iadd, 1) := by decide +kernel
theorem dL_law_1072 : decode cL_law 1072 = .ok (.iaload, 1) := by decide +kernel
theorem dL_law_1073 : decode cL_law 1073 = .ok (.i2l, 1) := by decide +kernel
theorem dL_law_1074 : decode cL_law 1074 = .ok (.bipush 32, 2) := by decide +kernel
theorem dL_law_1076 : decode cL_law 1076 = .ok (.lshl, 1) := by decide +kernel
theorem dL_law_1077 : decode cL_law 1077 = .ok (.aload_n 0, 1) := by decide +kernel
theorem dL_law_1078 : decode cL_law 1078 = .ok (.iload_n 3, 1) := by decide +kernel
theorem dL_law_1079 : decode cL_law 1079 = .ok (.iconst 3, 1) := by decide +kernel
theorem dL_law_1080 : decode cL_law 1080 = .ok (.iadd, 1) := by decide +kernel
theorem dL_law_1081 : decode cL_law 1081 = .ok (.iaload, 1) := by decide +kernel
theorem dL_law_1082 : decode cL_law 1082 = .ok (.i2l, 1) := by decide +kernel
theorem dL_law_1083 : decode cL_law 1083 = .ok (.ldc2_w 102, 3) := by decide +kernel
theorem dL_law_1086 : decode cL_law 1086 = .ok (.land, 1) := by decide +kernel
theorem dL_law_1087 : decode cL_law 1087 = .ok (.lor, 1) := by decide +kernel
theorem dL_law_1088 : decode cL_law 1088 = .ok (.invokevirtual 109, 3) := by decide +kernel
theorem dL_law_1091 : decode cL_law 1091 = .ok (.aload_n 2, 1) := by decide +kernel
theorem dL_law_1092 : decode cL_law 1092 = .ok (.aload_n 0, 1) := by decide +kernel
theorem dL_law_1093 : decode cL_law 1093 = .ok (.iload_n 3, 1) := by decide +kernel
theorem dL_law_1094 : decode cL_law 1094 = .ok (.iconst 1, 1) := by decide +kernel
theorem dL_law_1095 : decode cL_law 1095 = .ok (.iadd, 1) := by decide +kernel
theorem dL_law_1096 : decode cL_law 1096 = .ok (.iaload, 1) := by decide +kernel
theorem dL_law_1097 : decode cL_law 1097 = .ok (.aload_n 0, 1) := by decide +kernel
theorem dL_law_1098 : decode cL_law 1098 = .ok (.iload_n 3, 1) := by decide +kernel
theorem dL_law_1099 : decode cL_law 1099 = .ok (.iconst 2, 1) := by decide +kernel
theorem dL_law_1100 : decode cL_law 1100 = .ok (.iadd, 1) := by decide +kernel
theorem dL_law_1101 : decode cL_law 1101 = .ok (.iaload, 1) := by decide +kernel
theorem dL_law_1102 : decode cL_law 1102 = .ok (.i2l, 1) := by decide +kernel
theorem dL_law_1103 : decode cL_law 1103 = .ok (.bipush 32, 2) := by decide +kernel
theorem dL_law_1105 : decode cL_law 1105 = .ok (.lshl, 1) := by decide +kernel
theorem dL_law_1106 : decode cL_law 1106 = .ok (.aload_n 0, 1) := by decide +kernel
theorem dL_law_1107 : decode cL_law 1107 = .ok (.iload_n 3, 1) := by decide +kernel
theorem dL_law_1108 : decode cL_law 1108 = .ok (.iconst 3, 1) := by decide +kernel
theorem dL_law_1109 : decode cL_law 1109 = .ok (.iadd, 1) := by decide +kernel
theorem dL_law_1110 : decode cL_law 1110 = .ok (.iaload, 1) := by decide +kernel
theorem dL_law_1111 : decode cL_law 1111 = .ok (.i2l, 1) := by decide +kernel
theorem dL_law_1112 : decode cL_law 1112 = .ok (.ldc2_w 102, 3) := by decide +kernel
theorem dL_law_1115 : decode cL_law 1115 = .ok (.land, 1) := by decide +kernel
theorem dL_law_1116 : decode cL_law 1116 = .ok (.lor, 1) := by decide +kernel
theorem dL_law_1117 : decode cL_law 1117 = .ok (.invokevirtual 113, 3) := by decide +kernel
theorem dL_law_1120 : decode cL_law 1120 = .ok (.lcmp, 1) := by decide +kernel
theorem dL_law_1121 : decode cL_law 1121 = .ok (.ifCond .eq 209, 3) := by decide +kernel
theorem dL_law_1124 : decode cL_law 1124 = .ok (.iconst 0, 1) := by decide +kernel
theorem dL_law_1125 : decode cL_law 1125 = .ok (.ireturn, 1) := by decide +kernel
theorem dL_law_1126 : decode cL_law 1126 = .ok (.aload_n 1, 1) := by decide +kernel
theorem dL_law_1127 : decode cL_law 1127 = .ok (.aload_n 0, 1) := by decide +kernel
theorem dL_law_1128 : decode cL_law 1128 = .ok (.iload_n 3, 1) := by decide +kernel
theorem dL_law_1129 : decode cL_law 1129 = .ok (.iconst 1, 1) := by decide +kernel
theorem dL_law_1130 : decode cL_law 1130 = .ok (.iadd, 1) := by decide +kernel
theorem dL_law_1131 : decode cL_law 1131 = .ok (.iaload, 1) := by decide +kernel
theorem dL_law_1132 : decode cL_law 1132 = .ok (.aload_n 0, 1) := by decide +kernel
theorem dL_law_1133 : decode cL_law 1133 = .ok (.iload_n 3, 1) := by decide +kernel
theorem dL_law_1134 : decode cL_law 1134 = .ok (.iconst 2, 1) := by decide +kernel
theorem dL_law_1135 : decode cL_law 1135 = .ok (.iadd, 1) := by decide +kernel
theorem dL_law_1136 : decode cL_law 1136 = .ok (.iaload, 1) := by decide +kernel
theorem dL_law_1137 : decode cL_law 1137 = .ok (.aload_n 0, 1) := by decide +kernel
theorem dL_law_1138 : decode cL_law 1138 = .ok (.iload_n 3, 1) := by decide +kernel
theorem dL_law_1139 : decode cL_law 1139 = .ok (.iconst 3, 1) := by decide +kernel
theorem dL_law_1140 : decode cL_law 1140 = .ok (.iadd, 1) := by decide +kernel
theorem dL_law_1141 : decode cL_law 1141 = .ok (.iaload, 1) := by decide +kernel
theorem dL_law_1142 : decode cL_law 1142 = .ok (.aload_n 0, 1) := by decide +kernel
theorem dL_law_1143 : decode cL_law 1143 = .ok (.iload_n 3, 1) := by decide +kernel
theorem dL_law_1144 : decode cL_law 1144 = .ok (.iconst 4, 1) := by decide +kernel
theorem dL_law_1145 : decode cL_law 1145 = .ok (.iadd, 1) := by decide +kernel
theorem dL_law_1146 : decode cL_law 1146 = .ok (.iaload, 1) := by decide +kernel
theorem dL_law_1147 : decode cL_law 1147 = .ok (.invokevirtual 114, 3) := by decide +kernel
theorem dL_law_1150 : decode cL_law 1150 = .ok (.aload_n 2, 1) := by decide +kernel
theorem dL_law_1151 : decode cL_law 1151 = .ok (.aload_n 0, 1) := by decide +kernel
theorem dL_law_1152 : decode cL_law 1152 = .ok (.iload_n 3, 1) := by decide +kernel
theorem dL_law_1153 : decode cL_law 1153 = .ok (.iconst 1, 1) := by decide +kernel
theorem dL_law_1154 : decode cL_law 1154 = .ok (.iadd, 1) := by decide +kernel
theorem dL_law_1155 : decode cL_law 1155 = .ok (.iaload, 1) := by decide +kernel
theorem dL_law_1156 : decode cL_law 1156 = .ok (.aload_n 0, 1) := by decide +kernel
theorem dL_law_1157 : decode cL_law 1157 = .ok (.iload_n 3, 1) := by decide +kernel
theorem dL_law_1158 : decode cL_law 1158 = .ok (.iconst 2, 1) := by decide +kernel
theorem dL_law_1159 : decode cL_law 1159 = .ok (.iadd, 1) := by decide +kernel
theorem dL_law_1160 : decode cL_law 1160 = .ok (.iaload, 1) := by decide +kernel
theorem dL_law_1161 : decode cL_law 1161 = .ok (.aload_n 0, 1) := by decide +kernel
theorem dL_law_1162 : decode cL_law 1162 = .ok (.iload_n 3, 1) := by decide +kernel
theorem dL_law_1163 : decode cL_law 1163 = .ok (.iconst 3, 1) := by decide +kernel
theorem dL_law_1164 : decode cL_law 1164 = .ok (.iadd, 1) := by decide +kernel
theorem dL_law_1165 : decode cL_law 1165 = .ok (.iaload, 1) := by decide +kernel
theorem dL_law_1166 : decode cL_law 1166 = .ok (.aload_n 0, 1) := by decide +kernel
theorem dL_law_1167 : decode cL_law 1167 = .ok (.iload_n 3, 1) := by decide +kernel
theorem dL_law_1168 : decode cL_law 1168 = .ok (.iconst 4, 1) := by decide +kernel
theorem dL_law_1169 : decode cL_law 1169 = .ok (.iadd, 1) := by decide +kernel
theorem dL_law_1170 : decode cL_law 1170 = .ok (.iaload, 1) := by decide +kernel
theorem dL_law_1171 : decode cL_law 1171 = .ok (.invokevirtual 117, 3) := by decide +kernel
theorem dL_law_1174 : decode cL_law 1174 = .ok (.lcmp, 1) := by decide +kernel
theorem dL_law_1175 : decode cL_law 1175 = .ok (.ifCond .eq 155, 3) := by decide +kernel
theorem dL_law_1178 : decode cL_law 1178 = .ok (.iconst 0, 1) := by decide +kernel
theorem dL_law_1179 : decode cL_law 1179 = .ok (.ireturn, 1) := by decide +kernel
theorem dL_law_1180 : decode cL_law 1180 = .ok (.aload_n 1, 1) := by decide +kernel
theorem dL_law_1181 : decode cL_law 1181 = .ok (.aload_n 0, 1) := by decide +kernel
theorem dL_law_1182 : decode cL_law 1182 = .ok (.iload_n 3, 1) := by decide +kernel
theorem dL_law_1183 : decode cL_law 1183 = .ok (.iconst 1, 1) := by decide +kernel
theorem dL_law_1184 : decode cL_law 1184 = .ok (.iadd, 1) := by decide +kernel
theorem dL_law_1185 : decode cL_law 1185 = .ok (.iaload, 1) := by decide +kernel
theorem dL_law_1186 : decode cL_law 1186 = .ok (.aload_n 0, 1) := by decide +kernel
theorem dL_law_1187 : decode cL_law 1187 = .ok (.iload_n 3, 1) := by decide +kernel
theorem dL_law_1188 : decode cL_law 1188 = .ok (.iconst 2, 1) := by decide +kernel
theorem dL_law_1189 : decode cL_law 1189 = .ok (.iadd, 1) := by decide +kernel
theorem dL_law_1190 : decode cL_law 1190 = .ok (.iaload, 1) := by decide +kernel
theorem dL_law_1191 : decode cL_law 1191 = .ok (.invokevirtual 118, 3) := by decide +kernel
theorem dL_law_1194 : decode cL_law 1194 = .ok (.aload_n 2, 1) := by decide +kernel
theorem dL_law_1195 : decode cL_law 1195 = .ok (.aload_n 0, 1) := by decide +kernel
theorem dL_law_1196 : decode cL_law 1196 = .ok (.iload_n 3, 1) := by decide +kernel
theorem dL_law_1197 : decode cL_law 1197 = .ok (.iconst 1, 1) := by decide +kernel
theorem dL_law_1198 : decode cL_law 1198 = .ok (.iadd, 1) := by decide +kernel
theorem dL_law_1199 : decode cL_law 1199 = .ok (.iaload, 1) := by decide +kernel
theorem dL_law_1200 : decode cL_law 1200 = .ok (.aload_n 0, 1) := by decide +kernel
theorem dL_law_1201 : decode cL_law 1201 = .ok (.iload_n 3, 1) := by decide +kernel
theorem dL_law_1202 : decode cL_law 1202 = .ok (.iconst 2, 1) := by decide +kernel
theorem dL_law_1203 : decode cL_law 1203 = .ok (.iadd, 1) := by decide +kernel
theorem dL_law_1204 : decode cL_law 1204 = .ok (.iaload, 1) := by decide +kernel
theorem dL_law_1205 : decode cL_law 1205 = .ok (.invokevirtual 121, 3) := by decide +kernel
theorem dL_law_1208 : decode cL_law 1208 = .ok (.lcmp, 1) := by decide +kernel
theorem dL_law_1209 : decode cL_law 1209 = .ok (.ifCond .eq 121, 3) := by decide +kernel
theorem dL_law_1212 : decode cL_law 1212 = .ok (.iconst 0, 1) := by decide +kernel
theorem dL_law_1213 : decode cL_law 1213 = .ok (.ireturn, 1) := by decide +kernel
theorem dL_law_1214 : decode cL_law 1214 = .ok (.aload_n 1, 1) := by decide +kernel
theorem dL_law_1215 : decode cL_law 1215 = .ok (.invokevirtual 122, 3) := by decide +kernel
theorem dL_law_1218 : decode cL_law 1218 = .ok (.aload_n 2, 1) := by decide +kernel
theorem dL_law_1219 : decode cL_law 1219 = .ok (.invokevirtual 125, 3) := by decide +kernel
theorem dL_law_1222 : decode cL_law 1222 = .ok (.lcmp, 1) := by decide +kernel
theorem dL_law_1223 : decode cL_law 1223 = .ok (.ifCond .eq 107, 3) := by decide +kernel
theorem dL_law_1226 : decode cL_law 1226 = .ok (.iconst 0, 1) := by decide +kernel
theorem dL_law_1227 : decode cL_law 1227 = .ok (.ireturn, 1) := by decide +kernel
theorem dL_law_1228 : decode cL_law 1228 = .ok (.aload_n 1, 1) := by decide +kernel
theorem dL_law_1229 : decode cL_law 1229 = .ok (.aload_n 0, 1) := by decide +kernel
theorem dL_law_1230 : decode cL_law 1230 = .ok (.iload_n 3, 1) := by decide +kernel
theorem dL_law_1231 : decode cL_law 1231 = .ok (.iconst 1, 1) := by decide +kernel
theorem dL_law_1232 : decode cL_law 1232 = .ok (.iadd, 1) := by decide +kernel
theorem dL_law_1233 : decode cL_law 1233 = .ok (.iaload, 1) := by decide +kernel
theorem dL_law_1234 : decode cL_law 1234 = .ok (.aload_n 0, 1) := by decide +kernel
theorem dL_law_1235 : decode cL_law 1235 = .ok (.iload_n 3, 1) := by decide +kernel
theorem dL_law_1236 : decode cL_law 1236 = .ok (.iconst 2, 1) := by decide +kernel
theorem dL_law_1237 : decode cL_law 1237 = .ok (.iadd, 1) := by decide +kernel
theorem dL_law_1238 : decode cL_law 1238 = .ok (.iaload, 1) := by decide +kernel
theorem dL_law_1239 : decode cL_law 1239 = .ok (.aload_n 0, 1) := by decide +kernel
theorem dL_law_1240 : decode cL_law 1240 = .ok (.iload_n 3, 1) := by decide +kernel
theorem dL_law_1241 : decode cL_law 1241 = .ok (.iconst 3, 1) := by decide +kernel
theorem dL_law_1242 : decode cL_law 1242 = .ok (.iadd, 1) := by decide +kernel
theorem dL_law_1243 : decode cL_law 1243 = .ok (.iaload, 1) := by decide +kernel
theorem dL_law_1244 : decode cL_law 1244 = .ok (.invokevirtual 126, 3) := by decide +kernel
theorem dL_law_1247 : decode cL_law 1247 = .ok (.aload_n 2, 1) := by decide +kernel
theorem dL_law_1248 : decode cL_law 1248 = .ok (.aload_n 0, 1) := by decide +kernel
theorem dL_law_1249 : decode cL_law 1249 = .ok (.iload_n 3, 1) := by decide +kernel
theorem dL_law_1250 : decode cL_law 1250 = .ok (.iconst 1, 1) := by decide +kernel
theorem dL_law_1251 : decode cL_law 1251 = .ok (.iadd, 1) := by decide +kernel
theorem dL_law_1252 : decode cL_law 1252 = .ok (.iaload, 1) := by decide +kernel
theorem dL_law_1253 : decode cL_law 1253 = .ok (.aload_n 0, 1) := by decide +kernel
theorem dL_law_1254 : decode cL_law 1254 = .ok (.iload_n 3, 1) := by decide +kernel
theorem dL_law_1255 : decode cL_law 1255 = .ok (.iconst 2, 1) := by decide +kernel
theorem dL_law_1256 : decode cL_law 1256 = .ok (.iadd, 1) := by decide +kernel
theorem dL_law_1257 : decode cL_law 1257 = .ok (.iaload, 1) := by decide +kernel
theorem dL_law_1258 : decode cL_law 1258 = .ok (.aload_n 0, 1) := by decide +kernel
theorem dL_law_1259 : decode cL_law 1259 = .ok (.iload_n 3, 1) := by decide +kernel
theorem dL_law_1260 : decode cL_law 1260 = .ok (.iconst 3, 1) := by decide +kernel
theorem dL_law_1261 : decode cL_law 1261 = .ok (.iadd, 1) := by decide +kernel
theorem dL_law_1262 : decode cL_law 1262 = .ok (.iaload, 1) := by decide +kernel
theorem dL_law_1263 : decode cL_law 1263 = .ok (.invokevirtual 129, 3) := by decide +kernel
theorem dL_law_1266 : decode cL_law 1266 = .ok (.lcmp, 1) := by decide +kernel
theorem dL_law_1267 : decode cL_law 1267 = .ok (.ifCond .eq 63, 3) := by decide +kernel
theorem dL_law_1270 : decode cL_law 1270 = .ok (.iconst 0, 1) := by decide +kernel
theorem dL_law_1271 : decode cL_law 1271 = .ok (.ireturn, 1) := by decide +kernel
theorem dL_law_1272 : decode cL_law 1272 = .ok (.aload_n 1, 1) := by decide +kernel
theorem dL_law_1273 : decode cL_law 1273 = .ok (.aload_n 0, 1) := by decide +kernel
theorem dL_law_1274 : decode cL_law 1274 = .ok (.iload_n 3, 1) := by decide +kernel
theorem dL_law_1275 : decode cL_law 1275 = .ok (.iconst 1, 1) := by decide +kernel
theorem dL_law_1276 : decode cL_law 1276 = .ok (.iadd, 1) := by decide +kernel
theorem dL_law_1277 : decode cL_law 1277 = .ok (.iaload, 1) := by decide +kernel
theorem dL_law_1278 : decode cL_law 1278 = .ok (.aload_n 0, 1) := by decide +kernel
theorem dL_law_1279 : decode cL_law 1279 = .ok (.iload_n 3, 1) := by decide +kernel
theorem dL_law_1280 : decode cL_law 1280 = .ok (.iconst 2, 1) := by decide +kernel
theorem dL_law_1281 : decode cL_law 1281 = .ok (.iadd, 1) := by decide +kernel
theorem dL_law_1282 : decode cL_law 1282 = .ok (.iaload, 1) := by decide +kernel
theorem dL_law_1283 : decode cL_law 1283 = .ok (.invokevirtual 130, 3) := by decide +kernel
theorem dL_law_1286 : decode cL_law 1286 = .ok (.aload_n 2, 1) := by decide +kernel
theorem dL_law_1287 : decode cL_law 1287 = .ok (.aload_n 0, 1) := by decide +kernel
theorem dL_law_1288 : decode cL_law 1288 = .ok (.iload_n 3, 1) := by decide +kernel
theorem dL_law_1289 : decode cL_law 1289 = .ok (.iconst 1, 1) := by decide +kernel
theorem dL_law_1290 : decode cL_law 1290 = .ok (.iadd, 1) := by decide +kernel
theorem dL_law_1291 : decode cL_law 1291 = .ok (.iaload, 1) := by decide +kernel
theorem dL_law_1292 : decode cL_law 1292 = .ok (.aload_n 0, 1) := by decide +kernel
theorem dL_law_1293 : decode cL_law 1293 = .ok (.iload_n 3, 1) := by decide +kernel
theorem dL_law_1294 : decode cL_law 1294 = .ok (.iconst 2, 1) := by decide +kernel
theorem dL_law_1295 : decode cL_law 1295 = .ok (.iadd, 1) := by decide +kernel
theorem dL_law_1296 : decode cL_law 1296 = .ok (.iaload, 1) := by decide +kernel
theorem dL_law_1297 : decode cL_law 1297 = .ok (.invokevirtual 133, 3) := by decide +kernel
theorem dL_law_1300 : decode cL_law 1300 = .ok (.lcmp, 1) := by decide +kernel
theorem dL_law_1301 : decode cL_law 1301 = .ok (.ifCond .eq 29, 3) := by decide +kernel
theorem dL_law_1304 : decode cL_law 1304 = .ok (.iconst 0, 1) := by decide +kernel
theorem dL_law_1305 : decode cL_law 1305 = .ok (.ireturn, 1) := by decide +kernel
theorem dL_law_1306 : decode cL_law 1306 = .ok (.aload_n 1, 1) := by decide +kernel
theorem dL_law_1307 : decode cL_law 1307 = .ok (.aload_n 0, 1) := by decide +kernel
theorem dL_law_1308 : decode cL_law 1308 = .ok (.iload_n 3, 1) := by decide +kernel
theorem dL_law_1309 : decode cL_law 1309 = .ok (.iconst 1, 1) := by decide +kernel
theorem dL_law_1310 : decode cL_law 1310 = .ok (.iadd, 1) := by decide +kernel
theorem dL_law_1311 : decode cL_law 1311 = .ok (.iaload, 1) := by decide +kernel
theorem dL_law_1312 : decode cL_law 1312 = .ok (.invokevirtual 134, 3) := by decide +kernel
theorem dL_law_1315 : decode cL_law 1315 = .ok (.aload_n 2, 1) := by decide +kernel
theorem dL_law_1316 : decode cL_law 1316 = .ok (.aload_n 0, 1) := by decide +kernel
theorem dL_law_1317 : decode cL_law 1317 = .ok (.iload_n 3, 1) := by decide +kernel
theorem dL_law_1318 : decode cL_law 1318 = .ok (.iconst 1, 1) := by decide +kernel
theorem dL_law_1319 : decode cL_law 1319 = .ok (.iadd, 1) := by decide +kernel
theorem dL_law_1320 : decode cL_law 1320 = .ok (.iaload, 1) := by decide +kernel
theorem dL_law_1321 : decode cL_law 1321 = .ok (.invokevirtual 137, 3) := by decide +kernel
theorem dL_law_1324 : decode cL_law 1324 = .ok (.lcmp, 1) := by decide +kernel
theorem dL_law_1325 : decode cL_law 1325 = .ok (.ifCond .eq 5, 3) := by decide +kernel
theorem dL_law_1328 : decode cL_law 1328 = .ok (.iconst 0, 1) := by decide +kernel
theorem dL_law_1329 : decode cL_law 1329 = .ok (.ireturn, 1) := by decide +kernel
theorem dL_law_1330 : decode cL_law 1330 = .ok (.iinc 3 5, 3) := by decide +kernel
theorem dL_law_1333 : decode cL_law 1333 = .ok (.goto (-1315), 3) := by decide +kernel
theorem dL_law_1336 : decode cL_law 1336 = .ok (.iconst 1, 1) := by decide +kernel
theorem dL_law_1337 : decode cL_law 1337 = .ok (.ireturn, 1) := by decide +kernel
end
section
/-! ===== the words that every method is given: the good ones of the tables ===== -/
def tG : List Cond := lw_tbl.filter goodWord
theorem tG_good : ∀ w ∈ tG, (w.onTables && w.keeps) = true ∨ ∃ ty, w = .arrayClass ty := fun w h => good_of_word (List.mem_filter.mp h).2
theorem tG_in : ∀ w ∈ tG, w ∈ lw_tbl := fun w h => (List.mem_filter.mp h).1
theorem tG_self : GoodIn tG tG := fun w h => ⟨h, tG_good w h⟩
theorem tG_mem {w : Cond} (i : Nat) (h : lw_tbl[i]? = some w) (hg : goodWord w = true) : w ∈ tG := List.mem_filter.mpr ⟨List.mem_of_getElem? h, hg⟩
abbrev wM (y : MethodName) (cc : ByteArray) (n : Nat) (ret : Option FieldType) : List Cond := Cond.code y cc n ret :: tG
theorem wM_good {y : MethodName} {cc : ByteArray} {n : Nat} {ret : Option FieldType} (h : Cond.code y cc n ret ∈ tG) : GoodIn tG (wM y cc n ret) := by
  intro w hw
  rcases List.mem_cons.mp hw with e | e
  · rw [e]; exact ⟨h, tG_good _ h⟩
  · exact tG_self w e
/-! ===== the world: how many cells, and for each address its kind (0 none, 1 + c an object of class number c, 20 + t an array of type number t), length, and what it holds ===== -/
abbrev Wd : Type := Nat × (Nat → Nat) × (Nat → Nat) × (Nat → Nat → Int32) × (Nat → Nat → Int64) × (Nat → Nat → Option Nat)
def gZ (G : Wd) : Nat := G.1
def gK (G : Wd) : Nat → Nat := G.2.1
def gN (G : Wd) : Nat → Nat := G.2.2.1
def gI (G : Wd) : Nat → Nat → Int32 := G.2.2.2.1
def gJ (G : Wd) : Nat → Nat → Int64 := G.2.2.2.2.1
def gR (G : Wd) : Nat → Nat → Option Nat := G.2.2.2.2.2
def u2 {α : Type} (f : Nat → Nat → α) (a k : Nat) (v : α) : Nat → Nat → α := fun b j => if b = a ∧ j = k then v else f b j
def z2 {α : Type} (f : Nat → Nat → α) (a : Nat) (v : α) : Nat → Nat → α := fun b j => if b = a then v else f b j
def uI (G : Wd) (a k : Nat) (v : Int32) : Wd := (gZ G, gK G, gN G, u2 (gI G) a k v, gJ G, gR G)
def uJ (G : Wd) (a k : Nat) (v : Int64) : Wd := (gZ G, gK G, gN G, gI G, u2 (gJ G) a k v, gR G)
def uR (G : Wd) (a k : Nat) (v : Option Nat) : Wd := (gZ G, gK G, gN G, gI G, gJ G, u2 (gR G) a k v)
/-- one cell more, all 0 and null: of kind c, with n places -/
def nC (G : Wd) (c n : Nat) : Wd := (gZ G + 1, va_up (gK G) (gZ G) c, va_up (gN G) (gZ G) n, z2 (gI G) (gZ G) 0, z2 (gJ G) (gZ G) 0, z2 (gR G) (gZ G) none)
abbrev Dx : Type := (Nat → ClassId) × (Nat → Nat → Nat) × (Nat → ClassId) × Nat × Nat
def dC (D : Dx) : Nat → ClassId := D.1
def dI (D : Dx) : Nat → Nat → Nat := D.2.1
def dA (D : Dx) : Nat → ClassId := D.2.2.1
def dB (D : Dx) : Nat := D.2.2.2.1
def dW (D : Dx) : Nat := D.2.2.2.2
/-- what a method may change: all that was made since the law began -/
def Ab (D : Dx) : Nat → Prop := fun q => dB D ≤ q
def tysD (D : Dx) : List (ClassId × FieldType) := [(dA D 0, .int), (dA D 1, .long), (dA D 2, .boolean), (dA D 3, .object RX1), (dA D 4, .object RX2), (dA D 5, .object RX5), (dA D 6, .object RX6)]
def tyOf (ci : Nat) : Nat → FieldType := match ci with
  | 0 => tyX0
  | 1 => tyX1
  | 2 => tyX2
  | 3 => tyX4
  | 4 => tyX5
  | 5 => tyX6
  | 6 => tyX7
  | 7 => tyX8
  | 8 => tyX9
  | 9 => tyX10
  | _ => tyX11
/-- the value of a place, by its type -/
def fv (ty : FieldType) (G : Wd) (a k : Nat) : Value := match ty with
  | .long => .long (gJ G a k)
  | .object _ => va_rf (gR G a k)
  | .array _ => va_rf (gR G a k)
  | _ => .int (gI G a k)
def cOk (D : Dx) (G : Wd) (H : Heap) (a : Nat) : Prop :=
  (∀ (ci : Nat) (r : vw_C), gK G a = ci + 1 → vwCl[ci]? = some r → t_OB a (dC D ci) r.2.2 (dI D ci) H (fun k => fv (tyOf ci k) G a k)) ∧
  (∀ (t : Nat) (q : ClassId × FieldType), gK G a = t + 20 → (tysD D)[t]? = some q → H[a]? = some (arrV q.1 (gN G a) (fun j => fv q.2 G a j)))
def Hd (D : Dx) (G : Wd) (H : Heap) : Prop := H.size = gZ G ∧ (∀ a, gK G a ≠ 0 → dB D ≤ a ∧ a < gZ G) ∧ ∀ a, cOk D G H a
def sameAt (G G' : Wd) (b : Nat) : Prop := gK G' b = gK G b ∧ gN G' b = gN G b ∧ (∀ k, gI G' b k = gI G b k) ∧ (∀ k, gJ G' b k = gJ G b k) ∧ ∀ k, gR G' b k = gR G b k
theorem fv_same {G G' : Wd} {b : Nat} (h : sameAt G G' b) (ty : FieldType) (k : Nat) : fv ty G' b k = fv ty G b k := by
  obtain ⟨h1, h2, h3, h4, h5⟩ := h
  cases ty <;> simp only [fv, h3, h4, h5]
theorem cOk.same {D : Dx} {G G' : Wd} {H H1 : Heap} {a : Nat} (h : cOk D G H a) (hs : sameAt G G' a) (hq : H1[a]? = H[a]?) : cOk D G' H1 a := by
  refine ⟨fun ci r h1 h2 => ?_, fun t q h1 h2 => ?_⟩
  · rw [hs.1] at h1
    exact ((h.1 ci r h1 h2).kept hq).to (fun k _ => (fv_same hs _ k).symm)
  · rw [hs.1] at h1
    rw [hq, h.2 t q h1 h2, hs.2.1]
    congr 2
    funext j
    exact (fv_same hs _ j).symm
/-- one cell is written -/
theorem Hd.put {D : Dx} {G G' : Wd} {H H1 : Heap} {a : Nat} (h : Hd D G H) (hz : H1.size = H.size) (oq : ∀ q : Nat, q ≠ a → H1[q]? = H[q]?) (hz' : gZ G' = gZ G) (hk : gK G' a = gK G a) (hs : ∀ b, b ≠ a → sameAt G G' b) (ha : cOk D G' H1 a) : Hd D G' H1 := by
  refine ⟨by rw [hz, hz']; exact h.1, fun b hb => ?_, fun b => ?_⟩
  · rw [hz']
    by_cases e : b = a
    · subst e; rw [hk] at hb; exact h.2.1 b hb
    · rw [(hs b e).1] at hb; exact h.2.1 b hb
  · by_cases e : b = a
    · subst e; exact ha
    · exact (h.2.2 b).same (hs b e) (oq b e)
/-- one cell comes -/
theorem Hd.new {D : Dx} {G : Wd} {H H1 : Heap} {c n : Nat} (h : Hd D G H) (hb : dB D ≤ gZ G) (hz : H1.size = H.size + 1) (oq : ∀ q : Nat, q < H.size → H1[q]? = H[q]?) (ha : cOk D (nC G c n) H1 (gZ G)) : Hd D (nC G c n) H1 := by
  have hs : ∀ b, b ≠ gZ G → sameAt G (nC G c n) b := by
    intro b e
    refine ⟨?_, ?_, fun k => ?_, fun k => ?_, fun k => ?_⟩ <;> simp [nC, gK, gN, gI, gJ, gR, va_up, z2] <;> intro q <;> exact absurd q e
  refine ⟨by rw [hz, h.1]; rfl, fun b hb' => ?_, fun b => ?_⟩
  · by_cases e : b = gZ G
    · subst e; exact ⟨hb, Nat.lt_succ_self _⟩
    · rw [(hs b e).1] at hb'
      exact ⟨(h.2.1 b hb').1, Nat.lt_succ_of_lt (h.2.1 b hb').2⟩
  · by_cases e : b = gZ G
    · subst e; exact ha
    · by_cases hk : gK G b = 0
      · have hk' : gK (nC G c n) b = 0 := by rw [(hs b e).1]; exact hk
        exact ⟨fun ci r h1 _ => by omega, fun t q h1 _ => by omega⟩
      · exact (h.2.2 b).same (hs b e) (oq b (by rw [h.1]; exact (h.2.1 b hk).2))
/-! ===== what the tables say, carried from method to method ===== -/
def nestM : List (String × Nat × MethodName × String) := [(RX9, 33, yX2_init, RX10), (RX10, 40, yX0_init, RX10), (RX0, 1, yX3_init, RX10), (RX10, 47, yX7_init, RX10), (RX7, 1, yX3_init, RX10), (RX10, 54, yX8_init, RX10), (RX8, 1, yX3_init, RX10), (RX8, 9, yX2_init, RX10), (RX10, 61, yX4_init, RX10), (RX4, 3, yX3_init, RX10), (RX10, 68, yX2_init, RX10), (RX5, 11, yX2_init, RX10), (RX6, 11, yX2_init, RX10)]
def arrived0 : MethodName := ⟨RX3, "arrived", "(LOldReckoner$Trail;)V"⟩
def aoW : List String := [RX1, RX2, RX5, RX6]
def widerV : Nat → Value := fun j => .int (match j with | 3 => 1 | 4 => 2 | _ => 0)
def Kw (D : Dx) (U : State) : Prop := va_K (dC D, dI D) vwCl (tysD D) U ∧ (∀ q ∈ nestM, va_Nw (.methodLinkNest q.1 q.2.1 q.2.2.1 q.2.2.2) U) ∧ va_Nw (.declares arrived0) U ∧ (∀ C ∈ aoW, va_AO C U) ∧ va_Z RX5 "WIDER" "[I" (.ref (dW D)) (Ab D) U U.heap ∧ va_T .int (dW D) 5 widerV (Ab D) U U.heap ∧ dB D ≤ U.heap.size
theorem Kw.moved {D : Dx} {s U : State} {H : Heap} {locs : List Loc} (h : Kw D s) (hW : s.WarmedH U.vm) (hH : U.heap = H) (hS : va_S (Ab D) s.heap H locs) : Kw D U := by
  obtain ⟨h1, h2, h3, h4, h5, h6, h7⟩ := h
  have hk : ∀ a : Nat, a < s.heap.size → ¬ Ab D a → U.heap[a]? = s.heap[a]? := fun a ha hA => by rw [hH]; exact hS.2.1 a ha hA
  exact ⟨va_K.moved hW.alike h1, fun q hq => va_Nw.warmM hW (h2 q hq), va_Nw.warmD hW h3, fun C hC => va_AO.moved hW.alike (h4 C hC), (va_Z.moved hW.alike h5).kept hk, (va_T.moved hW.alike h6).kept hk, Nat.le_trans h7 (by rw [hH]; exact hS.1)⟩
theorem Kw.blind {D : Dx} {U : State} {g : JFrame} {mk : MethodId} {a : Array Value} (h : Kw D U) : Kw D (U.calling g mk a) := by
  obtain ⟨h1, h2, h3, h4, h5, h6, h7⟩ := h
  have hvm : U.vm.Alike (U.calling g mk a).vm := Vm.Alike.refl U.vm
  exact ⟨va_K.moved hvm h1, fun q hq => va_Nw.same rfl (rfl : U.vm = (U.calling g mk a).vm) (h2 q hq), va_Nw.same rfl (rfl : U.vm = (U.calling g mk a).vm) h3, fun C hC => va_AO.moved hvm (h4 C hC), va_Z.moved hvm h5, va_T.moved hvm h6, h7⟩
/-! ===== the walk, over worlds ===== -/
abbrev Cx : Type := Program × Launch × Env × Room × State × MethodId × (Array Value) × (List Frame) × Method × Code
def V (X : Cx) (D : Dx) (nL : Nat) (Q : State → Prop) (G : Wd) (cells slots pc : Nat) (L : List (Nat × Value)) (st : List Value) : Prop :=
  ∀ (ls : Array Slot) (H : Heap) (locs : List Loc), lv_has ls nL L → Hd D G H → va_S (Ab D) X.2.2.2.2.1.heap H locs →
    W X.1 X.2.1 X.2.2.1 X.2.2.2.1 X.2.2.2.2.1 X.2.2.2.2.2.1 X.2.2.2.2.2.2.1 X.2.2.2.2.2.2.2.1 X.2.2.2.2.2.2.2.2.1 X.2.2.2.2.2.2.2.2.2 H locs cells slots Q (F0 X.2.2.2.2.2.1 pc ls st)
def Fx (X : Cx) (D : Dx) (cc : ByteArray) (nL : Nat) (own : String) (ret : Option FieldType) (nm : String) : Prop :=
  X.1.tables.exec = Jvm.exec ∧ X.2.2.2.2.2.2.2.2.2.code = cc ∧ X.2.2.2.2.2.2.2.2.2.maxLocals = nL ∧ X.2.2.2.2.1.vm.findClass own = some X.2.2.2.2.2.1.cls ∧ (∀ w ∈ tG, w.before X.2.2.2.2.2.2.1 X.2.2.2.2.1 = true) ∧ Kw D X.2.2.2.2.1 ∧ X.2.2.2.2.2.2.2.2.1.sig.returnType = ret ∧ X.2.2.2.2.2.2.2.2.1.locks = false ∧ X.2.2.2.2.2.2.2.2.1.name = nm
end
section
section RW
variable {X : Cx} {D : Dx} {cc : ByteArray} {nL : Nat} {own : String} {ret : Option FieldType} {nm : String} {Q : State → Prop} {G : Wd} {cells slots pc : Nat} {L : List (Nat × Value)} {st : List Value}
theorem v_iconst (F : Fx X D cc nL own ret nm) {n : Int} {v : Int32} (hd : decode cc pc = .ok (.iconst n, 1)) (hv : Int32.ofInt n = v) (kk : V X D nL Q G cells slots (pc + 1) L (.int v :: st)) : V X D nL Q G cells slots (pc) L (st) := fun ls H locs hl hH hS => lv_iconst F.1 F.2.1 hd hv (kk ls H locs hl hH hS)
theorem v_bipush (F : Fx X D cc nL own ret nm) {n : Int} {v : Int32} (hd : decode cc pc = .ok (.bipush n, 2)) (hv : (Int8.ofInt n).toInt32 = v) (kk : V X D nL Q G cells slots (pc + 2) L (.int v :: st)) : V X D nL Q G cells slots (pc) L (st) := fun ls H locs hl hH hS => lv_bipush F.1 F.2.1 hd hv (kk ls H locs hl hH hS)
theorem v_sipush (F : Fx X D cc nL own ret nm) {n : Int} {v : Int32} (hd : decode cc pc = .ok (.sipush n, 3)) (hv : (Int16.ofInt n).toInt32 = v) (kk : V X D nL Q G cells slots (pc + 3) L (.int v :: st)) : V X D nL Q G cells slots (pc) L (st) := fun ls H locs hl hH hS => lv_sipush F.1 F.2.1 hd hv (kk ls H locs hl hH hS)
theorem v_lconst (F : Fx X D cc nL own ret nm) {n : Fin 2} {v : Int64} (hd : decode cc pc = .ok (.lconst n, 1)) (hv : Int64.ofNat (n : Nat) = v) (kk : V X D nL Q G cells slots (pc + 1) L (.long v :: st)) : V X D nL Q G cells slots (pc) L (st) := fun ls H locs hl hH hS => lv_lconst F.1 F.2.1 hd hv (kk ls H locs hl hH hS)
theorem v_null (F : Fx X D cc nL own ret nm)  (hd : decode cc pc = .ok (.aconst_null, 1)) (kk : V X D nL Q G cells slots (pc + 1) L (va_rf none :: st)) : V X D nL Q G cells slots (pc) L (st) := fun ls H locs hl hH hS => lv_null F.1 F.2.1 hd (kk ls H locs hl hH hS)
theorem v_ldc2 (F : Fx X D cc nL own ret nm) {i : Nat} {v : Int64} (hw : Cond.constantLong own i v ∈ tG) (hd : decode cc pc = .ok (.ldc2_w i, 3)) (kk : V X D nL Q G cells slots (pc + 3) L (.long v :: st)) : V X D nL Q G cells slots (pc) L (st) := fun ls H locs hl hH hS => lv_ldc2 F.1 F.2.1 F.2.2.2.1 (F.2.2.2.2.1 _ hw) hd (kk ls H locs hl hH hS)
theorem v_ldcw (F : Fx X D cc nL own ret nm) {i : Nat} {v : Int32} (hw : Cond.constant own i v ∈ tG) (hd : decode cc pc = .ok (.ldc_w i, 3)) (kk : V X D nL Q G cells slots (pc + 3) L (.int v :: st)) : V X D nL Q G cells slots (pc) L (st) := fun ls H locs hl hH hS => lv_ldcw F.1 F.2.1 F.2.2.2.1 (F.2.2.2.2.1 _ hw) hd (kk ls H locs hl hH hS)
theorem v_ldc (F : Fx X D cc nL own ret nm) {i : Nat} {v : Int32} (hw : Cond.constant own i v ∈ tG) (hd : decode cc pc = .ok (.ldc i, 2)) (kk : V X D nL Q G cells slots (pc + 2) L (.int v :: st)) : V X D nL Q G cells slots (pc) L (st) := fun ls H locs hl hH hS => lv_ldc F.1 F.2.1 F.2.2.2.1 (F.2.2.2.2.1 _ hw) hd (kk ls H locs hl hH hS)
theorem v_iload_n (F : Fx X D cc nL own ret nm) {k : Fin 4} {i : Nat} {x : Int32} (hd : decode cc pc = .ok (.iload_n k, 1)) (hi : (k : Nat) = i) (j : Nat) (hL : L[j]? = some (i, .int x)) (kk : V X D nL Q G cells slots (pc + 1) L (.int x :: st)) : V X D nL Q G cells slots (pc) L (st) := fun ls H locs hl hH hS => lv_iload_n F.1 F.2.1 hd hi (lv_at hl j hL) (kk ls H locs hl hH hS)
theorem v_iload (F : Fx X D cc nL own ret nm) {i : Nat} {x : Int32} (hd : decode cc pc = .ok (.iload i, 2)) (j : Nat) (hL : L[j]? = some (i, .int x)) (kk : V X D nL Q G cells slots (pc + 2) L (.int x :: st)) : V X D nL Q G cells slots (pc) L (st) := fun ls H locs hl hH hS => lv_iload F.1 F.2.1 hd (lv_at hl j hL) (kk ls H locs hl hH hS)
theorem v_lload_n (F : Fx X D cc nL own ret nm) {k : Fin 4} {i : Nat} {x : Int64} (hd : decode cc pc = .ok (.lload_n k, 1)) (hi : (k : Nat) = i) (j : Nat) (hL : L[j]? = some (i, .long x)) (kk : V X D nL Q G cells slots (pc + 1) L (.long x :: st)) : V X D nL Q G cells slots (pc) L (st) := fun ls H locs hl hH hS => lv_lload_n F.1 F.2.1 hd hi (lv_at hl j hL) (kk ls H locs hl hH hS)
theorem v_lload (F : Fx X D cc nL own ret nm) {i : Nat} {x : Int64} (hd : decode cc pc = .ok (.lload i, 2)) (j : Nat) (hL : L[j]? = some (i, .long x)) (kk : V X D nL Q G cells slots (pc + 2) L (.long x :: st)) : V X D nL Q G cells slots (pc) L (st) := fun ls H locs hl hH hS => lv_lload F.1 F.2.1 hd (lv_at hl j hL) (kk ls H locs hl hH hS)
theorem v_aload_n (F : Fx X D cc nL own ret nm) {k : Fin 4} {i : Nat} {x : Nat} (hd : decode cc pc = .ok (.aload_n k, 1)) (hi : (k : Nat) = i) (j : Nat) (hL : L[j]? = some (i, .ref x)) (kk : V X D nL Q G cells slots (pc + 1) L (.ref x :: st)) : V X D nL Q G cells slots (pc) L (st) := fun ls H locs hl hH hS => lv_aload_n F.1 F.2.1 hd hi (lv_at hl j hL) (kk ls H locs hl hH hS)
theorem v_aload (F : Fx X D cc nL own ret nm) {i : Nat} {x : Nat} (hd : decode cc pc = .ok (.aload i, 2)) (j : Nat) (hL : L[j]? = some (i, .ref x)) (kk : V X D nL Q G cells slots (pc + 2) L (.ref x :: st)) : V X D nL Q G cells slots (pc) L (st) := fun ls H locs hl hH hS => lv_aload F.1 F.2.1 hd (lv_at hl j hL) (kk ls H locs hl hH hS)
theorem v_qload_n (F : Fx X D cc nL own ret nm) {k : Fin 4} {i : Nat} {r : Option Nat} (hd : decode cc pc = .ok (.aload_n k, 1)) (hi : (k : Nat) = i) (j : Nat) (hL : L[j]? = some (i, va_rf r)) (kk : V X D nL Q G cells slots (pc + 1) L (va_rf r :: st)) : V X D nL Q G cells slots (pc) L (st) := by
  cases r with
  | none => exact fun ls H locs hl hH hS => lv_aload_nN F.1 F.2.1 hd hi (lv_at hl j hL) (kk ls H locs hl hH hS)
  | some x => exact fun ls H locs hl hH hS => lv_aload_n F.1 F.2.1 hd hi (lv_at hl j hL) (kk ls H locs hl hH hS)
theorem v_qload (F : Fx X D cc nL own ret nm) {i : Nat} {r : Option Nat} (hd : decode cc pc = .ok (.aload i, 2)) (j : Nat) (hL : L[j]? = some (i, va_rf r)) (kk : V X D nL Q G cells slots (pc + 2) L (va_rf r :: st)) : V X D nL Q G cells slots (pc) L (st) := by
  cases r with
  | none => exact fun ls H locs hl hH hS => lv_aloadN F.1 F.2.1 hd (lv_at hl j hL) (kk ls H locs hl hH hS)
  | some x => exact fun ls H locs hl hH hS => lv_aload F.1 F.2.1 hd (lv_at hl j hL) (kk ls H locs hl hH hS)
theorem v_istore_n (F : Fx X D cc nL own ret nm) {k : Fin 4} {i : Nat} {x : Int32} {L' : List (Nat × Value)} (hd : decode cc pc = .ok (.istore_n k, 1)) (hi : (k : Nat) = i) (hn : i < nL) (hL : (i, Value.int x) :: L.filter (fun q => !(q.1 == i) && !(q.1 + 1 == i && q.2.category == 2)) = L') (kk : V X D nL Q G cells slots (pc + 1) L' (st)) : V X D nL Q G cells slots (pc) L (.int x :: st) := fun ls H locs hl hH hS => lv_istore_n F.1 F.2.1 hd hi hl hn hL (fun ls' hl' => kk ls' H locs hl' hH hS)
theorem v_istore (F : Fx X D cc nL own ret nm) {i : Nat} {x : Int32} {L' : List (Nat × Value)} (hd : decode cc pc = .ok (.istore i, 2)) (hn : i < nL) (hL : (i, Value.int x) :: L.filter (fun q => !(q.1 == i) && !(q.1 + 1 == i && q.2.category == 2)) = L') (kk : V X D nL Q G cells slots (pc + 2) L' (st)) : V X D nL Q G cells slots (pc) L (.int x :: st) := fun ls H locs hl hH hS => lv_istore F.1 F.2.1 hd hl hn hL (fun ls' hl' => kk ls' H locs hl' hH hS)
theorem v_lstore_n (F : Fx X D cc nL own ret nm) {k : Fin 4} {i : Nat} {x : Int64} {L' : List (Nat × Value)} (hd : decode cc pc = .ok (.lstore_n k, 1)) (hi : (k : Nat) = i) (hn : i + 1 < nL) (hL : (i, Value.long x) :: L.filter (fun q => !(q.1 == i) && (!(q.1 == i + 1) && !(q.1 + 1 == i && q.2.category == 2))) = L') (kk : V X D nL Q G cells slots (pc + 1) L' (st)) : V X D nL Q G cells slots (pc) L (.long x :: st) := fun ls H locs hl hH hS => lv_lstore_n F.1 F.2.1 hd hi hl hn hL (fun ls' hl' => kk ls' H locs hl' hH hS)
theorem v_lstore (F : Fx X D cc nL own ret nm) {i : Nat} {x : Int64} {L' : List (Nat × Value)} (hd : decode cc pc = .ok (.lstore i, 2)) (hn : i + 1 < nL) (hL : (i, Value.long x) :: L.filter (fun q => !(q.1 == i) && (!(q.1 == i + 1) && !(q.1 + 1 == i && q.2.category == 2))) = L') (kk : V X D nL Q G cells slots (pc + 2) L' (st)) : V X D nL Q G cells slots (pc) L (.long x :: st) := fun ls H locs hl hH hS => lv_lstore F.1 F.2.1 hd hl hn hL (fun ls' hl' => kk ls' H locs hl' hH hS)
theorem v_astore_n (F : Fx X D cc nL own ret nm) {k : Fin 4} {i : Nat} {x : Nat} {L' : List (Nat × Value)} (hd : decode cc pc = .ok (.astore_n k, 1)) (hi : (k : Nat) = i) (hn : i < nL) (hL : (i, Value.ref x) :: L.filter (fun q => !(q.1 == i) && !(q.1 + 1 == i && q.2.category == 2)) = L') (kk : V X D nL Q G cells slots (pc + 1) L' (st)) : V X D nL Q G cells slots (pc) L (.ref x :: st) := fun ls H locs hl hH hS => lv_astore_n F.1 F.2.1 hd hi hl hn hL (fun ls' hl' => kk ls' H locs hl' hH hS)
theorem v_astore (F : Fx X D cc nL own ret nm) {i : Nat} {x : Nat} {L' : List (Nat × Value)} (hd : decode cc pc = .ok (.astore i, 2)) (hn : i < nL) (hL : (i, Value.ref x) :: L.filter (fun q => !(q.1 == i) && !(q.1 + 1 == i && q.2.category == 2)) = L') (kk : V X D nL Q G cells slots (pc + 2) L' (st)) : V X D nL Q G cells slots (pc) L (.ref x :: st) := fun ls H locs hl hH hS => lv_astore F.1 F.2.1 hd hl hn hL (fun ls' hl' => kk ls' H locs hl' hH hS)
theorem v_qstore_n (F : Fx X D cc nL own ret nm) {k : Fin 4} {i : Nat} {r : Option Nat} {L' : List (Nat × Value)} (hd : decode cc pc = .ok (.astore_n k, 1)) (hi : (k : Nat) = i) (hn : i < nL) (hL : (i, va_rf r) :: L.filter (fun q => !(q.1 == i) && !(q.1 + 1 == i && q.2.category == 2)) = L') (kk : V X D nL Q G cells slots (pc + 1) L' (st)) : V X D nL Q G cells slots (pc) L (va_rf r :: st) := by
  cases r with
  | none => exact fun ls H locs hl hH hS => lv_astore_nN F.1 F.2.1 hd hi hl hn hL (fun ls' hl' => kk ls' H locs hl' hH hS)
  | some x => exact fun ls H locs hl hH hS => lv_astore_n F.1 F.2.1 hd hi hl hn hL (fun ls' hl' => kk ls' H locs hl' hH hS)
theorem v_qstore (F : Fx X D cc nL own ret nm) {i : Nat} {r : Option Nat} {L' : List (Nat × Value)} (hd : decode cc pc = .ok (.astore i, 2)) (hn : i < nL) (hL : (i, va_rf r) :: L.filter (fun q => !(q.1 == i) && !(q.1 + 1 == i && q.2.category == 2)) = L') (kk : V X D nL Q G cells slots (pc + 2) L' (st)) : V X D nL Q G cells slots (pc) L (va_rf r :: st) := by
  cases r with
  | none => exact fun ls H locs hl hH hS => lv_astoreN F.1 F.2.1 hd hl hn hL (fun ls' hl' => kk ls' H locs hl' hH hS)
  | some x => exact fun ls H locs hl hH hS => lv_astore F.1 F.2.1 hd hl hn hL (fun ls' hl' => kk ls' H locs hl' hH hS)
theorem v_iinc (F : Fx X D cc nL own ret nm) {i : Nat} {n : Int} {x v : Int32} {L' : List (Nat × Value)} (hd : decode cc pc = .ok (.iinc i n, 3)) (j : Nat) (hx : L[j]? = some (i, .int x)) (hv : x + Int32.ofInt n = v) (hn : i < nL) (hL : (i, Value.int v) :: L.filter (fun q => !(q.1 == i) && !(q.1 + 1 == i && q.2.category == 2)) = L') (kk : V X D nL Q G cells slots (pc + 3) L' (st)) : V X D nL Q G cells slots (pc) L (st) := fun ls H locs hl hH hS => lv_iinc F.1 F.2.1 hd hl hx hv hn hL (fun ls' hl' => kk ls' H locs hl' hH hS)
theorem v_iadd (F : Fx X D cc nL own ret nm) {x y : Int32} (hd : decode cc pc = .ok (.iadd, 1)) (kk : V X D nL Q G cells slots (pc + 1) L (.int (x + y) :: st)) : V X D nL Q G cells slots (pc) L (.int y :: .int x :: st) := fun ls H locs hl hH hS => lv_iadd F.1 F.2.1 hd (kk ls H locs hl hH hS)
theorem v_isub (F : Fx X D cc nL own ret nm) {x y : Int32} (hd : decode cc pc = .ok (.isub, 1)) (kk : V X D nL Q G cells slots (pc + 1) L (.int (x - y) :: st)) : V X D nL Q G cells slots (pc) L (.int y :: .int x :: st) := fun ls H locs hl hH hS => lv_isub F.1 F.2.1 hd (kk ls H locs hl hH hS)
theorem v_imul (F : Fx X D cc nL own ret nm) {x y : Int32} (hd : decode cc pc = .ok (.imul, 1)) (kk : V X D nL Q G cells slots (pc + 1) L (.int (x * y) :: st)) : V X D nL Q G cells slots (pc) L (.int y :: .int x :: st) := fun ls H locs hl hH hS => lv_imul F.1 F.2.1 hd (kk ls H locs hl hH hS)
theorem v_iand (F : Fx X D cc nL own ret nm) {x y : Int32} (hd : decode cc pc = .ok (.iand, 1)) (kk : V X D nL Q G cells slots (pc + 1) L (.int (x &&& y) :: st)) : V X D nL Q G cells slots (pc) L (.int y :: .int x :: st) := fun ls H locs hl hH hS => lv_iand F.1 F.2.1 hd (kk ls H locs hl hH hS)
theorem v_ior (F : Fx X D cc nL own ret nm) {x y : Int32} (hd : decode cc pc = .ok (.ior, 1)) (kk : V X D nL Q G cells slots (pc + 1) L (.int (x ||| y) :: st)) : V X D nL Q G cells slots (pc) L (.int y :: .int x :: st) := fun ls H locs hl hH hS => lv_ior F.1 F.2.1 hd (kk ls H locs hl hH hS)
theorem v_ixor (F : Fx X D cc nL own ret nm) {x y : Int32} (hd : decode cc pc = .ok (.ixor, 1)) (kk : V X D nL Q G cells slots (pc + 1) L (.int (x ^^^ y) :: st)) : V X D nL Q G cells slots (pc) L (.int y :: .int x :: st) := fun ls H locs hl hH hS => lv_ixor F.1 F.2.1 hd (kk ls H locs hl hH hS)
theorem v_ladd (F : Fx X D cc nL own ret nm) {x y : Int64} (hd : decode cc pc = .ok (.ladd, 1)) (kk : V X D nL Q G cells slots (pc + 1) L (.long (x + y) :: st)) : V X D nL Q G cells slots (pc) L (.long y :: .long x :: st) := fun ls H locs hl hH hS => lv_ladd F.1 F.2.1 hd (kk ls H locs hl hH hS)
theorem v_lsub (F : Fx X D cc nL own ret nm) {x y : Int64} (hd : decode cc pc = .ok (.lsub, 1)) (kk : V X D nL Q G cells slots (pc + 1) L (.long (x - y) :: st)) : V X D nL Q G cells slots (pc) L (.long y :: .long x :: st) := fun ls H locs hl hH hS => lv_lsub F.1 F.2.1 hd (kk ls H locs hl hH hS)
theorem v_lmul (F : Fx X D cc nL own ret nm) {x y : Int64} (hd : decode cc pc = .ok (.lmul, 1)) (kk : V X D nL Q G cells slots (pc + 1) L (.long (x * y) :: st)) : V X D nL Q G cells slots (pc) L (.long y :: .long x :: st) := fun ls H locs hl hH hS => lv_lmul F.1 F.2.1 hd (kk ls H locs hl hH hS)
theorem v_land (F : Fx X D cc nL own ret nm) {x y : Int64} (hd : decode cc pc = .ok (.land, 1)) (kk : V X D nL Q G cells slots (pc + 1) L (.long (x &&& y) :: st)) : V X D nL Q G cells slots (pc) L (.long y :: .long x :: st) := fun ls H locs hl hH hS => lv_land F.1 F.2.1 hd (kk ls H locs hl hH hS)
theorem v_lor (F : Fx X D cc nL own ret nm) {x y : Int64} (hd : decode cc pc = .ok (.lor, 1)) (kk : V X D nL Q G cells slots (pc + 1) L (.long (x ||| y) :: st)) : V X D nL Q G cells slots (pc) L (.long y :: .long x :: st) := fun ls H locs hl hH hS => lv_lor F.1 F.2.1 hd (kk ls H locs hl hH hS)
theorem v_lxor (F : Fx X D cc nL own ret nm) {x y : Int64} (hd : decode cc pc = .ok (.lxor, 1)) (kk : V X D nL Q G cells slots (pc + 1) L (.long (x ^^^ y) :: st)) : V X D nL Q G cells slots (pc) L (.long y :: .long x :: st) := fun ls H locs hl hH hS => lv_lxor F.1 F.2.1 hd (kk ls H locs hl hH hS)
theorem v_idiv (F : Fx X D cc nL own ret nm) {x y : Int32} (hd : decode cc pc = .ok (.idiv, 1)) (hne : ¬ y = 0) (kk : V X D nL Q G cells slots (pc + 1) L (.int (x / y) :: st)) : V X D nL Q G cells slots (pc) L (.int y :: .int x :: st) := fun ls H locs hl hH hS => lv_idiv F.1 F.2.1 hd hne (kk ls H locs hl hH hS)
theorem v_irem (F : Fx X D cc nL own ret nm) {x y : Int32} (hd : decode cc pc = .ok (.irem, 1)) (hne : ¬ y = 0) (kk : V X D nL Q G cells slots (pc + 1) L (.int (x - x / y * y) :: st)) : V X D nL Q G cells slots (pc) L (.int y :: .int x :: st) := fun ls H locs hl hH hS => lv_irem F.1 F.2.1 hd hne (kk ls H locs hl hH hS)
theorem v_ldiv (F : Fx X D cc nL own ret nm) {x y : Int64} (hd : decode cc pc = .ok (.ldiv, 1)) (hne : ¬ y = 0) (kk : V X D nL Q G cells slots (pc + 1) L (.long (x / y) :: st)) : V X D nL Q G cells slots (pc) L (.long y :: .long x :: st) := fun ls H locs hl hH hS => lv_ldiv F.1 F.2.1 hd hne (kk ls H locs hl hH hS)
theorem v_lrem (F : Fx X D cc nL own ret nm) {x y : Int64} (hd : decode cc pc = .ok (.lrem, 1)) (hne : ¬ y = 0) (kk : V X D nL Q G cells slots (pc + 1) L (.long (x - x / y * y) :: st)) : V X D nL Q G cells slots (pc) L (.long y :: .long x :: st) := fun ls H locs hl hH hS => lv_lrem F.1 F.2.1 hd hne (kk ls H locs hl hH hS)
theorem v_lneg (F : Fx X D cc nL own ret nm) {x : Int64} (hd : decode cc pc = .ok (.lneg, 1)) (kk : V X D nL Q G cells slots (pc + 1) L (.long (-x) :: st)) : V X D nL Q G cells slots (pc) L (.long x :: st) := fun ls H locs hl hH hS => lv_lneg F.1 F.2.1 hd (kk ls H locs hl hH hS)
theorem v_ineg (F : Fx X D cc nL own ret nm) {x : Int32} (hd : decode cc pc = .ok (.ineg, 1)) (kk : V X D nL Q G cells slots (pc + 1) L (.int (-x) :: st)) : V X D nL Q G cells slots (pc) L (.int x :: st) := fun ls H locs hl hH hS => lv_ineg F.1 F.2.1 hd (kk ls H locs hl hH hS)
theorem v_ishl (F : Fx X D cc nL own ret nm) {x y : Int32} (hd : decode cc pc = .ok (.ishl, 1)) (kk : V X D nL Q G cells slots (pc + 1) L (.int (x <<< (y &&& 31)) :: st)) : V X D nL Q G cells slots (pc) L (.int y :: .int x :: st) := fun ls H locs hl hH hS => lv_ishl F.1 F.2.1 hd (kk ls H locs hl hH hS)
theorem v_ishr (F : Fx X D cc nL own ret nm) {x y : Int32} (hd : decode cc pc = .ok (.ishr, 1)) (kk : V X D nL Q G cells slots (pc + 1) L (.int (x >>> (y &&& 31)) :: st)) : V X D nL Q G cells slots (pc) L (.int y :: .int x :: st) := fun ls H locs hl hH hS => lv_ishr F.1 F.2.1 hd (kk ls H locs hl hH hS)
theorem v_iushr (F : Fx X D cc nL own ret nm) {x y : Int32} (hd : decode cc pc = .ok (.iushr, 1)) (kk : V X D nL Q G cells slots (pc + 1) L (.int ((x.toUInt32 >>> (y.toUInt32 &&& Int32.toUInt32 31)).toInt32) :: st)) : V X D nL Q G cells slots (pc) L (.int y :: .int x :: st) := fun ls H locs hl hH hS => lv_iushr F.1 F.2.1 hd rfl (kk ls H locs hl hH hS)
theorem v_lshl (F : Fx X D cc nL own ret nm) {x : Int64} {y : Int32} (hd : decode cc pc = .ok (.lshl, 1)) (kk : V X D nL Q G cells slots (pc + 1) L (.long (x <<< (y.toInt64 &&& 63)) :: st)) : V X D nL Q G cells slots (pc) L (.int y :: .long x :: st) := fun ls H locs hl hH hS => lv_lshl F.1 F.2.1 hd rfl (kk ls H locs hl hH hS)
theorem v_lshr (F : Fx X D cc nL own ret nm) {x : Int64} {y : Int32} (hd : decode cc pc = .ok (.lshr, 1)) (kk : V X D nL Q G cells slots (pc + 1) L (.long (x >>> (y.toInt64 &&& 63)) :: st)) : V X D nL Q G cells slots (pc) L (.int y :: .long x :: st) := fun ls H locs hl hH hS => lv_lshr F.1 F.2.1 hd rfl (kk ls H locs hl hH hS)
theorem v_lushr (F : Fx X D cc nL own ret nm) {x : Int64} {y : Int32} (hd : decode cc pc = .ok (.lushr, 1)) (kk : V X D nL Q G cells slots (pc + 1) L (.long ((x.toUInt64 >>> (y.toInt64.toUInt64 &&& Int64.toUInt64 63)).toInt64) :: st)) : V X D nL Q G cells slots (pc) L (.int y :: .long x :: st) := fun ls H locs hl hH hS => lv_lushr F.1 F.2.1 hd rfl (kk ls H locs hl hH hS)
theorem v_i2l (F : Fx X D cc nL own ret nm) {x : Int32} (hd : decode cc pc = .ok (.i2l, 1)) (kk : V X D nL Q G cells slots (pc + 1) L (.long x.toInt64 :: st)) : V X D nL Q G cells slots (pc) L (.int x :: st) := fun ls H locs hl hH hS => lv_i2l F.1 F.2.1 hd rfl (kk ls H locs hl hH hS)
theorem v_l2i (F : Fx X D cc nL own ret nm) {x : Int64} (hd : decode cc pc = .ok (.l2i, 1)) (kk : V X D nL Q G cells slots (pc + 1) L (.int x.toInt32 :: st)) : V X D nL Q G cells slots (pc) L (.long x :: st) := fun ls H locs hl hH hS => lv_l2i F.1 F.2.1 hd rfl (kk ls H locs hl hH hS)
theorem v_dup (F : Fx X D cc nL own ret nm) {v : Value} (hd : decode cc pc = .ok (.dup, 1)) (hv : v.category = 1) (kk : V X D nL Q G cells slots (pc + 1) L (v :: v :: st)) : V X D nL Q G cells slots (pc) L (v :: st) := fun ls H locs hl hH hS => lv_dup F.1 F.2.1 hd hv (kk ls H locs hl hH hS)
theorem v_pop (F : Fx X D cc nL own ret nm) {v : Value} (hd : decode cc pc = .ok (.pop, 1)) (hv : v.category = 1) (kk : V X D nL Q G cells slots (pc + 1) L (st)) : V X D nL Q G cells slots (pc) L (v :: st) := fun ls H locs hl hH hS => lv_pop F.1 F.2.1 hd hv (kk ls H locs hl hH hS)
theorem v_dup_x1 (F : Fx X D cc nL own ret nm) {v w : Value} (hd : decode cc pc = .ok (.dup_x1, 1)) (hv : v.category = 1) (hw : w.category = 1) (kk : V X D nL Q G cells slots (pc + 1) L (v :: w :: v :: st)) : V X D nL Q G cells slots (pc) L (v :: w :: st) := fun ls H locs hl hH hS => lv_dup_x1 F.1 F.2.1 hd hv hw (kk ls H locs hl hH hS)
theorem v_lcmp (F : Fx X D cc nL own ret nm) {x y : Int64} (hd : decode cc pc = .ok (.lcmp, 1)) (kk : V X D nL Q G cells slots (pc + 1) L (.int (lg_cmp x y) :: st)) : V X D nL Q G cells slots (pc) L (.long y :: .long x :: st) := fun ls H locs hl hH hS => W.lcmp F.1 F.2.1 hd (kk ls H locs hl hH hS)
theorem v_goto (F : Fx X D cc nL own ret nm) {off : Int} {tgt : Nat} (hd : decode cc pc = .ok (.goto off, 3)) (ht : (pc : Int) + off = (tgt : Int)) (kk : V X D nL Q G cells slots (tgt) L (st)) : V X D nL Q G cells slots (pc) L (st) := fun ls H locs hl hH hS => lv_goto F.1 F.2.1 hd ht (kk ls H locs hl hH hS)
theorem v_if_eq (F : Fx X D cc nL own ret nm) {x : Int32} {off : Int} {tgt : Nat} (hd : decode cc pc = .ok (.ifCond .eq off, 3)) (ht : (pc : Int) + off = (tgt : Int)) (kt : x = 0 → V X D nL Q G cells slots (tgt) L (st)) (kf : ¬ x = 0 → V X D nL Q G cells slots (pc + 3) L (st)) : V X D nL Q G cells slots (pc) L (.int x :: st) := fun ls H locs hl hH hS => lv_if_eq F.1 F.2.1 hd ht (fun h => kt h ls H locs hl hH hS) (fun h => kf h ls H locs hl hH hS)
theorem v_icmp_eq (F : Fx X D cc nL own ret nm) {x y : Int32} {off : Int} {tgt : Nat} (hd : decode cc pc = .ok (.if_icmp .eq off, 3)) (ht : (pc : Int) + off = (tgt : Int)) (kt : x = y → V X D nL Q G cells slots (tgt) L (st)) (kf : ¬ x = y → V X D nL Q G cells slots (pc + 3) L (st)) : V X D nL Q G cells slots (pc) L (.int y :: .int x :: st) := fun ls H locs hl hH hS => lv_icmp_eq F.1 F.2.1 hd ht (fun h => kt h ls H locs hl hH hS) (fun h => kf h ls H locs hl hH hS)
theorem v_if_ne (F : Fx X D cc nL own ret nm) {x : Int32} {off : Int} {tgt : Nat} (hd : decode cc pc = .ok (.ifCond .ne off, 3)) (ht : (pc : Int) + off = (tgt : Int)) (kt : ¬ x = 0 → V X D nL Q G cells slots (tgt) L (st)) (kf : x = 0 → V X D nL Q G cells slots (pc + 3) L (st)) : V X D nL Q G cells slots (pc) L (.int x :: st) := fun ls H locs hl hH hS => lv_if_ne F.1 F.2.1 hd ht (fun h => kt h ls H locs hl hH hS) (fun h => kf h ls H locs hl hH hS)
theorem v_icmp_ne (F : Fx X D cc nL own ret nm) {x y : Int32} {off : Int} {tgt : Nat} (hd : decode cc pc = .ok (.if_icmp .ne off, 3)) (ht : (pc : Int) + off = (tgt : Int)) (kt : ¬ x = y → V X D nL Q G cells slots (tgt) L (st)) (kf : x = y → V X D nL Q G cells slots (pc + 3) L (st)) : V X D nL Q G cells slots (pc) L (.int y :: .int x :: st) := fun ls H locs hl hH hS => lv_icmp_ne F.1 F.2.1 hd ht (fun h => kt h ls H locs hl hH hS) (fun h => kf h ls H locs hl hH hS)
theorem v_if_lt (F : Fx X D cc nL own ret nm) {x : Int32} {off : Int} {tgt : Nat} (hd : decode cc pc = .ok (.ifCond .lt off, 3)) (ht : (pc : Int) + off = (tgt : Int)) (kt : x < 0 → V X D nL Q G cells slots (tgt) L (st)) (kf : ¬ x < 0 → V X D nL Q G cells slots (pc + 3) L (st)) : V X D nL Q G cells slots (pc) L (.int x :: st) := fun ls H locs hl hH hS => lv_if_lt F.1 F.2.1 hd ht (fun h => kt h ls H locs hl hH hS) (fun h => kf h ls H locs hl hH hS)
theorem v_icmp_lt (F : Fx X D cc nL own ret nm) {x y : Int32} {off : Int} {tgt : Nat} (hd : decode cc pc = .ok (.if_icmp .lt off, 3)) (ht : (pc : Int) + off = (tgt : Int)) (kt : x < y → V X D nL Q G cells slots (tgt) L (st)) (kf : ¬ x < y → V X D nL Q G cells slots (pc + 3) L (st)) : V X D nL Q G cells slots (pc) L (.int y :: .int x :: st) := fun ls H locs hl hH hS => lv_icmp_lt F.1 F.2.1 hd ht (fun h => kt h ls H locs hl hH hS) (fun h => kf h ls H locs hl hH hS)
theorem v_if_ge (F : Fx X D cc nL own ret nm) {x : Int32} {off : Int} {tgt : Nat} (hd : decode cc pc = .ok (.ifCond .ge off, 3)) (ht : (pc : Int) + off = (tgt : Int)) (kt : 0 ≤ x → V X D nL Q G cells slots (tgt) L (st)) (kf : ¬ 0 ≤ x → V X D nL Q G cells slots (pc + 3) L (st)) : V X D nL Q G cells slots (pc) L (.int x :: st) := fun ls H locs hl hH hS => lv_if_ge F.1 F.2.1 hd ht (fun h => kt h ls H locs hl hH hS) (fun h => kf h ls H locs hl hH hS)
theorem v_icmp_ge (F : Fx X D cc nL own ret nm) {x y : Int32} {off : Int} {tgt : Nat} (hd : decode cc pc = .ok (.if_icmp .ge off, 3)) (ht : (pc : Int) + off = (tgt : Int)) (kt : y ≤ x → V X D nL Q G cells slots (tgt) L (st)) (kf : ¬ y ≤ x → V X D nL Q G cells slots (pc + 3) L (st)) : V X D nL Q G cells slots (pc) L (.int y :: .int x :: st) := fun ls H locs hl hH hS => lv_icmp_ge F.1 F.2.1 hd ht (fun h => kt h ls H locs hl hH hS) (fun h => kf h ls H locs hl hH hS)
theorem v_if_gt (F : Fx X D cc nL own ret nm) {x : Int32} {off : Int} {tgt : Nat} (hd : decode cc pc = .ok (.ifCond .gt off, 3)) (ht : (pc : Int) + off = (tgt : Int)) (kt : 0 < x → V X D nL Q G cells slots (tgt) L (st)) (kf : ¬ 0 < x → V X D nL Q G cells slots (pc + 3) L (st)) : V X D nL Q G cells slots (pc) L (.int x :: st) := fun ls H locs hl hH hS => lv_if_gt F.1 F.2.1 hd ht (fun h => kt h ls H locs hl hH hS) (fun h => kf h ls H locs hl hH hS)
theorem v_icmp_gt (F : Fx X D cc nL own ret nm) {x y : Int32} {off : Int} {tgt : Nat} (hd : decode cc pc = .ok (.if_icmp .gt off, 3)) (ht : (pc : Int) + off = (tgt : Int)) (kt : y < x → V X D nL Q G cells slots (tgt) L (st)) (kf : ¬ y < x → V X D nL Q G cells slots (pc + 3) L (st)) : V X D nL Q G cells slots (pc) L (.int y :: .int x :: st) := fun ls H locs hl hH hS => lv_icmp_gt F.1 F.2.1 hd ht (fun h => kt h ls H locs hl hH hS) (fun h => kf h ls H locs hl hH hS)
theorem v_if_le (F : Fx X D cc nL own ret nm) {x : Int32} {off : Int} {tgt : Nat} (hd : decode cc pc = .ok (.ifCond .le off, 3)) (ht : (pc : Int) + off = (tgt : Int)) (kt : x ≤ 0 → V X D nL Q G cells slots (tgt) L (st)) (kf : ¬ x ≤ 0 → V X D nL Q G cells slots (pc + 3) L (st)) : V X D nL Q G cells slots (pc) L (.int x :: st) := fun ls H locs hl hH hS => lv_if_le F.1 F.2.1 hd ht (fun h => kt h ls H locs hl hH hS) (fun h => kf h ls H locs hl hH hS)
theorem v_icmp_le (F : Fx X D cc nL own ret nm) {x y : Int32} {off : Int} {tgt : Nat} (hd : decode cc pc = .ok (.if_icmp .le off, 3)) (ht : (pc : Int) + off = (tgt : Int)) (kt : x ≤ y → V X D nL Q G cells slots (tgt) L (st)) (kf : ¬ x ≤ y → V X D nL Q G cells slots (pc + 3) L (st)) : V X D nL Q G cells slots (pc) L (.int y :: .int x :: st) := fun ls H locs hl hH hS => lv_icmp_le F.1 F.2.1 hd ht (fun h => kt h ls H locs hl hH hS) (fun h => kf h ls H locs hl hH hS)
theorem lgc_eq (x y : Int64) : lg_cmp x y = 0 ↔ x = y := by
  unfold lg_cmp
  rcases lg_tri x y with h | h | h
  · simp [lg_lt_not h, lg_lt_ne h]
  · simp [h]
  · have := lg_lt_ne h
    simp [h]
    exact fun q => this q.symm
theorem lgc_lt (x y : Int64) : lg_cmp x y < 0 ↔ x < y := by
  unfold lg_cmp
  rcases lg_tri x y with h | h | h
  · simp [lg_lt_not h, lg_lt_ne h, h]
  · simp [h]
  · simp [h, lg_lt_not h]
theorem lgc_gt (x y : Int64) : 0 < lg_cmp x y ↔ y < x := by
  unfold lg_cmp
  rcases lg_tri x y with h | h | h
  · simp [lg_lt_not h, lg_lt_ne h]
  · simp [h]
  · simp [h]
theorem v_lif_eq (F : Fx X D cc nL own ret nm) {x y : Int64} {off : Int} {tgt : Nat} (hd : decode cc pc = .ok (.ifCond .eq off, 3)) (ht : (pc : Int) + off = (tgt : Int)) (kt : x = y → V X D nL Q G cells slots (tgt) L (st)) (kf : ¬ x = y → V X D nL Q G cells slots (pc + 3) L (st)) : V X D nL Q G cells slots (pc) L (.int (lg_cmp x y) :: st) := v_if_eq F hd ht (fun h => kt ((lgc_eq x y).mp h)) (fun h => kf (fun q => h ((lgc_eq x y).mpr q)))
theorem v_lif_ne (F : Fx X D cc nL own ret nm) {x y : Int64} {off : Int} {tgt : Nat} (hd : decode cc pc = .ok (.ifCond .ne off, 3)) (ht : (pc : Int) + off = (tgt : Int)) (kt : ¬ x = y → V X D nL Q G cells slots (tgt) L (st)) (kf : x = y → V X D nL Q G cells slots (pc + 3) L (st)) : V X D nL Q G cells slots (pc) L (.int (lg_cmp x y) :: st) := v_if_ne F hd ht (fun h => kt (fun q => h ((lgc_eq x y).mpr q))) (fun h => kf (by simpa [lgc_eq] using h))
theorem v_lif_lt (F : Fx X D cc nL own ret nm) {x y : Int64} {off : Int} {tgt : Nat} (hd : decode cc pc = .ok (.ifCond .lt off, 3)) (ht : (pc : Int) + off = (tgt : Int)) (kt : x < y → V X D nL Q G cells slots (tgt) L (st)) (kf : ¬ x < y → V X D nL Q G cells slots (pc + 3) L (st)) : V X D nL Q G cells slots (pc) L (.int (lg_cmp x y) :: st) := v_if_lt F hd ht (fun h => kt ((lgc_lt x y).mp h)) (fun h => kf (fun q => h ((lgc_lt x y).mpr q)))
theorem v_lif_ge (F : Fx X D cc nL own ret nm) {x y : Int64} {off : Int} {tgt : Nat} (hd : decode cc pc = .ok (.ifCond .ge off, 3)) (ht : (pc : Int) + off = (tgt : Int)) (kt : ¬ x < y → V X D nL Q G cells slots (tgt) L (st)) (kf : x < y → V X D nL Q G cells slots (pc + 3) L (st)) : V X D nL Q G cells slots (pc) L (.int (lg_cmp x y) :: st) := v_if_ge F hd ht (fun h => kt (fun q => (k2_nlt h) ((lgc_lt x y).mpr q))) (fun h => kf ((lgc_lt x y).mp (k2_lt h)))
theorem v_lif_gt (F : Fx X D cc nL own ret nm) {x y : Int64} {off : Int} {tgt : Nat} (hd : decode cc pc = .ok (.ifCond .gt off, 3)) (ht : (pc : Int) + off = (tgt : Int)) (kt : y < x → V X D nL Q G cells slots (tgt) L (st)) (kf : ¬ y < x → V X D nL Q G cells slots (pc + 3) L (st)) : V X D nL Q G cells slots (pc) L (.int (lg_cmp x y) :: st) := v_if_gt F hd ht (fun h => kt ((lgc_gt x y).mp h)) (fun h => kf (fun q => h ((lgc_gt x y).mpr q)))
theorem v_lif_le (F : Fx X D cc nL own ret nm) {x y : Int64} {off : Int} {tgt : Nat} (hd : decode cc pc = .ok (.ifCond .le off, 3)) (ht : (pc : Int) + off = (tgt : Int)) (kt : ¬ y < x → V X D nL Q G cells slots (tgt) L (st)) (kf : y < x → V X D nL Q G cells slots (pc + 3) L (st)) : V X D nL Q G cells slots (pc) L (.int (lg_cmp x y) :: st) := v_if_le F hd ht (fun h => kt (fun q => (k2_nlt h) ((lgc_gt x y).mpr q))) (fun h => kf ((lgc_gt x y).mp (k2_lt h)))
theorem v_ifnull (F : Fx X D cc nL own ret nm) {r : Option Nat} {off : Int} {tgt : Nat} (hd : decode cc pc = .ok (.ifnull off, 3)) (ht : (pc : Int) + off = (tgt : Int)) (kt : r = none → V X D nL Q G cells slots (tgt) L (st)) (kf : ∀ x, r = some x → V X D nL Q G cells slots (pc + 3) L (st)) : V X D nL Q G cells slots (pc) L (va_rf r :: st) := by
  cases r with
  | none => exact fun ls H locs hl hH hS => lv_ifnullN F.1 F.2.1 hd ht (kt rfl ls H locs hl hH hS)
  | some x => exact fun ls H locs hl hH hS => lv_ifnull F.1 F.2.1 hd (kf x rfl ls H locs hl hH hS)
theorem v_ifnonnull (F : Fx X D cc nL own ret nm) {r : Option Nat} {off : Int} {tgt : Nat} (hd : decode cc pc = .ok (.ifnonnull off, 3)) (ht : (pc : Int) + off = (tgt : Int)) (kt : ∀ x, r = some x → V X D nL Q G cells slots (tgt) L (st)) (kf : r = none → V X D nL Q G cells slots (pc + 3) L (st)) : V X D nL Q G cells slots (pc) L (va_rf r :: st) := by
  cases r with
  | none => exact fun ls H locs hl hH hS => lv_ifnonnullN F.1 F.2.1 hd (kf rfl ls H locs hl hH hS)
  | some x => exact fun ls H locs hl hH hS => lv_ifnonnull F.1 F.2.1 hd ht (kt x rfl ls H locs hl hH hS)
theorem v_tableIn (F : Fx X D cc nL own ret nm) {dflt lo hi : Int} {offs : Array Int} {len : Nat} {x : Int32} {off : Int} {tgt : Nat} (hd : decode cc pc = .ok (.tableswitch dflt lo hi offs, len)) (h1 : ¬ x.toInt < lo) (h2 : ¬ hi < x.toInt) (ho : offs[(x.toInt - lo).toNat]? = some off) (ht : (pc : Int) + off = (tgt : Int)) (kk : V X D nL Q G cells slots (tgt) L (st)) : V X D nL Q G cells slots (pc) L (.int x :: st) := fun ls H locs hl hH hS => lv_tableIn F.1 F.2.1 hd h1 h2 ho ht (kk ls H locs hl hH hS)
theorem v_tableOut (F : Fx X D cc nL own ret nm) {dflt lo hi : Int} {offs : Array Int} {len : Nat} {x : Int32} {tgt : Nat} (hd : decode cc pc = .ok (.tableswitch dflt lo hi offs, len)) (h : x.toInt < lo ∨ hi < x.toInt) (ht : (pc : Int) + dflt = (tgt : Int)) (kk : V X D nL Q G cells slots (tgt) L (st)) : V X D nL Q G cells slots (pc) L (.int x :: st) := fun ls H locs hl hH hS => lv_tableOut F.1 F.2.1 hd h ht (kk ls H locs hl hH hS)
theorem v_loc {L' : List (Nat × Value)} (ks : List Nat) (hL : lv_pick L ks = L') (kk : V X D nL Q G cells slots (pc) L' (st)) : V X D nL Q G cells slots (pc) L (st) := fun ls H locs hl hH hS => kk ls H locs (lv_sub hl ks hL) hH hS
theorem v_widen {c' s' : Nat} (h1 : cells ≤ c') (h2 : slots ≤ s') (kk : V X D nL Q G c' s' (pc) L (st)) : V X D nL Q G cells slots (pc) L (st) := fun ls H locs hl hH hS => W.widen h1 h2 (kk ls H locs hl hH hS)
end RW
end
section
theorem in_r {big ws : List Cond} (ps : List Nat) (hp : ws = ps.filterMap (fun i => big[i]?)) (hg : ws.all goodWord = true) : ∀ w ∈ ws, w ∈ big ∧ goodWord w = true := by
  intro w hw
  refine ⟨?_, List.all_eq_true.mp hg w hw⟩
  rw [hp] at hw
  obtain ⟨i, -, hi⟩ := List.mem_filterMap.mp hw
  exact List.mem_of_getElem? hi
set_option maxRecDepth 20000 in
theorem ci_0 : ∀ w ∈ u_ws RX0 TX0 1, w ∈ tG := fun w h => List.mem_filter.mpr (in_r (big := lw_tbl) [194] (by decide +kernel) (by decide +kernel) w h)
theorem cd_0 : ∀ k, k < 1 → defaultValue (tyX0 k) = fv (tyX0 k) (0, fun _ => 0, fun _ => 0, fun _ _ => 0, fun _ _ => 0, fun _ _ => none) 0 k := by decide +kernel
set_option maxRecDepth 20000 in
theorem ci_1 : ∀ w ∈ u_ws RX1 TX1 3, w ∈ tG := fun w h => List.mem_filter.mpr (in_r (big := lw_tbl) [282, 284, 286] (by decide +kernel) (by decide +kernel) w h)
theorem cd_1 : ∀ k, k < 3 → defaultValue (tyX1 k) = fv (tyX1 k) (0, fun _ => 0, fun _ => 0, fun _ _ => 0, fun _ _ => 0, fun _ _ => none) 0 k := by decide +kernel
set_option maxRecDepth 20000 in
theorem ci_2 : ∀ w ∈ u_ws RX2 TX2 3, w ∈ tG := fun w h => List.mem_filter.mpr (in_r (big := lw_tbl) [117, 119, 121] (by decide +kernel) (by decide +kernel) w h)
theorem cd_2 : ∀ k, k < 3 → defaultValue (tyX2 k) = fv (tyX2 k) (0, fun _ => 0, fun _ => 0, fun _ _ => 0, fun _ _ => 0, fun _ _ => none) 0 k := by decide +kernel
set_option maxRecDepth 20000 in
theorem ci_3 : ∀ w ∈ u_ws RX4 TX4 7, w ∈ tG := fun w h => List.mem_filter.mpr (in_r (big := lw_tbl) [250, 252, 254, 256, 258, 260, 262] (by decide +kernel) (by decide +kernel) w h)
theorem cd_3 : ∀ k, k < 7 → defaultValue (tyX4 k) = fv (tyX4 k) (0, fun _ => 0, fun _ => 0, fun _ _ => 0, fun _ _ => 0, fun _ _ => none) 0 k := by decide +kernel
set_option maxRecDepth 20000 in
theorem ci_4 : ∀ w ∈ u_ws RX5 TX5 14, w ∈ tG := fun w h => List.mem_filter.mpr (in_r (big := lw_tbl) [412, 414, 416, 418, 420, 422, 424, 426, 428, 430, 432, 434, 436, 438] (by decide +kernel) (by decide +kernel) w h)
theorem cd_4 : ∀ k, k < 14 → defaultValue (tyX5 k) = fv (tyX5 k) (0, fun _ => 0, fun _ => 0, fun _ _ => 0, fun _ _ => 0, fun _ _ => none) 0 k := by decide +kernel
set_option maxRecDepth 20000 in
theorem ci_5 : ∀ w ∈ u_ws RX6 TX6 6, w ∈ tG := fun w h => List.mem_filter.mpr (in_r (big := lw_tbl) [758, 760, 762, 764, 766, 768] (by decide +kernel) (by decide +kernel) w h)
theorem cd_5 : ∀ k, k < 6 → defaultValue (tyX6 k) = fv (tyX6 k) (0, fun _ => 0, fun _ => 0, fun _ _ => 0, fun _ _ => 0, fun _ _ => none) 0 k := by decide +kernel
set_option maxRecDepth 20000 in
theorem ci_6 : ∀ w ∈ u_ws RX7 TX7 2, w ∈ tG := fun w h => List.mem_filter.mpr (in_r (big := lw_tbl) [207, 209] (by decide +kernel) (by decide +kernel) w h)
theorem cd_6 : ∀ k, k < 2 → defaultValue (tyX7 k) = fv (tyX7 k) (0, fun _ => 0, fun _ => 0, fun _ _ => 0, fun _ _ => 0, fun _ _ => none) 0 k := by decide +kernel
set_option maxRecDepth 20000 in
theorem ci_7 : ∀ w ∈ u_ws RX8 TX8 3, w ∈ tG := fun w h => List.mem_filter.mpr (in_r (big := lw_tbl) [226, 228, 230] (by decide +kernel) (by decide +kernel) w h)
theorem cd_7 : ∀ k, k < 3 → defaultValue (tyX8 k) = fv (tyX8 k) (0, fun _ => 0, fun _ => 0, fun _ _ => 0, fun _ _ => 0, fun _ _ => none) 0 k := by decide +kernel
set_option maxRecDepth 20000 in
theorem ci_8 : ∀ w ∈ u_ws RX9 TX9 11, w ∈ tG := fun w h => List.mem_filter.mpr (in_r (big := lw_tbl) [160, 162, 164, 166, 168, 170, 172, 174, 176, 178, 180] (by decide +kernel) (by decide +kernel) w h)
theorem cd_8 : ∀ k, k < 11 → defaultValue (tyX9 k) = fv (tyX9 k) (0, fun _ => 0, fun _ => 0, fun _ _ => 0, fun _ _ => 0, fun _ _ => none) 0 k := by decide +kernel
set_option maxRecDepth 20000 in
theorem ci_9 : ∀ w ∈ u_ws RX10 TX10 14, w ∈ tG := fun w h => List.mem_filter.mpr (in_r (big := lw_tbl) [303, 305, 307, 309, 311, 313, 315, 317, 319, 321, 323, 325, 327, 329] (by decide +kernel) (by decide +kernel) w h)
theorem cd_9 : ∀ k, k < 14 → defaultValue (tyX10 k) = fv (tyX10 k) (0, fun _ => 0, fun _ => 0, fun _ _ => 0, fun _ _ => 0, fun _ _ => none) 0 k := by decide +kernel
set_option maxRecDepth 20000 in
theorem ci_10 : ∀ w ∈ u_ws RX11 TX11 46, w ∈ tG := fun w h => List.mem_filter.mpr (in_r (big := lw_tbl) [911, 913, 915, 917, 919, 921, 923, 925, 927, 929, 931, 933, 935, 937, 939, 941, 943, 945, 947, 949, 951, 953, 955, 957, 959, 961, 963, 965, 967, 969, 971, 973, 975, 977, 979, 981, 983, 985, 987, 989, 991, 993, 995, 997, 999, 1001] (by decide +kernel) (by decide +kernel) w h)
theorem cd_10 : ∀ k, k < 46 → defaultValue (tyX11 k) = fv (tyX11 k) (0, fun _ => 0, fun _ => 0, fun _ _ => 0, fun _ _ => 0, fun _ _ => none) 0 k := by decide +kernel
def clsOk (ci : Nat) (r : vw_C) : Prop := (∀ w ∈ u_ws r.1 r.2.1 r.2.2, w ∈ tG) ∧ (∀ k, k < r.2.2 → parseFieldDescriptor (r.2.1 k).2.2.1 = some (tyOf ci k)) ∧ (∀ a, a < r.2.2 → ∀ b, b < r.2.2 → a ≠ b → (r.2.1 a).2.1 ≠ (r.2.1 b).2.1) ∧ (∀ k, k < r.2.2 → defaultValue (tyOf ci k) = fv (tyOf ci k) (0, fun _ => 0, fun _ => 0, fun _ _ => 0, fun _ _ => 0, fun _ _ => none) 0 k)
theorem cls_ok : ∀ (ci : Nat) (r : vw_C), vwCl[ci]? = some r → clsOk ci r
  | 0, r, h => by
    have e : r = (RX0, TX0, 1) := (Option.some.inj (show some (RX0, TX0, 1) = some r from h)).symm
    subst e
    exact ⟨ci_0, tyX0_ok, nmX0, cd_0⟩
  | 1, r, h => by
    have e : r = (RX1, TX1, 3) := (Option.some.inj (show some (RX1, TX1, 3) = some r from h)).symm
    subst e
    exact ⟨ci_1, tyX1_ok, nmX1, cd_1⟩
  | 2, r, h => by
    have e : r = (RX2, TX2, 3) := (Option.some.inj (show some (RX2, TX2, 3) = some r from h)).symm
    subst e
    exact ⟨ci_2, tyX2_ok, nmX2, cd_2⟩
  | 3, r, h => by
    have e : r = (RX4, TX4, 7) := (Option.some.inj (show some (RX4, TX4, 7) = some r from h)).symm
    subst e
    exact ⟨ci_3, tyX4_ok, nmX4, cd_3⟩
  | 4, r, h => by
    have e : r = (RX5, TX5, 14) := (Option.some.inj (show some (RX5, TX5, 14) = some r from h)).symm
    subst e
    exact ⟨ci_4, tyX5_ok, nmX5, cd_4⟩
  | 5, r, h => by
    have e : r = (RX6, TX6, 6) := (Option.some.inj (show some (RX6, TX6, 6) = some r from h)).symm
    subst e
    exact ⟨ci_5, tyX6_ok, nmX6, cd_5⟩
  | 6, r, h => by
    have e : r = (RX7, TX7, 2) := (Option.some.inj (show some (RX7, TX7, 2) = some r from h)).symm
    subst e
    exact ⟨ci_6, tyX7_ok, nmX7, cd_6⟩
  | 7, r, h => by
    have e : r = (RX8, TX8, 3) := (Option.some.inj (show some (RX8, TX8, 3) = some r from h)).symm
    subst e
    exact ⟨ci_7, tyX8_ok, nmX8, cd_7⟩
  | 8, r, h => by
    have e : r = (RX9, TX9, 11) := (Option.some.inj (show some (RX9, TX9, 11) = some r from h)).symm
    subst e
    exact ⟨ci_8, tyX9_ok, nmX9, cd_8⟩
  | 9, r, h => by
    have e : r = (RX10, TX10, 14) := (Option.some.inj (show some (RX10, TX10, 14) = some r from h)).symm
    subst e
    exact ⟨ci_9, tyX10_ok, nmX10, cd_9⟩
  | 10, r, h => by
    have e : r = (RX11, TX11, 46) := (Option.some.inj (show some (RX11, TX11, 46) = some r from h)).symm
    subst e
    exact ⟨ci_10, tyX11_ok, nmX11, cd_10⟩
  | n + 11, r, h => by
    have := (List.getElem?_eq_some_iff.mp h).1
    exact absurd (show n + 11 < 11 from this) (by omega)
theorem cls_lt {ci : Nat} {r : vw_C} (h : vwCl[ci]? = some r) : ci < 11 := (List.getElem?_eq_some_iff.mp h).1
theorem tys_lt {D : Dx} {t : Nat} {q : ClassId × FieldType} (h : (tysD D)[t]? = some q) : t < 7 := (List.getElem?_eq_some_iff.mp h).1
def FLink (own : String) (idx ci k : Nat) (fin : Bool) : Prop := ∃ r : vw_C, vwCl[ci]? = some r ∧ k < r.2.2 ∧ (r.2.1 k).2.2.2 = fin ∧ ((r.2.1 k).1 = own ∨ fin = false) ∧ Cond.fieldLink own idx (r.2.1 k).1 (r.2.1 k).2.1 (r.2.1 k).2.2.1 ∈ tG
def isB (x : Int32) : Prop := x = 0 ∨ x = 1
theorem isB_nar {x : Int32} (h : isB x) : narrow .boolean (.int x) = .int x := by rcases h with h | h <;> subst h <;> rfl
theorem isB_fit {x : Int32} (h : isB x) : fits .boolean (.int x) = true := by rcases h with h | h <;> subst h <;> rfl
theorem isB_vp {x : Int32} (h : isB x) : vp_nar .boolean x = x := by rcases h with h | h <;> subst h <;> rfl
/-- the name of an array class of numbers, out of what the tables say -/
def s_arrName (ty : FieldType) : Prop := ∀ (U : State) (cA : ClassId), va_RA U cA ty → U.vm.findClass ("[" ++ ty.toString) = some cA
section RH
variable {X : Cx} {D : Dx} {cc : ByteArray} {nL : Nat} {own : String} {ret : Option FieldType} {nm : String} {Q : State → Prop} {G : Wd} {cells slots pc : Nat} {L : List (Nat × Value)} {st : List Value}
theorem v_get (F : Fx X D cc nL own ret nm) {idx ci k a : Nat} {fin : Bool} {v : Value} (fl : FLink own idx ci k fin) (hk : gK G a = ci + 1) (hv : fv (tyOf ci k) G a k = v) (hd : decode cc pc = .ok (.getfield idx, 3)) (kk : V X D nL Q G cells slots (pc + 3) L (v :: st)) : V X D nL Q G cells slots pc L (.ref a :: st) := by
  subst hv
  obtain ⟨r, hr, hkN, -, -, hmem⟩ := fl
  intro ls H locs hl hH hS
  obtain ⟨hx, hb, hml, hown, hts, hK, -⟩ := F
  obtain ⟨cell, q1, q2, q3, q4⟩ := (hH.2.2 a).1 ci r hk hr
  obtain ⟨hSl, hfc, kC, hkC, hkind⟩ := hK.1.1 ci r hr
  obtain ⟨cf, kf, fi, f, hi, hsl⟩ := hSl k hkN
  refine W.getf hx hb hown (hts _ hmem) hi (u_facts hfc hkC (u_lays hts (cls_ok ci r hr).1 hkN) hi).1 q1 (by rw [q3]; exact fun h => by cases h) (v := fv (tyOf ci k) G a k) ?_ rfl rfl hd (kk ls H locs hl hH hS)
  rw [hsl]
  exact q4 k hkN
theorem v_put_core (F : Fx X D cc nL own ret nm) {idx ci k a : Nat} {fin : Bool} {v : Value} {G' : Wd} (fl : FLink own idx ci k fin) (hin : fin = true → nm = "<init>") (hk : gK G a = ci + 1) (hn : narrow (tyOf ci k) v = v) (hf : fits (tyOf ci k) v = true) (hz : gZ G' = gZ G) (hk' : gK G' a = gK G a) (hs : ∀ b, b ≠ a → sameAt G G' b) (hself : fv (tyOf ci k) G' a k = v) (hoth : ∀ j, j ≠ k → fv (tyOf ci j) G' a j = fv (tyOf ci j) G a j) (hd : decode cc pc = .ok (.putfield idx, 3)) (kk : V X D nL Q G' cells slots (pc + 3) L st) : V X D nL Q G cells slots pc L (v :: .ref a :: st) := by
  obtain ⟨r, hr, hkN, hfin, hdecl, hmem⟩ := fl
  intro ls H locs hl hH hS
  obtain ⟨hx, hb, hml, hown, hts, hK, -, -, hnm⟩ := F
  obtain ⟨cin, cty, cnm, -⟩ := cls_ok ci r hr
  obtain ⟨cell, q1, q2, q3, q4⟩ := (hH.2.2 a).1 ci r hk hr
  obtain ⟨hSl, hfc, kC, hkC, hkind⟩ := hK.1.1 ci r hr
  have hap := va_apart (D := (dC D, dI D)) (own := own) (C := r.1) (T := r.2.1) (N := r.2.2) hts cin (tyOf ci) cty cnm hK.1 hr
  obtain ⟨cf, kf, fi, f, hi, hsl⟩ := hSl k hkN
  have hst := (u_facts hfc hkC (u_lays hts cin hkN) hi).1
  have hlay := hts _ (cin _ (u_in_lay hkN))
  unfold u_lay at hlay
  have hAa : Ab D a := (hH.2.1 a (by rw [hk]; exact Nat.succ_ne_zero _)).1
  have fin2 : ∀ H' : Heap, H'[a]? = some (cell.setSlot (dI D ci k) v) → H'.size = H.size → (∀ q : Nat, q ≠ a → H'[q]? = H[q]?) → Hd D G' H' := by
    intro H' e1 e2 e3
    refine hH.put e2 e3 hz hk' hs ⟨fun ci' r' h1 h2 => ?_, fun t q h1 h2 => ?_⟩
    · rw [hk', hk] at h1
      have e : ci' = ci := by omega
      subst e
      cases hr.symm.trans h2
      refine t_OB.to (V := updV (fun j => fv (tyOf ci' j) G a j) k v) ⟨_, e1, q2, q3, t_set q4 hap hkN v⟩ (fun j _ => ?_)
      by_cases hj : j = k
      · subst hj; simp [updV, hself]
      · simp [updV, hj, hoth j hj]
    · rw [hk', hk] at h1
      have := cls_lt hr
      have := tys_lt h2
      omega
  cases fin with
  | false =>
    rw [if_neg (by rw [hfin]; decide)] at hlay
    have h6 := u_store hfc hkC hkind hlay hi (cty k hkN) hn hf
    refine W.putK hx hb (f := f) ⟨hown, hts _ hmem, ⟨_, _, _, hi⟩, hst⟩ (by rw [q2]; exact h6) q1 q3 (by rw [hsl]; exact k2_hasslot (q4 k hkN)) rfl rfl hd fun H' e1 e2 e3 => ?_
    rw [hsl] at e1
    exact kk ls H' _ hl (fin2 H' e1 e2 e3) (hS.put e2 e3 hAa)
  | true =>
    rw [if_pos hfin] at hlay
    have hcf : X.2.2.2.2.2.1.cls = cf := by
      obtain ⟨_, _, c', _, _, _, -, -, hf', -, -, -, hown2, -⟩ := Cond.laysFinal_spec hlay
      have e1 : c' = cf := by have := hi.symm.trans hf'; simp at this; exact this.1.symm
      rw [hdecl.resolve_right (by decide)] at hown2
      rw [← e1]; exact Option.some.inj (hown.symm.trans hown2)
    have h6 := u_fits hfc hkC hkind (Or.inr hlay) hi (cty k hkN) hn hf
    refine W.putFinK hx hb hown (hts _ hmem) hi hst hcf (by rw [hnm]; exact hin rfl) (by rw [q2]; exact h6) q1 q3 (by rw [hsl]; exact k2_hasslot (q4 k hkN)) rfl rfl hd fun H' e1 e2 e3 => ?_
    rw [hsl] at e1
    exact kk ls H' _ hl (fin2 H' e1 e2 e3) (hS.put e2 e3 hAa)
theorem same_uI {a k : Nat} {v : Int32} {b : Nat} (h : b ≠ a) : sameAt G (uI G a k v) b := ⟨rfl, rfl, fun j => by simp [uI, gI, u2, h], fun _ => rfl, fun _ => rfl⟩
theorem same_uJ {a k : Nat} {v : Int64} {b : Nat} (h : b ≠ a) : sameAt G (uJ G a k v) b := ⟨rfl, rfl, fun _ => rfl, fun j => by simp [uJ, gJ, u2, h], fun _ => rfl⟩
theorem same_uR {a k : Nat} {v : Option Nat} {b : Nat} (h : b ≠ a) : sameAt G (uR G a k v) b := ⟨rfl, rfl, fun _ => rfl, fun _ => rfl, fun j => by simp [uR, gR, u2, h]⟩
theorem fv_uI (ty : FieldType) {a k : Nat} {v : Int32} {j : Nat} (h : j ≠ k) : fv ty (uI G a k v) a j = fv ty G a j := by
  cases ty <;> simp [fv, uI, gI, gJ, gR, u2, h]
theorem fv_uJ (ty : FieldType) {a k : Nat} {v : Int64} {j : Nat} (h : j ≠ k) : fv ty (uJ G a k v) a j = fv ty G a j := by
  cases ty <;> simp [fv, uJ, gI, gJ, gR, u2, h]
theorem fv_uR (ty : FieldType) {a k : Nat} {v : Option Nat} {j : Nat} (h : j ≠ k) : fv ty (uR G a k v) a j = fv ty G a j := by
  cases ty <;> simp [fv, uR, gI, gJ, gR, u2, h]
theorem v_putI (F : Fx X D cc nL own ret nm) {idx ci k a : Nat} {fin : Bool} {x : Int32} (fl : FLink own idx ci k fin) (hin : fin = true → nm = "<init>") (ht : tyOf ci k = .int) (hk : gK G a = ci + 1) (hd : decode cc pc = .ok (.putfield idx, 3)) (kk : V X D nL Q (uI G a k x) cells slots (pc + 3) L st) : V X D nL Q G cells slots pc L (.int x :: .ref a :: st) :=
  v_put_core (G' := uI G a k x) F fl hin hk (by rw [ht]; rfl) (by rw [ht]; rfl) rfl rfl (fun b hb => same_uI hb) (by rw [ht]; simp [fv, uI, gI, u2]) (fun j hj => fv_uI _ hj) hd kk
theorem v_putZ (F : Fx X D cc nL own ret nm) {idx ci k a : Nat} {fin : Bool} {x : Int32} (fl : FLink own idx ci k fin) (hin : fin = true → nm = "<init>") (ht : tyOf ci k = .boolean) (hB : isB x) (hk : gK G a = ci + 1) (hd : decode cc pc = .ok (.putfield idx, 3)) (kk : V X D nL Q (uI G a k x) cells slots (pc + 3) L st) : V X D nL Q G cells slots pc L (.int x :: .ref a :: st) :=
  v_put_core (G' := uI G a k x) F fl hin hk (by rw [ht]; exact isB_nar hB) (by rw [ht]; exact isB_fit hB) rfl rfl (fun b hb => same_uI hb) (by rw [ht]; simp [fv, uI, gI, u2]) (fun j hj => fv_uI _ hj) hd kk
theorem v_putJ (F : Fx X D cc nL own ret nm) {idx ci k a : Nat} {fin : Bool} {x : Int64} (fl : FLink own idx ci k fin) (hin : fin = true → nm = "<init>") (ht : tyOf ci k = .long) (hk : gK G a = ci + 1) (hd : decode cc pc = .ok (.putfield idx, 3)) (kk : V X D nL Q (uJ G a k x) cells slots (pc + 3) L st) : V X D nL Q G cells slots pc L (.long x :: .ref a :: st) :=
  v_put_core (G' := uJ G a k x) F fl hin hk (by rw [ht]; rfl) (by rw [ht]; rfl) rfl rfl (fun b hb => same_uJ hb) (by rw [ht]; simp [fv, uJ, gJ, u2]) (fun j hj => fv_uJ _ hj) hd kk
theorem v_putR (F : Fx X D cc nL own ret nm) {idx ci k a : Nat} {fin : Bool} {x : Nat} (fl : FLink own idx ci k fin) (hin : fin = true → nm = "<init>") (ht : narrow (tyOf ci k) (.ref x) = .ref x ∧ fits (tyOf ci k) (.ref x) = true ∧ ∀ G : Wd, fv (tyOf ci k) G a k = va_rf (gR G a k)) (hk : gK G a = ci + 1) (hd : decode cc pc = .ok (.putfield idx, 3)) (kk : V X D nL Q (uR G a k (some x)) cells slots (pc + 3) L st) : V X D nL Q G cells slots pc L (.ref x :: .ref a :: st) :=
  v_put_core (G' := uR G a k (some x)) F fl hin hk ht.1 ht.2.1 rfl rfl (fun b hb => same_uR hb) (by rw [ht.2.2]; simp [uR, gR, u2, va_rf]) (fun j hj => fv_uR _ hj) hd kk
/-! arrays -/
theorem arr_at {H : Heap} (hH : Hd D G H) {a : Nat} (t : Nat) (q : ClassId × FieldType) (hk : gK G a = t + 20) (hq : (tysD D)[t]? = some q) : H[a]? = some (arrV q.1 (gN G a) (fun j => fv q.2 G a j)) := (hH.2.2 a).2 t q hk hq
theorem arr_put {H H1 : Heap} {G' : Wd} {a i : Nat} {v : Value} (hH : Hd D G H) (t : Nat) (q : ClassId × FieldType) (hk : gK G a = t + 20) (hq : (tysD D)[t]? = some q) (e : H1[a]? = some ((arrV q.1 (gN G a) (fun j => fv q.2 G a j)).setSlot i v)) (z : H1.size = H.size) (oq : ∀ x : Nat, x ≠ a → H1[x]? = H[x]?) (hz : gZ G' = gZ G) (hk' : gK G' a = gK G a) (hn' : gN G' a = gN G a) (hs : ∀ b, b ≠ a → sameAt G G' b) (hself : fv q.2 G' a i = v) (hoth : ∀ j, j ≠ i → fv q.2 G' a j = fv q.2 G a j) : Hd D G' H1 := by
  refine hH.put z oq hz hk' hs ⟨fun ci' r' h1 h2 => ?_, fun t' q' h1 h2 => ?_⟩
  · rw [hk', hk] at h1
    have := cls_lt h2
    omega
  · rw [hk', hk] at h1
    have et : t' = t := by omega
    subst et
    cases hq.symm.trans h2
    rw [e, arrV_store, hn']
    congr 2
    funext j
    by_cases hj : j = i
    · subst hj; simp [updV, hself]
    · simp [updV, hj, hoth j hj]
theorem v_iald (F : Fx X D cc nL own ret nm) {a : Nat} {i : Int32} (hk : gK G a = 20) (hin : vp_in i (gN G a)) (hd : decode cc pc = .ok (.iaload, 1)) (kk : V X D nL Q G cells slots (pc + 1) L (.int (gI G a i.toNatClampNeg) :: st)) : V X D nL Q G cells slots pc L (.int i :: .ref a :: st) := by
  intro ls H locs hl hH hS
  have hlt : i.toNatClampNeg < gN G a := Nat.not_le.mp fun q => hin (Or.inr q)
  exact W.iald (v := .int (gI G a i.toNatClampNeg)) F.1 F.2.1 (arr_at hH 0 _ hk rfl) ((F.2.2.2.2.2.1.1.2 0 _ rfl).1 _ _) (fun q => by cases q) (by show ¬ (i < 0 ∨ (arrV _ _ _).slots.size ≤ _); rw [arrV_size]; exact hin) (by show (arrV _ _ _).slots[_]? = _; rw [arrV_read _ _ hlt]; rfl) rfl rfl hd (kk ls H locs hl hH hS)
theorem v_lald (F : Fx X D cc nL own ret nm) {a : Nat} {i : Int32} (hk : gK G a = 21) (hin : vp_in i (gN G a)) (hd : decode cc pc = .ok (.laload, 1)) (kk : V X D nL Q G cells slots (pc + 1) L (.long (gJ G a i.toNatClampNeg) :: st)) : V X D nL Q G cells slots pc L (.int i :: .ref a :: st) := by
  intro ls H locs hl hH hS
  have hlt : i.toNatClampNeg < gN G a := Nat.not_le.mp fun q => hin (Or.inr q)
  exact W.lald (v := .long (gJ G a i.toNatClampNeg)) F.1 F.2.1 (arr_at hH 1 _ hk rfl) ((F.2.2.2.2.2.1.1.2 1 _ rfl).1 _ _) (fun q => by cases q) (by show ¬ (i < 0 ∨ (arrV _ _ _).slots.size ≤ _); rw [arrV_size]; exact hin) (by show (arrV _ _ _).slots[_]? = _; rw [arrV_read _ _ hlt]; rfl) rfl rfl hd (kk ls H locs hl hH hS)
theorem v_zald (F : Fx X D cc nL own ret nm) {a : Nat} {i : Int32} (hk : gK G a = 22) (hin : vp_in i (gN G a)) (hd : decode cc pc = .ok (.baload, 1)) (kk : V X D nL Q G cells slots (pc + 1) L (.int (gI G a i.toNatClampNeg) :: st)) : V X D nL Q G cells slots pc L (.int i :: .ref a :: st) := by
  intro ls H locs hl hH hS
  have hlt : i.toNatClampNeg < gN G a := Nat.not_le.mp fun q => hin (Or.inr q)
  exact W.zald (v := .int (gI G a i.toNatClampNeg)) F.1 F.2.1 (arr_at hH 2 _ hk rfl) ((F.2.2.2.2.2.1.1.2 2 _ rfl).1 _ _) (fun q => by cases q) (by show ¬ (i < 0 ∨ (arrV _ _ _).slots.size ≤ _); rw [arrV_size]; exact hin) (by show (arrV _ _ _).slots[_]? = _; rw [arrV_read _ _ hlt]; rfl) rfl rfl hd (kk ls H locs hl hH hS)
theorem v_aald (F : Fx X D cc nL own ret nm) {a t : Nat} {C : String} {cA : ClassId} {i : Int32} (hq : (tysD D)[t]? = some (cA, .object C)) (hk : gK G a = t + 20) (hin : vp_in i (gN G a)) (hd : decode cc pc = .ok (.aaload, 1)) (kk : V X D nL Q G cells slots (pc + 1) L (va_rf (gR G a i.toNatClampNeg) :: st)) : V X D nL Q G cells slots pc L (.int i :: .ref a :: st) := by
  intro ls H locs hl hH hS
  have hlt : i.toNatClampNeg < gN G a := Nat.not_le.mp fun q => hin (Or.inr q)
  exact W.aald (v := va_rf (gR G a i.toNatClampNeg)) (ty := .object C) F.1 F.2.1 (arr_at hH t _ hk hq) ((F.2.2.2.2.2.1.1.2 t _ hq).1 _ _) rfl (fun q => by cases q) (by show ¬ (i < 0 ∨ (arrV _ _ _).slots.size ≤ _); rw [arrV_size]; exact hin) (by show (arrV _ _ _).slots[_]? = _; rw [arrV_read _ _ hlt]; rfl) rfl rfl hd (kk ls H locs hl hH hS)
theorem ab_of {H : Heap} (hH : Hd D G H) {a k : Nat} (hk : gK G a = k + 20) : Ab D a := (hH.2.1 a (by rw [hk]; exact Nat.succ_ne_zero _)).1
theorem v_iast (F : Fx X D cc nL own ret nm) {a : Nat} {i x : Int32} (hk : gK G a = 20) (hin : vp_in i (gN G a)) (hd : decode cc pc = .ok (.iastore, 1)) (kk : V X D nL Q (uI G a i.toNatClampNeg x) cells slots (pc + 1) L st) : V X D nL Q G cells slots pc L (.int x :: .int i :: .ref a :: st) := by
  intro ls H locs hl hH hS
  refine W.iast F.1 F.2.1 (arr_at hH 0 _ hk rfl) ((F.2.2.2.2.2.1.1.2 0 _ rfl).1 _ _) (fun q => by cases q) (by show ¬ (i < 0 ∨ (arrV _ _ _).slots.size ≤ _); rw [arrV_size]; exact hin) rfl rfl hd fun H1 e z oq => ?_
  exact kk ls H1 _ hl (arr_put hH 0 _ hk rfl e z oq rfl rfl rfl (fun b hb => same_uI hb) (by simp [fv, uI, gI, u2]) (fun j hj => fv_uI _ hj)) (hS.put z oq (ab_of hH hk))
theorem v_last (F : Fx X D cc nL own ret nm) {a : Nat} {i : Int32} {x : Int64} (hk : gK G a = 21) (hin : vp_in i (gN G a)) (hd : decode cc pc = .ok (.lastore, 1)) (kk : V X D nL Q (uJ G a i.toNatClampNeg x) cells slots (pc + 1) L st) : V X D nL Q G cells slots pc L (.long x :: .int i :: .ref a :: st) := by
  intro ls H locs hl hH hS
  refine W.last F.1 F.2.1 (arr_at hH 1 _ hk rfl) ((F.2.2.2.2.2.1.1.2 1 _ rfl).1 _ _) (fun q => by cases q) (by show ¬ (i < 0 ∨ (arrV _ _ _).slots.size ≤ _); rw [arrV_size]; exact hin) rfl rfl hd fun H1 e z oq => ?_
  exact kk ls H1 _ hl (arr_put hH 1 _ hk rfl e z oq rfl rfl rfl (fun b hb => same_uJ hb) (by simp [fv, uJ, gJ, u2]) (fun j hj => fv_uJ _ hj)) (hS.put z oq (ab_of hH hk))
theorem v_zast (F : Fx X D cc nL own ret nm) {a : Nat} {i x : Int32} (hB : isB x) (hk : gK G a = 22) (hin : vp_in i (gN G a)) (hd : decode cc pc = .ok (.bastore, 1)) (kk : V X D nL Q (uI G a i.toNatClampNeg x) cells slots (pc + 1) L st) : V X D nL Q G cells slots pc L (.int x :: .int i :: .ref a :: st) := by
  intro ls H locs hl hH hS
  refine W.zast F.1 F.2.1 (arr_at hH 2 _ hk rfl) ((F.2.2.2.2.2.1.1.2 2 _ rfl).1 _ _) (fun q => by cases q) (by show ¬ (i < 0 ∨ (arrV _ _ _).slots.size ≤ _); rw [arrV_size]; exact hin) rfl rfl hd fun H1 e z oq => ?_
  rw [isB_nar hB] at e
  exact kk ls H1 _ hl (arr_put hH 2 _ hk rfl e z oq rfl rfl rfl (fun b hb => same_uI hb) (by simp [fv, uI, gI, u2]) (fun j hj => fv_uI _ hj)) (hS.put z oq (ab_of hH hk))
theorem v_aast (F : Fx X D cc nL own ret nm) {a t v ci : Nat} {r : vw_C} {cA : ClassId} {i : Int32} (hq : (tysD D)[t]? = some (cA, .object r.1)) (hr : vwCl[ci]? = some r) (hk : gK G a = t + 20) (hkv : gK G v = ci + 1) (hin : vp_in i (gN G a)) (hd : decode cc pc = .ok (.aastore, 1)) (kk : V X D nL Q (uR G a i.toNatClampNeg (some v)) cells slots (pc + 1) L st) : V X D nL Q G cells slots pc L (.ref v :: .int i :: .ref a :: st) := by
  intro ls H locs hl hH hS
  obtain ⟨hx, hb, hml, hown, hts, hK, -⟩ := F
  have hlt : i.toNatClampNeg < gN G a := Nat.not_le.mp fun q => hin (Or.inr q)
  have h0 : ¬ i < 0 := fun q => hin (Or.inl q)
  obtain ⟨cellV, g1, g2, g3, -⟩ := (hH.2.2 v).1 ci r hkv hr
  have hcls := (hK.1.1 ci r hr).2
  obtain ⟨kA, comp, k1, k2, k3, -⟩ := (hK.1.2 t _ hq).2
  have hcomp : comp = dC D ci := Option.some.inj (k3.symm.trans hcls.1)
  subst hcomp
  obtain ⟨kC, hkC, -⟩ := hcls.2
  refine W.aast hx hb (arr_at hH t _ hk hq) (fun q h => by cases h) (fun h => by cases h) k1 k2 rfl hkC ⟨h0, by show _ < (arrV _ _ _).slots.size; rw [arrV_size]; exact hlt⟩ g1 (fun q h => by rw [g3] at h; cases h) (by rw [g2]; exact hkC) (by rw [g2]; exact va_assign hcls) rfl rfl hd fun H1 e z oq => ?_
  exact kk ls H1 _ hl (arr_put hH t _ hk hq e z oq rfl rfl rfl (fun b hb => same_uR hb) (by simp [fv, uR, gR, u2, va_rf]) (fun j hj => fv_uR _ hj)) (hS.put z oq (ab_of hH hk))
theorem v_aastN (F : Fx X D cc nL own ret nm) {a t : Nat} {C : String} {cA : ClassId} {i : Int32} (hq : (tysD D)[t]? = some (cA, .object C)) (hk : gK G a = t + 20) (hin : vp_in i (gN G a)) (hd : decode cc pc = .ok (.aastore, 1)) (kk : V X D nL Q (uR G a i.toNatClampNeg none) cells slots (pc + 1) L st) : V X D nL Q G cells slots pc L (va_rf none :: .int i :: .ref a :: st) := by
  intro ls H locs hl hH hS
  refine va_WaastN (C := C) F.1 F.2.1 (arr_at hH t _ hk hq) ((F.2.2.2.2.2.1.1.2 t _ hq).1 _ _) (fun h => by cases h) (by show ¬ (i < 0 ∨ (arrV _ _ _).slots.size ≤ _); rw [arrV_size]; exact hin) rfl rfl hd fun H1 e z oq => ?_
  exact kk ls H1 _ hl (arr_put hH t _ hk hq e z oq rfl rfl rfl (fun b hb => same_uR hb) (by simp [fv, uR, gR, u2, va_rf]) (fun j hj => fv_uR _ hj)) (hS.put z oq (ab_of hH hk))
theorem v_alen (F : Fx X D cc nL own ret nm) {a : Nat} (hk : gK G a = 20) (hd : decode cc pc = .ok (.arraylength, 1)) (kk : V X D nL Q G cells slots (pc + 1) L (.int (nI (gN G a)) :: st)) : V X D nL Q G cells slots pc L (.ref a :: st) := by
  intro ls H locs hl hH hS
  exact W.alen (n := nI (gN G a)) F.1 F.2.1 (arr_at hH 0 _ hk rfl) ((F.2.2.2.2.2.1.1.2 0 _ rfl).1 _ _) (by rw [arrV_size]; rfl) rfl rfl hd (kk ls H locs hl hH hS)
/-! the one static: the kinds' wider kinds -/
def wider (j : Nat) : Int32 := match j with | 3 => 1 | 4 => 2 | _ => 0
theorem v_gets (F : Fx X D cc nL own ret nm) {idx : Nat} (hw : Cond.fieldLink own idx RX5 "WIDER" "[I" ∈ tG) (hd : decode cc pc = .ok (.getstatic idx, 3)) (kk : V X D nL Q G cells slots (pc + 3) L (.ref (dW D) :: st)) : V X D nL Q G cells slots pc L st := by
  intro ls H locs hl hH hS
  exact va_gets F.1 F.2.1 F.2.2.2.2.2.1.2.2.2.2.1 hS F.2.2.2.1 (F.2.2.2.2.1 _ hw) (fun _ h => h) hd (kk ls H locs hl hH hS)
theorem v_wald (F : Fx X D cc nL own ret nm) {i : Int32} (hin : vp_in i 5) (hd : decode cc pc = .ok (.iaload, 1)) (kk : V X D nL Q G cells slots (pc + 1) L (.int (wider i.toNatClampNeg) :: st)) : V X D nL Q G cells slots pc L (.int i :: .ref (dW D) :: st) := by
  intro ls H locs hl hH hS
  have hlt : i.toNatClampNeg < 5 := Nat.not_le.mp fun q => hin (Or.inr q)
  obtain ⟨cell, h1, h2, h3, h4, h5, h6, h7⟩ := F.2.2.2.2.2.1.2.2.2.2.2.1
  refine W.iald (v := .int (wider i.toNatClampNeg)) F.1 F.2.1 (by rw [hS.2.1 (dW D) (Array.getElem?_eq_some_iff.mp h1).1 h7]; exact h1) h2 h3 (fun q => q.elim (fun q => hin (Or.inl q)) (fun q => by omega)) (h6 _ hlt) rfl rfl hd (kk ls H locs hl hH hS)
/-! new -/
theorem v_new (F : Fx X D cc nL own ret nm) {idx ci n : Nat} {r : vw_C} (hr : vwCl[ci]? = some r) (hN : r.2.2 = n) (hw1 : Cond.classLink own idx r.1 ∈ tG) (hw2 : Cond.instantiable r.1 n ∈ tG) (hw3 : Cond.initialized r.1 ∈ tG) (hc : cells + 1 ≤ X.2.2.2.1.cells) (hs : slots + n ≤ X.2.2.2.1.slots) (hd : decode cc pc = .ok (.new idx, 3)) (kk : V X D nL Q (nC G (ci + 1) 0) (cells + 1) (slots + n) (pc + 3) L (.ref (gZ G) :: st)) : V X D nL Q G cells slots pc L st := by
  intro ls H locs hl hH hS
  obtain ⟨hx, hb, hml, hown, hts, hK, -⟩ := F
  obtain ⟨cin, cty, cnm, cdf⟩ := cls_ok ci r hr
  have hKn := hK.1.1 ci r hr
  have hbz : dB D ≤ gZ G := by rw [← hH.1]; exact Nat.le_trans hK.2.2.2.2.2.2 hS.1
  subst hN
  refine W.newcK hx hb hown (hts _ hw1) (hts _ hw2) (hts _ hw3) rfl hd hc hs hKn.2.1 hH.1 fun H1 kC hkC e1 z1 o1 => ?_
  refine kk ls H1 locs hl (hH.new hbz (by rw [z1, hH.1]) (fun q hq => o1 q (by rw [← hH.1]; exact hq)) ⟨fun ci' r' h1 h2 => ?_, fun t q h1 h2 => ?_⟩) ⟨Nat.le_trans hS.1 (by rw [z1, hH.1]; exact Nat.le_succ _), fun x h1 h2 => (o1 x (by rw [← hH.1]; exact Nat.lt_of_lt_of_le h1 hS.1)).trans (hS.2.1 x h1 h2), hS.2.2⟩
  · have e : ci' = ci := by simp [nC, gK, va_up] at h1; exact h1.symm
    subst e
    cases hr.symm.trans h2
    refine (u_born (tyOf ci') hts cin hKn hkC e1 cty).to (fun j hj => ?_)
    rw [cdf j hj]
    cases tyOf ci' j <;> simp [fv, nC, gI, gJ, gR, gZ, z2]
  · have := cls_lt hr
    simp [nC, gK, va_up] at h1
    omega
theorem v_newa (F : Fx X D cc nL own ret nm) {atype : ArrayType} {t N : Nat} {cA : ClassId} {n : Int32} (hq : (tysD D)[t]? = some (cA, newarray.typeOf atype)) (hdf : ∀ a j : Nat, defaultValue (newarray.typeOf atype) = fv (newarray.typeOf atype) (nC G (t + 20) N) (gZ G) j) (hnm : s_arrName (newarray.typeOf atype)) (hw : Cond.arrayClass (newarray.typeOf atype) ∈ tG) (hn : ¬ n < 0) (hN : n.toNatClampNeg = N) (hby : N * componentBytes (newarray.typeOf atype) ≤ 536870912) (hc : cells + 1 ≤ X.2.2.2.1.cells) (hs : slots + N ≤ X.2.2.2.1.slots) (hd : decode cc pc = .ok (.newarray atype, 2)) (kk : V X D nL Q (nC G (t + 20) N) (cells + 1) (slots + N) (pc + 2) L (.ref (gZ G) :: st)) : V X D nL Q G cells slots pc L (.int n :: st) := by
  intro ls H locs hl hH hS
  obtain ⟨hx, hb, hml, hown, hts, hK, -⟩ := F
  have hbz : dB D ≤ gZ G := by rw [← hH.1]; exact Nat.le_trans hK.2.2.2.2.2.2 hS.1
  refine va_newaK hx hb (hts _ hw) rfl hd rfl hn hN hby hc hs hH.1 fun H1 cA' e1 z1 o1 hAr hNm => ?_
  have hcA : cA' = cA := by
    have h2 := (hK.1.2 t _ hq).2
    have h3 : X.2.2.2.2.1.vm.findClass ("[" ++ (newarray.typeOf atype).toString) = some cA := hnm _ _ h2
    exact Option.some.inj (hNm.symm.trans h3)
  subst hcA
  refine kk ls H1 locs hl (hH.new hbz (by rw [z1, hH.1]) (fun q hq => o1 q (by rw [← hH.1]; exact hq)) ⟨fun ci' r' h1 h2 => ?_, fun t' q h1 h2 => ?_⟩) ⟨Nat.le_trans hS.1 (by rw [z1, hH.1]; exact Nat.le_succ _), fun x h1 h2 => (o1 x (by rw [← hH.1]; exact Nat.lt_of_lt_of_le h1 hS.1)).trans (hS.2.1 x h1 h2), hS.2.2⟩
  · have := cls_lt h2
    simp [nC, gK, va_up] at h1
    omega
  · have e : t' = t := by simp [nC, gK, va_up] at h1; exact h1.symm
    subst e
    cases hq.symm.trans h2
    rw [e1]
    congr 2
    · simp [nC, gN, va_up]
    · funext j
      exact hdf 0 j
theorem v_anew (F : Fx X D cc nL own ret nm) {C : String} {t N idx : Nat} {cA : ClassId} {n : Int32} (hq : (tysD D)[t]? = some (cA, .object C)) (hC : C ∈ aoW) (hw : Cond.classLink own idx C ∈ tG) (hn : ¬ n < 0) (hN : n.toNatClampNeg = N) (hby : N * 4 ≤ 536870912) (hc : cells + 1 ≤ X.2.2.2.1.cells) (hs : slots + N ≤ X.2.2.2.1.slots) (hd : decode cc pc = .ok (.anewarray idx, 3)) (kk : V X D nL Q (nC G (t + 20) N) (cells + 1) (slots + N) (pc + 3) L (.ref (gZ G) :: st)) : V X D nL Q G cells slots pc L (.int n :: st) := by
  intro ls H locs hl hH hS
  obtain ⟨hx, hb, hml, hown, hts, hK, -⟩ := F
  have hbz : dB D ≤ gZ G := by rw [← hH.1]; exact Nat.le_trans hK.2.2.2.2.2.2 hS.1
  subst hN
  refine W.anew hx hb hown (hts _ hw) (va_AO.use (hK.2.2.2.1 C hC)) rfl hd rfl hn hby hc hs fun cA' kA comp f1 f2 f3 f4 => ?_
  have hcA : cA' = cA := by
    obtain ⟨_, _, _, _, _, h3⟩ := (hK.1.2 t _ hq).2
    exact Option.some.inj (f1.symm.trans h3)
  subst hcA
  generalize hH1 : H.push ({ cls := cA', slots := Array.replicate n.toNatClampNeg .null, vm := .none } : Cell) = H1
  have z1 : H1.size = H.size + 1 := by rw [← hH1, Array.size_push]
  have e1 : H1[H.size]? = some (arrV cA' n.toNatClampNeg (fun _ => .null)) := by rw [← hH1, Array.getElem?_push_size, ← arrV_new]
  have o1 : ∀ q, q < H.size → H1[q]? = H[q]? := fun q hq => by rw [← hH1, Array.getElem?_push, if_neg (Nat.ne_of_lt hq)]
  have key := kk ls H1 locs hl (hH.new hbz (by rw [z1]) o1 ⟨fun ci' r' h1 h2 => by
      have := cls_lt h2
      simp [nC, gK, va_up] at h1
      omega, fun t' q h1 h2 => by
      have e : t' = t := by simp [nC, gK, va_up] at h1; exact h1.symm
      subst e
      cases hq.symm.trans h2
      rw [← hH.1, e1]
      congr 2
      · simp [nC, gN, va_up, hH.1]
      · funext j
        simp [fv, nC, gR, gZ, z2, va_rf, hH.1]⟩) ⟨Nat.le_trans hS.1 (by rw [z1]; exact Nat.le_succ _), fun x h1 h2 => (o1 x (Nat.lt_of_lt_of_le h1 hS.1)).trans (hS.2.1 x h1 h2), hS.2.2⟩
  rw [← hH.1] at key
  exact key
theorem v_objInit (F : Fx X D cc nL own ret nm) {idx a : Nat} (hw1 : Cond.methodLink own idx objectInit ∈ tG) (hw2 : Cond.instanceMethod objectInit ∈ tG) (hw3 : Cond.code objectInit ⟨#[0xb1]⟩ 1 none ∈ tG) (hR : 1 ≤ X.2.2.2.1.frames) (hR2 : (st.map fun v => v.category).sum + 12 ≤ X.2.2.2.1.locals) (hd : decode cc pc = .ok (.invokespecial idx, 3)) (kk : V X D nL Q G cells slots (pc + 3) L st) : V X D nL Q G cells slots pc L (.ref a :: st) := by
  intro ls H locs hl hH hS
  refine W.objInit F.1 F.2.1 F.2.2.2.1 (F.2.2.2.2.1 _ hw1) (F.2.2.2.2.1 _ hw2) (F.2.2.2.2.1 _ hw3) rfl (by rw [F.2.2.1]; exact hl.1) rfl hd hR ?_ (kk ls H locs hl hH hS)
  simpa using hR2
end RH
end
section
theorem v_newaI {X : Cx} {D : Dx} {cc : ByteArray} {nL : Nat} {own : String} {ret : Option FieldType} {nm : String} {Q : State → Prop} {G : Wd} {cells slots pc : Nat} {L : List (Nat × Value)} {st : List Value} (F : Fx X D cc nL own ret nm) {N : Nat} {n : Int32} (hw : Cond.arrayClass .int ∈ tG) (hn : ¬ n < 0) (hN : n.toNatClampNeg = N) (hby : N * componentBytes .int ≤ 536870912) (hc : cells + 1 ≤ X.2.2.2.1.cells) (hs : slots + N ≤ X.2.2.2.1.slots) (hd : decode cc pc = .ok (.newarray .int, 2)) (kk : V X D nL Q (nC G 20 N) (cells + 1) (slots + N) (pc + 2) L (.ref (gZ G) :: st)) : V X D nL Q G cells slots pc L (.int n :: st) :=
  v_newa (t := 0) F (atype := .int) rfl (fun _ j => by simp [fv, nC, gI, gZ, z2, newarray.typeOf, defaultValue]) (fun _ _ h => h) hw hn hN hby hc hs hd kk
theorem v_newaJ {X : Cx} {D : Dx} {cc : ByteArray} {nL : Nat} {own : String} {ret : Option FieldType} {nm : String} {Q : State → Prop} {G : Wd} {cells slots pc : Nat} {L : List (Nat × Value)} {st : List Value} (F : Fx X D cc nL own ret nm) {N : Nat} {n : Int32} (hw : Cond.arrayClass .long ∈ tG) (hn : ¬ n < 0) (hN : n.toNatClampNeg = N) (hby : N * componentBytes .long ≤ 536870912) (hc : cells + 1 ≤ X.2.2.2.1.cells) (hs : slots + N ≤ X.2.2.2.1.slots) (hd : decode cc pc = .ok (.newarray .long, 2)) (kk : V X D nL Q (nC G 21 N) (cells + 1) (slots + N) (pc + 2) L (.ref (gZ G) :: st)) : V X D nL Q G cells slots pc L (.int n :: st) :=
  v_newa (t := 1) F (atype := .long) rfl (fun _ j => by simp [fv, nC, gJ, gZ, z2, newarray.typeOf, defaultValue]) (fun _ _ h => h) hw hn hN hby hc hs hd kk
theorem v_newaZ {X : Cx} {D : Dx} {cc : ByteArray} {nL : Nat} {own : String} {ret : Option FieldType} {nm : String} {Q : State → Prop} {G : Wd} {cells slots pc : Nat} {L : List (Nat × Value)} {st : List Value} (F : Fx X D cc nL own ret nm) {N : Nat} {n : Int32} (hw : Cond.arrayClass .boolean ∈ tG) (hn : ¬ n < 0) (hN : n.toNatClampNeg = N) (hby : N * componentBytes .boolean ≤ 536870912) (hc : cells + 1 ≤ X.2.2.2.1.cells) (hs : slots + N ≤ X.2.2.2.1.slots) (hd : decode cc pc = .ok (.newarray .boolean, 2)) (kk : V X D nL Q (nC G 22 N) (cells + 1) (slots + N) (pc + 2) L (.ref (gZ G) :: st)) : V X D nL Q G cells slots pc L (.int n :: st) :=
  v_newa (t := 2) F (atype := .boolean) rfl (fun _ j => by simp [fv, nC, gI, gZ, z2, newarray.typeOf, defaultValue]) (fun _ _ h => h) hw hn hN hby hc hs hd kk
/-! ===== contracts ===== -/
abbrev PM (D : Dx) (As : List Value) (G : Wd) : Array Value → State → Prop := va_Pc As (fun U => Kw D U ∧ Hd D G U.heap)
abbrev QMi (D : Dx) (post : Int32 → Wd → Prop) : Array Value → State → Outcome → State → Prop := va_Qi post (fun G' t => Hd D G' t.heap) (Ab D)
abbrev QMl (D : Dx) (post : Int64 → Wd → Prop) : Array Value → State → Outcome → State → Prop := va_Ql post (fun G' t => Hd D G' t.heap) (Ab D)
abbrev QMv (D : Dx) (post : Wd → Prop) : Array Value → State → Outcome → State → Prop := va_Qv post (fun G' t => Hd D G' t.heap) (Ab D)
abbrev QMq (D : Dx) (post : Option Nat → Wd → Prop) : Array Value → State → Outcome → State → Prop := va_Qq post (fun G' t => Hd D G' t.heap) (Ab D)
/-- where a method's walk ends -/
abbrev ZM (X : Cx) (D : Dx) (Qc : Array Value → State → Outcome → State → Prop) (mc ms : Nat) : State → Prop := MQ X.2.2.2.2.2.2.2.1 Qc X.2.2.2.2.2.2.1 X.2.2.2.2.1 mc ms (Ab D)
theorem PM_blind {D : Dx} {As : List Value} {G : Wd} : FrameBlind (PM D As G) := fun a U g mk q => ⟨q.1, q.2.1.blind, q.2.2⟩
theorem v_met {l : Launch} {y : MethodName} {cc : ByteArray} {nL : Nat} {ret : Option FieldType} (hy : plainName y.cls = true) {D : Dx} {G : Wd} {As : List Value} {rm : Room} {mc ms : Nat} {Qc : Array Value → State → Outcome → State → Prop} (hlen : (lg_sl As).length ≤ nL)
    (body : ∀ X : Cx, X.2.1 = l → X.2.2.2.1 = rm → Fx X D cc nL y.cls ret y.name → V X D nL (ZM X D Qc mc ms) G 0 0 0 (lv_args 0 As) []) : Met l y (wM y cc nL ret) rm (PM D As G) Qc mc ms (Ab D) := by
  refine Met.ofW (cc := cc) (maxL := nL) (ret := ret) hy rfl ?_
  intro p e s m args below meth c s₁ B hml hv
  obtain ⟨rfl, hK, hH⟩ := hv
  have hts := atoms_spec (ws := wM y cc nL ret) B.pre
  have F : Fx (p, l, e, rm, s, m, As.toArray, below, meth, c) D cc nL y.cls ret y.name := ⟨B.exec, B.bytes, hml, findClass_of_methodNamed B.named, fun w h => hts w (List.mem_cons_of_mem _ h), hK, B.returns, B.notSynchronized, (name_of_methodNamed B.named B.method).1⟩
  rw [lg_entry_eq]
  exact body (p, l, e, rm, s, m, As.toArray, below, meth, c) rfl rfl F _ s.heap [] (lv_entry As hlen) hH va_S.rf
def LinkD (y : MethodName) (n : Nat) : Prop := y.cls ≠ "java/lang/invoke/MethodHandle" ∧ y.cls ≠ "java/lang/invoke/VarHandle" ∧ (parseMethodDescriptor y.desc).map (fun d => d.parameters.length) = some n
def LinkS (own : String) (idx : Nat) (y : MethodName) (bytes : ByteArray) (maxL : Nat) (ret : Option FieldType) (n : Nat) : Prop := Cond.methodLink own idx y ∈ tG ∧ Cond.static y ∈ tG ∧ Cond.initialized y.cls ∈ tG ∧ Cond.code y bytes maxL ret ∈ tG ∧ LinkD y n
def LinkV (own : String) (idx : Nat) (y : MethodName) (bytes : ByteArray) (maxL : Nat) (ret : Option FieldType) (n ci : Nat) : Prop := Cond.methodLink own idx y ∈ tG ∧ Cond.instanceMethod y ∈ tG ∧ Cond.selects y.cls y y ∈ tG ∧ Cond.initialized y.cls ∈ tG ∧ Cond.code y bytes maxL ret ∈ tG ∧ LinkD y n ∧ ∃ r : vw_C, vwCl[ci]? = some r ∧ r.1 = y.cls
def LinkU (own : String) (idx : Nat) (x y : MethodName) (bytes : ByteArray) (maxL : Nat) (ret : Option FieldType) (n ci : Nat) : Prop := (Cond.methodLink own idx x ∈ tG ∧ Cond.sameMethod x.cls x.cls x.name x.desc ∈ tG ∧ Cond.selects y.cls x y ∈ tG ∧ Cond.instanceMethod y ∈ tG ∧ Cond.initialized y.cls ∈ tG ∧ Cond.code y bytes maxL ret ∈ tG) ∧ LinkD x n ∧ (∃ r : vw_C, vwCl[ci]? = some r ∧ r.1 = y.cls) ∧ x = arrived0
def LinkI (own : String) (idx : Nat) (y : MethodName) (bytes : ByteArray) (maxL : Nat) (n : Nat) : Prop := Cond.methodLink own idx y ∈ tG ∧ Cond.instanceMethod y ∈ tG ∧ Cond.initialized y.cls ∈ tG ∧ Cond.code y bytes maxL none ∈ tG ∧ LinkD y n ∧ y.name = "<init>"
def LinkN (own : String) (idx : Nat) (y : MethodName) (host : String) (bytes : ByteArray) (maxL : Nat) (n : Nat) : Prop := (own, idx, y, host) ∈ nestM ∧ Cond.instanceMethod y ∈ tG ∧ Cond.initialized y.cls ∈ tG ∧ Cond.code y bytes maxL none ∈ tG ∧ LinkD y n ∧ y.name = "<init>"
section RC
variable {X : Cx} {D : Dx} {cc : ByteArray} {nL : Nat} {own : String} {ret : Option FieldType} {nm : String} {Q : State → Prop} {G : Wd} {cells slots pc : Nat} {L : List (Nat × Value)} {st : List Value}
variable {y x : MethodName} {idx n ci b maxL mc ms : Nat} {bytes : ByteArray} {rt : Option FieldType} {rm : Room} {As rest : List Value} {Qc : Array Value → State → Outcome → State → Prop}
/-- the room that a call wants of its caller's -/
def Rm (X : Cx) (cells slots maxL mc ms : Nat) (rm : Room) : Prop := (rm.cells = mc ∧ rm.slots = ms) ∧ (rm.frames + 1 ≤ X.2.2.2.1.frames ∧ 8 + (maxL + 11) + rm.locals ≤ X.2.2.2.1.locals) ∧ (cells + mc ≤ X.2.2.2.1.cells ∧ slots + ms ≤ X.2.2.2.1.slots)
abbrev RunX (X : Cx) (D : Dx) (nL : Nat) (G : Wd) (cells slots pc : Nat) (L : List (Nat × Value)) (st rest : List Value) (mc ms : Nat) (Qa : State → Outcome → State → Prop) : Prop :=
  ∀ (ls : Array Slot) (H : Heap) (locs : List Loc), lv_has ls nL L → Hd D G H → va_S (Ab D) X.2.2.2.2.1.heap H locs →
    va_Run X.1 X.2.1 X.2.2.1 X.2.2.2.1 X.2.2.2.2.1 X.2.2.2.2.2.1 X.2.2.2.2.2.2.1 X.2.2.2.2.2.2.2.1 X.2.2.2.2.2.2.2.2.1 X.2.2.2.2.2.2.2.2.2 H locs cells slots mc ms (F0 X.2.2.2.2.2.1 pc ls st) rest Qa (Ab D)
theorem r_S (F : Fx X D cc nL own ret nm) (lk : LinkS own idx y bytes maxL rt n) (hM : Met X.2.1 y (wM y bytes maxL rt) rm (PM D As G) Qc mc ms (Ab D)) (hR : Rm X cells slots maxL mc ms rm) (hn : As.length = n) (hst : st = As.reverse ++ rest) (hcat : (rest.map fun v => v.category).sum ≤ 8) (hd : decode cc pc = .ok (.invokestatic idx, 3)) : RunX X D nL G cells slots pc L st rest mc ms (Qc As.toArray) := by
  subst hst
  intro ls H locs hl hH hS
  obtain ⟨hx, hb, hml, hown, hts, hK, -⟩ := F
  obtain ⟨w1, w2, w3, w4, w5⟩ := lk
  refine va_runS (Ts := tG) ⟨hx, hb, hml, hown, hts⟩ hM (va_cwS n hts (fun w h => ?_) rfl hR.1.1 hR.1.2 w5 hR.2.1) ⟨PM_blind, fun U hU hW => ⟨rfl, hK.moved hW hU hS, by rw [hU]; exact hH⟩⟩ rfl hn hl.1 rfl (lv_room hcat) hd hR.2.2
  rcases List.mem_append.mp h with h | h
  · simp only [List.mem_cons, List.not_mem_nil, or_false] at h
    rcases h with h | h | h <;> subst h
    · exact ⟨w1, tG_good _ w1⟩
    · exact ⟨w2, tG_good _ w2⟩
    · exact ⟨w3, tG_good _ w3⟩
  · exact wM_good w4 w h
theorem r_V (F : Fx X D cc nL own ret nm) (lk : LinkV own idx y bytes maxL rt n ci) (hk : gK G b = ci + 1) (hM : Met X.2.1 y (wM y bytes maxL rt) rm (PM D (.ref b :: As) G) Qc mc ms (Ab D)) (hR : Rm X cells slots maxL mc ms rm) (hn : As.length = n) (hst : st = As.reverse ++ .ref b :: rest) (hcat : (rest.map fun v => v.category).sum ≤ 8) (hd : decode cc pc = .ok (.invokevirtual idx, 3)) : RunX X D nL G cells slots pc L st rest mc ms (Qc (Value.ref b :: As).toArray) := by
  subst hst
  intro ls H locs hl hH hS
  obtain ⟨hx, hb, hml, hown, hts, hK, -⟩ := F
  obtain ⟨w1, w2, w3, w4, w5, w6, r, hr, hry⟩ := lk
  obtain ⟨cell, q1, q2, q3, -⟩ := (hH.2.2 b).1 ci r hk hr
  have hcls := (hK.1.1 ci r hr).2
  refine va_runV (Ts := tG) (C := y.cls) ⟨hx, hb, hml, hown, hts⟩ hM (cwV n hts (fun w h => ?_) rfl hR.1.1 hR.1.2 ⟨rfl, w6⟩ hR.2.1) ⟨PM_blind, ⟨cell, q1, by rw [q3]; rfl, by rw [q2, ← hry]; exact hcls.1⟩, fun U hU hW => ⟨rfl, hK.moved hW hU hS, by rw [hU]; exact hH⟩⟩ rfl hn hl.1 rfl (lv_room hcat) hd hR.2.2
  rcases List.mem_append.mp h with h | h
  · simp only [List.mem_cons, List.not_mem_nil, or_false] at h
    rcases h with h | h | h | h <;> subst h
    · exact ⟨w1, tG_good _ w1⟩
    · exact ⟨w2, tG_good _ w2⟩
    · exact ⟨w3, tG_good _ w3⟩
    · exact ⟨w4, tG_good _ w4⟩
  · exact wM_good w5 w h
theorem r_U (F : Fx X D cc nL own ret nm) (lk : LinkU own idx x y bytes maxL rt n ci) (hk : gK G b = ci + 1) (hM : Met X.2.1 y (wM y bytes maxL rt) rm (PM D (.ref b :: As) G) Qc mc ms (Ab D)) (hR : Rm X cells slots maxL mc ms rm) (hn : As.length = n) (hst : st = As.reverse ++ .ref b :: rest) (hcat : (rest.map fun v => v.category).sum ≤ 8) (hd : decode cc pc = .ok (.invokevirtual idx, 3)) : RunX X D nL G cells slots pc L st rest mc ms (Qc (Value.ref b :: As).toArray) := by
  subst hst
  intro ls H locs hl hH hS
  obtain ⟨hx, hb, hml, hown, hts, hK, -⟩ := F
  obtain ⟨⟨w1, w2, w3, w4, w5, w7⟩, w6, ⟨r, hr, hry⟩, rfl⟩ := lk
  obtain ⟨cell, q1, q2, q3, -⟩ := (hH.2.2 b).1 ci r hk hr
  have hcls := (hK.1.1 ci r hr).2
  refine va_runU (Ts := tG) (C := y.cls) (owner := arrived0.cls) ⟨hx, hb, hml, hown, hts⟩ hM (va_cwA n hts (fun w h => ?_) rfl hR.1.1 hR.1.2 hK.2.2.1 w6 hR.2.1) ⟨PM_blind, ⟨cell, q1, by rw [q3]; rfl, by rw [q2, ← hry]; exact hcls.1⟩, fun U hU hW => ⟨rfl, hK.moved hW hU hS, by rw [hU]; exact hH⟩⟩ rfl hn hl.1 rfl (lv_room hcat) hd hR.2.2
  rcases List.mem_append.mp h with h | h
  · simp only [List.mem_cons, List.not_mem_nil, or_false] at h
    rcases h with h | h | h | h | h <;> subst h
    · exact ⟨w1, tG_good _ w1⟩
    · exact ⟨w2, tG_good _ w2⟩
    · exact ⟨w3, tG_good _ w3⟩
    · exact ⟨w4, tG_good _ w4⟩
    · exact ⟨w5, tG_good _ w5⟩
  · exact wM_good w7 w h
theorem r_I (F : Fx X D cc nL own ret nm) (lk : LinkI own idx y bytes maxL n) (hM : Met X.2.1 y (wM y bytes maxL none) rm (PM D (.ref b :: As) G) Qc mc ms (Ab D)) (hR : Rm X cells slots maxL mc ms rm) (hn : As.length = n) (hst : st = As.reverse ++ .ref b :: rest) (hcat : (rest.map fun v => v.category).sum ≤ 8) (hd : decode cc pc = .ok (.invokespecial idx, 3)) : RunX X D nL G cells slots pc L st rest mc ms (Qc (Value.ref b :: As).toArray) := by
  subst hst
  intro ls H locs hl hH hS
  obtain ⟨hx, hb, hml, hown, hts, hK, -⟩ := F
  obtain ⟨w1, w2, w3, w4, w5, w6⟩ := lk
  exact va_runI (Ts := tG) ⟨hx, hb, hml, hown, hts⟩ hM (cwI n hts (wM_good w4) rfl hR.1.1 hR.1.2 (hts _ w3) (hts _ w1) (hts _ w2) w6 w5 hR.2.1) ⟨PM_blind, fun U hU hW => ⟨rfl, hK.moved hW hU hS, by rw [hU]; exact hH⟩⟩ rfl hn hl.1 rfl (lv_room hcat) hd hR.2.2
theorem r_N (F : Fx X D cc nL own ret nm) {host : String} (lk : LinkN own idx y host bytes maxL n) (hM : Met X.2.1 y (wM y bytes maxL none) rm (PM D (.ref b :: As) G) Qc mc ms (Ab D)) (hR : Rm X cells slots maxL mc ms rm) (hn : As.length = n) (hst : st = As.reverse ++ .ref b :: rest) (hcat : (rest.map fun v => v.category).sum ≤ 8) (hd : decode cc pc = .ok (.invokespecial idx, 3)) : RunX X D nL G cells slots pc L st rest mc ms (Qc (Value.ref b :: As).toArray) := by
  subst hst
  intro ls H locs hl hH hS
  obtain ⟨hx, hb, hml, hown, hts, hK, -⟩ := F
  obtain ⟨w1, w2, w3, w4, w5, w6⟩ := lk
  exact va_runIN (Ts := tG) ⟨hx, hb, hml, hown, hts⟩ hM ⟨va_cnB n hts (wM_good w4) rfl hR.1.1 hR.1.2 (hK.2.1 _ w1) (hts _ w3) w5 hR.2.1, w6, hts _ w2⟩ ⟨PM_blind, fun U hU hW => ⟨rfl, hK.moved hW hU hS, by rw [hU]; exact hH⟩⟩ rfl hn hl.1 rfl (lv_room hcat) hd hR.2.2
theorem v_calli {post : Int32 → Wd → Prop} {a : Array Value} (hr : RunX X D nL G cells slots pc L st rest mc ms (QMi D post a)) (kk : ∀ (r : Int32) (G' : Wd), post r G' → V X D nL Q G' (cells + mc) (slots + ms) (pc + 3) L (.int r :: rest)) : V X D nL Q G cells slots pc L st := fun ls H locs hl hH hS =>
  va_calli (hr ls H locs hl hH hS) hS (fun q _ h => h) (fun q h => h) (fun r u t H1 locs1 ht hvm hp hB hz hk hS1 => kk r u hp ls H1 locs1 hl (by rw [← ht]; exact hB) hS1)
theorem v_calll {post : Int64 → Wd → Prop} {a : Array Value} (hr : RunX X D nL G cells slots pc L st rest mc ms (QMl D post a)) (kk : ∀ (r : Int64) (G' : Wd), post r G' → V X D nL Q G' (cells + mc) (slots + ms) (pc + 3) L (.long r :: rest)) : V X D nL Q G cells slots pc L st := fun ls H locs hl hH hS =>
  va_calll (hr ls H locs hl hH hS) hS (fun q _ h => h) (fun q h => h) (fun r u t H1 locs1 ht hvm hp hB hz hk hS1 => kk r u hp ls H1 locs1 hl (by rw [← ht]; exact hB) hS1)
theorem v_callv {post : Wd → Prop} {a : Array Value} (hr : RunX X D nL G cells slots pc L st rest mc ms (QMv D post a)) (kk : ∀ (G' : Wd), post G' → V X D nL Q G' (cells + mc) (slots + ms) (pc + 3) L rest) : V X D nL Q G cells slots pc L st := fun ls H locs hl hH hS =>
  va_callv (hr ls H locs hl hH hS) hS (fun q _ h => h) (fun q h => h) (fun u t H1 locs1 ht hvm hp hB hz hk hS1 => kk u hp ls H1 locs1 hl (by rw [← ht]; exact hB) hS1)
theorem v_callq {post : Option Nat → Wd → Prop} {a : Array Value} (hr : RunX X D nL G cells slots pc L st rest mc ms (QMq D post a)) (kk : ∀ (r : Option Nat) (G' : Wd), post r G' → V X D nL Q G' (cells + mc) (slots + ms) (pc + 3) L (va_rf r :: rest)) : V X D nL Q G cells slots pc L st := fun ls H locs hl hH hS =>
  va_callq (hr ls H locs hl hH hS) hS (fun q _ h => h) (fun q h => h) (fun r u t H1 locs1 ht hvm hp hB hz hk hS1 => kk r u hp ls H1 locs1 hl (by rw [← ht]; exact hB) hS1)
/-! returns -/
theorem v_iret (F : Fx X D cc nL own (some .int) nm) {post : Int32 → Wd → Prop} {v : Int32} (hq : post v G) (hd : decode cc pc = .ok (.ireturn, 1)) : V X D nL (ZM X D (QMi D post) cells slots) G cells slots pc L [.int v] := fun ls H locs hl hH hS =>
  W.iret (v := v) F.1 F.2.1 F.2.2.2.2.2.2.1 (fun t ht hW => ⟨⟨v, G, rfl, hq, by show Hd D G t.heap; rw [ht]; exact hH⟩, hS.F ht⟩) hS.2.2 hd F.2.2.2.2.2.2.2.1
theorem v_zret (F : Fx X D cc nL own (some .boolean) nm) {post : Int32 → Wd → Prop} {v : Int32} (hB : isB v) (hq : post v G) (hd : decode cc pc = .ok (.ireturn, 1)) : V X D nL (ZM X D (QMi D post) cells slots) G cells slots pc L [.int v] := fun ls H locs hl hH hS =>
  W.zret (v := v) F.1 F.2.1 F.2.2.2.2.2.2.1 (isB_nar hB) (fun t ht hW => ⟨⟨v, G, rfl, hq, by show Hd D G t.heap; rw [ht]; exact hH⟩, hS.F ht⟩) hS.2.2 hd F.2.2.2.2.2.2.2.1
theorem v_lret (F : Fx X D cc nL own (some .long) nm) {post : Int64 → Wd → Prop} {v : Int64} (hq : post v G) (hd : decode cc pc = .ok (.lreturn, 1)) : V X D nL (ZM X D (QMl D post) cells slots) G cells slots pc L [.long v] := fun ls H locs hl hH hS =>
  W.lret (v := v) F.1 F.2.1 F.2.2.2.2.2.2.1 (fun t ht hW => ⟨⟨v, G, rfl, hq, by show Hd D G t.heap; rw [ht]; exact hH⟩, hS.F ht⟩) hS.2.2 hd F.2.2.2.2.2.2.2.1
theorem v_vret (F : Fx X D cc nL own none nm) {post : Wd → Prop} (hq : post G) (hd : decode cc pc = .ok (.return_, 1)) : V X D nL (ZM X D (QMv D post) cells slots) G cells slots pc L [] := fun ls H locs hl hH hS =>
  W.vret F.1 F.2.1 F.2.2.2.2.2.2.1 (fun t ht hW => ⟨⟨G, rfl, hq, by show Hd D G t.heap; rw [ht]; exact hH⟩, hS.F ht⟩) hS.2.2 hd F.2.2.2.2.2.2.2.1
theorem v_qret {C : String} (F : Fx X D cc nL own (some (.object C)) nm) {post : Option Nat → Wd → Prop} {r : Option Nat} (hq : post r G) (hd : decode cc pc = .ok (.areturn, 1)) : V X D nL (ZM X D (QMq D post) cells slots) G cells slots pc L [va_rf r] := fun ls H locs hl hH hS =>
  W.aret (v := va_rf r) F.1 F.2.1 F.2.2.2.2.2.2.1 (Or.inl ⟨_, rfl⟩) (by cases r with | none => exact Or.inl rfl | some a => exact Or.inr ⟨a, rfl⟩) (fun t ht hW => ⟨⟨r, G, rfl, hq, by show Hd D G t.heap; rw [ht]; exact hH⟩, hS.F ht⟩) hS.2.2 hd F.2.2.2.2.2.2.2.1
end RC
end
section
/-! ===== small helps of the walk: numbers, names, indices, rooms, links ===== -/
theorem i32_rem (x y : Int32) : x - x / y * y = x % y := by
  apply Int32.toInt_inj.mp
  have h : (x % y).toInt = x.toInt.tmod y.toInt := Int32.toInt_mod x y
  rw [Int32.toInt_sub, Int32.toInt_mul, Int32.toInt_div, Int.sub_bmod_bmod]
  have e : (x.toInt - (x.toInt.tdiv y.toInt).bmod (2 ^ 32) * y.toInt).bmod (2 ^ 32) = (x.toInt.tmod y.toInt).bmod (2 ^ 32) := by
    rw [Int.tmod_def, ← Int.sub_bmod_bmod, Int.bmod_mul_bmod, Int.sub_bmod_bmod, Int.mul_comm]
  rw [e, ← h]
  exact Int32.toInt_bmod _
theorem i64_rem (x y : Int64) : x - x / y * y = x % y := by
  apply Int64.toInt_inj.mp
  have h : (x % y).toInt = x.toInt.tmod y.toInt := Int64.toInt_mod x y
  rw [Int64.toInt_sub, Int64.toInt_mul, Int64.toInt_div, Int.sub_bmod_bmod]
  have e : (x.toInt - (x.toInt.tdiv y.toInt).bmod (2 ^ 64) * y.toInt).bmod (2 ^ 64) = (x.toInt.tmod y.toInt).bmod (2 ^ 64) := by
    rw [Int.tmod_def, ← Int.sub_bmod_bmod, Int.bmod_mul_bmod, Int.sub_bmod_bmod, Int.mul_comm]
  rw [e, ← h]
  exact Int64.toInt_bmod _
section RX
variable {X : Cx} {D : Dx} {cc : ByteArray} {nL : Nat} {own : String} {ret : Option FieldType} {nm : String} {Q : State → Prop} {G : Wd} {cells slots pc : Nat} {L : List (Nat × Value)} {st : List Value}
theorem v_iremE (F : Fx X D cc nL own ret nm) {x y : Int32} (hd : decode cc pc = .ok (.irem, 1)) (hne : ¬ y = 0) (kk : V X D nL Q G cells slots (pc + 1) L (.int (x % y) :: st)) : V X D nL Q G cells slots pc L (.int y :: .int x :: st) := v_irem F hd hne (by rw [i32_rem]; exact kk)
theorem v_lremE (F : Fx X D cc nL own ret nm) {x y : Int64} (hd : decode cc pc = .ok (.lrem, 1)) (hne : ¬ y = 0) (kk : V X D nL Q G cells slots (pc + 1) L (.long (x % y) :: st)) : V X D nL Q G cells slots pc L (.long y :: .long x :: st) := v_lrem F hd hne (by rw [i64_rem]; exact kk)
theorem v_topi {x : Int32} (kk : ∀ v, v = x → V X D nL Q G cells slots pc L (.int v :: st)) : V X D nL Q G cells slots pc L (.int x :: st) := kk x rfl
theorem v_topl {x : Int64} (kk : ∀ v, v = x → V X D nL Q G cells slots pc L (.long v :: st)) : V X D nL Q G cells slots pc L (.long x :: st) := kk x rfl
theorem v_nmG (kk : ∀ G', G' = G → V X D nL Q G' cells slots pc L st) : V X D nL Q G cells slots pc L st := kk G rfl
theorem v_iincN (F : Fx X D cc nL own ret nm) {i : Nat} {n : Int} {x c : Int32} (hd : decode cc pc = .ok (.iinc i n, 3)) (j : Nat) (hx : L[j]? = some (i, .int x)) (hc : Int32.ofInt n = c) (hn : i < nL) (kk : ∀ v, v = x + c → V X D nL Q G cells slots (pc + 3) ((i, Value.int v) :: L.filter (fun q => !(q.1 == i) && !(q.1 + 1 == i && q.2.category == 2))) st) : V X D nL Q G cells slots pc L st := v_iinc F hd j hx rfl hn rfl (kk _ (by rw [hc]))
theorem v_cast {L' : List (Nat × Value)} {st' : List Value} (hL : L = L') (hs : st = st') (kk : V X D nL Q G cells slots pc L' st') : V X D nL Q G cells slots pc L st := by subst hL; subst hs; exact kk
theorem v_ialdE (F : Fx X D cc nL own ret nm) {a k : Nat} {i : Int32} (hi : i.toNatClampNeg = k) (hk : gK G a = 20) (hin : vp_in i (gN G a)) (hd : decode cc pc = .ok (.iaload, 1)) (kk : V X D nL Q G cells slots (pc + 1) L (.int (gI G a k) :: st)) : V X D nL Q G cells slots pc L (.int i :: .ref a :: st) := v_iald F hk hin hd (by rw [hi]; exact kk)
theorem v_laldE (F : Fx X D cc nL own ret nm) {a k : Nat} {i : Int32} (hi : i.toNatClampNeg = k) (hk : gK G a = 21) (hin : vp_in i (gN G a)) (hd : decode cc pc = .ok (.laload, 1)) (kk : V X D nL Q G cells slots (pc + 1) L (.long (gJ G a k) :: st)) : V X D nL Q G cells slots pc L (.int i :: .ref a :: st) := v_lald F hk hin hd (by rw [hi]; exact kk)
theorem v_zaldE (F : Fx X D cc nL own ret nm) {a k : Nat} {i : Int32} (hi : i.toNatClampNeg = k) (hk : gK G a = 22) (hin : vp_in i (gN G a)) (hd : decode cc pc = .ok (.baload, 1)) (kk : V X D nL Q G cells slots (pc + 1) L (.int (gI G a k) :: st)) : V X D nL Q G cells slots pc L (.int i :: .ref a :: st) := v_zald F hk hin hd (by rw [hi]; exact kk)
theorem v_iastE (F : Fx X D cc nL own ret nm) {a k : Nat} {i x : Int32} (hi : i.toNatClampNeg = k) (hk : gK G a = 20) (hin : vp_in i (gN G a)) (hd : decode cc pc = .ok (.iastore, 1)) (kk : ∀ G', G' = uI G a k x → V X D nL Q G' cells slots (pc + 1) L st) : V X D nL Q G cells slots pc L (.int x :: .int i :: .ref a :: st) := v_iast F hk hin hd (kk _ (by rw [hi]))
theorem v_lastE (F : Fx X D cc nL own ret nm) {a k : Nat} {i : Int32} {x : Int64} (hi : i.toNatClampNeg = k) (hk : gK G a = 21) (hin : vp_in i (gN G a)) (hd : decode cc pc = .ok (.lastore, 1)) (kk : ∀ G', G' = uJ G a k x → V X D nL Q G' cells slots (pc + 1) L st) : V X D nL Q G cells slots pc L (.long x :: .int i :: .ref a :: st) := v_last F hk hin hd (kk _ (by rw [hi]))
theorem v_zastE (F : Fx X D cc nL own ret nm) {a k : Nat} {i x : Int32} (hi : i.toNatClampNeg = k) (hB : isB x) (hk : gK G a = 22) (hin : vp_in i (gN G a)) (hd : decode cc pc = .ok (.bastore, 1)) (kk : ∀ G', G' = uI G a k x → V X D nL Q G' cells slots (pc + 1) L st) : V X D nL Q G cells slots pc L (.int x :: .int i :: .ref a :: st) := v_zast F hB hk hin hd (kk _ (by rw [hi]))
theorem v_aaldE (F : Fx X D cc nL own ret nm) {a t k : Nat} {C : String} {cA : ClassId} {i : Int32} (hq : (tysD D)[t]? = some (cA, .object C)) (hi : i.toNatClampNeg = k) (hk : gK G a = t + 20) (hin : vp_in i (gN G a)) (hd : decode cc pc = .ok (.aaload, 1)) (kk : ∀ r, r = gR G a k → V X D nL Q G cells slots (pc + 1) L (va_rf r :: st)) : V X D nL Q G cells slots pc L (.int i :: .ref a :: st) := v_aald F hq hk hin hd (by rw [hi]; exact kk _ rfl)
theorem v_aaldS (F : Fx X D cc nL own ret nm) {a t k b : Nat} {C : String} {cA : ClassId} {i : Int32} (hq : (tysD D)[t]? = some (cA, .object C)) (hi : i.toNatClampNeg = k) (hk : gK G a = t + 20) (hin : vp_in i (gN G a)) (hr : gR G a k = some b) (hd : decode cc pc = .ok (.aaload, 1)) (kk : V X D nL Q G cells slots (pc + 1) L (.ref b :: st)) : V X D nL Q G cells slots pc L (.int i :: .ref a :: st) := v_aald F hq hk hin hd (by rw [hi, hr]; exact kk)
theorem v_aastE (F : Fx X D cc nL own ret nm) {a t v ci k : Nat} {r : vw_C} {cA : ClassId} {i : Int32} (hq : (tysD D)[t]? = some (cA, .object r.1)) (hr : vwCl[ci]? = some r) (hi : i.toNatClampNeg = k) (hk : gK G a = t + 20) (hkv : gK G v = ci + 1) (hin : vp_in i (gN G a)) (hd : decode cc pc = .ok (.aastore, 1)) (kk : ∀ G', G' = uR G a k (some v) → V X D nL Q G' cells slots (pc + 1) L st) : V X D nL Q G cells slots pc L (.ref v :: .int i :: .ref a :: st) := v_aast F hq hr hk hkv hin hd (kk _ (by rw [hi]))
theorem v_aastNE (F : Fx X D cc nL own ret nm) {a t k : Nat} {C : String} {cA : ClassId} {i : Int32} (hq : (tysD D)[t]? = some (cA, .object C)) (hi : i.toNatClampNeg = k) (hk : gK G a = t + 20) (hin : vp_in i (gN G a)) (hd : decode cc pc = .ok (.aastore, 1)) (kk : ∀ G', G' = uR G a k none → V X D nL Q G' cells slots (pc + 1) L st) : V X D nL Q G cells slots pc L (va_rf none :: .int i :: .ref a :: st) := v_aastN F hq hk hin hd (kk _ (by rw [hi]))
theorem v_getS (F : Fx X D cc nL own ret nm) {idx ci k a b : Nat} {fin : Bool} (fl : FLink own idx ci k fin) (ht : ∀ G : Wd, fv (tyOf ci k) G a k = va_rf (gR G a k)) (hk : gK G a = ci + 1) (hr : gR G a k = some b) (hd : decode cc pc = .ok (.getfield idx, 3)) (kk : V X D nL Q G cells slots (pc + 3) L (.ref b :: st)) : V X D nL Q G cells slots pc L (.ref a :: st) := v_get F fl hk (by rw [ht, hr]; rfl) hd kk
end RX
theorem mkRm {X : Cx} {R rm : Room} {cells slots maxL mc ms : Nat} (hR : X.2.2.2.1 = R) (h1 : rm.cells = mc) (h2 : rm.slots = ms) (h3 : Nat.ble (rm.frames + 1) R.frames = true) (h4 : Nat.ble (8 + (maxL + 11) + rm.locals) R.locals = true) (h5 : Nat.ble (cells + mc) R.cells = true) (h6 : Nat.ble (slots + ms) R.slots = true) : Rm X cells slots maxL mc ms rm := by
  unfold Rm
  rw [hR]
  exact ⟨⟨h1, h2⟩, ⟨Nat.le_of_ble_eq_true h3, Nat.le_of_ble_eq_true h4⟩, Nat.le_of_ble_eq_true h5, Nat.le_of_ble_eq_true h6⟩
theorem mkRm2 {X : Cx} {R rm : Room} {cells slots maxL mc ms : Nat} (hR : X.2.2.2.1 = R) (h1 : rm.cells = mc) (h2 : rm.slots = ms) (h3 : rm.frames + 1 ≤ R.frames) (h4 : 8 + (maxL + 11) + rm.locals ≤ R.locals) (h5 : cells + mc ≤ R.cells) (h6 : slots + ms ≤ R.slots) : Rm X cells slots maxL mc ms rm := by
  unfold Rm
  rw [hR]
  exact ⟨⟨h1, h2⟩, ⟨h3, h4⟩, h5, h6⟩
theorem mkFL {own : String} {idx ci k : Nat} {fin : Bool} (r : vw_C) (h1 : vwCl[ci]? = some r) (h2 : Nat.ble (k + 1) r.2.2 = true) (h3 : (r.2.1 k).2.2.2 = fin) (h4 : (r.2.1 k).1 = own ∨ fin = false) (h5 : Cond.fieldLink own idx (r.2.1 k).1 (r.2.1 k).2.1 (r.2.1 k).2.2.1 ∈ tG) : FLink own idx ci k fin := by
  unfold FLink
  exact ⟨r, h1, Nat.le_of_ble_eq_true h2, h3, h4, h5⟩
theorem mkLS {own : String} {idx : Nat} {y : MethodName} {bytes : ByteArray} {maxL : Nat} {ret : Option FieldType} {n : Nat} (h1 : Cond.methodLink own idx y ∈ tG) (h2 : Cond.static y ∈ tG) (h3 : Cond.initialized y.cls ∈ tG) (h4 : Cond.code y bytes maxL ret ∈ tG) (h5 : LinkD y n) : LinkS own idx y bytes maxL ret n := by
  unfold LinkS
  exact ⟨h1, h2, h3, h4, h5⟩
theorem mkLV {own : String} {idx : Nat} {y : MethodName} {bytes : ByteArray} {maxL : Nat} {ret : Option FieldType} {n ci : Nat} (r : vw_C) (h1 : Cond.methodLink own idx y ∈ tG) (h2 : Cond.instanceMethod y ∈ tG) (h3 : Cond.selects y.cls y y ∈ tG) (h4 : Cond.initialized y.cls ∈ tG) (h5 : Cond.code y bytes maxL ret ∈ tG) (h6 : LinkD y n) (h7 : vwCl[ci]? = some r) (h8 : r.1 = y.cls) : LinkV own idx y bytes maxL ret n ci := by
  unfold LinkV
  exact ⟨h1, h2, h3, h4, h5, h6, r, h7, h8⟩
theorem mkLU {own : String} {idx : Nat} {y : MethodName} {bytes : ByteArray} {maxL : Nat} {ret : Option FieldType} {n ci : Nat} (r : vw_C) (h1 : Cond.methodLink own idx arrived0 ∈ tG) (h2 : Cond.sameMethod arrived0.cls arrived0.cls arrived0.name arrived0.desc ∈ tG) (h3 : Cond.selects y.cls arrived0 y ∈ tG) (h4 : Cond.instanceMethod y ∈ tG) (h5 : Cond.initialized y.cls ∈ tG) (h6 : Cond.code y bytes maxL ret ∈ tG) (h7 : LinkD arrived0 n) (h8 : vwCl[ci]? = some r) (h9 : r.1 = y.cls) : LinkU own idx arrived0 y bytes maxL ret n ci := by
  unfold LinkU
  exact ⟨⟨h1, h2, h3, h4, h5, h6⟩, h7, ⟨r, h8, h9⟩, rfl⟩
theorem mkLI {own : String} {idx : Nat} {y : MethodName} {bytes : ByteArray} {maxL n : Nat} (h1 : Cond.methodLink own idx y ∈ tG) (h2 : Cond.instanceMethod y ∈ tG) (h3 : Cond.initialized y.cls ∈ tG) (h4 : Cond.code y bytes maxL none ∈ tG) (h5 : LinkD y n) (h6 : y.name = "<init>") : LinkI own idx y bytes maxL n := by
  unfold LinkI
  exact ⟨h1, h2, h3, h4, h5, h6⟩
theorem mkLN {own host : String} {idx : Nat} {y : MethodName} {bytes : ByteArray} {maxL n : Nat} (h1 : (own, idx, y, host) ∈ nestM) (h2 : Cond.instanceMethod y ∈ tG) (h3 : Cond.initialized y.cls ∈ tG) (h4 : Cond.code y bytes maxL none ∈ tG) (h5 : LinkD y n) (h6 : y.name = "<init>") : LinkN own idx y host bytes maxL n := by
  unfold LinkN
  exact ⟨h1, h2, h3, h4, h5, h6⟩
/-- a switch's number that is none of its cases -/
theorem sw_out {x : Int32} (n : Nat) (hn : n < 2 ^ 31) (h : ∀ k, k < n → x ≠ nI k) : x.toInt < 0 ∨ ((n : Int) - 1) < x.toInt := by
  by_cases h0 : x.toInt < 0
  · exact Or.inl h0
  · refine Or.inr ?_
    have hx : ¬ x < 0 := fun q => h0 (by simpa using Int32.lt_iff_toInt_lt.mp q)
    obtain ⟨j, hj, e⟩ := nI_of hx
    subst e
    by_cases hjn : j < n
    · exact absurd rfl (h j hjn)
    · rw [nI_toInt hj]
      omega
end
section
/-! ===== reading a final field of another class; copying a row ===== -/
def FLinkG (own : String) (idx ci k : Nat) : Prop := ∃ r : vw_C, vwCl[ci]? = some r ∧ k < r.2.2 ∧ Cond.fieldLink own idx (r.2.1 k).1 (r.2.1 k).2.1 (r.2.1 k).2.2.1 ∈ tG
theorem mkFLG {own : String} {idx ci k : Nat} (r : vw_C) (h1 : vwCl[ci]? = some r) (h2 : Nat.ble (k + 1) r.2.2 = true) (h5 : Cond.fieldLink own idx (r.2.1 k).1 (r.2.1 k).2.1 (r.2.1 k).2.2.1 ∈ tG) : FLinkG own idx ci k := by
  unfold FLinkG
  exact ⟨r, h1, Nat.le_of_ble_eq_true h2, h5⟩
/-- the first n places of one row of ints laid over another's -/
def cpI (G : Wd) (src dst n : Nat) : Wd := (gZ G, gK G, gN G, (fun b j => if b = dst ∧ j < n then gI G src j else gI G b j), gJ G, gR G)
section RM
variable {X : Cx} {D : Dx} {cc : ByteArray} {nL : Nat} {own : String} {ret : Option FieldType} {nm : String} {Q : State → Prop} {G : Wd} {cells slots pc : Nat} {L : List (Nat × Value)} {st : List Value}
theorem v_getG (F : Fx X D cc nL own ret nm) {idx ci k a : Nat} {v : Value} (fl : FLinkG own idx ci k) (hk : gK G a = ci + 1) (hv : fv (tyOf ci k) G a k = v) (hd : decode cc pc = .ok (.getfield idx, 3)) (kk : V X D nL Q G cells slots (pc + 3) L (v :: st)) : V X D nL Q G cells slots pc L (.ref a :: st) := by
  subst hv
  obtain ⟨r, hr, hkN, hmem⟩ := fl
  intro ls H locs hl hH hS
  obtain ⟨hx, hb, hml, hown, hts, hK, -⟩ := F
  obtain ⟨cell, q1, q2, q3, q4⟩ := (hH.2.2 a).1 ci r hk hr
  obtain ⟨hSl, hfc, kC, hkC, hkind⟩ := hK.1.1 ci r hr
  obtain ⟨cf, kf, fi, f, hi, hsl⟩ := hSl k hkN
  refine W.getf hx hb hown (hts _ hmem) hi (u_facts hfc hkC (u_lays hts (cls_ok ci r hr).1 hkN) hi).1 q1 (by rw [q3]; exact fun h => by cases h) (v := fv (tyOf ci k) G a k) ?_ rfl rfl hd (kk ls H locs hl hH hS)
  rw [hsl]
  exact q4 k hkN
theorem v_getSG (F : Fx X D cc nL own ret nm) {idx ci k a b : Nat} (fl : FLinkG own idx ci k) (ht : ∀ G : Wd, fv (tyOf ci k) G a k = va_rf (gR G a k)) (hk : gK G a = ci + 1) (hr : gR G a k = some b) (hd : decode cc pc = .ok (.getfield idx, 3)) (kk : V X D nL Q G cells slots (pc + 3) L (.ref b :: st)) : V X D nL Q G cells slots pc L (.ref a :: st) := v_getG F fl hk (by rw [ht, hr]; rfl) hd kk
theorem v_copy (F : Fx X D cc nL own ret nm) {idx src dst : Nat} {n : Int32} (w1 : Cond.methodLink own idx arraycopyName ∈ tG) (w2 : Cond.native arraycopyName ∈ tG) (w3 : Cond.static arraycopyName ∈ tG) (w4 : Cond.initialized "java/lang/System" ∈ tG) (h1 : gK G src = 20) (h2 : gK G dst = 20) (hn : ¬ n < 0 ∧ n.toNatClampNeg ≤ gN G src ∧ n.toNatClampNeg ≤ gN G dst) (hfr : 1 ≤ X.2.2.2.1.frames) (hlo : (st.map fun v => v.category).sum + (nativeFrameWords "java/lang/System" "arraycopy" 5 + 11) ≤ X.2.2.2.1.locals) (hd : decode cc pc = .ok (.invokestatic idx, 3))
    (kk : ∀ G', G' = cpI G src dst n.toNatClampNeg → V X D nL Q G' cells slots (pc + 3) L st) : V X D nL Q G cells slots pc L (.int n :: .int 0 :: .ref dst :: .int 0 :: .ref src :: st) := by
  intro ls H locs hl hH hS
  obtain ⟨hx, hb, hml, hown, hts, hK, -⟩ := F
  obtain ⟨n0, n1, n2⟩ := hn
  have nn : n.toInt = (n.toNatClampNeg : Int) := by
    have hz0 : (0 : Int) ≤ n.toInt := by
      have := Int32.not_lt.mp n0
      simpa using Int32.le_iff_toInt_le.mp this
    show n.toInt = ((n.toInt.toNat : Nat) : Int)
    omega
  intro T hT X0
  have hc0 := arr_at hH 0 _ h1 rfl
  have hc1 := arr_at hH 0 _ h2 rfl
  obtain ⟨-, k0, hk0, cm0, hkk0⟩ := (hK.1.2 0 _ rfl).1 (gN G src) (fun j => fv .int G src j)
  obtain ⟨-, k1, hk1, cm1, hkk1⟩ := (hK.1.2 0 _ rfl).1 (gN G dst) (fun j => fv .int G dst j)
  obtain ⟨vm', X', step⟩ := X0.arraycopy hx hown (hts _ w1) (hts _ w2) (hts _ w3) (hts _ w4) (src := src) (dst := dst) (cs := arrV (dA D 0) (gN G src) (fun j => fv .int G src j)) (cd := arrV (dA D 0) (gN G dst) (fun j => fv .int G dst j)) (srcPos := 0) (destPos := 0) (n := n) (by rw [hT]; exact hc0) (by rw [hT]; exact hc1)
    (fun _ h => by cases h) (fun _ h => by cases h) (fun h => by cases h) (fun h => by cases h) hk0 hk1 hkk0 hkk1 (by simp [refKind]) (by decide) (by decide) n0
    (by rw [nn]; show ¬ _ > ((arrV _ _ _).slots.size : Int); rw [arrV_size]; simp; omega)
    (by rw [nn]; show ¬ _ > ((arrV _ _ _).slots.size : Int); rw [arrV_size]; simp; omega)
    (fun vm₁ _ i hi => by
      have e : (arrV (dA D 0) (gN G src) (fun j => fv .int G src j)).slots.getD ((0 : Int32).toNatClampNeg + i) .null = .int (gI G src i) := by
        rw [Array.getD_eq_getD_getElem?, show (0 : Int32).toNatClampNeg + i = i by simp, arrV_read _ _ (by omega)]
        rfl
      refine ⟨?_, ?_⟩
      · rw [e]
        rfl
      · rw [e]
        exact trivial)
    (g := F0 X.2.2.2.2.2.1 pc ls (.int n :: .int 0 :: .ref dst :: .int 0 :: .ref src :: st)) rfl (by rw [hml]; exact hl.1) (rest := st) rfl (by rw [hb]; exact hd) hfr (by show 2 * 0 + _ + _ ≤ _; omega)
  have e1 : copied (arrV (dA D 0) (gN G src) (fun j => fv .int G src j)) (arrV (dA D 0) (gN G dst) (fun j => fv .int G dst j)) 0 0 n = arrV (dA D 0) (gN G dst) (fun j => .int (va_cpy (gI G src) (gI G dst) 0 0 n.toNatClampNeg j)) := va_copied (fun z => Value.int z) (dA D 0) (dA D 0) (gI G src) (gI G dst) (by simpa using n1)
  rw [e1] at X' step
  have hl2 : dst < H.size := (Array.getElem?_eq_some_iff.mp hc1).1
  have hheap : ((T.setVm vm').setCell dst (arrV (dA D 0) (gN G dst) (fun j => .int (va_cpy (gI G src) (gI G dst) 0 0 n.toNatClampNeg j)))).heap = H.setIfInBounds dst (arrV (dA D 0) (gN G dst) (fun j => .int (va_cpy (gI G src) (gI G dst) 0 0 n.toNatClampNeg j))) := by rw [← hT]; rfl
  have oq : ∀ q : Nat, q ≠ dst → (H.setIfInBounds dst (arrV (dA D 0) (gN G dst) (fun j => .int (va_cpy (gI G src) (gI G dst) 0 0 n.toNatClampNeg j))))[q]? = H[q]? := fun q hq => by simp [Array.getElem?_setIfInBounds, Ne.symm hq]
  have hAd : Ab D dst := ab_of (k := 0) hH h2
  have hH' : Hd D (cpI G src dst n.toNatClampNeg) (H.setIfInBounds dst (arrV (dA D 0) (gN G dst) (fun j => .int (va_cpy (gI G src) (gI G dst) 0 0 n.toNatClampNeg j)))) := by
    refine hH.put (a := dst) (by simp) oq rfl rfl (fun b hb' => ⟨rfl, rfl, fun k => by simp [cpI, gI, hb'], fun _ => rfl, fun _ => rfl⟩) ⟨fun ci' r' q1 q2 => ?_, fun t q q1 q2 => ?_⟩
    · have q1 : gK G dst = ci' + 1 := q1
      rw [h2] at q1
      have := cls_lt q2
      omega
    · have q1 : gK G dst = t + 20 := q1
      rw [h2] at q1
      have et : t = 0 := by omega
      subst et
      cases q2
      have e2 : (H.setIfInBounds dst (arrV (dA D 0) (gN G dst) (fun j => .int (va_cpy (gI G src) (gI G dst) 0 0 n.toNatClampNeg j))))[dst]? = some (arrV (dA D 0) (gN G dst) (fun j => .int (va_cpy (gI G src) (gI G dst) 0 0 n.toNatClampNeg j))) := by simp [Array.getElem?_setIfInBounds, hl2]
      rw [e2]
      congr 2
      funext j
      simp [fv, cpI, gI, va_cpy]
  obtain ⟨t, a1, b1⟩ := kk _ rfl ls _ _ hl hH' ⟨by simp; exact hS.1, fun q g1 g2 => by
      rw [oq q (fun e => g2 (by rw [e]; exact hAd))]
      exact hS.2.1 q g1 g2, fun q hq => by
      rcases List.mem_append.mp hq with h | h
      · exact hS.2.2 q h
      · obtain ⟨z, -, hz⟩ := List.mem_map.mp h
        rw [← hz]
        exact hAd⟩ _ hheap X'
  exact ⟨t, step t a1, b1⟩
end RM
/-- a member of the JDK that runs as its bytecode says -/
theorem v_metF {l : Launch} {y : MethodName} {cc : ByteArray} {nL : Nat} {ret : Option FieldType} (hy : plainFor y = true) {D : Dx} {G : Wd} {As : List Value} {rm : Room} {mc ms : Nat} {Qc : Array Value → State → Outcome → State → Prop} (hlen : (lg_sl As).length ≤ nL)
    (body : ∀ X : Cx, X.2.1 = l → X.2.2.2.1 = rm → Fx X D cc nL y.cls ret y.name → V X D nL (ZM X D Qc mc ms) G 0 0 0 (lv_args 0 As) []) : Met l y (wM y cc nL ret) rm (PM D As G) Qc mc ms (Ab D) := by
  refine va_MetF (cc := cc) (maxL := nL) (ret := ret) hy rfl ?_
  intro p e s m args below meth c s₁ B hml hv
  obtain ⟨rfl, hK, hH⟩ := hv
  have hts := atoms_spec (ws := wM y cc nL ret) B.pre
  have F : Fx (p, l, e, rm, s, m, As.toArray, below, meth, c) D cc nL y.cls ret y.name := ⟨B.exec, B.bytes, hml, findClass_of_methodNamed B.named, fun w h => hts w (List.mem_cons_of_mem _ h), hK, B.returns, B.notSynchronized, (name_of_methodNamed B.named B.method).1⟩
  rw [lg_entry_eq]
  exact body (p, l, e, rm, s, m, As.toArray, below, meth, c) rfl rfl F _ s.heap [] (lv_entry As hlen) hH va_S.rf
end
section
theorem ls_X2_45 : LinkS RX2 45 yJ9_max_f86c9 cJ9_max_f86c9 4 (some .long) 2 := mkLS (tG_mem 135 (by decide +kernel) rfl) (tG_mem 136 (by decide +kernel) rfl) (tG_mem 65 (by decide +kernel) rfl) (tG_mem 137 (by decide +kernel) rfl) ⟨by decide +kernel, by decide +kernel, by decide +kernel⟩
theorem ls_X2_41 : LinkS RX2 41 yJ9_abs_067f4 cJ9_abs_067f4 2 (some .long) 1 := mkLS (tG_mem 132 (by decide +kernel) rfl) (tG_mem 133 (by decide +kernel) rfl) (tG_mem 65 (by decide +kernel) rfl) (tG_mem 134 (by decide +kernel) rfl) ⟨by decide +kernel, by decide +kernel, by decide +kernel⟩
theorem fl_X2_7 : FLink RX2 7 2 1 false := mkFL _ rfl rfl rfl (Or.inr rfl) (tG_mem 110 (by decide +kernel) rfl)
theorem fl_X2_21 : FLink RX2 21 2 0 false := mkFL _ rfl rfl rfl (Or.inr rfl) (tG_mem 107 (by decide +kernel) rfl)
theorem fl_X2_17 : FLink RX2 17 2 2 false := mkFL _ rfl rfl rfl (Or.inr rfl) (tG_mem 113 (by decide +kernel) rfl)
theorem wd_106 : Cond.methodLink RX2 1 objectInit ∈ tG := (tG_mem 106 (by decide +kernel) rfl)
theorem wd_85 : Cond.instanceMethod objectInit ∈ tG := (tG_mem 85 (by decide +kernel) rfl)
theorem wd_86 : Cond.code objectInit ⟨#[0xb1]⟩ 1 none ∈ tG := (tG_mem 86 (by decide +kernel) rfl)
theorem ls_X2_13 : LinkS RX2 13 yX2_commonDivisor cX2_commonDivisor 11 (some .long) 2 := mkLS (tG_mem 129 (by decide +kernel) rfl) (tG_mem 130 (by decide +kernel) rfl) (tG_mem 64 (by decide +kernel) rfl) (tG_mem 131 (by decide +kernel) rfl) ⟨by decide +kernel, by decide +kernel, by decide +kernel⟩
theorem lk_X2_30 : LinkV RX2 30 yX2_settle cX2_settle 6 none 3 2 := mkLV _ (tG_mem 598 (by decide +kernel) rfl) (tG_mem 600 (by decide +kernel) rfl) (tG_mem 10 (by decide +kernel) rfl) (tG_mem 64 (by decide +kernel) rfl) (tG_mem 601 (by decide +kernel) rfl) ⟨by decide +kernel, by decide +kernel, by decide +kernel⟩ rfl rfl
theorem wd_594 : Cond.constantLong RX2 24 1000000000000000 ∈ tG := (tG_mem 594 (by decide +kernel) rfl)
theorem ls_X2_26 : LinkS RX2 26 yX2_reaches cX2_reaches 8 (some .boolean) 3 := mkLS (tG_mem 595 (by decide +kernel) rfl) (tG_mem 596 (by decide +kernel) rfl) (tG_mem 64 (by decide +kernel) rfl) (tG_mem 597 (by decide +kernel) rfl) ⟨by decide +kernel, by decide +kernel, by decide +kernel⟩
theorem wd_802 : Cond.constantLong RX2 34 1000000000000000000 ∈ tG := (tG_mem 802 (by decide +kernel) rfl)
theorem ls_X2_36 : LinkS RX2 36 yJ9_floorDiv_f86c9 cJ9_floorDiv_f86c9 6 (some .long) 2 := mkLS (tG_mem 817 (by decide +kernel) rfl) (tG_mem 818 (by decide +kernel) rfl) (tG_mem 65 (by decide +kernel) rfl) (tG_mem 819 (by decide +kernel) rfl) ⟨by decide +kernel, by decide +kernel, by decide +kernel⟩
end
section
def wpJ9_abs_067f4 (p0 : Int64) (G : Wd) (Q : Int64 → Wd → Prop) : Prop := if p0 < 0 then (Q (-p0) G) else (Q p0 G)
abbrev rmJ9_abs_067f4 : Room := { frames := 0, cells := 0, slots := 0, locals := 0 }
def wpJ9_max_f86c9 (p0 : Int64) (p2 : Int64) (G : Wd) (Q : Int64 → Wd → Prop) : Prop := if p0 < p2 then (Q p2 G) else (Q p0 G)
abbrev rmJ9_max_f86c9 : Room := { frames := 0, cells := 0, slots := 0, locals := 0 }
def wpJ9_floorDiv_f86c9 (p0 : Int64) (p2 : Int64) (G : Wd) (Q : Int64 → Wd → Prop) : Prop := ¬ p2 = 0 ∧ ∀ x2 : Int64, x2 = (p0 / p2) → if (p0 ^^^ p2) < 0 then (if (x2 * p2) = p0 then (Q x2 G) else (Q (x2 - 1) G)) else (Q x2 G)
abbrev rmJ9_floorDiv_f86c9 : Room := { frames := 0, cells := 0, slots := 0, locals := 0 }
def wpX2_commonDivisor_50 (Q : Int64 → Wd → Prop) (v4 : Int64) (G : Wd) : Prop := wpJ9_max_f86c9 v4 1 G (fun r1 G2 => Q r1 G2)
def wpX2_commonDivisor_15 (Q : Int64 → Wd → Prop) : Nat → Int64 → Int64 → Int32 → Wd → Prop
  | 0, _, _, _, _ => False
  | n + 1, v4, v6, v8, G => if 100 ≤ v8 then (wpX2_commonDivisor_50 Q v4 G) else (if 0 < v6 then (¬ v6 = 0 ∧ ∀ x4 : Int64, x4 = (v4 % v6) → ∀ x5 : Int32, x5 = v8 + 1 → wpX2_commonDivisor_15 Q n v6 x4 x5 G) else (wpX2_commonDivisor_50 Q v4 G))
def wpX2_commonDivisor (p0 : Int64) (p2 : Int64) (G : Wd) (Q : Int64 → Wd → Prop) : Prop := wpJ9_abs_067f4 p0 G (fun r6 G7 => wpJ9_abs_067f4 p2 G7 (fun r8 G9 => ∃ n, wpX2_commonDivisor_15 Q n r6 r8 0 G9))
abbrev rmX2_commonDivisor : Room := { frames := 1, cells := 0, slots := 0, locals := 23 }
def wpX2_reaches (p0 : Int64) (p2 : Int64) (p4 : Int64) (G : Wd) (Q : Int32 → Wd → Prop) : Prop := wpJ9_abs_067f4 p0 G (fun r1 G2 => if 0 < r1 then (wpJ9_abs_067f4 p2 G2 (fun r3 G4 => ¬ r1 = 0 ∧ if ((p4 - 1) / r1) < r3 then (Q 1 G4) else (Q 0 G4))) else (Q 0 G2))
abbrev rmX2_reaches : Room := { frames := 1, cells := 0, slots := 0, locals := 21 }
def wpX2_settle_29 (Q : Wd → Prop) (s0 : Nat) (s1 : Int64) (G : Wd) : Prop := gK G s0 = 3 ∧ ∀ G2 : Wd, G2 = uJ G s0 1 s1 → Q G2
def wpX2_settle_15 (Q : Wd → Prop) (v0 : Nat) (v1 : Int32) (v4 : Int64) (s0 : Nat) (s1 : Int64) (G : Wd) : Prop := gK G s0 = 3 ∧ ∀ G4 : Wd, G4 = uJ G s0 0 s1 → if v1 = 0 then (wpX2_settle_29 Q v0 v4 G4) else (wpX2_settle_29 Q v0 1 G4)
def wpX2_settle (a0 : Nat) (p1 : Int32) (p2 : Int64) (p4 : Int64) (G : Wd) (Q : Wd → Prop) : Prop := gK G a0 = 3 ∧ isB p1 ∧ ∀ G6 : Wd, G6 = uI G a0 2 p1 → if p1 = 0 then (wpX2_settle_15 Q a0 p1 p4 a0 p2 G6) else (wpX2_settle_15 Q a0 p1 p4 a0 0 G6)
abbrev rmX2_settle : Room := { frames := 0, cells := 0, slots := 0, locals := 0 }
def wpX2_init (a0 : Nat) (G : Wd) (Q : Wd → Prop) : Prop := gK G a0 = 3 ∧ ∀ G2 : Wd, G2 = uJ G a0 1 1 → Q G2
abbrev rmX2_init : Room := { frames := 1, cells := 0, slots := 0, locals := 20 }
def wpX2_become (a0 : Nat) (p1 : Int64) (p3 : Int64) (G : Wd) (Q : Wd → Prop) : Prop := wpX2_commonDivisor p1 p3 G (fun r1 G2 => gK G2 a0 = 3 ∧ ∀ G4 : Wd, G4 = uI G2 a0 2 0 → ¬ r1 = 0 ∧ ∀ G6 : Wd, G6 = uJ G4 a0 0 (p1 / r1) → ¬ r1 = 0 ∧ ∀ G8 : Wd, G8 = uJ G6 a0 1 (p3 / r1) → Q G8)
abbrev rmX2_become : Room := { frames := 2, cells := 0, slots := 0, locals := 53 }
def wpX2_become_ (a0 : Nat) (a1 : Nat) (G : Wd) (Q : Wd → Prop) : Prop := gK G a1 = 3 ∧ gK G a0 = 3 ∧ isB (gI G a1 2) ∧ ∀ G3 : Wd, G3 = uI G a0 2 (gI G a1 2) → ∀ G5 : Wd, G5 = uJ G3 a0 0 (gJ G3 a1 0) → ∀ G6 : Wd, G6 = uJ G5 a0 1 (gJ G5 a1 1) → Q G6
abbrev rmX2_become_ : Room := { frames := 0, cells := 0, slots := 0, locals := 0 }
def wpX2_becomeProduct_75 (Q : Wd → Prop) (v1 : Nat) (v2 : Int64) (v4 : Int64) (v6 : Int64) (v8 : Int64) (s0 : Nat) (s1 : Int32) (G : Wd) : Prop := gK G v1 = 3 ∧ ¬ v6 = 0 ∧ ¬ v8 = 0 ∧ ¬ v8 = 0 ∧ ¬ v6 = 0 ∧ gK G s0 = 3 ∧ wpX2_settle s0 s1 (((gJ G v1 0) / v6) * (v2 / v8)) (((gJ G v1 1) / v8) * (v4 / v6)) G (fun G8 => Q G8)
def wpX2_becomeProduct_70 (Q : Wd → Prop) (v1 : Nat) (v2 : Int64) (v4 : Int64) (v6 : Int64) (v8 : Int64) (s0 : Nat) (G : Wd) : Prop := wpX2_becomeProduct_75 Q v1 v2 v4 v6 v8 s0 1 G
def wpX2_becomeProduct (a0 : Nat) (a1 : Nat) (p2 : Int64) (p4 : Int64) (G : Wd) (Q : Wd → Prop) : Prop := gK G a1 = 3 ∧ wpX2_commonDivisor (gJ G a1 0) p4 G (fun r10 G11 => gK G11 a1 = 3 ∧ wpX2_commonDivisor (gJ G11 a1 1) p2 G11 (fun r13 G14 => gK G14 a1 = 3 ∧ if (gI G14 a1 2) = 0 then (¬ r10 = 0 ∧ ¬ r13 = 0 ∧ wpX2_reaches ((gJ G14 a1 0) / r10) (p2 / r13) 1000000000000000 G14 (fun r18 G19 => if r18 = 0 then (gK G19 a1 = 3 ∧ ¬ r13 = 0 ∧ ¬ r10 = 0 ∧ wpX2_reaches ((gJ G19 a1 1) / r13) (p4 / r10) 1000000000000000 G19 (fun r23 G24 => if r23 = 0 then (wpX2_becomeProduct_75 Q a1 p2 p4 r10 r13 a0 0 G24) else (wpX2_becomeProduct_70 Q a1 p2 p4 r10 r13 a0 G24))) else (wpX2_becomeProduct_70 Q a1 p2 p4 r10 r13 a0 G19))) else (wpX2_becomeProduct_70 Q a1 p2 p4 r10 r13 a0 G14)))
abbrev rmX2_becomeProduct : Room := { frames := 2, cells := 0, slots := 0, locals := 53 }
def wpX2_add_87 (Q : Wd → Prop) (v0 : Nat) (G : Wd) : Prop := gK G v0 = 3 ∧ wpX2_settle v0 1 0 1 G (fun G3 => Q G3)
def wpX2_add_166 (Q : Wd → Prop) (v8 : Int64) (v10 : Int64) (v12 : Int64) (s0 : Nat) (s1 : Int32) (G : Wd) : Prop := ¬ v12 = 0 ∧ ¬ v12 = 0 ∧ gK G s0 = 3 ∧ wpX2_settle s0 s1 (v8 / v12) (v10 / v12) G (fun G8 => Q G8)
def wpX2_add_161 (Q : Wd → Prop) (v8 : Int64) (v10 : Int64) (v12 : Int64) (s0 : Nat) (G : Wd) : Prop := wpX2_add_166 Q v8 v10 v12 s0 1 G
def wpX2_add (a0 : Nat) (a1 : Nat) (G : Wd) (Q : Wd → Prop) : Prop := gK G a0 = 3 ∧ gK G a1 = 3 ∧ wpX2_commonDivisor (gJ G a0 1) (gJ G a1 1) G (fun r11 G12 => gK G12 a1 = 3 ∧ ¬ r11 = 0 ∧ ∀ x15 : Int64, x15 = ((gJ G12 a1 1) / r11) → gK G12 a0 = 3 ∧ ¬ r11 = 0 ∧ ∀ x18 : Int64, x18 = ((gJ G12 a0 1) / r11) → if (gI G12 a0 2) = 0 then (if (gI G12 a1 2) = 0 then (wpX2_reaches (gJ G12 a0 0) x15 1000000000000000000 G12 (fun r19 G20 => if r19 = 0 then (gK G20 a1 = 3 ∧ wpX2_reaches (gJ G20 a1 0) x18 1000000000000000000 G20 (fun r22 G23 => if r22 = 0 then (gK G23 a0 = 3 ∧ wpX2_reaches (gJ G23 a0 1) x15 1000000000000000000 G23 (fun r25 G26 => if r25 = 0 then (gK G26 a0 = 3 ∧ gK G26 a1 = 3 ∧ ∀ x29 : Int64, x29 = (((gJ G26 a0 0) * x15) + ((gJ G26 a1 0) * x18)) → ∀ x30 : Int64, x30 = ((gJ G26 a0 1) * x15) → wpX2_commonDivisor x29 x30 G26 (fun r31 G32 => ¬ r31 = 0 ∧ wpX2_reaches (x29 / r31) 1 1000000000000000 G32 (fun r34 G35 => if r34 = 0 then (¬ r31 = 0 ∧ wpX2_reaches (x30 / r31) 1 1000000000000000 G35 (fun r37 G38 => if r37 = 0 then (wpX2_add_166 Q x29 x30 r31 a0 0 G38) else (wpX2_add_161 Q x29 x30 r31 a0 G38))) else (wpX2_add_161 Q x29 x30 r31 a0 G35)))) else (wpX2_add_87 Q a0 G26))) else (wpX2_add_87 Q a0 G23))) else (wpX2_add_87 Q a0 G20))) else (wpX2_add_87 Q a0 G12)) else (wpX2_add_87 Q a0 G12))
abbrev rmX2_add : Room := { frames := 2, cells := 0, slots := 0, locals := 53 }
def wpX2_isAboveOne (a0 : Nat) (G : Wd) (Q : Int32 → Wd → Prop) : Prop := gK G a0 = 3 ∧ if (gI G a0 2) = 0 then (if (gJ G a0 1) < (gJ G a0 0) then (Q 1 G) else (Q 0 G)) else (Q 0 G)
abbrev rmX2_isAboveOne : Room := { frames := 0, cells := 0, slots := 0, locals := 0 }
def wpX2_isLess_106 (Q : Int32 → Wd → Prop) (v11 : Int64) (v13 : Int64) (G : Wd) : Prop := if v11 < v13 then (Q 1 G) else (Q 0 G)
def wpX2_isLess_26 (Q : Int32 → Wd → Prop) : Nat → Int64 → Int64 → Int64 → Int64 → Int32 → Wd → Prop
  | 0, _, _, _, _, _, _ => False
  | n + 1, v2, v4, v6, v8, v10, G => if 100 ≤ v10 then (Q 0 G) else (if 0 < v4 then (if 0 < v8 then (¬ v4 = 0 ∧ ¬ v8 = 0 ∧ if (v2 / v4) = (v6 / v8) then (¬ v4 = 0 ∧ ∀ x4 : Int64, x4 = (v2 % v4) → ¬ v8 = 0 ∧ ∀ x6 : Int64, x6 = (v6 % v8) → if x4 = 0 then (wpX2_isLess_106 Q x4 x6 G) else (if x6 = 0 then (wpX2_isLess_106 Q x4 x6 G) else (∀ x7 : Int32, x7 = v10 + 1 → wpX2_isLess_26 Q n v8 x6 v4 x4 x7 G))) else (¬ v4 = 0 ∧ ¬ v8 = 0 ∧ if (v2 / v4) < (v6 / v8) then (Q 1 G) else (Q 0 G))) else (Q 0 G)) else (Q 0 G))
def wpX2_isLess (a0 : Nat) (a1 : Nat) (G : Wd) (Q : Int32 → Wd → Prop) : Prop := gK G a0 = 3 ∧ ∀ x11 : Int64, x11 = gJ G a0 0 → ∀ x12 : Int64, x12 = gJ G a0 1 → gK G a1 = 3 ∧ ∀ x14 : Int64, x14 = gJ G a1 0 → ∀ x15 : Int64, x15 = gJ G a1 1 → ∃ n, wpX2_isLess_26 Q n x11 x12 x14 x15 0 G
abbrev rmX2_isLess : Room := { frames := 0, cells := 0, slots := 0, locals := 0 }
def wpX2_floor (a0 : Nat) (G : Wd) (Q : Int64 → Wd → Prop) : Prop := gK G a0 = 3 ∧ if 0 < (gJ G a0 1) then (wpJ9_floorDiv_f86c9 (gJ G a0 0) (gJ G a0 1) G (fun r2 G3 => Q r2 G3)) else (Q 0 G)
abbrev rmX2_floor : Room := { frames := 1, cells := 0, slots := 0, locals := 25 }
def wpX2_ceiling (a0 : Nat) (G : Wd) (Q : Int64 → Wd → Prop) : Prop := gK G a0 = 3 ∧ if 0 < (gJ G a0 1) then (wpJ9_floorDiv_f86c9 (-(gJ G a0 0)) (gJ G a0 1) G (fun r2 G3 => Q (-r2) G3)) else (Q 0 G)
abbrev rmX2_ceiling : Room := { frames := 1, cells := 0, slots := 0, locals := 25 }
set_option maxRecDepth 100000 in
theorem sJ9_abs_067f4 {l : Launch} {D : Dx} {p0 : Int64} {G : Wd} {Q : Int64 → Wd → Prop} (hw : wpJ9_abs_067f4 p0 G Q) : Met l yJ9_abs_067f4 (wM yJ9_abs_067f4 cJ9_abs_067f4 2 (some .long)) rmJ9_abs_067f4 (PM D [.long p0] G) (QMl D Q) 0 0 (Ab D) := by
  refine v_metF (by decide +kernel) (Nat.le_of_ble_eq_true rfl) (fun X hl hR F => ?_)
  subst hl
  have F : Fx X D cJ9_abs_067f4 2 RJ9 (some .long) "abs" := F
  refine v_cast (L' := [(0, .long p0)]) rfl rfl ?_
  unfold wpJ9_abs_067f4 at hw
  refine v_lload_n F dJ9_abs_067f4_0 rfl 0 rfl ?_
  refine v_lconst (v := 0) F dJ9_abs_067f4_1 rfl ?_
  refine v_lcmp F dJ9_abs_067f4_2 ?_
  refine v_lif_ge (tgt := 11) F dJ9_abs_067f4_3 (by decide) (fun h => ?_) (fun h => ?_)
  · rw [if_neg h] at hw
    refine v_lload_n F dJ9_abs_067f4_11 rfl 0 rfl ?_
    exact v_lret F hw dJ9_abs_067f4_12
  · rw [if_pos h] at hw
    refine v_lload_n F dJ9_abs_067f4_6 rfl 0 rfl ?_
    refine v_lneg F dJ9_abs_067f4_7 ?_
    refine v_goto (tgt := 12) F dJ9_abs_067f4_8 (by decide) ?_
    exact v_lret F hw dJ9_abs_067f4_12
set_option maxRecDepth 100000 in
theorem sJ9_max_f86c9 {l : Launch} {D : Dx} {p0 : Int64} {p2 : Int64} {G : Wd} {Q : Int64 → Wd → Prop} (hw : wpJ9_max_f86c9 p0 p2 G Q) : Met l yJ9_max_f86c9 (wM yJ9_max_f86c9 cJ9_max_f86c9 4 (some .long)) rmJ9_max_f86c9 (PM D [.long p0, .long p2] G) (QMl D Q) 0 0 (Ab D) := by
  refine v_metF (by decide +kernel) (Nat.le_of_ble_eq_true rfl) (fun X hl hR F => ?_)
  subst hl
  have F : Fx X D cJ9_max_f86c9 4 RJ9 (some .long) "max" := F
  refine v_cast (L' := [(0, .long p0), (2, .long p2)]) rfl rfl ?_
  unfold wpJ9_max_f86c9 at hw
  refine v_lload_n F dJ9_max_f86c9_0 rfl 0 rfl ?_
  refine v_lload_n F dJ9_max_f86c9_1 rfl 1 rfl ?_
  refine v_lcmp F dJ9_max_f86c9_2 ?_
  refine v_lif_lt (tgt := 10) F dJ9_max_f86c9_3 (by decide) (fun h => ?_) (fun h => ?_)
  · rw [if_pos h] at hw
    refine v_lload_n F dJ9_max_f86c9_10 rfl 1 rfl ?_
    exact v_lret F hw dJ9_max_f86c9_11
  · rw [if_neg h] at hw
    refine v_lload_n F dJ9_max_f86c9_6 rfl 0 rfl ?_
    refine v_goto (tgt := 11) F dJ9_max_f86c9_7 (by decide) ?_
    exact v_lret F hw dJ9_max_f86c9_11
set_option maxRecDepth 100000 in
theorem sJ9_floorDiv_f86c9 {l : Launch} {D : Dx} {p0 : Int64} {p2 : Int64} {G : Wd} {Q : Int64 → Wd → Prop} (hw : wpJ9_floorDiv_f86c9 p0 p2 G Q) : Met l yJ9_floorDiv_f86c9 (wM yJ9_floorDiv_f86c9 cJ9_floorDiv_f86c9 6 (some .long)) rmJ9_floorDiv_f86c9 (PM D [.long p0, .long p2] G) (QMl D Q) 0 0 (Ab D) := by
  refine v_metF (by decide +kernel) (Nat.le_of_ble_eq_true rfl) (fun X hl hR F => ?_)
  subst hl
  have F : Fx X D cJ9_floorDiv_f86c9 6 RJ9 (some .long) "floorDiv" := F
  refine v_cast (L' := [(0, .long p0), (2, .long p2)]) rfl rfl ?_
  unfold wpJ9_floorDiv_f86c9 at hw
  refine v_lload_n F dJ9_floorDiv_f86c9_0 rfl 0 rfl ?_
  refine v_lload_n F dJ9_floorDiv_f86c9_1 rfl 1 rfl ?_
  obtain ⟨hn1, hw⟩ := hw
  refine v_ldiv F dJ9_floorDiv_f86c9_2 hn1 ?_
  refine v_topl (fun x2 hx2 => ?_)
  have hw := hw x2 hx2
  refine v_lstore (L' := [(4, .long x2), (0, .long p0), (2, .long p2)]) F dJ9_floorDiv_f86c9_3 (by decide) rfl ?_
  refine v_lload_n F dJ9_floorDiv_f86c9_5 rfl 1 rfl ?_
  refine v_lload_n F dJ9_floorDiv_f86c9_6 rfl 2 rfl ?_
  refine v_lxor F dJ9_floorDiv_f86c9_7 ?_
  refine v_lconst (v := 0) F dJ9_floorDiv_f86c9_8 rfl ?_
  refine v_lcmp F dJ9_floorDiv_f86c9_9 ?_
  refine v_lif_ge (tgt := 27) F dJ9_floorDiv_f86c9_10 (by decide) (fun h => ?_) (fun h => ?_)
  · rw [if_neg h] at hw
    refine v_lload F dJ9_floorDiv_f86c9_27 0 rfl ?_
    exact v_lret F hw dJ9_floorDiv_f86c9_29
  · rw [if_pos h] at hw
    refine v_lload F dJ9_floorDiv_f86c9_13 0 rfl ?_
    refine v_lload_n F dJ9_floorDiv_f86c9_15 rfl 2 rfl ?_
    refine v_lmul F dJ9_floorDiv_f86c9_16 ?_
    refine v_lload_n F dJ9_floorDiv_f86c9_17 rfl 1 rfl ?_
    refine v_lcmp F dJ9_floorDiv_f86c9_18 ?_
    refine v_lif_eq (tgt := 27) F dJ9_floorDiv_f86c9_19 (by decide) (fun h => ?_) (fun h => ?_)
    · rw [if_pos h] at hw
      refine v_lload F dJ9_floorDiv_f86c9_27 0 rfl ?_
      exact v_lret F hw dJ9_floorDiv_f86c9_29
    · rw [if_neg h] at hw
      refine v_lload F dJ9_floorDiv_f86c9_22 0 rfl ?_
      refine v_lconst (v := 1) F dJ9_floorDiv_f86c9_24 rfl ?_
      refine v_lsub F dJ9_floorDiv_f86c9_25 ?_
      exact v_lret F hw dJ9_floorDiv_f86c9_26
set_option maxRecDepth 100000 in
theorem sbX2_commonDivisor_50 {X : Cx} {D : Dx} (hR : X.2.2.2.1 = rmX2_commonDivisor) (F : Fx X D cX2_commonDivisor 11 RX2 (some .long) "commonDivisor") {Q : Int64 → Wd → Prop} {v4 : Int64} {G : Wd} (hw : wpX2_commonDivisor_50 Q  v4 G) : V X D 11 (ZM X D (QMl D Q) 0 0) G 0 0 50 [(4, .long v4)] [] := by
  unfold wpX2_commonDivisor_50 at hw
  refine v_lload F dX2_commonDivisor_50 0 rfl ?_
  refine v_lconst (v := 1) F dX2_commonDivisor_52 rfl ?_
  refine v_calll (r_S F ls_X2_45 (sJ9_max_f86c9 hw) (mkRm hR rfl rfl rfl rfl rfl rfl) rfl rfl (Nat.le_of_ble_eq_true rfl) dX2_commonDivisor_53) (fun r1 G2 hw => ?_)
  refine v_widen (c' := 0) (s' := 0) (by decide) (by decide) ?_
  exact v_lret F hw dX2_commonDivisor_56
set_option maxRecDepth 100000 in
theorem sbX2_commonDivisor_15 {X : Cx} {D : Dx} (hR : X.2.2.2.1 = rmX2_commonDivisor) (F : Fx X D cX2_commonDivisor 11 RX2 (some .long) "commonDivisor") {Q : Int64 → Wd → Prop} : ∀ (n : Nat) (v4 : Int64) (v6 : Int64) (v8 : Int32) (G : Wd), wpX2_commonDivisor_15 Q  n v4 v6 v8 G → V X D 11 (ZM X D (QMl D Q) 0 0) G 0 0 15 [(4, .long v4), (6, .long v6), (8, .int v8)] [] := by
  intro n
  induction n with
  | zero => intro v4 v6 v8 G hw; exact hw.elim
  | succ n ih =>
    intro v4 v6 v8 G hw
    simp only [wpX2_commonDivisor_15] at hw
    refine v_iload F dX2_commonDivisor_15 2 rfl ?_
    refine v_bipush (v := 100) F dX2_commonDivisor_17 (by decide) ?_
    refine v_icmp_ge (tgt := 50) F dX2_commonDivisor_19 (by decide) (fun h => ?_) (fun h => ?_)
    · rw [if_pos h] at hw
      exact v_loc [0] rfl (sbX2_commonDivisor_50 hR F  hw)
    · rw [if_neg h] at hw
      refine v_lload F dX2_commonDivisor_22 1 rfl ?_
      refine v_lconst (v := 0) F dX2_commonDivisor_24 rfl ?_
      refine v_lcmp F dX2_commonDivisor_25 ?_
      refine v_lif_le (tgt := 50) F dX2_commonDivisor_26 (by decide) (fun h => ?_) (fun h => ?_)
      · rw [if_neg h] at hw
        exact v_loc [0] rfl (sbX2_commonDivisor_50 hR F  hw)
      · rw [if_pos h] at hw
        refine v_lload F dX2_commonDivisor_29 0 rfl ?_
        refine v_lload F dX2_commonDivisor_31 1 rfl ?_
        obtain ⟨hn3, hw⟩ := hw
        refine v_lremE F dX2_commonDivisor_33 hn3 ?_
        refine v_topl (fun x4 hx4 => ?_)
        have hw := hw x4 hx4
        refine v_lstore (L' := [(9, .long x4), (4, .long v4), (6, .long v6), (8, .int v8)]) F dX2_commonDivisor_34 (by decide) rfl ?_
        refine v_lload F dX2_commonDivisor_36 2 rfl ?_
        refine v_lstore (L' := [(4, .long v6), (9, .long x4), (6, .long v6), (8, .int v8)]) F dX2_commonDivisor_38 (by decide) rfl ?_
        refine v_lload F dX2_commonDivisor_40 1 rfl ?_
        refine v_lstore (L' := [(6, .long x4), (4, .long v6), (9, .long x4), (8, .int v8)]) F dX2_commonDivisor_42 (by decide) rfl ?_
        refine v_iincN (c := 1) F dX2_commonDivisor_44 3 rfl (by decide) (by decide) (fun x5 hx5 => ?_)
        refine v_cast (L' := [(8, .int x5), (6, .long x4), (4, .long v6), (9, .long x4)]) rfl rfl ?_
        have hw := hw x5 hx5
        refine v_goto (tgt := 15) F dX2_commonDivisor_47 (by decide) ?_
        exact v_loc [2, 1, 0] rfl (ih _ _ _ _ hw)
set_option maxRecDepth 100000 in
theorem sX2_commonDivisor {l : Launch} {D : Dx} {p0 : Int64} {p2 : Int64} {G : Wd} {Q : Int64 → Wd → Prop} (hw : wpX2_commonDivisor p0 p2 G Q) : Met l yX2_commonDivisor (wM yX2_commonDivisor cX2_commonDivisor 11 (some .long)) rmX2_commonDivisor (PM D [.long p0, .long p2] G) (QMl D Q) 0 0 (Ab D) := by
  refine v_met (by decide) (Nat.le_of_ble_eq_true rfl) (fun X hl hR F => ?_)
  subst hl
  have F : Fx X D cX2_commonDivisor 11 RX2 (some .long) "commonDivisor" := F
  refine v_cast (L' := [(0, .long p0), (2, .long p2)]) rfl rfl ?_
  unfold wpX2_commonDivisor at hw
  refine v_lload_n F dX2_commonDivisor_0 rfl 0 rfl ?_
  refine v_calll (r_S F ls_X2_41 (sJ9_abs_067f4 hw) (mkRm hR rfl rfl rfl rfl rfl rfl) rfl rfl (Nat.le_of_ble_eq_true rfl) dX2_commonDivisor_1) (fun r6 G7 hw => ?_)
  refine v_lstore (L' := [(4, .long r6), (0, .long p0), (2, .long p2)]) F dX2_commonDivisor_4 (by decide) rfl ?_
  refine v_lload_n F dX2_commonDivisor_6 rfl 2 rfl ?_
  refine v_calll (r_S F ls_X2_41 (sJ9_abs_067f4 hw) (mkRm hR rfl rfl rfl rfl rfl rfl) rfl rfl (Nat.le_of_ble_eq_true rfl) dX2_commonDivisor_7) (fun r8 G9 hw => ?_)
  refine v_lstore (L' := [(6, .long r8), (4, .long r6), (0, .long p0), (2, .long p2)]) F dX2_commonDivisor_10 (by decide) rfl ?_
  refine v_iconst (v := 0) F dX2_commonDivisor_12 (by decide) ?_
  refine v_istore (L' := [(8, .int 0), (6, .long r8), (4, .long r6), (0, .long p0), (2, .long p2)]) F dX2_commonDivisor_13 (by decide) rfl ?_
  obtain ⟨n, hw⟩ := hw
  exact v_loc [2, 1, 0] rfl (sbX2_commonDivisor_15 hR F  n _ _ _ _ hw)
set_option maxRecDepth 100000 in
theorem sX2_reaches {l : Launch} {D : Dx} {p0 : Int64} {p2 : Int64} {p4 : Int64} {G : Wd} {Q : Int32 → Wd → Prop} (hw : wpX2_reaches p0 p2 p4 G Q) : Met l yX2_reaches (wM yX2_reaches cX2_reaches 8 (some .boolean)) rmX2_reaches (PM D [.long p0, .long p2, .long p4] G) (QMi D Q) 0 0 (Ab D) := by
  refine v_met (by decide) (Nat.le_of_ble_eq_true rfl) (fun X hl hR F => ?_)
  subst hl
  have F : Fx X D cX2_reaches 8 RX2 (some .boolean) "reaches" := F
  refine v_cast (L' := [(0, .long p0), (2, .long p2), (4, .long p4)]) rfl rfl ?_
  unfold wpX2_reaches at hw
  refine v_lload_n F dX2_reaches_0 rfl 0 rfl ?_
  refine v_calll (r_S F ls_X2_41 (sJ9_abs_067f4 hw) (mkRm hR rfl rfl rfl rfl rfl rfl) rfl rfl (Nat.le_of_ble_eq_true rfl) dX2_reaches_1) (fun r1 G2 hw => ?_)
  refine v_lstore (L' := [(6, .long r1), (0, .long p0), (2, .long p2), (4, .long p4)]) F dX2_reaches_4 (by decide) rfl ?_
  refine v_lload F dX2_reaches_6 0 rfl ?_
  refine v_lconst (v := 0) F dX2_reaches_8 rfl ?_
  refine v_lcmp F dX2_reaches_9 ?_
  refine v_lif_le (tgt := 32) F dX2_reaches_10 (by decide) (fun h => ?_) (fun h => ?_)
  · rw [if_neg h] at hw
    refine v_iconst (v := 0) F dX2_reaches_32 (by decide) ?_
    refine v_widen (c' := 0) (s' := 0) (by decide) (by decide) ?_
    exact v_zret F (Or.inl rfl) hw dX2_reaches_33
  · rw [if_pos h] at hw
    refine v_lload_n F dX2_reaches_13 rfl 2 rfl ?_
    refine v_calll (r_S F ls_X2_41 (sJ9_abs_067f4 hw) (mkRm hR rfl rfl rfl rfl rfl rfl) rfl rfl (Nat.le_of_ble_eq_true rfl) dX2_reaches_14) (fun r3 G4 hw => ?_)
    refine v_lload F dX2_reaches_17 3 rfl ?_
    refine v_lconst (v := 1) F dX2_reaches_19 rfl ?_
    refine v_lsub F dX2_reaches_20 ?_
    refine v_lload F dX2_reaches_21 0 rfl ?_
    obtain ⟨hn5, hw⟩ := hw
    refine v_ldiv F dX2_reaches_23 hn5 ?_
    refine v_lcmp F dX2_reaches_24 ?_
    refine v_lif_le (tgt := 32) F dX2_reaches_25 (by decide) (fun h => ?_) (fun h => ?_)
    · rw [if_neg h] at hw
      refine v_iconst (v := 0) F dX2_reaches_32 (by decide) ?_
      refine v_widen (c' := 0) (s' := 0) (by decide) (by decide) ?_
      exact v_zret F (Or.inl rfl) hw dX2_reaches_33
    · rw [if_pos h] at hw
      refine v_iconst (v := 1) F dX2_reaches_28 (by decide) ?_
      refine v_goto (tgt := 33) F dX2_reaches_29 (by decide) ?_
      refine v_widen (c' := 0) (s' := 0) (by decide) (by decide) ?_
      exact v_zret F (Or.inr rfl) hw dX2_reaches_33
set_option maxRecDepth 100000 in
theorem sbX2_settle_29 {X : Cx} {D : Dx} (hR : X.2.2.2.1 = rmX2_settle) (F : Fx X D cX2_settle 6 RX2 none "settle") {Q : Wd → Prop} {s0 : Nat} {s1 : Int64} {G : Wd} (hw : wpX2_settle_29 Q  s0 s1 G) : V X D 6 (ZM X D (QMv D Q) 0 0) G 0 0 29 [] [.long s1, .ref s0] := by
  unfold wpX2_settle_29 at hw
  obtain ⟨hk1, hw⟩ := hw
  refine v_putJ F fl_X2_7 (fun h => absurd h (by decide)) rfl hk1 dX2_settle_29 ?_
  refine v_nmG (fun G2 hG2 => ?_)
  have hw := hw G2 hG2
  exact v_vret F hw dX2_settle_32
set_option maxRecDepth 100000 in
theorem sbX2_settle_15 {X : Cx} {D : Dx} (hR : X.2.2.2.1 = rmX2_settle) (F : Fx X D cX2_settle 6 RX2 none "settle") {Q : Wd → Prop} {v0 : Nat} {v1 : Int32} {v4 : Int64} {s0 : Nat} {s1 : Int64} {G : Wd} (hw : wpX2_settle_15 Q  v0 v1 v4 s0 s1 G) : V X D 6 (ZM X D (QMv D Q) 0 0) G 0 0 15 [(0, .ref v0), (1, .int v1), (4, .long v4)] [.long s1, .ref s0] := by
  unfold wpX2_settle_15 at hw
  obtain ⟨hk3, hw⟩ := hw
  refine v_putJ F fl_X2_21 (fun h => absurd h (by decide)) rfl hk3 dX2_settle_15 ?_
  refine v_nmG (fun G4 hG4 => ?_)
  have hw := hw G4 hG4
  refine v_aload_n F dX2_settle_18 rfl 0 rfl ?_
  refine v_iload_n F dX2_settle_19 rfl 1 rfl ?_
  refine v_if_eq (tgt := 27) F dX2_settle_20 (by decide) (fun h => ?_) (fun h => ?_)
  · rw [if_pos h] at hw
    refine v_lload F dX2_settle_27 2 rfl ?_
    exact v_loc [] rfl (sbX2_settle_29 hR F  hw)
  · rw [if_neg h] at hw
    refine v_lconst (v := 1) F dX2_settle_23 rfl ?_
    refine v_goto (tgt := 29) F dX2_settle_24 (by decide) ?_
    exact v_loc [] rfl (sbX2_settle_29 hR F  hw)
set_option maxRecDepth 100000 in
theorem sX2_settle {l : Launch} {D : Dx} {a0 : Nat} {p1 : Int32} {p2 : Int64} {p4 : Int64} {G : Wd} {Q : Wd → Prop} (hw : wpX2_settle a0 p1 p2 p4 G Q) : Met l yX2_settle (wM yX2_settle cX2_settle 6 none) rmX2_settle (PM D [.ref a0, .int p1, .long p2, .long p4] G) (QMv D Q) 0 0 (Ab D) := by
  refine v_met (by decide) (Nat.le_of_ble_eq_true rfl) (fun X hl hR F => ?_)
  subst hl
  have F : Fx X D cX2_settle 6 RX2 none "settle" := F
  refine v_cast (L' := [(0, .ref a0), (1, .int p1), (2, .long p2), (4, .long p4)]) rfl rfl ?_
  unfold wpX2_settle at hw
  refine v_aload_n F dX2_settle_0 rfl 0 rfl ?_
  refine v_iload_n F dX2_settle_1 rfl 1 rfl ?_
  obtain ⟨hk5, hw⟩ := hw
  obtain ⟨hB7, hw⟩ := hw
  refine v_putZ F fl_X2_17 (fun h => absurd h (by decide)) rfl hB7 hk5 dX2_settle_2 ?_
  refine v_nmG (fun G6 hG6 => ?_)
  have hw := hw G6 hG6
  refine v_aload_n F dX2_settle_5 rfl 0 rfl ?_
  refine v_iload_n F dX2_settle_6 rfl 1 rfl ?_
  refine v_if_eq (tgt := 14) F dX2_settle_7 (by decide) (fun h => ?_) (fun h => ?_)
  · rw [if_pos h] at hw
    refine v_lload_n F dX2_settle_14 rfl 2 rfl ?_
    exact v_loc [0, 1, 3] rfl (sbX2_settle_15 hR F  hw)
  · rw [if_neg h] at hw
    refine v_lconst (v := 0) F dX2_settle_10 rfl ?_
    refine v_goto (tgt := 15) F dX2_settle_11 (by decide) ?_
    exact v_loc [0, 1, 3] rfl (sbX2_settle_15 hR F  hw)
set_option maxRecDepth 100000 in
theorem sX2_init {l : Launch} {D : Dx} {a0 : Nat} {G : Wd} {Q : Wd → Prop} (hw : wpX2_init a0 G Q) : Met l yX2_init (wM yX2_init cX2_init 1 none) rmX2_init (PM D [.ref a0] G) (QMv D Q) 0 0 (Ab D) := by
  refine v_met (by decide) (Nat.le_of_ble_eq_true rfl) (fun X hl hR F => ?_)
  subst hl
  have F : Fx X D cX2_init 1 RX2 none "<init>" := F
  refine v_cast (L' := [(0, .ref a0)]) rfl rfl ?_
  unfold wpX2_init at hw
  refine v_aload_n F dX2_init_0 rfl 0 rfl ?_
  refine v_objInit F wd_106 wd_85 wd_86 (by rw [hR]; exact Nat.le_of_ble_eq_true rfl) (by rw [hR]; exact Nat.le_of_ble_eq_true rfl) dX2_init_1 ?_
  refine v_aload_n F dX2_init_4 rfl 0 rfl ?_
  refine v_lconst (v := 1) F dX2_init_5 rfl ?_
  obtain ⟨hk1, hw⟩ := hw
  refine v_putJ F fl_X2_7 (fun h => absurd h (by decide)) rfl hk1 dX2_init_6 ?_
  refine v_nmG (fun G2 hG2 => ?_)
  have hw := hw G2 hG2
  exact v_vret F hw dX2_init_9
set_option maxRecDepth 100000 in
theorem sX2_become {l : Launch} {D : Dx} {a0 : Nat} {p1 : Int64} {p3 : Int64} {G : Wd} {Q : Wd → Prop} (hw : wpX2_become a0 p1 p3 G Q) : Met l yX2_become (wM yX2_become cX2_become 7 none) rmX2_become (PM D [.ref a0, .long p1, .long p3] G) (QMv D Q) 0 0 (Ab D) := by
  refine v_met (by decide) (Nat.le_of_ble_eq_true rfl) (fun X hl hR F => ?_)
  subst hl
  have F : Fx X D cX2_become 7 RX2 none "become" := F
  refine v_cast (L' := [(0, .ref a0), (1, .long p1), (3, .long p3)]) rfl rfl ?_
  unfold wpX2_become at hw
  refine v_lload_n F dX2_become_0 rfl 1 rfl ?_
  refine v_lload_n F dX2_become_1 rfl 2 rfl ?_
  refine v_calll (r_S F ls_X2_13 (sX2_commonDivisor hw) (mkRm hR rfl rfl rfl rfl rfl rfl) rfl rfl (Nat.le_of_ble_eq_true rfl) dX2_become_2) (fun r1 G2 hw => ?_)
  refine v_lstore (L' := [(5, .long r1), (0, .ref a0), (1, .long p1), (3, .long p3)]) F dX2_become_5 (by decide) rfl ?_
  refine v_aload_n F dX2_become_7 rfl 1 rfl ?_
  refine v_iconst (v := 0) F dX2_become_8 (by decide) ?_
  obtain ⟨hk3, hw⟩ := hw
  refine v_putZ F fl_X2_17 (fun h => absurd h (by decide)) rfl (Or.inl rfl) hk3 dX2_become_9 ?_
  refine v_nmG (fun G4 hG4 => ?_)
  have hw := hw G4 hG4
  refine v_aload_n F dX2_become_12 rfl 1 rfl ?_
  refine v_lload_n F dX2_become_13 rfl 2 rfl ?_
  refine v_lload F dX2_become_14 0 rfl ?_
  obtain ⟨hn5, hw⟩ := hw
  refine v_ldiv F dX2_become_16 hn5 ?_
  refine v_putJ F fl_X2_21 (fun h => absurd h (by decide)) rfl (by rw [hG4]; exact hk3) dX2_become_17 ?_
  refine v_nmG (fun G6 hG6 => ?_)
  have hw := hw G6 hG6
  refine v_aload_n F dX2_become_20 rfl 1 rfl ?_
  refine v_lload_n F dX2_become_21 rfl 3 rfl ?_
  refine v_lload F dX2_become_22 0 rfl ?_
  obtain ⟨hn7, hw⟩ := hw
  refine v_ldiv F dX2_become_24 hn7 ?_
  refine v_putJ F fl_X2_7 (fun h => absurd h (by decide)) rfl (by rw [hG6, hG4]; exact hk3) dX2_become_25 ?_
  refine v_nmG (fun G8 hG8 => ?_)
  have hw := hw G8 hG8
  refine v_widen (c' := 0) (s' := 0) (by decide) (by decide) ?_
  exact v_vret F hw dX2_become_28
set_option maxRecDepth 100000 in
theorem sX2_become_ {l : Launch} {D : Dx} {a0 : Nat} {a1 : Nat} {G : Wd} {Q : Wd → Prop} (hw : wpX2_become_ a0 a1 G Q) : Met l yX2_become_ (wM yX2_become_ cX2_become_ 2 none) rmX2_become_ (PM D [.ref a0, .ref a1] G) (QMv D Q) 0 0 (Ab D) := by
  refine v_met (by decide) (Nat.le_of_ble_eq_true rfl) (fun X hl hR F => ?_)
  subst hl
  have F : Fx X D cX2_become_ 2 RX2 none "become" := F
  refine v_cast (L' := [(0, .ref a0), (1, .ref a1)]) rfl rfl ?_
  unfold wpX2_become_ at hw
  refine v_aload_n F dX2_become__0 rfl 0 rfl ?_
  refine v_aload_n F dX2_become__1 rfl 1 rfl ?_
  obtain ⟨hk1, hw⟩ := hw
  refine v_get F fl_X2_17 hk1 rfl dX2_become__2 ?_
  obtain ⟨hk2, hw⟩ := hw
  obtain ⟨hB4, hw⟩ := hw
  refine v_putZ F fl_X2_17 (fun h => absurd h (by decide)) rfl hB4 hk2 dX2_become__5 ?_
  refine v_nmG (fun G3 hG3 => ?_)
  have hw := hw G3 hG3
  refine v_aload_n F dX2_become__8 rfl 0 rfl ?_
  refine v_aload_n F dX2_become__9 rfl 1 rfl ?_
  refine v_get F fl_X2_21 (by rw [hG3]; exact hk1) rfl dX2_become__10 ?_
  refine v_putJ F fl_X2_21 (fun h => absurd h (by decide)) rfl (by rw [hG3]; exact hk2) dX2_become__13 ?_
  refine v_nmG (fun G5 hG5 => ?_)
  have hw := hw G5 hG5
  refine v_aload_n F dX2_become__16 rfl 0 rfl ?_
  refine v_aload_n F dX2_become__17 rfl 1 rfl ?_
  refine v_get F fl_X2_7 (by rw [hG5, hG3]; exact hk1) rfl dX2_become__18 ?_
  refine v_putJ F fl_X2_7 (fun h => absurd h (by decide)) rfl (by rw [hG5, hG3]; exact hk2) dX2_become__21 ?_
  refine v_nmG (fun G6 hG6 => ?_)
  have hw := hw G6 hG6
  exact v_vret F hw dX2_become__24
set_option maxRecDepth 100000 in
theorem sbX2_becomeProduct_75 {X : Cx} {D : Dx} (hR : X.2.2.2.1 = rmX2_becomeProduct) (F : Fx X D cX2_becomeProduct 10 RX2 none "becomeProduct") {Q : Wd → Prop} {v1 : Nat} {v2 : Int64} {v4 : Int64} {v6 : Int64} {v8 : Int64} {s0 : Nat} {s1 : Int32} {G : Wd} (hw : wpX2_becomeProduct_75 Q  v1 v2 v4 v6 v8 s0 s1 G) : V X D 10 (ZM X D (QMv D Q) 0 0) G 0 0 75 [(1, .ref v1), (2, .long v2), (4, .long v4), (6, .long v6), (8, .long v8)] [.int s1, .ref s0] := by
  unfold wpX2_becomeProduct_75 at hw
  refine v_aload_n F dX2_becomeProduct_75 rfl 0 rfl ?_
  obtain ⟨hk1, hw⟩ := hw
  refine v_get F fl_X2_21 hk1 rfl dX2_becomeProduct_76 ?_
  refine v_lload F dX2_becomeProduct_79 3 rfl ?_
  obtain ⟨hn2, hw⟩ := hw
  refine v_ldiv F dX2_becomeProduct_81 hn2 ?_
  refine v_lload_n F dX2_becomeProduct_82 rfl 1 rfl ?_
  refine v_lload F dX2_becomeProduct_83 4 rfl ?_
  obtain ⟨hn3, hw⟩ := hw
  refine v_ldiv F dX2_becomeProduct_85 hn3 ?_
  refine v_lmul F dX2_becomeProduct_86 ?_
  refine v_aload_n F dX2_becomeProduct_87 rfl 0 rfl ?_
  refine v_get F fl_X2_7 hk1 rfl dX2_becomeProduct_88 ?_
  refine v_lload F dX2_becomeProduct_91 4 rfl ?_
  obtain ⟨hn4, hw⟩ := hw
  refine v_ldiv F dX2_becomeProduct_93 hn4 ?_
  refine v_lload F dX2_becomeProduct_94 2 rfl ?_
  refine v_lload F dX2_becomeProduct_96 3 rfl ?_
  obtain ⟨hn5, hw⟩ := hw
  refine v_ldiv F dX2_becomeProduct_98 hn5 ?_
  refine v_lmul F dX2_becomeProduct_99 ?_
  obtain ⟨hk6, hw⟩ := hw
  refine v_callv (r_V F lk_X2_30 hk6 (sX2_settle hw) (mkRm hR rfl rfl rfl rfl rfl rfl) rfl rfl (Nat.le_of_ble_eq_true rfl) dX2_becomeProduct_100) (fun G8 hw => ?_)
  refine v_widen (c' := 0) (s' := 0) (by decide) (by decide) ?_
  exact v_vret F hw dX2_becomeProduct_103
set_option maxRecDepth 100000 in
theorem sbX2_becomeProduct_70 {X : Cx} {D : Dx} (hR : X.2.2.2.1 = rmX2_becomeProduct) (F : Fx X D cX2_becomeProduct 10 RX2 none "becomeProduct") {Q : Wd → Prop} {v1 : Nat} {v2 : Int64} {v4 : Int64} {v6 : Int64} {v8 : Int64} {s0 : Nat} {G : Wd} (hw : wpX2_becomeProduct_70 Q  v1 v2 v4 v6 v8 s0 G) : V X D 10 (ZM X D (QMv D Q) 0 0) G 0 0 70 [(1, .ref v1), (2, .long v2), (4, .long v4), (6, .long v6), (8, .long v8)] [.ref s0] := by
  unfold wpX2_becomeProduct_70 at hw
  refine v_iconst (v := 1) F dX2_becomeProduct_70 (by decide) ?_
  refine v_goto (tgt := 75) F dX2_becomeProduct_71 (by decide) ?_
  exact v_loc [0, 1, 2, 3, 4] rfl (sbX2_becomeProduct_75 hR F  hw)
set_option maxRecDepth 100000 in
theorem sX2_becomeProduct {l : Launch} {D : Dx} {a0 : Nat} {a1 : Nat} {p2 : Int64} {p4 : Int64} {G : Wd} {Q : Wd → Prop} (hw : wpX2_becomeProduct a0 a1 p2 p4 G Q) : Met l yX2_becomeProduct (wM yX2_becomeProduct cX2_becomeProduct 10 none) rmX2_becomeProduct (PM D [.ref a0, .ref a1, .long p2, .long p4] G) (QMv D Q) 0 0 (Ab D) := by
  refine v_met (by decide) (Nat.le_of_ble_eq_true rfl) (fun X hl hR F => ?_)
  subst hl
  have F : Fx X D cX2_becomeProduct 10 RX2 none "becomeProduct" := F
  refine v_cast (L' := [(0, .ref a0), (1, .ref a1), (2, .long p2), (4, .long p4)]) rfl rfl ?_
  unfold wpX2_becomeProduct at hw
  refine v_aload_n F dX2_becomeProduct_0 rfl 1 rfl ?_
  obtain ⟨hk9, hw⟩ := hw
  refine v_get F fl_X2_21 hk9 rfl dX2_becomeProduct_1 ?_
  refine v_lload F dX2_becomeProduct_4 3 rfl ?_
  refine v_calll (r_S F ls_X2_13 (sX2_commonDivisor hw) (mkRm hR rfl rfl rfl rfl rfl rfl) rfl rfl (Nat.le_of_ble_eq_true rfl) dX2_becomeProduct_6) (fun r10 G11 hw => ?_)
  refine v_lstore (L' := [(6, .long r10), (0, .ref a0), (1, .ref a1), (2, .long p2), (4, .long p4)]) F dX2_becomeProduct_9 (by decide) rfl ?_
  refine v_aload_n F dX2_becomeProduct_11 rfl 2 rfl ?_
  obtain ⟨hk12, hw⟩ := hw
  refine v_get F fl_X2_7 hk12 rfl dX2_becomeProduct_12 ?_
  refine v_lload_n F dX2_becomeProduct_15 rfl 3 rfl ?_
  refine v_calll (r_S F ls_X2_13 (sX2_commonDivisor hw) (mkRm hR rfl rfl rfl rfl rfl rfl) rfl rfl (Nat.le_of_ble_eq_true rfl) dX2_becomeProduct_16) (fun r13 G14 hw => ?_)
  refine v_lstore (L' := [(8, .long r13), (6, .long r10), (0, .ref a0), (1, .ref a1), (2, .long p2), (4, .long p4)]) F dX2_becomeProduct_19 (by decide) rfl ?_
  refine v_aload_n F dX2_becomeProduct_21 rfl 2 rfl ?_
  refine v_aload_n F dX2_becomeProduct_22 rfl 3 rfl ?_
  obtain ⟨hk15, hw⟩ := hw
  refine v_get F fl_X2_17 hk15 rfl dX2_becomeProduct_23 ?_
  refine v_if_ne (tgt := 70) F dX2_becomeProduct_26 (by decide) (fun h => ?_) (fun h => ?_)
  · rw [if_neg h] at hw
    exact v_loc [3, 4, 5, 1, 0] rfl (sbX2_becomeProduct_70 hR F  hw)
  · rw [if_pos h] at hw
    refine v_aload_n F dX2_becomeProduct_29 rfl 3 rfl ?_
    refine v_get F fl_X2_21 hk15 rfl dX2_becomeProduct_30 ?_
    refine v_lload F dX2_becomeProduct_33 1 rfl ?_
    obtain ⟨hn16, hw⟩ := hw
    refine v_ldiv F dX2_becomeProduct_35 hn16 ?_
    refine v_lload_n F dX2_becomeProduct_36 rfl 4 rfl ?_
    refine v_lload F dX2_becomeProduct_37 0 rfl ?_
    obtain ⟨hn17, hw⟩ := hw
    refine v_ldiv F dX2_becomeProduct_39 hn17 ?_
    refine v_ldc2 (v := 1000000000000000) F wd_594 dX2_becomeProduct_40 ?_
    refine v_calli (r_S F ls_X2_26 (sX2_reaches hw) (mkRm hR rfl rfl rfl rfl rfl rfl) rfl rfl (Nat.le_of_ble_eq_true rfl) dX2_becomeProduct_43) (fun r18 G19 hw => ?_)
    refine v_if_ne (tgt := 70) F dX2_becomeProduct_46 (by decide) (fun h => ?_) (fun h => ?_)
    · rw [if_neg h] at hw
      exact v_loc [3, 4, 5, 1, 0] rfl (sbX2_becomeProduct_70 hR F  hw)
    · rw [if_pos h] at hw
      refine v_aload_n F dX2_becomeProduct_49 rfl 3 rfl ?_
      obtain ⟨hk20, hw⟩ := hw
      refine v_get F fl_X2_7 hk20 rfl dX2_becomeProduct_50 ?_
      refine v_lload F dX2_becomeProduct_53 0 rfl ?_
      obtain ⟨hn21, hw⟩ := hw
      refine v_ldiv F dX2_becomeProduct_55 hn21 ?_
      refine v_lload F dX2_becomeProduct_56 5 rfl ?_
      refine v_lload F dX2_becomeProduct_58 1 rfl ?_
      obtain ⟨hn22, hw⟩ := hw
      refine v_ldiv F dX2_becomeProduct_60 hn22 ?_
      refine v_ldc2 (v := 1000000000000000) F wd_594 dX2_becomeProduct_61 ?_
      refine v_calli (r_S F ls_X2_26 (sX2_reaches hw) (mkRm hR rfl rfl rfl rfl rfl rfl) rfl rfl (Nat.le_of_ble_eq_true rfl) dX2_becomeProduct_64) (fun r23 G24 hw => ?_)
      refine v_if_eq (tgt := 74) F dX2_becomeProduct_67 (by decide) (fun h => ?_) (fun h => ?_)
      · rw [if_pos h] at hw
        refine v_iconst (v := 0) F dX2_becomeProduct_74 (by decide) ?_
        exact v_loc [3, 4, 5, 1, 0] rfl (sbX2_becomeProduct_75 hR F  hw)
      · rw [if_neg h] at hw
        exact v_loc [3, 4, 5, 1, 0] rfl (sbX2_becomeProduct_70 hR F  hw)
set_option maxRecDepth 100000 in
theorem sbX2_add_87 {X : Cx} {D : Dx} (hR : X.2.2.2.1 = rmX2_add) (F : Fx X D cX2_add 14 RX2 none "add") {Q : Wd → Prop} {v0 : Nat} {G : Wd} (hw : wpX2_add_87 Q  v0 G) : V X D 14 (ZM X D (QMv D Q) 0 0) G 0 0 87 [(0, .ref v0)] [] := by
  unfold wpX2_add_87 at hw
  refine v_aload_n F dX2_add_87 rfl 0 rfl ?_
  refine v_iconst (v := 1) F dX2_add_88 (by decide) ?_
  refine v_lconst (v := 0) F dX2_add_89 rfl ?_
  refine v_lconst (v := 1) F dX2_add_90 rfl ?_
  obtain ⟨hk1, hw⟩ := hw
  refine v_callv (r_V F lk_X2_30 hk1 (sX2_settle hw) (mkRm hR rfl rfl rfl rfl rfl rfl) rfl rfl (Nat.le_of_ble_eq_true rfl) dX2_add_91) (fun G3 hw => ?_)
  refine v_widen (c' := 0) (s' := 0) (by decide) (by decide) ?_
  exact v_vret F hw dX2_add_94
set_option maxRecDepth 100000 in
theorem sbX2_add_166 {X : Cx} {D : Dx} (hR : X.2.2.2.1 = rmX2_add) (F : Fx X D cX2_add 14 RX2 none "add") {Q : Wd → Prop} {v8 : Int64} {v10 : Int64} {v12 : Int64} {s0 : Nat} {s1 : Int32} {G : Wd} (hw : wpX2_add_166 Q  v8 v10 v12 s0 s1 G) : V X D 14 (ZM X D (QMv D Q) 0 0) G 0 0 166 [(8, .long v8), (10, .long v10), (12, .long v12)] [.int s1, .ref s0] := by
  unfold wpX2_add_166 at hw
  refine v_lload F dX2_add_166 0 rfl ?_
  refine v_lload F dX2_add_168 2 rfl ?_
  obtain ⟨hn4, hw⟩ := hw
  refine v_ldiv F dX2_add_170 hn4 ?_
  refine v_lload F dX2_add_171 1 rfl ?_
  refine v_lload F dX2_add_173 2 rfl ?_
  obtain ⟨hn5, hw⟩ := hw
  refine v_ldiv F dX2_add_175 hn5 ?_
  obtain ⟨hk6, hw⟩ := hw
  refine v_callv (r_V F lk_X2_30 hk6 (sX2_settle hw) (mkRm hR rfl rfl rfl rfl rfl rfl) rfl rfl (Nat.le_of_ble_eq_true rfl) dX2_add_176) (fun G8 hw => ?_)
  refine v_widen (c' := 0) (s' := 0) (by decide) (by decide) ?_
  exact v_vret F hw dX2_add_179
set_option maxRecDepth 100000 in
theorem sbX2_add_161 {X : Cx} {D : Dx} (hR : X.2.2.2.1 = rmX2_add) (F : Fx X D cX2_add 14 RX2 none "add") {Q : Wd → Prop} {v8 : Int64} {v10 : Int64} {v12 : Int64} {s0 : Nat} {G : Wd} (hw : wpX2_add_161 Q  v8 v10 v12 s0 G) : V X D 14 (ZM X D (QMv D Q) 0 0) G 0 0 161 [(8, .long v8), (10, .long v10), (12, .long v12)] [.ref s0] := by
  unfold wpX2_add_161 at hw
  refine v_iconst (v := 1) F dX2_add_161 (by decide) ?_
  refine v_goto (tgt := 166) F dX2_add_162 (by decide) ?_
  exact v_loc [0, 1, 2] rfl (sbX2_add_166 hR F  hw)
set_option maxRecDepth 100000 in
theorem sX2_add {l : Launch} {D : Dx} {a0 : Nat} {a1 : Nat} {G : Wd} {Q : Wd → Prop} (hw : wpX2_add a0 a1 G Q) : Met l yX2_add (wM yX2_add cX2_add 14 none) rmX2_add (PM D [.ref a0, .ref a1] G) (QMv D Q) 0 0 (Ab D) := by
  refine v_met (by decide) (Nat.le_of_ble_eq_true rfl) (fun X hl hR F => ?_)
  subst hl
  have F : Fx X D cX2_add 14 RX2 none "add" := F
  refine v_cast (L' := [(0, .ref a0), (1, .ref a1)]) rfl rfl ?_
  unfold wpX2_add at hw
  refine v_aload_n F dX2_add_0 rfl 0 rfl ?_
  obtain ⟨hk9, hw⟩ := hw
  refine v_get F fl_X2_7 hk9 rfl dX2_add_1 ?_
  refine v_aload_n F dX2_add_4 rfl 1 rfl ?_
  obtain ⟨hk10, hw⟩ := hw
  refine v_get F fl_X2_7 hk10 rfl dX2_add_5 ?_
  refine v_calll (r_S F ls_X2_13 (sX2_commonDivisor hw) (mkRm hR rfl rfl rfl rfl rfl rfl) rfl rfl (Nat.le_of_ble_eq_true rfl) dX2_add_8) (fun r11 G12 hw => ?_)
  refine v_lstore_n (L' := [(2, .long r11), (0, .ref a0), (1, .ref a1)]) F dX2_add_11 rfl (by decide) rfl ?_
  refine v_aload_n F dX2_add_12 rfl 2 rfl ?_
  obtain ⟨hk13, hw⟩ := hw
  refine v_get F fl_X2_7 hk13 rfl dX2_add_13 ?_
  refine v_lload_n F dX2_add_16 rfl 0 rfl ?_
  obtain ⟨hn14, hw⟩ := hw
  refine v_ldiv F dX2_add_17 hn14 ?_
  refine v_topl (fun x15 hx15 => ?_)
  have hw := hw x15 hx15
  refine v_lstore (L' := [(4, .long x15), (2, .long r11), (0, .ref a0), (1, .ref a1)]) F dX2_add_18 (by decide) rfl ?_
  refine v_aload_n F dX2_add_20 rfl 2 rfl ?_
  obtain ⟨hk16, hw⟩ := hw
  refine v_get F fl_X2_7 hk16 rfl dX2_add_21 ?_
  refine v_lload_n F dX2_add_24 rfl 1 rfl ?_
  obtain ⟨hn17, hw⟩ := hw
  refine v_ldiv F dX2_add_25 hn17 ?_
  refine v_topl (fun x18 hx18 => ?_)
  have hw := hw x18 hx18
  refine v_lstore (L' := [(6, .long x18), (4, .long x15), (2, .long r11), (0, .ref a0), (1, .ref a1)]) F dX2_add_26 (by decide) rfl ?_
  refine v_aload_n F dX2_add_28 rfl 3 rfl ?_
  refine v_get F fl_X2_17 hk16 rfl dX2_add_29 ?_
  refine v_if_ne (tgt := 87) F dX2_add_32 (by decide) (fun h => ?_) (fun h => ?_)
  · rw [if_neg h] at hw
    exact v_loc [3] rfl (sbX2_add_87 hR F  hw)
  · rw [if_pos h] at hw
    refine v_aload_n F dX2_add_35 rfl 4 rfl ?_
    refine v_get F fl_X2_17 hk13 rfl dX2_add_36 ?_
    refine v_if_ne (tgt := 87) F dX2_add_39 (by decide) (fun h => ?_) (fun h => ?_)
    · rw [if_neg h] at hw
      exact v_loc [3] rfl (sbX2_add_87 hR F  hw)
    · rw [if_pos h] at hw
      refine v_aload_n F dX2_add_42 rfl 3 rfl ?_
      refine v_get F fl_X2_21 hk16 rfl dX2_add_43 ?_
      refine v_lload F dX2_add_46 1 rfl ?_
      refine v_ldc2 (v := 1000000000000000000) F wd_802 dX2_add_48 ?_
      refine v_calli (r_S F ls_X2_26 (sX2_reaches hw) (mkRm hR rfl rfl rfl rfl rfl rfl) rfl rfl (Nat.le_of_ble_eq_true rfl) dX2_add_51) (fun r19 G20 hw => ?_)
      refine v_if_ne (tgt := 87) F dX2_add_54 (by decide) (fun h => ?_) (fun h => ?_)
      · rw [if_neg h] at hw
        exact v_loc [3] rfl (sbX2_add_87 hR F  hw)
      · rw [if_pos h] at hw
        refine v_aload_n F dX2_add_57 rfl 4 rfl ?_
        obtain ⟨hk21, hw⟩ := hw
        refine v_get F fl_X2_21 hk21 rfl dX2_add_58 ?_
        refine v_lload F dX2_add_61 0 rfl ?_
        refine v_ldc2 (v := 1000000000000000000) F wd_802 dX2_add_63 ?_
        refine v_calli (r_S F ls_X2_26 (sX2_reaches hw) (mkRm hR rfl rfl rfl rfl rfl rfl) rfl rfl (Nat.le_of_ble_eq_true rfl) dX2_add_66) (fun r22 G23 hw => ?_)
        refine v_if_ne (tgt := 87) F dX2_add_69 (by decide) (fun h => ?_) (fun h => ?_)
        · rw [if_neg h] at hw
          exact v_loc [3] rfl (sbX2_add_87 hR F  hw)
        · rw [if_pos h] at hw
          refine v_aload_n F dX2_add_72 rfl 3 rfl ?_
          obtain ⟨hk24, hw⟩ := hw
          refine v_get F fl_X2_7 hk24 rfl dX2_add_73 ?_
          refine v_lload F dX2_add_76 1 rfl ?_
          refine v_ldc2 (v := 1000000000000000000) F wd_802 dX2_add_78 ?_
          refine v_calli (r_S F ls_X2_26 (sX2_reaches hw) (mkRm hR rfl rfl rfl rfl rfl rfl) rfl rfl (Nat.le_of_ble_eq_true rfl) dX2_add_81) (fun r25 G26 hw => ?_)
          refine v_if_eq (tgt := 95) F dX2_add_84 (by decide) (fun h => ?_) (fun h => ?_)
          · rw [if_pos h] at hw
            refine v_aload_n F dX2_add_95 rfl 3 rfl ?_
            obtain ⟨hk27, hw⟩ := hw
            refine v_get F fl_X2_21 hk27 rfl dX2_add_96 ?_
            refine v_lload F dX2_add_99 1 rfl ?_
            refine v_lmul F dX2_add_101 ?_
            refine v_aload_n F dX2_add_102 rfl 4 rfl ?_
            obtain ⟨hk28, hw⟩ := hw
            refine v_get F fl_X2_21 hk28 rfl dX2_add_103 ?_
            refine v_lload F dX2_add_106 0 rfl ?_
            refine v_lmul F dX2_add_108 ?_
            refine v_ladd F dX2_add_109 ?_
            refine v_topl (fun x29 hx29 => ?_)
            have hw := hw x29 hx29
            refine v_lstore (L' := [(8, .long x29), (6, .long x18), (4, .long x15), (2, .long r11), (0, .ref a0), (1, .ref a1)]) F dX2_add_110 (by decide) rfl ?_
            refine v_aload_n F dX2_add_112 rfl 4 rfl ?_
            refine v_get F fl_X2_7 hk27 rfl dX2_add_113 ?_
            refine v_lload F dX2_add_116 2 rfl ?_
            refine v_lmul F dX2_add_118 ?_
            refine v_topl (fun x30 hx30 => ?_)
            have hw := hw x30 hx30
            refine v_lstore (L' := [(10, .long x30), (8, .long x29), (6, .long x18), (4, .long x15), (2, .long r11), (0, .ref a0), (1, .ref a1)]) F dX2_add_119 (by decide) rfl ?_
            refine v_lload F dX2_add_121 1 rfl ?_
            refine v_lload F dX2_add_123 0 rfl ?_
            refine v_calll (r_S F ls_X2_13 (sX2_commonDivisor hw) (mkRm hR rfl rfl rfl rfl rfl rfl) rfl rfl (Nat.le_of_ble_eq_true rfl) dX2_add_125) (fun r31 G32 hw => ?_)
            refine v_lstore (L' := [(12, .long r31), (10, .long x30), (8, .long x29), (6, .long x18), (4, .long x15), (2, .long r11), (0, .ref a0), (1, .ref a1)]) F dX2_add_128 (by decide) rfl ?_
            refine v_aload_n F dX2_add_130 rfl 6 rfl ?_
            refine v_lload F dX2_add_131 2 rfl ?_
            refine v_lload F dX2_add_133 0 rfl ?_
            obtain ⟨hn33, hw⟩ := hw
            refine v_ldiv F dX2_add_135 hn33 ?_
            refine v_lconst (v := 1) F dX2_add_136 rfl ?_
            refine v_ldc2 (v := 1000000000000000) F wd_594 dX2_add_137 ?_
            refine v_calli (r_S F ls_X2_26 (sX2_reaches hw) (mkRm hR rfl rfl rfl rfl rfl rfl) rfl rfl (Nat.le_of_ble_eq_true rfl) dX2_add_140) (fun r34 G35 hw => ?_)
            refine v_if_ne (tgt := 161) F dX2_add_143 (by decide) (fun h => ?_) (fun h => ?_)
            · rw [if_neg h] at hw
              exact v_loc [2, 1, 0] rfl (sbX2_add_161 hR F  hw)
            · rw [if_pos h] at hw
              refine v_lload F dX2_add_146 1 rfl ?_
              refine v_lload F dX2_add_148 0 rfl ?_
              obtain ⟨hn36, hw⟩ := hw
              refine v_ldiv F dX2_add_150 hn36 ?_
              refine v_lconst (v := 1) F dX2_add_151 rfl ?_
              refine v_ldc2 (v := 1000000000000000) F wd_594 dX2_add_152 ?_
              refine v_calli (r_S F ls_X2_26 (sX2_reaches hw) (mkRm hR rfl rfl rfl rfl rfl rfl) rfl rfl (Nat.le_of_ble_eq_true rfl) dX2_add_155) (fun r37 G38 hw => ?_)
              refine v_if_eq (tgt := 165) F dX2_add_158 (by decide) (fun h => ?_) (fun h => ?_)
              · rw [if_pos h] at hw
                refine v_iconst (v := 0) F dX2_add_165 (by decide) ?_
                exact v_loc [2, 1, 0] rfl (sbX2_add_166 hR F  hw)
              · rw [if_neg h] at hw
                exact v_loc [2, 1, 0] rfl (sbX2_add_161 hR F  hw)
          · rw [if_neg h] at hw
            exact v_loc [3] rfl (sbX2_add_87 hR F  hw)
set_option maxRecDepth 100000 in
theorem sX2_isAboveOne {l : Launch} {D : Dx} {a0 : Nat} {G : Wd} {Q : Int32 → Wd → Prop} (hw : wpX2_isAboveOne a0 G Q) : Met l yX2_isAboveOne (wM yX2_isAboveOne cX2_isAboveOne 1 (some .boolean)) rmX2_isAboveOne (PM D [.ref a0] G) (QMi D Q) 0 0 (Ab D) := by
  refine v_met (by decide) (Nat.le_of_ble_eq_true rfl) (fun X hl hR F => ?_)
  subst hl
  have F : Fx X D cX2_isAboveOne 1 RX2 (some .boolean) "isAboveOne" := F
  refine v_cast (L' := [(0, .ref a0)]) rfl rfl ?_
  unfold wpX2_isAboveOne at hw
  refine v_aload_n F dX2_isAboveOne_0 rfl 0 rfl ?_
  obtain ⟨hk1, hw⟩ := hw
  refine v_get F fl_X2_17 hk1 rfl dX2_isAboveOne_1 ?_
  refine v_if_ne (tgt := 23) F dX2_isAboveOne_4 (by decide) (fun h => ?_) (fun h => ?_)
  · rw [if_neg h] at hw
    refine v_iconst (v := 0) F dX2_isAboveOne_23 (by decide) ?_
    exact v_zret F (Or.inl rfl) hw dX2_isAboveOne_24
  · rw [if_pos h] at hw
    refine v_aload_n F dX2_isAboveOne_7 rfl 0 rfl ?_
    refine v_get F fl_X2_21 hk1 rfl dX2_isAboveOne_8 ?_
    refine v_aload_n F dX2_isAboveOne_11 rfl 0 rfl ?_
    refine v_get F fl_X2_7 hk1 rfl dX2_isAboveOne_12 ?_
    refine v_lcmp F dX2_isAboveOne_15 ?_
    refine v_lif_le (tgt := 23) F dX2_isAboveOne_16 (by decide) (fun h => ?_) (fun h => ?_)
    · rw [if_neg h] at hw
      refine v_iconst (v := 0) F dX2_isAboveOne_23 (by decide) ?_
      exact v_zret F (Or.inl rfl) hw dX2_isAboveOne_24
    · rw [if_pos h] at hw
      refine v_iconst (v := 1) F dX2_isAboveOne_19 (by decide) ?_
      refine v_goto (tgt := 24) F dX2_isAboveOne_20 (by decide) ?_
      exact v_zret F (Or.inr rfl) hw dX2_isAboveOne_24
set_option maxRecDepth 100000 in
theorem sbX2_isLess_106 {X : Cx} {D : Dx} (hR : X.2.2.2.1 = rmX2_isLess) (F : Fx X D cX2_isLess 15 RX2 (some .boolean) "isLess") {Q : Int32 → Wd → Prop} {v11 : Int64} {v13 : Int64} {G : Wd} (hw : wpX2_isLess_106 Q  v11 v13 G) : V X D 15 (ZM X D (QMi D Q) 0 0) G 0 0 106 [(11, .long v11), (13, .long v13)] [] := by
  unfold wpX2_isLess_106 at hw
  refine v_lload F dX2_isLess_106 0 rfl ?_
  refine v_lload F dX2_isLess_108 1 rfl ?_
  refine v_lcmp F dX2_isLess_110 ?_
  refine v_lif_ge (tgt := 118) F dX2_isLess_111 (by decide) (fun h => ?_) (fun h => ?_)
  · rw [if_neg h] at hw
    refine v_iconst (v := 0) F dX2_isLess_118 (by decide) ?_
    exact v_zret F (Or.inl rfl) hw dX2_isLess_119
  · rw [if_pos h] at hw
    refine v_iconst (v := 1) F dX2_isLess_114 (by decide) ?_
    refine v_goto (tgt := 119) F dX2_isLess_115 (by decide) ?_
    exact v_zret F (Or.inr rfl) hw dX2_isLess_119
set_option maxRecDepth 100000 in
theorem sbX2_isLess_26 {X : Cx} {D : Dx} (hR : X.2.2.2.1 = rmX2_isLess) (F : Fx X D cX2_isLess 15 RX2 (some .boolean) "isLess") {Q : Int32 → Wd → Prop} : ∀ (n : Nat) (v2 : Int64) (v4 : Int64) (v6 : Int64) (v8 : Int64) (v10 : Int32) (G : Wd), wpX2_isLess_26 Q  n v2 v4 v6 v8 v10 G → V X D 15 (ZM X D (QMi D Q) 0 0) G 0 0 26 [(2, .long v2), (4, .long v4), (6, .long v6), (8, .long v8), (10, .int v10)] [] := by
  intro n
  induction n with
  | zero => intro v2 v4 v6 v8 v10 G hw; exact hw.elim
  | succ n ih =>
    intro v2 v4 v6 v8 v10 G hw
    simp only [wpX2_isLess_26] at hw
    refine v_iload F dX2_isLess_26 4 rfl ?_
    refine v_bipush (v := 100) F dX2_isLess_28 (by decide) ?_
    refine v_icmp_ge (tgt := 141) F dX2_isLess_30 (by decide) (fun h => ?_) (fun h => ?_)
    · rw [if_pos h] at hw
      refine v_iconst (v := 0) F dX2_isLess_141 (by decide) ?_
      exact v_zret F (Or.inl rfl) hw dX2_isLess_142
    · rw [if_neg h] at hw
      refine v_lload F dX2_isLess_33 1 rfl ?_
      refine v_lconst (v := 0) F dX2_isLess_35 rfl ?_
      refine v_lcmp F dX2_isLess_36 ?_
      refine v_lif_le (tgt := 141) F dX2_isLess_37 (by decide) (fun h => ?_) (fun h => ?_)
      · rw [if_neg h] at hw
        refine v_iconst (v := 0) F dX2_isLess_141 (by decide) ?_
        exact v_zret F (Or.inl rfl) hw dX2_isLess_142
      · rw [if_pos h] at hw
        refine v_lload F dX2_isLess_40 3 rfl ?_
        refine v_lconst (v := 0) F dX2_isLess_42 rfl ?_
        refine v_lcmp F dX2_isLess_43 ?_
        refine v_lif_le (tgt := 141) F dX2_isLess_44 (by decide) (fun h => ?_) (fun h => ?_)
        · rw [if_neg h] at hw
          refine v_iconst (v := 0) F dX2_isLess_141 (by decide) ?_
          exact v_zret F (Or.inl rfl) hw dX2_isLess_142
        · rw [if_pos h] at hw
          refine v_lload_n F dX2_isLess_47 rfl 0 rfl ?_
          refine v_lload F dX2_isLess_48 1 rfl ?_
          obtain ⟨hn1, hw⟩ := hw
          refine v_ldiv F dX2_isLess_50 hn1 ?_
          refine v_lload F dX2_isLess_51 2 rfl ?_
          refine v_lload F dX2_isLess_53 3 rfl ?_
          obtain ⟨hn2, hw⟩ := hw
          refine v_ldiv F dX2_isLess_55 hn2 ?_
          refine v_lcmp F dX2_isLess_56 ?_
          refine v_lif_eq (tgt := 79) F dX2_isLess_57 (by decide) (fun h => ?_) (fun h => ?_)
          · rw [if_pos h] at hw
            refine v_lload_n F dX2_isLess_79 rfl 0 rfl ?_
            refine v_lload F dX2_isLess_80 1 rfl ?_
            obtain ⟨hn3, hw⟩ := hw
            refine v_lremE F dX2_isLess_82 hn3 ?_
            refine v_topl (fun x4 hx4 => ?_)
            have hw := hw x4 hx4
            refine v_lstore (L' := [(11, .long x4), (2, .long v2), (4, .long v4), (6, .long v6), (8, .long v8), (10, .int v10)]) F dX2_isLess_83 (by decide) rfl ?_
            refine v_lload F dX2_isLess_85 3 rfl ?_
            refine v_lload F dX2_isLess_87 4 rfl ?_
            obtain ⟨hn5, hw⟩ := hw
            refine v_lremE F dX2_isLess_89 hn5 ?_
            refine v_topl (fun x6 hx6 => ?_)
            have hw := hw x6 hx6
            refine v_lstore (L' := [(13, .long x6), (11, .long x4), (2, .long v2), (4, .long v4), (6, .long v6), (8, .long v8), (10, .int v10)]) F dX2_isLess_90 (by decide) rfl ?_
            refine v_lload F dX2_isLess_92 1 rfl ?_
            refine v_lconst (v := 0) F dX2_isLess_94 rfl ?_
            refine v_lcmp F dX2_isLess_95 ?_
            refine v_lif_eq (tgt := 106) F dX2_isLess_96 (by decide) (fun h => ?_) (fun h => ?_)
            · rw [if_pos h] at hw
              exact v_loc [1, 0] rfl (sbX2_isLess_106 hR F  hw)
            · rw [if_neg h] at hw
              refine v_lload F dX2_isLess_99 0 rfl ?_
              refine v_lconst (v := 0) F dX2_isLess_101 rfl ?_
              refine v_lcmp F dX2_isLess_102 ?_
              refine v_lif_ne (tgt := 120) F dX2_isLess_103 (by decide) (fun h => ?_) (fun h => ?_)
              · rw [if_neg h] at hw
                refine v_lload F dX2_isLess_120 5 rfl ?_
                refine v_lstore_n (L' := [(2, .long v8), (13, .long x6), (11, .long x4), (4, .long v4), (6, .long v6), (8, .long v8), (10, .int v10)]) F dX2_isLess_122 rfl (by decide) rfl ?_
                refine v_lload F dX2_isLess_123 3 rfl ?_
                refine v_lstore (L' := [(6, .long v4), (2, .long v8), (13, .long x6), (11, .long x4), (4, .long v4), (8, .long v8), (10, .int v10)]) F dX2_isLess_125 (by decide) rfl ?_
                refine v_lload F dX2_isLess_127 2 rfl ?_
                refine v_lstore (L' := [(4, .long x6), (6, .long v4), (2, .long v8), (13, .long x6), (11, .long x4), (8, .long v8), (10, .int v10)]) F dX2_isLess_129 (by decide) rfl ?_
                refine v_lload F dX2_isLess_131 4 rfl ?_
                refine v_lstore (L' := [(8, .long x4), (4, .long x6), (6, .long v4), (2, .long v8), (13, .long x6), (11, .long x4), (10, .int v10)]) F dX2_isLess_133 (by decide) rfl ?_
                refine v_iincN (c := 1) F dX2_isLess_135 6 rfl (by decide) (by decide) (fun x7 hx7 => ?_)
                refine v_cast (L' := [(10, .int x7), (8, .long x4), (4, .long x6), (6, .long v4), (2, .long v8), (13, .long x6), (11, .long x4)]) rfl rfl ?_
                have hw := hw x7 hx7
                refine v_goto (tgt := 26) F dX2_isLess_138 (by decide) ?_
                exact v_loc [4, 2, 3, 1, 0] rfl (ih _ _ _ _ _ _ hw)
              · rw [if_pos h] at hw
                exact v_loc [1, 0] rfl (sbX2_isLess_106 hR F  hw)
          · rw [if_neg h] at hw
            refine v_lload_n F dX2_isLess_60 rfl 0 rfl ?_
            refine v_lload F dX2_isLess_61 1 rfl ?_
            obtain ⟨hn8, hw⟩ := hw
            refine v_ldiv F dX2_isLess_63 hn8 ?_
            refine v_lload F dX2_isLess_64 2 rfl ?_
            refine v_lload F dX2_isLess_66 3 rfl ?_
            obtain ⟨hn9, hw⟩ := hw
            refine v_ldiv F dX2_isLess_68 hn9 ?_
            refine v_lcmp F dX2_isLess_69 ?_
            refine v_lif_ge (tgt := 77) F dX2_isLess_70 (by decide) (fun h => ?_) (fun h => ?_)
            · rw [if_neg h] at hw
              refine v_iconst (v := 0) F dX2_isLess_77 (by decide) ?_
              exact v_zret F (Or.inl rfl) hw dX2_isLess_78
            · rw [if_pos h] at hw
              refine v_iconst (v := 1) F dX2_isLess_73 (by decide) ?_
              refine v_goto (tgt := 78) F dX2_isLess_74 (by decide) ?_
              exact v_zret F (Or.inr rfl) hw dX2_isLess_78
set_option maxRecDepth 100000 in
theorem sX2_isLess {l : Launch} {D : Dx} {a0 : Nat} {a1 : Nat} {G : Wd} {Q : Int32 → Wd → Prop} (hw : wpX2_isLess a0 a1 G Q) : Met l yX2_isLess (wM yX2_isLess cX2_isLess 15 (some .boolean)) rmX2_isLess (PM D [.ref a0, .ref a1] G) (QMi D Q) 0 0 (Ab D) := by
  refine v_met (by decide) (Nat.le_of_ble_eq_true rfl) (fun X hl hR F => ?_)
  subst hl
  have F : Fx X D cX2_isLess 15 RX2 (some .boolean) "isLess" := F
  refine v_cast (L' := [(0, .ref a0), (1, .ref a1)]) rfl rfl ?_
  unfold wpX2_isLess at hw
  refine v_aload_n F dX2_isLess_0 rfl 0 rfl ?_
  obtain ⟨hk10, hw⟩ := hw
  refine v_get F fl_X2_21 hk10 rfl dX2_isLess_1 ?_
  refine v_topl (fun x11 hx11 => ?_)
  have hw := hw x11 hx11
  refine v_lstore_n (L' := [(2, .long x11), (0, .ref a0), (1, .ref a1)]) F dX2_isLess_4 rfl (by decide) rfl ?_
  refine v_aload_n F dX2_isLess_5 rfl 1 rfl ?_
  refine v_get F fl_X2_7 hk10 rfl dX2_isLess_6 ?_
  refine v_topl (fun x12 hx12 => ?_)
  have hw := hw x12 hx12
  refine v_lstore (L' := [(4, .long x12), (2, .long x11), (0, .ref a0), (1, .ref a1)]) F dX2_isLess_9 (by decide) rfl ?_
  refine v_aload_n F dX2_isLess_11 rfl 3 rfl ?_
  obtain ⟨hk13, hw⟩ := hw
  refine v_get F fl_X2_21 hk13 rfl dX2_isLess_12 ?_
  refine v_topl (fun x14 hx14 => ?_)
  have hw := hw x14 hx14
  refine v_lstore (L' := [(6, .long x14), (4, .long x12), (2, .long x11), (0, .ref a0), (1, .ref a1)]) F dX2_isLess_15 (by decide) rfl ?_
  refine v_aload_n F dX2_isLess_17 rfl 4 rfl ?_
  refine v_get F fl_X2_7 hk13 rfl dX2_isLess_18 ?_
  refine v_topl (fun x15 hx15 => ?_)
  have hw := hw x15 hx15
  refine v_lstore (L' := [(8, .long x15), (6, .long x14), (4, .long x12), (2, .long x11), (0, .ref a0), (1, .ref a1)]) F dX2_isLess_21 (by decide) rfl ?_
  refine v_iconst (v := 0) F dX2_isLess_23 (by decide) ?_
  refine v_istore (L' := [(10, .int 0), (8, .long x15), (6, .long x14), (4, .long x12), (2, .long x11), (0, .ref a0), (1, .ref a1)]) F dX2_isLess_24 (by decide) rfl ?_
  obtain ⟨n, hw⟩ := hw
  exact v_loc [4, 3, 2, 1, 0] rfl (sbX2_isLess_26 hR F  n _ _ _ _ _ _ hw)
set_option maxRecDepth 100000 in
theorem sX2_floor {l : Launch} {D : Dx} {a0 : Nat} {G : Wd} {Q : Int64 → Wd → Prop} (hw : wpX2_floor a0 G Q) : Met l yX2_floor (wM yX2_floor cX2_floor 1 (some .long)) rmX2_floor (PM D [.ref a0] G) (QMl D Q) 0 0 (Ab D) := by
  refine v_met (by decide) (Nat.le_of_ble_eq_true rfl) (fun X hl hR F => ?_)
  subst hl
  have F : Fx X D cX2_floor 1 RX2 (some .long) "floor" := F
  refine v_cast (L' := [(0, .ref a0)]) rfl rfl ?_
  unfold wpX2_floor at hw
  refine v_aload_n F dX2_floor_0 rfl 0 rfl ?_
  obtain ⟨hk1, hw⟩ := hw
  refine v_get F fl_X2_7 hk1 rfl dX2_floor_1 ?_
  refine v_lconst (v := 0) F dX2_floor_4 rfl ?_
  refine v_lcmp F dX2_floor_5 ?_
  refine v_lif_le (tgt := 23) F dX2_floor_6 (by decide) (fun h => ?_) (fun h => ?_)
  · rw [if_neg h] at hw
    refine v_lconst (v := 0) F dX2_floor_23 rfl ?_
    exact v_lret F hw dX2_floor_24
  · rw [if_pos h] at hw
    refine v_aload_n F dX2_floor_9 rfl 0 rfl ?_
    refine v_get F fl_X2_21 hk1 rfl dX2_floor_10 ?_
    refine v_aload_n F dX2_floor_13 rfl 0 rfl ?_
    refine v_get F fl_X2_7 hk1 rfl dX2_floor_14 ?_
    refine v_calll (r_S F ls_X2_36 (sJ9_floorDiv_f86c9 hw) (mkRm hR rfl rfl rfl rfl rfl rfl) rfl rfl (Nat.le_of_ble_eq_true rfl) dX2_floor_17) (fun r2 G3 hw => ?_)
    refine v_goto (tgt := 24) F dX2_floor_20 (by decide) ?_
    refine v_widen (c' := 0) (s' := 0) (by decide) (by decide) ?_
    exact v_lret F hw dX2_floor_24
set_option maxRecDepth 100000 in
theorem sX2_ceiling {l : Launch} {D : Dx} {a0 : Nat} {G : Wd} {Q : Int64 → Wd → Prop} (hw : wpX2_ceiling a0 G Q) : Met l yX2_ceiling (wM yX2_ceiling cX2_ceiling 1 (some .long)) rmX2_ceiling (PM D [.ref a0] G) (QMl D Q) 0 0 (Ab D) := by
  refine v_met (by decide) (Nat.le_of_ble_eq_true rfl) (fun X hl hR F => ?_)
  subst hl
  have F : Fx X D cX2_ceiling 1 RX2 (some .long) "ceiling" := F
  refine v_cast (L' := [(0, .ref a0)]) rfl rfl ?_
  unfold wpX2_ceiling at hw
  refine v_aload_n F dX2_ceiling_0 rfl 0 rfl ?_
  obtain ⟨hk1, hw⟩ := hw
  refine v_get F fl_X2_7 hk1 rfl dX2_ceiling_1 ?_
  refine v_lconst (v := 0) F dX2_ceiling_4 rfl ?_
  refine v_lcmp F dX2_ceiling_5 ?_
  refine v_lif_le (tgt := 25) F dX2_ceiling_6 (by decide) (fun h => ?_) (fun h => ?_)
  · rw [if_neg h] at hw
    refine v_lconst (v := 0) F dX2_ceiling_25 rfl ?_
    exact v_lret F hw dX2_ceiling_26
  · rw [if_pos h] at hw
    refine v_aload_n F dX2_ceiling_9 rfl 0 rfl ?_
    refine v_get F fl_X2_21 hk1 rfl dX2_ceiling_10 ?_
    refine v_lneg F dX2_ceiling_13 ?_
    refine v_aload_n F dX2_ceiling_14 rfl 0 rfl ?_
    refine v_get F fl_X2_7 hk1 rfl dX2_ceiling_15 ?_
    refine v_calll (r_S F ls_X2_36 (sJ9_floorDiv_f86c9 hw) (mkRm hR rfl rfl rfl rfl rfl rfl) rfl rfl (Nat.le_of_ble_eq_true rfl) dX2_ceiling_18) (fun r2 G3 hw => ?_)
    refine v_lneg F dX2_ceiling_21 ?_
    refine v_goto (tgt := 26) F dX2_ceiling_22 (by decide) ?_
    refine v_widen (c' := 0) (s' := 0) (by decide) (by decide) ?_
    exact v_lret F hw dX2_ceiling_26
end
