section
-- ===== PART A: goes FIRST, ahead of the names: the tables' words, and 'selects' of the private methods out of them =====
/-- a private method of a class that the tables say can be made, by its rows of tables_1 -/
def lw_okq (q : MethodName × Nat) : Prop := (q.1.cls ≠ "java/lang/invoke/MethodHandle" ∧ q.1.cls ≠ "java/lang/invoke/VarHandle") ∧ Cond.instantiable q.1.cls q.2 ∈ tables_1 ∧ Cond.privateMethod q.1 ∈ tables_1 ∧ Cond.instanceMethod q.1 ∈ tables_1
theorem lw_p0 : lw_okq (⟨"PegLaws$Reader", "begin", "()V"⟩, 10) := ⟨⟨by decide +kernel, by decide +kernel⟩, List.mem_of_getElem? (i := 35) (by decide +kernel), List.mem_of_getElem? (i := 460) (by decide +kernel), List.mem_of_getElem? (i := 461) (by decide +kernel)⟩
theorem lw_p1 : lw_okq (⟨"PegLaws$Reader", "next", "()V"⟩, 10) := ⟨⟨by decide +kernel, by decide +kernel⟩, List.mem_of_getElem? (i := 35) (by decide +kernel), List.mem_of_getElem? (i := 464) (by decide +kernel), List.mem_of_getElem? (i := 465) (by decide +kernel)⟩
theorem lw_p2 : lw_okq (⟨"PegLaws$Reader", "sortOf", "(II)I"⟩, 10) := ⟨⟨by decide +kernel, by decide +kernel⟩, List.mem_of_getElem? (i := 35) (by decide +kernel), List.mem_of_getElem? (i := 533) (by decide +kernel), List.mem_of_getElem? (i := 534) (by decide +kernel)⟩
theorem lw_p3 : lw_okq (⟨"PegLaws$Reader", "readTold", "(LPegLaws$Line;)V"⟩, 10) := ⟨⟨by decide +kernel, by decide +kernel⟩, List.mem_of_getElem? (i := 35) (by decide +kernel), List.mem_of_getElem? (i := 593) (by decide +kernel), List.mem_of_getElem? (i := 594) (by decide +kernel)⟩
theorem lw_p4 : lw_okq (⟨"PegLaws$Reader", "readCloth", "(LPegLaws$Line;)V"⟩, 10) := ⟨⟨by decide +kernel, by decide +kernel⟩, List.mem_of_getElem? (i := 35) (by decide +kernel), List.mem_of_getElem? (i := 597) (by decide +kernel), List.mem_of_getElem? (i := 598) (by decide +kernel)⟩
theorem lw_p5 : lw_okq (⟨"PegLaws$Reader", "fail", "(I)V"⟩, 10) := ⟨⟨by decide +kernel, by decide +kernel⟩, List.mem_of_getElem? (i := 35) (by decide +kernel), List.mem_of_getElem? (i := 601) (by decide +kernel), List.mem_of_getElem? (i := 602) (by decide +kernel)⟩
theorem lw_p6 : lw_okq (⟨"PegLaws$Reader", "isName", "()Z"⟩, 10) := ⟨⟨by decide +kernel, by decide +kernel⟩, List.mem_of_getElem? (i := 35) (by decide +kernel), List.mem_of_getElem? (i := 605) (by decide +kernel), List.mem_of_getElem? (i := 606) (by decide +kernel)⟩
theorem lw_p7 : lw_okq (⟨"PegLaws$Reader", "readMeasure", "(III)I"⟩, 10) := ⟨⟨by decide +kernel, by decide +kernel⟩, List.mem_of_getElem? (i := 35) (by decide +kernel), List.mem_of_getElem? (i := 613) (by decide +kernel), List.mem_of_getElem? (i := 614) (by decide +kernel)⟩
theorem lw_p8 : lw_okq (⟨"PegLaws$Reader", "readNumber", "(II)I"⟩, 10) := ⟨⟨by decide +kernel, by decide +kernel⟩, List.mem_of_getElem? (i := 35) (by decide +kernel), List.mem_of_getElem? (i := 617) (by decide +kernel), List.mem_of_getElem? (i := 618) (by decide +kernel)⟩
theorem lw_p9 : lw_okq (⟨"PegLaws$Reader", "numberHere", "(II)I"⟩, 10) := ⟨⟨by decide +kernel, by decide +kernel⟩, List.mem_of_getElem? (i := 35) (by decide +kernel), List.mem_of_getElem? (i := 621) (by decide +kernel), List.mem_of_getElem? (i := 622) (by decide +kernel)⟩
theorem lw_p10 : lw_okq (⟨"PegLaws$Reader", "readClash", "(LPegLaws$Line;)V"⟩, 10) := ⟨⟨by decide +kernel, by decide +kernel⟩, List.mem_of_getElem? (i := 35) (by decide +kernel), List.mem_of_getElem? (i := 625) (by decide +kernel), List.mem_of_getElem? (i := 626) (by decide +kernel)⟩
theorem lw_p11 : lw_okq (⟨"PegLaws$Reader", "readNamed", "(LPegLaws$Line;)I"⟩, 10) := ⟨⟨by decide +kernel, by decide +kernel⟩, List.mem_of_getElem? (i := 35) (by decide +kernel), List.mem_of_getElem? (i := 629) (by decide +kernel), List.mem_of_getElem? (i := 630) (by decide +kernel)⟩
theorem lw_p12 : lw_okq (⟨"PegLaws$Reader", "namedHere", "(LPegLaws$Line;)I"⟩, 10) := ⟨⟨by decide +kernel, by decide +kernel⟩, List.mem_of_getElem? (i := 35) (by decide +kernel), List.mem_of_getElem? (i := 633) (by decide +kernel), List.mem_of_getElem? (i := 634) (by decide +kernel)⟩
theorem lw_p13 : lw_okq (⟨"PegLaws$Reader", "readOnce", "(LPegLaws$Line;I)V"⟩, 10) := ⟨⟨by decide +kernel, by decide +kernel⟩, List.mem_of_getElem? (i := 35) (by decide +kernel), List.mem_of_getElem? (i := 647) (by decide +kernel), List.mem_of_getElem? (i := 648) (by decide +kernel)⟩
theorem lw_p14 : lw_okq (⟨"PegLaws$Reader", "readRow", "([III)I"⟩, 10) := ⟨⟨by decide +kernel, by decide +kernel⟩, List.mem_of_getElem? (i := 35) (by decide +kernel), List.mem_of_getElem? (i := 651) (by decide +kernel), List.mem_of_getElem? (i := 652) (by decide +kernel)⟩
theorem lw_p15 : lw_okq (⟨"PegLaws$Reader", "readTests", "(LPegLaws$Rule;I)V"⟩, 10) := ⟨⟨by decide +kernel, by decide +kernel⟩, List.mem_of_getElem? (i := 35) (by decide +kernel), List.mem_of_getElem? (i := 656) (by decide +kernel), List.mem_of_getElem? (i := 657) (by decide +kernel)⟩
def lw_privs_1 : List (MethodName × Nat) := [(⟨"PegLaws$Reader", "begin", "()V"⟩, 10), (⟨"PegLaws$Reader", "next", "()V"⟩, 10), (⟨"PegLaws$Reader", "sortOf", "(II)I"⟩, 10), (⟨"PegLaws$Reader", "readTold", "(LPegLaws$Line;)V"⟩, 10), (⟨"PegLaws$Reader", "readCloth", "(LPegLaws$Line;)V"⟩, 10), (⟨"PegLaws$Reader", "fail", "(I)V"⟩, 10), (⟨"PegLaws$Reader", "isName", "()Z"⟩, 10), (⟨"PegLaws$Reader", "readMeasure", "(III)I"⟩, 10), (⟨"PegLaws$Reader", "readNumber", "(II)I"⟩, 10), (⟨"PegLaws$Reader", "numberHere", "(II)I"⟩, 10), (⟨"PegLaws$Reader", "readClash", "(LPegLaws$Line;)V"⟩, 10), (⟨"PegLaws$Reader", "readNamed", "(LPegLaws$Line;)I"⟩, 10), (⟨"PegLaws$Reader", "namedHere", "(LPegLaws$Line;)I"⟩, 10), (⟨"PegLaws$Reader", "readOnce", "(LPegLaws$Line;I)V"⟩, 10), (⟨"PegLaws$Reader", "readRow", "([III)I"⟩, 10), (⟨"PegLaws$Reader", "readTests", "(LPegLaws$Rule;I)V"⟩, 10)]
theorem lw_r1 : ∀ q ∈ lw_privs_1, lw_okq q := List.forall_mem_cons.mpr ⟨lw_p0, List.forall_mem_cons.mpr ⟨lw_p1, List.forall_mem_cons.mpr ⟨lw_p2, List.forall_mem_cons.mpr ⟨lw_p3, List.forall_mem_cons.mpr ⟨lw_p4, List.forall_mem_cons.mpr ⟨lw_p5, List.forall_mem_cons.mpr ⟨lw_p6, List.forall_mem_cons.mpr ⟨lw_p7, List.forall_mem_cons.mpr ⟨lw_p8, List.forall_mem_cons.mpr ⟨lw_p9, List.forall_mem_cons.mpr ⟨lw_p10, List.forall_mem_cons.mpr ⟨lw_p11, List.forall_mem_cons.mpr ⟨lw_p12, List.forall_mem_cons.mpr ⟨lw_p13, List.forall_mem_cons.mpr ⟨lw_p14, List.forall_mem_cons.mpr ⟨lw_p15, fun _ h => absurd h List.not_mem_nil⟩⟩⟩⟩⟩⟩⟩⟩⟩⟩⟩⟩⟩⟩⟩⟩
theorem lw_p16 : lw_okq (⟨"PegLaws$Reader", "readTest", "(LPegLaws$Rule;I)V"⟩, 10) := ⟨⟨by decide +kernel, by decide +kernel⟩, List.mem_of_getElem? (i := 35) (by decide +kernel), List.mem_of_getElem? (i := 660) (by decide +kernel), List.mem_of_getElem? (i := 661) (by decide +kernel)⟩
theorem lw_p17 : lw_okq (⟨"PegLaws$Reader", "readSum", "(LPegLaws$Rule;I)V"⟩, 10) := ⟨⟨by decide +kernel, by decide +kernel⟩, List.mem_of_getElem? (i := 35) (by decide +kernel), List.mem_of_getElem? (i := 664) (by decide +kernel), List.mem_of_getElem? (i := 665) (by decide +kernel)⟩
theorem lw_p18 : lw_okq (⟨"PegLaws$Reader", "readProduct", "(LPegLaws$Rule;I)V"⟩, 10) := ⟨⟨by decide +kernel, by decide +kernel⟩, List.mem_of_getElem? (i := 35) (by decide +kernel), List.mem_of_getElem? (i := 668) (by decide +kernel), List.mem_of_getElem? (i := 669) (by decide +kernel)⟩
theorem lw_p19 : lw_okq (⟨"PegLaws$Reader", "readPart", "(LPegLaws$Rule;I)V"⟩, 10) := ⟨⟨by decide +kernel, by decide +kernel⟩, List.mem_of_getElem? (i := 35) (by decide +kernel), List.mem_of_getElem? (i := 672) (by decide +kernel), List.mem_of_getElem? (i := 673) (by decide +kernel)⟩
theorem lw_p20 : lw_okq (⟨"PegLaws$Reader", "expectSign", "(I)V"⟩, 10) := ⟨⟨by decide +kernel, by decide +kernel⟩, List.mem_of_getElem? (i := 35) (by decide +kernel), List.mem_of_getElem? (i := 676) (by decide +kernel), List.mem_of_getElem? (i := 677) (by decide +kernel)⟩
theorem lw_p21 : lw_okq (⟨"PegLaws$Reader", "readDone", "(LPegLaws$Line;LPegLaws$Day;)V"⟩, 10) := ⟨⟨by decide +kernel, by decide +kernel⟩, List.mem_of_getElem? (i := 35) (by decide +kernel), List.mem_of_getElem? (i := 711) (by decide +kernel), List.mem_of_getElem? (i := 712) (by decide +kernel)⟩
theorem lw_p22 : lw_okq (⟨"PegLaws$Reader", "readPegs", "()I"⟩, 10) := ⟨⟨by decide +kernel, by decide +kernel⟩, List.mem_of_getElem? (i := 35) (by decide +kernel), List.mem_of_getElem? (i := 715) (by decide +kernel), List.mem_of_getElem? (i := 716) (by decide +kernel)⟩
theorem lw_p23 : lw_okq (⟨"PegLaws$Line", "massOf", "(II)I"⟩, 16) := ⟨⟨by decide +kernel, by decide +kernel⟩, List.mem_of_getElem? (i := 256) (by decide +kernel), List.mem_of_getElem? (i := 767) (by decide +kernel), List.mem_of_getElem? (i := 768) (by decide +kernel)⟩
theorem lw_p24 : lw_okq (⟨"PegLaws$State", "fallsBy", "(LPegLaws$Line;II)Z"⟩, 6) := ⟨⟨by decide +kernel, by decide +kernel⟩, List.mem_of_getElem? (i := 74) (by decide +kernel), List.mem_of_getElem? (i := 872) (by decide +kernel), List.mem_of_getElem? (i := 873) (by decide +kernel)⟩
theorem lw_p25 : lw_okq (⟨"PegLaws$State", "weaken", "(I)V"⟩, 6) := ⟨⟨by decide +kernel, by decide +kernel⟩, List.mem_of_getElem? (i := 74) (by decide +kernel), List.mem_of_getElem? (i := 886) (by decide +kernel), List.mem_of_getElem? (i := 887) (by decide +kernel)⟩
theorem lw_p26 : lw_okq (⟨"PegLaws$Day", "canDo", "(LPegLaws$Line;LPegLaws$State;I)Z"⟩, 6) := ⟨⟨by decide +kernel, by decide +kernel⟩, List.mem_of_getElem? (i := 373) (by decide +kernel), List.mem_of_getElem? (i := 913) (by decide +kernel), List.mem_of_getElem? (i := 914) (by decide +kernel)⟩
theorem lw_p27 : lw_okq (⟨"PegLaws$Filler", "chooseFor", "(LPegLaws$Line;LPegLaws$State;II)V"⟩, 10) := ⟨⟨by decide +kernel, by decide +kernel⟩, List.mem_of_getElem? (i := 175) (by decide +kernel), List.mem_of_getElem? (i := 961) (by decide +kernel), List.mem_of_getElem? (i := 962) (by decide +kernel)⟩
theorem lw_p28 : lw_okq (⟨"PegLaws$Filler", "holdSet", "(LPegLaws$Line;I)V"⟩, 10) := ⟨⟨by decide +kernel, by decide +kernel⟩, List.mem_of_getElem? (i := 175) (by decide +kernel), List.mem_of_getElem? (i := 979) (by decide +kernel), List.mem_of_getElem? (i := 980) (by decide +kernel)⟩
theorem lw_p29 : lw_okq (⟨"PegLaws$Filler", "holdsBy", "(II)Z"⟩, 10) := ⟨⟨by decide +kernel, by decide +kernel⟩, List.mem_of_getElem? (i := 175) (by decide +kernel), List.mem_of_getElem? (i := 987) (by decide +kernel), List.mem_of_getElem? (i := 988) (by decide +kernel)⟩
theorem lw_p30 : lw_okq (⟨"PegLaws$Filler", "holdMore", "(III)V"⟩, 10) := ⟨⟨by decide +kernel, by decide +kernel⟩, List.mem_of_getElem? (i := 175) (by decide +kernel), List.mem_of_getElem? (i := 991) (by decide +kernel), List.mem_of_getElem? (i := 992) (by decide +kernel)⟩
theorem lw_p31 : lw_okq (⟨"PegLaws$Filler", "layRow", "(LPegLaws$Line;)V"⟩, 10) := ⟨⟨by decide +kernel, by decide +kernel⟩, List.mem_of_getElem? (i := 175) (by decide +kernel), List.mem_of_getElem? (i := 995) (by decide +kernel), List.mem_of_getElem? (i := 996) (by decide +kernel)⟩
def lw_privs_2 : List (MethodName × Nat) := [(⟨"PegLaws$Reader", "readTest", "(LPegLaws$Rule;I)V"⟩, 10), (⟨"PegLaws$Reader", "readSum", "(LPegLaws$Rule;I)V"⟩, 10), (⟨"PegLaws$Reader", "readProduct", "(LPegLaws$Rule;I)V"⟩, 10), (⟨"PegLaws$Reader", "readPart", "(LPegLaws$Rule;I)V"⟩, 10), (⟨"PegLaws$Reader", "expectSign", "(I)V"⟩, 10), (⟨"PegLaws$Reader", "readDone", "(LPegLaws$Line;LPegLaws$Day;)V"⟩, 10), (⟨"PegLaws$Reader", "readPegs", "()I"⟩, 10), (⟨"PegLaws$Line", "massOf", "(II)I"⟩, 16), (⟨"PegLaws$State", "fallsBy", "(LPegLaws$Line;II)Z"⟩, 6), (⟨"PegLaws$State", "weaken", "(I)V"⟩, 6), (⟨"PegLaws$Day", "canDo", "(LPegLaws$Line;LPegLaws$State;I)Z"⟩, 6), (⟨"PegLaws$Filler", "chooseFor", "(LPegLaws$Line;LPegLaws$State;II)V"⟩, 10), (⟨"PegLaws$Filler", "holdSet", "(LPegLaws$Line;I)V"⟩, 10), (⟨"PegLaws$Filler", "holdsBy", "(II)Z"⟩, 10), (⟨"PegLaws$Filler", "holdMore", "(III)V"⟩, 10), (⟨"PegLaws$Filler", "layRow", "(LPegLaws$Line;)V"⟩, 10)]
theorem lw_r2 : ∀ q ∈ lw_privs_2, lw_okq q := List.forall_mem_cons.mpr ⟨lw_p16, List.forall_mem_cons.mpr ⟨lw_p17, List.forall_mem_cons.mpr ⟨lw_p18, List.forall_mem_cons.mpr ⟨lw_p19, List.forall_mem_cons.mpr ⟨lw_p20, List.forall_mem_cons.mpr ⟨lw_p21, List.forall_mem_cons.mpr ⟨lw_p22, List.forall_mem_cons.mpr ⟨lw_p23, List.forall_mem_cons.mpr ⟨lw_p24, List.forall_mem_cons.mpr ⟨lw_p25, List.forall_mem_cons.mpr ⟨lw_p26, List.forall_mem_cons.mpr ⟨lw_p27, List.forall_mem_cons.mpr ⟨lw_p28, List.forall_mem_cons.mpr ⟨lw_p29, List.forall_mem_cons.mpr ⟨lw_p30, List.forall_mem_cons.mpr ⟨lw_p31, fun _ h => absurd h List.not_mem_nil⟩⟩⟩⟩⟩⟩⟩⟩⟩⟩⟩⟩⟩⟩⟩⟩
theorem lw_p32 : lw_okq (⟨"PegLaws$Filler", "firstChoice", "(LPegLaws$Line;III)I"⟩, 10) := ⟨⟨by decide +kernel, by decide +kernel⟩, List.mem_of_getElem? (i := 175) (by decide +kernel), List.mem_of_getElem? (i := 999) (by decide +kernel), List.mem_of_getElem? (i := 1000) (by decide +kernel)⟩
theorem lw_p33 : lw_okq (⟨"PegLaws$Filler", "canEnd", "(LPegLaws$Line;III)Z"⟩, 10) := ⟨⟨by decide +kernel, by decide +kernel⟩, List.mem_of_getElem? (i := 175) (by decide +kernel), List.mem_of_getElem? (i := 1003) (by decide +kernel), List.mem_of_getElem? (i := 1004) (by decide +kernel)⟩
theorem lw_p34 : lw_okq (⟨"PegLaws$Filler", "holdsWithout", "(II)Z"⟩, 10) := ⟨⟨by decide +kernel, by decide +kernel⟩, List.mem_of_getElem? (i := 175) (by decide +kernel), List.mem_of_getElem? (i := 1007) (by decide +kernel), List.mem_of_getElem? (i := 1008) (by decide +kernel)⟩
theorem lw_p35 : lw_okq (⟨"PegLaws$Chances", "goOn", "(LPegLaws$Line;LPegLaws$State;IIII)V"⟩, 2) := ⟨⟨by decide +kernel, by decide +kernel⟩, List.mem_of_getElem? (i := 215) (by decide +kernel), List.mem_of_getElem? (i := 1021) (by decide +kernel), List.mem_of_getElem? (i := 1022) (by decide +kernel)⟩
theorem lw_p36 : lw_okq (⟨"PegLaws$Laundry", "soonestOf", "(I)I"⟩, 6) := ⟨⟨by decide +kernel, by decide +kernel⟩, List.mem_of_getElem? (i := 228) (by decide +kernel), List.mem_of_getElem? (i := 1044) (by decide +kernel), List.mem_of_getElem? (i := 1045) (by decide +kernel)⟩
theorem lw_p37 : lw_okq (⟨"PegLaws$Laundry", "dryIfNext", "(II)I"⟩, 6) := ⟨⟨by decide +kernel, by decide +kernel⟩, List.mem_of_getElem? (i := 228) (by decide +kernel), List.mem_of_getElem? (i := 1048) (by decide +kernel), List.mem_of_getElem? (i := 1049) (by decide +kernel)⟩
theorem lw_p38 : lw_okq (⟨"PegLaws$Laundry", "layOrder", "(I)V"⟩, 6) := ⟨⟨by decide +kernel, by decide +kernel⟩, List.mem_of_getElem? (i := 228) (by decide +kernel), List.mem_of_getElem? (i := 1055) (by decide +kernel), List.mem_of_getElem? (i := 1056) (by decide +kernel)⟩
theorem lw_p39 : lw_okq (⟨"PegLaws$Laundry", "firstInTime", "(II)I"⟩, 6) := ⟨⟨by decide +kernel, by decide +kernel⟩, List.mem_of_getElem? (i := 228) (by decide +kernel), List.mem_of_getElem? (i := 1059) (by decide +kernel), List.mem_of_getElem? (i := 1060) (by decide +kernel)⟩
theorem lw_p40 : lw_okq (⟨"PegLaws$Felt", "allSo", "(LPegLaws$Line;I)Z"⟩, 6) := ⟨⟨by decide +kernel, by decide +kernel⟩, List.mem_of_getElem? (i := 116) (by decide +kernel), List.mem_of_getElem? (i := 1079) (by decide +kernel), List.mem_of_getElem? (i := 1080) (by decide +kernel)⟩
theorem lw_p41 : lw_okq (⟨"PegLaws$Felt", "mostAlike", "(I)I"⟩, 6) := ⟨⟨by decide +kernel, by decide +kernel⟩, List.mem_of_getElem? (i := 116) (by decide +kernel), List.mem_of_getElem? (i := 1096) (by decide +kernel), List.mem_of_getElem? (i := 1097) (by decide +kernel)⟩
theorem lw_p42 : lw_okq (⟨"PegLaws", "worthBehind", "(II)I"⟩, 13) := ⟨⟨by decide +kernel, by decide +kernel⟩, List.mem_of_getElem? (i := 27) (by decide +kernel), List.mem_of_getElem? (i := 1105) (by decide +kernel), List.mem_of_getElem? (i := 1106) (by decide +kernel)⟩
theorem lw_p43 : lw_okq (⟨"PegLaws", "handleByDraws", "()V"⟩, 13) := ⟨⟨by decide +kernel, by decide +kernel⟩, List.mem_of_getElem? (i := 27) (by decide +kernel), List.mem_of_getElem? (i := 1113) (by decide +kernel), List.mem_of_getElem? (i := 1114) (by decide +kernel)⟩
theorem lw_p44 : lw_okq (⟨"PegLaws", "draw", "(I)I"⟩, 13) := ⟨⟨by decide +kernel, by decide +kernel⟩, List.mem_of_getElem? (i := 27) (by decide +kernel), List.mem_of_getElem? (i := 1117) (by decide +kernel), List.mem_of_getElem? (i := 1118) (by decide +kernel)⟩
theorem lw_p45 : lw_okq (⟨"java/lang/Throwable", "fillInStackTrace", "(I)Ljava/lang/Throwable;"⟩, 6) := ⟨⟨by decide +kernel, by decide +kernel⟩, List.mem_of_getElem? (i := 1208) (by decide +kernel), List.mem_of_getElem? (i := 1206) (by decide +kernel), List.mem_of_getElem? (i := 1207) (by decide +kernel)⟩
theorem lw_p46 : lw_okq (⟨"PegLawsModel", "lay", "(J)V"⟩, 38) := ⟨⟨by decide +kernel, by decide +kernel⟩, List.mem_of_getElem? (i := 1254) (by decide +kernel), List.mem_of_getElem? (i := 1252) (by decide +kernel), List.mem_of_getElem? (i := 1253) (by decide +kernel)⟩
theorem lw_p47 : lw_okq (⟨"PegLawsModel", "standsAsAlways", "(I)V"⟩, 38) := ⟨⟨by decide +kernel, by decide +kernel⟩, List.mem_of_getElem? (i := 1254) (by decide +kernel), List.mem_of_getElem? (i := 1288) (by decide +kernel), List.mem_of_getElem? (i := 1289) (by decide +kernel)⟩
def lw_privs_3 : List (MethodName × Nat) := [(⟨"PegLaws$Filler", "firstChoice", "(LPegLaws$Line;III)I"⟩, 10), (⟨"PegLaws$Filler", "canEnd", "(LPegLaws$Line;III)Z"⟩, 10), (⟨"PegLaws$Filler", "holdsWithout", "(II)Z"⟩, 10), (⟨"PegLaws$Chances", "goOn", "(LPegLaws$Line;LPegLaws$State;IIII)V"⟩, 2), (⟨"PegLaws$Laundry", "soonestOf", "(I)I"⟩, 6), (⟨"PegLaws$Laundry", "dryIfNext", "(II)I"⟩, 6), (⟨"PegLaws$Laundry", "layOrder", "(I)V"⟩, 6), (⟨"PegLaws$Laundry", "firstInTime", "(II)I"⟩, 6), (⟨"PegLaws$Felt", "allSo", "(LPegLaws$Line;I)Z"⟩, 6), (⟨"PegLaws$Felt", "mostAlike", "(I)I"⟩, 6), (⟨"PegLaws", "worthBehind", "(II)I"⟩, 13), (⟨"PegLaws", "handleByDraws", "()V"⟩, 13), (⟨"PegLaws", "draw", "(I)I"⟩, 13), (⟨"java/lang/Throwable", "fillInStackTrace", "(I)Ljava/lang/Throwable;"⟩, 6), (⟨"PegLawsModel", "lay", "(J)V"⟩, 38), (⟨"PegLawsModel", "standsAsAlways", "(I)V"⟩, 38)]
theorem lw_r3 : ∀ q ∈ lw_privs_3, lw_okq q := List.forall_mem_cons.mpr ⟨lw_p32, List.forall_mem_cons.mpr ⟨lw_p33, List.forall_mem_cons.mpr ⟨lw_p34, List.forall_mem_cons.mpr ⟨lw_p35, List.forall_mem_cons.mpr ⟨lw_p36, List.forall_mem_cons.mpr ⟨lw_p37, List.forall_mem_cons.mpr ⟨lw_p38, List.forall_mem_cons.mpr ⟨lw_p39, List.forall_mem_cons.mpr ⟨lw_p40, List.forall_mem_cons.mpr ⟨lw_p41, List.forall_mem_cons.mpr ⟨lw_p42, List.forall_mem_cons.mpr ⟨lw_p43, List.forall_mem_cons.mpr ⟨lw_p44, List.forall_mem_cons.mpr ⟨lw_p45, List.forall_mem_cons.mpr ⟨lw_p46, List.forall_mem_cons.mpr ⟨lw_p47, fun _ h => absurd h List.not_mem_nil⟩⟩⟩⟩⟩⟩⟩⟩⟩⟩⟩⟩⟩⟩⟩⟩
theorem lw_p48 : lw_okq (⟨"PegLawsModel", "begins", "()V"⟩, 38) := ⟨⟨by decide +kernel, by decide +kernel⟩, List.mem_of_getElem? (i := 1254) (by decide +kernel), List.mem_of_getElem? (i := 1292) (by decide +kernel), List.mem_of_getElem? (i := 1293) (by decide +kernel)⟩
theorem lw_p49 : lw_okq (⟨"PegLawsModel", "starts", "(I)V"⟩, 38) := ⟨⟨by decide +kernel, by decide +kernel⟩, List.mem_of_getElem? (i := 1254) (by decide +kernel), List.mem_of_getElem? (i := 1296) (by decide +kernel), List.mem_of_getElem? (i := 1297) (by decide +kernel)⟩
theorem lw_p50 : lw_okq (⟨"PegLawsModel", "cutAll", "()V"⟩, 38) := ⟨⟨by decide +kernel, by decide +kernel⟩, List.mem_of_getElem? (i := 1254) (by decide +kernel), List.mem_of_getElem? (i := 1419) (by decide +kernel), List.mem_of_getElem? (i := 1420) (by decide +kernel)⟩
theorem lw_p51 : lw_okq (⟨"PegLawsModel", "isWord", "(I)Z"⟩, 38) := ⟨⟨by decide +kernel, by decide +kernel⟩, List.mem_of_getElem? (i := 1254) (by decide +kernel), List.mem_of_getElem? (i := 1438) (by decide +kernel), List.mem_of_getElem? (i := 1439) (by decide +kernel)⟩
theorem lw_p52 : lw_okq (⟨"PegLawsModel", "readCloth", "()V"⟩, 38) := ⟨⟨by decide +kernel, by decide +kernel⟩, List.mem_of_getElem? (i := 1254) (by decide +kernel), List.mem_of_getElem? (i := 1442) (by decide +kernel), List.mem_of_getElem? (i := 1443) (by decide +kernel)⟩
theorem lw_p53 : lw_okq (⟨"PegLawsModel", "wrong", "(I)V"⟩, 38) := ⟨⟨by decide +kernel, by decide +kernel⟩, List.mem_of_getElem? (i := 1254) (by decide +kernel), List.mem_of_getElem? (i := 1446) (by decide +kernel), List.mem_of_getElem? (i := 1447) (by decide +kernel)⟩
theorem lw_p54 : lw_okq (⟨"PegLawsModel", "isName", "()Z"⟩, 38) := ⟨⟨by decide +kernel, by decide +kernel⟩, List.mem_of_getElem? (i := 1254) (by decide +kernel), List.mem_of_getElem? (i := 1450) (by decide +kernel), List.mem_of_getElem? (i := 1451) (by decide +kernel)⟩
theorem lw_p55 : lw_okq (⟨"PegLawsModel", "wordHere", "(II)I"⟩, 38) := ⟨⟨by decide +kernel, by decide +kernel⟩, List.mem_of_getElem? (i := 1254) (by decide +kernel), List.mem_of_getElem? (i := 1454) (by decide +kernel), List.mem_of_getElem? (i := 1455) (by decide +kernel)⟩
theorem lw_p56 : lw_okq (⟨"PegLawsModel", "find", "(Z)I"⟩, 38) := ⟨⟨by decide +kernel, by decide +kernel⟩, List.mem_of_getElem? (i := 1254) (by decide +kernel), List.mem_of_getElem? (i := 1458) (by decide +kernel), List.mem_of_getElem? (i := 1459) (by decide +kernel)⟩
theorem lw_p57 : lw_okq (⟨"PegLawsModel", "takeOne", "(II)I"⟩, 38) := ⟨⟨by decide +kernel, by decide +kernel⟩, List.mem_of_getElem? (i := 1254) (by decide +kernel), List.mem_of_getElem? (i := 1462) (by decide +kernel), List.mem_of_getElem? (i := 1463) (by decide +kernel)⟩
theorem lw_p58 : lw_okq (⟨"PegLawsModel", "takeAfter", "(III)I"⟩, 38) := ⟨⟨by decide +kernel, by decide +kernel⟩, List.mem_of_getElem? (i := 1254) (by decide +kernel), List.mem_of_getElem? (i := 1466) (by decide +kernel), List.mem_of_getElem? (i := 1467) (by decide +kernel)⟩
theorem lw_p59 : lw_okq (⟨"PegLawsModel", "takeWord", "(I)V"⟩, 38) := ⟨⟨by decide +kernel, by decide +kernel⟩, List.mem_of_getElem? (i := 1254) (by decide +kernel), List.mem_of_getElem? (i := 1470) (by decide +kernel), List.mem_of_getElem? (i := 1471) (by decide +kernel)⟩
theorem lw_p60 : lw_okq (⟨"PegLawsModel", "hasWord", "(I)Z"⟩, 38) := ⟨⟨by decide +kernel, by decide +kernel⟩, List.mem_of_getElem? (i := 1254) (by decide +kernel), List.mem_of_getElem? (i := 1474) (by decide +kernel), List.mem_of_getElem? (i := 1475) (by decide +kernel)⟩
theorem lw_p61 : lw_okq (⟨"PegLawsModel", "takeNumber", "(II)I"⟩, 38) := ⟨⟨by decide +kernel, by decide +kernel⟩, List.mem_of_getElem? (i := 1254) (by decide +kernel), List.mem_of_getElem? (i := 1478) (by decide +kernel), List.mem_of_getElem? (i := 1479) (by decide +kernel)⟩
theorem lw_p62 : lw_okq (⟨"PegLawsModel", "readClash", "()V"⟩, 38) := ⟨⟨by decide +kernel, by decide +kernel⟩, List.mem_of_getElem? (i := 1254) (by decide +kernel), List.mem_of_getElem? (i := 1482) (by decide +kernel), List.mem_of_getElem? (i := 1483) (by decide +kernel)⟩
theorem lw_p63 : lw_okq (⟨"PegLawsModel", "takeTold", "(Z)I"⟩, 38) := ⟨⟨by decide +kernel, by decide +kernel⟩, List.mem_of_getElem? (i := 1254) (by decide +kernel), List.mem_of_getElem? (i := 1486) (by decide +kernel), List.mem_of_getElem? (i := 1487) (by decide +kernel)⟩
def lw_privs_4 : List (MethodName × Nat) := [(⟨"PegLawsModel", "begins", "()V"⟩, 38), (⟨"PegLawsModel", "starts", "(I)V"⟩, 38), (⟨"PegLawsModel", "cutAll", "()V"⟩, 38), (⟨"PegLawsModel", "isWord", "(I)Z"⟩, 38), (⟨"PegLawsModel", "readCloth", "()V"⟩, 38), (⟨"PegLawsModel", "wrong", "(I)V"⟩, 38), (⟨"PegLawsModel", "isName", "()Z"⟩, 38), (⟨"PegLawsModel", "wordHere", "(II)I"⟩, 38), (⟨"PegLawsModel", "find", "(Z)I"⟩, 38), (⟨"PegLawsModel", "takeOne", "(II)I"⟩, 38), (⟨"PegLawsModel", "takeAfter", "(III)I"⟩, 38), (⟨"PegLawsModel", "takeWord", "(I)V"⟩, 38), (⟨"PegLawsModel", "hasWord", "(I)Z"⟩, 38), (⟨"PegLawsModel", "takeNumber", "(II)I"⟩, 38), (⟨"PegLawsModel", "readClash", "()V"⟩, 38), (⟨"PegLawsModel", "takeTold", "(Z)I"⟩, 38)]
theorem lw_r4 : ∀ q ∈ lw_privs_4, lw_okq q := List.forall_mem_cons.mpr ⟨lw_p48, List.forall_mem_cons.mpr ⟨lw_p49, List.forall_mem_cons.mpr ⟨lw_p50, List.forall_mem_cons.mpr ⟨lw_p51, List.forall_mem_cons.mpr ⟨lw_p52, List.forall_mem_cons.mpr ⟨lw_p53, List.forall_mem_cons.mpr ⟨lw_p54, List.forall_mem_cons.mpr ⟨lw_p55, List.forall_mem_cons.mpr ⟨lw_p56, List.forall_mem_cons.mpr ⟨lw_p57, List.forall_mem_cons.mpr ⟨lw_p58, List.forall_mem_cons.mpr ⟨lw_p59, List.forall_mem_cons.mpr ⟨lw_p60, List.forall_mem_cons.mpr ⟨lw_p61, List.forall_mem_cons.mpr ⟨lw_p62, List.forall_mem_cons.mpr ⟨lw_p63, fun _ h => absurd h List.not_mem_nil⟩⟩⟩⟩⟩⟩⟩⟩⟩⟩⟩⟩⟩⟩⟩⟩
theorem lw_p64 : lw_okq (⟨"PegLawsModel", "toldHere", "(Z)I"⟩, 38) := ⟨⟨by decide +kernel, by decide +kernel⟩, List.mem_of_getElem? (i := 1254) (by decide +kernel), List.mem_of_getElem? (i := 1490) (by decide +kernel), List.mem_of_getElem? (i := 1491) (by decide +kernel)⟩
theorem lw_p65 : lw_okq (⟨"PegLawsModel", "readOnce", "()V"⟩, 38) := ⟨⟨by decide +kernel, by decide +kernel⟩, List.mem_of_getElem? (i := 1254) (by decide +kernel), List.mem_of_getElem? (i := 1494) (by decide +kernel), List.mem_of_getElem? (i := 1495) (by decide +kernel)⟩
theorem lw_p66 : lw_okq (⟨"PegLawsModel", "readRow", "(III)I"⟩, 38) := ⟨⟨by decide +kernel, by decide +kernel⟩, List.mem_of_getElem? (i := 1254) (by decide +kernel), List.mem_of_getElem? (i := 1498) (by decide +kernel), List.mem_of_getElem? (i := 1499) (by decide +kernel)⟩
theorem lw_p67 : lw_okq (⟨"PegLawsModel", "all", "(I)V"⟩, 38) := ⟨⟨by decide +kernel, by decide +kernel⟩, List.mem_of_getElem? (i := 1254) (by decide +kernel), List.mem_of_getElem? (i := 1502) (by decide +kernel), List.mem_of_getElem? (i := 1503) (by decide +kernel)⟩
theorem lw_p68 : lw_okq (⟨"PegLawsModel", "test", "(I)V"⟩, 38) := ⟨⟨by decide +kernel, by decide +kernel⟩, List.mem_of_getElem? (i := 1254) (by decide +kernel), List.mem_of_getElem? (i := 1506) (by decide +kernel), List.mem_of_getElem? (i := 1507) (by decide +kernel)⟩
theorem lw_p69 : lw_okq (⟨"PegLawsModel", "sums", "(I)V"⟩, 38) := ⟨⟨by decide +kernel, by decide +kernel⟩, List.mem_of_getElem? (i := 1254) (by decide +kernel), List.mem_of_getElem? (i := 1510) (by decide +kernel), List.mem_of_getElem? (i := 1511) (by decide +kernel)⟩
theorem lw_p70 : lw_okq (⟨"PegLawsModel", "products", "(I)V"⟩, 38) := ⟨⟨by decide +kernel, by decide +kernel⟩, List.mem_of_getElem? (i := 1254) (by decide +kernel), List.mem_of_getElem? (i := 1514) (by decide +kernel), List.mem_of_getElem? (i := 1515) (by decide +kernel)⟩
theorem lw_p71 : lw_okq (⟨"PegLawsModel", "takePart", "(I)V"⟩, 38) := ⟨⟨by decide +kernel, by decide +kernel⟩, List.mem_of_getElem? (i := 1254) (by decide +kernel), List.mem_of_getElem? (i := 1518) (by decide +kernel), List.mem_of_getElem? (i := 1519) (by decide +kernel)⟩
theorem lw_p72 : lw_okq (⟨"PegLawsModel", "isSign", "(I)Z"⟩, 38) := ⟨⟨by decide +kernel, by decide +kernel⟩, List.mem_of_getElem? (i := 1254) (by decide +kernel), List.mem_of_getElem? (i := 1522) (by decide +kernel), List.mem_of_getElem? (i := 1523) (by decide +kernel)⟩
theorem lw_p73 : lw_okq (⟨"PegLawsModel", "emit", "(II)V"⟩, 38) := ⟨⟨by decide +kernel, by decide +kernel⟩, List.mem_of_getElem? (i := 1254) (by decide +kernel), List.mem_of_getElem? (i := 1526) (by decide +kernel), List.mem_of_getElem? (i := 1527) (by decide +kernel)⟩
theorem lw_p74 : lw_okq (⟨"PegLawsModel", "hasSign", "(I)Z"⟩, 38) := ⟨⟨by decide +kernel, by decide +kernel⟩, List.mem_of_getElem? (i := 1254) (by decide +kernel), List.mem_of_getElem? (i := 1530) (by decide +kernel), List.mem_of_getElem? (i := 1531) (by decide +kernel)⟩
theorem lw_p75 : lw_okq (⟨"PegLawsModel", "takeSign", "(I)V"⟩, 38) := ⟨⟨by decide +kernel, by decide +kernel⟩, List.mem_of_getElem? (i := 1254) (by decide +kernel), List.mem_of_getElem? (i := 1534) (by decide +kernel), List.mem_of_getElem? (i := 1535) (by decide +kernel)⟩
theorem lw_p76 : lw_okq (⟨"PegLawsModel", "readPegs", "()I"⟩, 38) := ⟨⟨by decide +kernel, by decide +kernel⟩, List.mem_of_getElem? (i := 1254) (by decide +kernel), List.mem_of_getElem? (i := 1542) (by decide +kernel), List.mem_of_getElem? (i := 1543) (by decide +kernel)⟩
theorem lw_p77 : lw_okq (⟨"PegLawsModel", "isCloth", "(I)Z"⟩, 38) := ⟨⟨by decide +kernel, by decide +kernel⟩, List.mem_of_getElem? (i := 1254) (by decide +kernel), List.mem_of_getElem? (i := 1550) (by decide +kernel), List.mem_of_getElem? (i := 1551) (by decide +kernel)⟩
theorem lw_p78 : lw_okq (⟨"PegLawsModel", "cloths", "()I"⟩, 38) := ⟨⟨by decide +kernel, by decide +kernel⟩, List.mem_of_getElem? (i := 1254) (by decide +kernel), List.mem_of_getElem? (i := 1554) (by decide +kernel), List.mem_of_getElem? (i := 1555) (by decide +kernel)⟩
theorem lw_p79 : lw_okq (⟨"PegLawsModel", "clothOf", "(II)I"⟩, 38) := ⟨⟨by decide +kernel, by decide +kernel⟩, List.mem_of_getElem? (i := 1254) (by decide +kernel), List.mem_of_getElem? (i := 1561) (by decide +kernel), List.mem_of_getElem? (i := 1562) (by decide +kernel)⟩
def lw_privs_5 : List (MethodName × Nat) := [(⟨"PegLawsModel", "toldHere", "(Z)I"⟩, 38), (⟨"PegLawsModel", "readOnce", "()V"⟩, 38), (⟨"PegLawsModel", "readRow", "(III)I"⟩, 38), (⟨"PegLawsModel", "all", "(I)V"⟩, 38), (⟨"PegLawsModel", "test", "(I)V"⟩, 38), (⟨"PegLawsModel", "sums", "(I)V"⟩, 38), (⟨"PegLawsModel", "products", "(I)V"⟩, 38), (⟨"PegLawsModel", "takePart", "(I)V"⟩, 38), (⟨"PegLawsModel", "isSign", "(I)Z"⟩, 38), (⟨"PegLawsModel", "emit", "(II)V"⟩, 38), (⟨"PegLawsModel", "hasSign", "(I)Z"⟩, 38), (⟨"PegLawsModel", "takeSign", "(I)V"⟩, 38), (⟨"PegLawsModel", "readPegs", "()I"⟩, 38), (⟨"PegLawsModel", "isCloth", "(I)Z"⟩, 38), (⟨"PegLawsModel", "cloths", "()I"⟩, 38), (⟨"PegLawsModel", "clothOf", "(II)I"⟩, 38)]
theorem lw_r5 : ∀ q ∈ lw_privs_5, lw_okq q := List.forall_mem_cons.mpr ⟨lw_p64, List.forall_mem_cons.mpr ⟨lw_p65, List.forall_mem_cons.mpr ⟨lw_p66, List.forall_mem_cons.mpr ⟨lw_p67, List.forall_mem_cons.mpr ⟨lw_p68, List.forall_mem_cons.mpr ⟨lw_p69, List.forall_mem_cons.mpr ⟨lw_p70, List.forall_mem_cons.mpr ⟨lw_p71, List.forall_mem_cons.mpr ⟨lw_p72, List.forall_mem_cons.mpr ⟨lw_p73, List.forall_mem_cons.mpr ⟨lw_p74, List.forall_mem_cons.mpr ⟨lw_p75, List.forall_mem_cons.mpr ⟨lw_p76, List.forall_mem_cons.mpr ⟨lw_p77, List.forall_mem_cons.mpr ⟨lw_p78, List.forall_mem_cons.mpr ⟨lw_p79, fun _ h => absurd h List.not_mem_nil⟩⟩⟩⟩⟩⟩⟩⟩⟩⟩⟩⟩⟩⟩⟩⟩
theorem lw_p80 : lw_okq (⟨"PegLawsModel", "isLaw", "(II)Z"⟩, 38) := ⟨⟨by decide +kernel, by decide +kernel⟩, List.mem_of_getElem? (i := 1254) (by decide +kernel), List.mem_of_getElem? (i := 1565) (by decide +kernel), List.mem_of_getElem? (i := 1566) (by decide +kernel)⟩
theorem lw_p81 : lw_okq (⟨"PegLawsModel", "needs", "(I)I"⟩, 38) := ⟨⟨by decide +kernel, by decide +kernel⟩, List.mem_of_getElem? (i := 1254) (by decide +kernel), List.mem_of_getElem? (i := 1572) (by decide +kernel), List.mem_of_getElem? (i := 1573) (by decide +kernel)⟩
theorem lw_p82 : lw_okq (⟨"PegLawsModel", "isTurned", "(II)Z"⟩, 38) := ⟨⟨by decide +kernel, by decide +kernel⟩, List.mem_of_getElem? (i := 1254) (by decide +kernel), List.mem_of_getElem? (i := 1576) (by decide +kernel), List.mem_of_getElem? (i := 1577) (by decide +kernel)⟩
theorem lw_p83 : lw_okq (⟨"PegLawsModel", "isHung", "(II)Z"⟩, 38) := ⟨⟨by decide +kernel, by decide +kernel⟩, List.mem_of_getElem? (i := 1254) (by decide +kernel), List.mem_of_getElem? (i := 1580) (by decide +kernel), List.mem_of_getElem? (i := 1581) (by decide +kernel)⟩
theorem lw_p84 : lw_okq (⟨"PegLawsModel", "roomBy", "(II)I"⟩, 38) := ⟨⟨by decide +kernel, by decide +kernel⟩, List.mem_of_getElem? (i := 1254) (by decide +kernel), List.mem_of_getElem? (i := 1584) (by decide +kernel), List.mem_of_getElem? (i := 1585) (by decide +kernel)⟩
theorem lw_p85 : lw_okq (⟨"PegLawsModel", "windOf", "(IZ)I"⟩, 38) := ⟨⟨by decide +kernel, by decide +kernel⟩, List.mem_of_getElem? (i := 1254) (by decide +kernel), List.mem_of_getElem? (i := 1588) (by decide +kernel), List.mem_of_getElem? (i := 1589) (by decide +kernel)⟩
theorem lw_p86 : lw_okq (⟨"PegLawsModel", "pullOf", "(III)I"⟩, 38) := ⟨⟨by decide +kernel, by decide +kernel⟩, List.mem_of_getElem? (i := 1254) (by decide +kernel), List.mem_of_getElem? (i := 1592) (by decide +kernel), List.mem_of_getElem? (i := 1593) (by decide +kernel)⟩
theorem lw_p87 : lw_okq (⟨"PegLawsModel", "laysFacts", "(III)V"⟩, 38) := ⟨⟨by decide +kernel, by decide +kernel⟩, List.mem_of_getElem? (i := 1254) (by decide +kernel), List.mem_of_getElem? (i := 1596) (by decide +kernel), List.mem_of_getElem? (i := 1597) (by decide +kernel)⟩
theorem lw_p88 : lw_okq (⟨"PegLawsModel", "worthAt", "(I)I"⟩, 38) := ⟨⟨by decide +kernel, by decide +kernel⟩, List.mem_of_getElem? (i := 1254) (by decide +kernel), List.mem_of_getElem? (i := 1600) (by decide +kernel), List.mem_of_getElem? (i := 1601) (by decide +kernel)⟩
theorem lw_p89 : lw_okq (⟨"PegLawsModel", "heldBy", "(II)I"⟩, 38) := ⟨⟨by decide +kernel, by decide +kernel⟩, List.mem_of_getElem? (i := 1254) (by decide +kernel), List.mem_of_getElem? (i := 1611) (by decide +kernel), List.mem_of_getElem? (i := 1612) (by decide +kernel)⟩
theorem lw_p90 : lw_okq (⟨"PegLawsModel", "lawsOf", "(I)I"⟩, 38) := ⟨⟨by decide +kernel, by decide +kernel⟩, List.mem_of_getElem? (i := 1254) (by decide +kernel), List.mem_of_getElem? (i := 1619) (by decide +kernel), List.mem_of_getElem? (i := 1620) (by decide +kernel)⟩
theorem lw_p91 : lw_okq (⟨"PegLawsModel", "freePegs", "(I)I"⟩, 38) := ⟨⟨by decide +kernel, by decide +kernel⟩, List.mem_of_getElem? (i := 1254) (by decide +kernel), List.mem_of_getElem? (i := 1627) (by decide +kernel), List.mem_of_getElem? (i := 1628) (by decide +kernel)⟩
theorem lw_p92 : lw_okq (⟨"PegLawsModel", "mayHang", "(III)Z"⟩, 38) := ⟨⟨by decide +kernel, by decide +kernel⟩, List.mem_of_getElem? (i := 1254) (by decide +kernel), List.mem_of_getElem? (i := 1635) (by decide +kernel), List.mem_of_getElem? (i := 1636) (by decide +kernel)⟩
theorem lw_p93 : lw_okq (⟨"PegLawsModel", "roomLeft", "(I)I"⟩, 38) := ⟨⟨by decide +kernel, by decide +kernel⟩, List.mem_of_getElem? (i := 1254) (by decide +kernel), List.mem_of_getElem? (i := 1639) (by decide +kernel), List.mem_of_getElem? (i := 1640) (by decide +kernel)⟩
theorem lw_p94 : lw_okq (⟨"PegLawsModel", "keeps", "()V"⟩, 38) := ⟨⟨by decide +kernel, by decide +kernel⟩, List.mem_of_getElem? (i := 1254) (by decide +kernel), List.mem_of_getElem? (i := 1643) (by decide +kernel), List.mem_of_getElem? (i := 1644) (by decide +kernel)⟩
theorem lw_p95 : lw_okq (⟨"PegLawsModel", "copies", "(III)V"⟩, 38) := ⟨⟨by decide +kernel, by decide +kernel⟩, List.mem_of_getElem? (i := 1254) (by decide +kernel), List.mem_of_getElem? (i := 1647) (by decide +kernel), List.mem_of_getElem? (i := 1648) (by decide +kernel)⟩
def lw_privs_6 : List (MethodName × Nat) := [(⟨"PegLawsModel", "isLaw", "(II)Z"⟩, 38), (⟨"PegLawsModel", "needs", "(I)I"⟩, 38), (⟨"PegLawsModel", "isTurned", "(II)Z"⟩, 38), (⟨"PegLawsModel", "isHung", "(II)Z"⟩, 38), (⟨"PegLawsModel", "roomBy", "(II)I"⟩, 38), (⟨"PegLawsModel", "windOf", "(IZ)I"⟩, 38), (⟨"PegLawsModel", "pullOf", "(III)I"⟩, 38), (⟨"PegLawsModel", "laysFacts", "(III)V"⟩, 38), (⟨"PegLawsModel", "worthAt", "(I)I"⟩, 38), (⟨"PegLawsModel", "heldBy", "(II)I"⟩, 38), (⟨"PegLawsModel", "lawsOf", "(I)I"⟩, 38), (⟨"PegLawsModel", "freePegs", "(I)I"⟩, 38), (⟨"PegLawsModel", "mayHang", "(III)Z"⟩, 38), (⟨"PegLawsModel", "roomLeft", "(I)I"⟩, 38), (⟨"PegLawsModel", "keeps", "()V"⟩, 38), (⟨"PegLawsModel", "copies", "(III)V"⟩, 38)]
theorem lw_r6 : ∀ q ∈ lw_privs_6, lw_okq q := List.forall_mem_cons.mpr ⟨lw_p80, List.forall_mem_cons.mpr ⟨lw_p81, List.forall_mem_cons.mpr ⟨lw_p82, List.forall_mem_cons.mpr ⟨lw_p83, List.forall_mem_cons.mpr ⟨lw_p84, List.forall_mem_cons.mpr ⟨lw_p85, List.forall_mem_cons.mpr ⟨lw_p86, List.forall_mem_cons.mpr ⟨lw_p87, List.forall_mem_cons.mpr ⟨lw_p88, List.forall_mem_cons.mpr ⟨lw_p89, List.forall_mem_cons.mpr ⟨lw_p90, List.forall_mem_cons.mpr ⟨lw_p91, List.forall_mem_cons.mpr ⟨lw_p92, List.forall_mem_cons.mpr ⟨lw_p93, List.forall_mem_cons.mpr ⟨lw_p94, List.forall_mem_cons.mpr ⟨lw_p95, fun _ h => absurd h List.not_mem_nil⟩⟩⟩⟩⟩⟩⟩⟩⟩⟩⟩⟩⟩⟩⟩⟩
theorem lw_p96 : lw_okq (⟨"PegLawsModel", "washes", "(II)I"⟩, 38) := ⟨⟨by decide +kernel, by decide +kernel⟩, List.mem_of_getElem? (i := 1254) (by decide +kernel), List.mem_of_getElem? (i := 1659) (by decide +kernel), List.mem_of_getElem? (i := 1660) (by decide +kernel)⟩
theorem lw_p97 : lw_okq (⟨"PegLawsModel", "buys", "(II)I"⟩, 38) := ⟨⟨by decide +kernel, by decide +kernel⟩, List.mem_of_getElem? (i := 1254) (by decide +kernel), List.mem_of_getElem? (i := 1667) (by decide +kernel), List.mem_of_getElem? (i := 1668) (by decide +kernel)⟩
theorem lw_p98 : lw_okq (⟨"PegLawsModel", "passes", "(IZ)I"⟩, 38) := ⟨⟨by decide +kernel, by decide +kernel⟩, List.mem_of_getElem? (i := 1254) (by decide +kernel), List.mem_of_getElem? (i := 1675) (by decide +kernel), List.mem_of_getElem? (i := 1676) (by decide +kernel)⟩
theorem lw_p99 : lw_okq (⟨"PegLawsModel", "pulls", "(III)Z"⟩, 38) := ⟨⟨by decide +kernel, by decide +kernel⟩, List.mem_of_getElem? (i := 1254) (by decide +kernel), List.mem_of_getElem? (i := 1679) (by decide +kernel), List.mem_of_getElem? (i := 1680) (by decide +kernel)⟩
theorem lw_p100 : lw_okq (⟨"PegLawsModel", "gripsOf", "(II)I"⟩, 38) := ⟨⟨by decide +kernel, by decide +kernel⟩, List.mem_of_getElem? (i := 1254) (by decide +kernel), List.mem_of_getElem? (i := 1683) (by decide +kernel), List.mem_of_getElem? (i := 1684) (by decide +kernel)⟩
theorem lw_p101 : lw_okq (⟨"PegLawsModel", "loosens", "(II)V"⟩, 38) := ⟨⟨by decide +kernel, by decide +kernel⟩, List.mem_of_getElem? (i := 1254) (by decide +kernel), List.mem_of_getElem? (i := 1687) (by decide +kernel), List.mem_of_getElem? (i := 1688) (by decide +kernel)⟩
theorem lw_p102 : lw_okq (⟨"PegLawsModel", "held", "(II)I"⟩, 38) := ⟨⟨by decide +kernel, by decide +kernel⟩, List.mem_of_getElem? (i := 1254) (by decide +kernel), List.mem_of_getElem? (i := 1691) (by decide +kernel), List.mem_of_getElem? (i := 1692) (by decide +kernel)⟩
theorem lw_p103 : lw_okq (⟨"PegLawsModel", "falls", "(II)V"⟩, 38) := ⟨⟨by decide +kernel, by decide +kernel⟩, List.mem_of_getElem? (i := 1254) (by decide +kernel), List.mem_of_getElem? (i := 1695) (by decide +kernel), List.mem_of_getElem? (i := 1696) (by decide +kernel)⟩
theorem lw_p104 : lw_okq (⟨"PegLawsModel", "driedOf", "(III)I"⟩, 38) := ⟨⟨by decide +kernel, by decide +kernel⟩, List.mem_of_getElem? (i := 1254) (by decide +kernel), List.mem_of_getElem? (i := 1699) (by decide +kernel), List.mem_of_getElem? (i := 1700) (by decide +kernel)⟩
theorem lw_p105 : lw_okq (⟨"PegLawsModel", "does", "(III)Z"⟩, 38) := ⟨⟨by decide +kernel, by decide +kernel⟩, List.mem_of_getElem? (i := 1254) (by decide +kernel), List.mem_of_getElem? (i := 1711) (by decide +kernel), List.mem_of_getElem? (i := 1712) (by decide +kernel)⟩
theorem lw_p106 : lw_okq (⟨"PegLawsModel", "worthOf", "(I)I"⟩, 38) := ⟨⟨by decide +kernel, by decide +kernel⟩, List.mem_of_getElem? (i := 1254) (by decide +kernel), List.mem_of_getElem? (i := 1715) (by decide +kernel), List.mem_of_getElem? (i := 1716) (by decide +kernel)⟩
theorem lw_p107 : lw_okq (⟨"PegLawsModel", "clashesIn", "(I)I"⟩, 38) := ⟨⟨by decide +kernel, by decide +kernel⟩, List.mem_of_getElem? (i := 1254) (by decide +kernel), List.mem_of_getElem? (i := 1727) (by decide +kernel), List.mem_of_getElem? (i := 1728) (by decide +kernel)⟩
theorem lw_p108 : lw_okq (⟨"PegLawsModel", "findHardest", "(I)V"⟩, 38) := ⟨⟨by decide +kernel, by decide +kernel⟩, List.mem_of_getElem? (i := 1254) (by decide +kernel), List.mem_of_getElem? (i := 1739) (by decide +kernel), List.mem_of_getElem? (i := 1740) (by decide +kernel)⟩
theorem lw_p109 : lw_okq (⟨"PegLawsModel", "fills", "(IIII)V"⟩, 38) := ⟨⟨by decide +kernel, by decide +kernel⟩, List.mem_of_getElem? (i := 1254) (by decide +kernel), List.mem_of_getElem? (i := 1743) (by decide +kernel), List.mem_of_getElem? (i := 1744) (by decide +kernel)⟩
theorem lw_p110 : lw_okq (⟨"PegLawsModel", "hanging", "(IIIII)J"⟩, 38) := ⟨⟨by decide +kernel, by decide +kernel⟩, List.mem_of_getElem? (i := 1254) (by decide +kernel), List.mem_of_getElem? (i := 1751) (by decide +kernel), List.mem_of_getElem? (i := 1752) (by decide +kernel)⟩
theorem lw_p111 : lw_okq (⟨"PegLawsModel", "driedBehind", "(II)I"⟩, 38) := ⟨⟨by decide +kernel, by decide +kernel⟩, List.mem_of_getElem? (i := 1254) (by decide +kernel), List.mem_of_getElem? (i := 1760) (by decide +kernel), List.mem_of_getElem? (i := 1761) (by decide +kernel)⟩
def lw_privs_7 : List (MethodName × Nat) := [(⟨"PegLawsModel", "washes", "(II)I"⟩, 38), (⟨"PegLawsModel", "buys", "(II)I"⟩, 38), (⟨"PegLawsModel", "passes", "(IZ)I"⟩, 38), (⟨"PegLawsModel", "pulls", "(III)Z"⟩, 38), (⟨"PegLawsModel", "gripsOf", "(II)I"⟩, 38), (⟨"PegLawsModel", "loosens", "(II)V"⟩, 38), (⟨"PegLawsModel", "held", "(II)I"⟩, 38), (⟨"PegLawsModel", "falls", "(II)V"⟩, 38), (⟨"PegLawsModel", "driedOf", "(III)I"⟩, 38), (⟨"PegLawsModel", "does", "(III)Z"⟩, 38), (⟨"PegLawsModel", "worthOf", "(I)I"⟩, 38), (⟨"PegLawsModel", "clashesIn", "(I)I"⟩, 38), (⟨"PegLawsModel", "findHardest", "(I)V"⟩, 38), (⟨"PegLawsModel", "fills", "(IIII)V"⟩, 38), (⟨"PegLawsModel", "hanging", "(IIIII)J"⟩, 38), (⟨"PegLawsModel", "driedBehind", "(II)I"⟩, 38)]
theorem lw_r7 : ∀ q ∈ lw_privs_7, lw_okq q := List.forall_mem_cons.mpr ⟨lw_p96, List.forall_mem_cons.mpr ⟨lw_p97, List.forall_mem_cons.mpr ⟨lw_p98, List.forall_mem_cons.mpr ⟨lw_p99, List.forall_mem_cons.mpr ⟨lw_p100, List.forall_mem_cons.mpr ⟨lw_p101, List.forall_mem_cons.mpr ⟨lw_p102, List.forall_mem_cons.mpr ⟨lw_p103, List.forall_mem_cons.mpr ⟨lw_p104, List.forall_mem_cons.mpr ⟨lw_p105, List.forall_mem_cons.mpr ⟨lw_p106, List.forall_mem_cons.mpr ⟨lw_p107, List.forall_mem_cons.mpr ⟨lw_p108, List.forall_mem_cons.mpr ⟨lw_p109, List.forall_mem_cons.mpr ⟨lw_p110, List.forall_mem_cons.mpr ⟨lw_p111, fun _ h => absurd h List.not_mem_nil⟩⟩⟩⟩⟩⟩⟩⟩⟩⟩⟩⟩⟩⟩⟩⟩
theorem lw_p112 : lw_okq (⟨"PegLawsModel", "washesFrom", "(III)V"⟩, 38) := ⟨⟨by decide +kernel, by decide +kernel⟩, List.mem_of_getElem? (i := 1254) (by decide +kernel), List.mem_of_getElem? (i := 1764) (by decide +kernel), List.mem_of_getElem? (i := 1765) (by decide +kernel)⟩
theorem lw_p113 : lw_okq (⟨"PegLawsModel", "startsNow", "()I"⟩, 38) := ⟨⟨by decide +kernel, by decide +kernel⟩, List.mem_of_getElem? (i := 1254) (by decide +kernel), List.mem_of_getElem? (i := 1776) (by decide +kernel), List.mem_of_getElem? (i := 1777) (by decide +kernel)⟩
theorem lw_p114 : lw_okq (⟨"PegLawsModel", "wetBehind", "(III)I"⟩, 38) := ⟨⟨by decide +kernel, by decide +kernel⟩, List.mem_of_getElem? (i := 1254) (by decide +kernel), List.mem_of_getElem? (i := 1780) (by decide +kernel), List.mem_of_getElem? (i := 1781) (by decide +kernel)⟩
theorem lw_p115 : lw_okq (⟨"PegLawsModel", "worthBehind", "(II)I"⟩, 38) := ⟨⟨by decide +kernel, by decide +kernel⟩, List.mem_of_getElem? (i := 1254) (by decide +kernel), List.mem_of_getElem? (i := 1792) (by decide +kernel), List.mem_of_getElem? (i := 1793) (by decide +kernel)⟩
theorem lw_p116 : lw_okq (⟨"PegLawsModel", "drawsCloth", "()V"⟩, 38) := ⟨⟨by decide +kernel, by decide +kernel⟩, List.mem_of_getElem? (i := 1254) (by decide +kernel), List.mem_of_getElem? (i := 1804) (by decide +kernel), List.mem_of_getElem? (i := 1805) (by decide +kernel)⟩
theorem lw_p117 : lw_okq (⟨"PegLawsModel", "draw", "(I)I"⟩, 38) := ⟨⟨by decide +kernel, by decide +kernel⟩, List.mem_of_getElem? (i := 1254) (by decide +kernel), List.mem_of_getElem? (i := 1808) (by decide +kernel), List.mem_of_getElem? (i := 1809) (by decide +kernel)⟩
theorem lw_p118 : lw_okq (⟨"PegLawsModel", "firstFree", "(II)I"⟩, 38) := ⟨⟨by decide +kernel, by decide +kernel⟩, List.mem_of_getElem? (i := 1254) (by decide +kernel), List.mem_of_getElem? (i := 1816) (by decide +kernel), List.mem_of_getElem? (i := 1817) (by decide +kernel)⟩
theorem lw_p119 : lw_okq (⟨"PegLawsModel", "turnedSet", "()I"⟩, 38) := ⟨⟨by decide +kernel, by decide +kernel⟩, List.mem_of_getElem? (i := 1254) (by decide +kernel), List.mem_of_getElem? (i := 1828) (by decide +kernel), List.mem_of_getElem? (i := 1829) (by decide +kernel)⟩
def lw_privs_8 : List (MethodName × Nat) := [(⟨"PegLawsModel", "washesFrom", "(III)V"⟩, 38), (⟨"PegLawsModel", "startsNow", "()I"⟩, 38), (⟨"PegLawsModel", "wetBehind", "(III)I"⟩, 38), (⟨"PegLawsModel", "worthBehind", "(II)I"⟩, 38), (⟨"PegLawsModel", "drawsCloth", "()V"⟩, 38), (⟨"PegLawsModel", "draw", "(I)I"⟩, 38), (⟨"PegLawsModel", "firstFree", "(II)I"⟩, 38), (⟨"PegLawsModel", "turnedSet", "()I"⟩, 38)]
theorem lw_r8 : ∀ q ∈ lw_privs_8, lw_okq q := List.forall_mem_cons.mpr ⟨lw_p112, List.forall_mem_cons.mpr ⟨lw_p113, List.forall_mem_cons.mpr ⟨lw_p114, List.forall_mem_cons.mpr ⟨lw_p115, List.forall_mem_cons.mpr ⟨lw_p116, List.forall_mem_cons.mpr ⟨lw_p117, List.forall_mem_cons.mpr ⟨lw_p118, List.forall_mem_cons.mpr ⟨lw_p119, fun _ h => absurd h List.not_mem_nil⟩⟩⟩⟩⟩⟩⟩⟩
def lw_privs : List (MethodName × Nat) := lw_privs_1 ++ (lw_privs_2 ++ (lw_privs_3 ++ (lw_privs_4 ++ (lw_privs_5 ++ (lw_privs_6 ++ (lw_privs_7 ++ (lw_privs_8)))))))
def lw_tbl : List Cond := k2_sels lw_privs ++ tables_1
theorem lw_privs_ok : ∀ q ∈ lw_privs, lw_okq q := by
  show ∀ q ∈ lw_privs_1 ++ (lw_privs_2 ++ (lw_privs_3 ++ (lw_privs_4 ++ (lw_privs_5 ++ (lw_privs_6 ++ (lw_privs_7 ++ (lw_privs_8))))))), lw_okq q
  exact List.forall_mem_append.mpr ⟨lw_r1, List.forall_mem_append.mpr ⟨lw_r2, List.forall_mem_append.mpr ⟨lw_r3, List.forall_mem_append.mpr ⟨lw_r4, List.forall_mem_append.mpr ⟨lw_r5, List.forall_mem_append.mpr ⟨lw_r6, List.forall_mem_append.mpr ⟨lw_r7, lw_r8⟩⟩⟩⟩⟩⟩⟩
def pg_gd : List Cond := lw_tbl.filter goodWord
theorem pg_g {w : Cond} (h : w ∈ lw_tbl) (hg : goodWord w = true) : w ∈ pg_gd := List.mem_filter.mpr ⟨h, hg⟩
theorem pg_sub {w : Cond} (h : w ∈ pg_gd) : w ∈ lw_tbl := (List.mem_filter.mp h).1
theorem pg_good {c : Cond} (h : c ∈ pg_gd) : GoodIn pg_gd (c :: pg_gd) := fun w hw => by
  have hw' : w ∈ pg_gd := (List.mem_cons.mp hw).elim (fun e => e ▸ h) id
  exact ⟨hw', good_of_word (List.mem_filter.mp hw').2⟩
theorem pg_tt {w : Cond} (h : w ∈ tables_1) : w ∈ lw_tbl := List.mem_append_right _ h
theorem pg_t1 {w : Cond} (n : Nat) (h : tables_1_1[n]? = some w) : w ∈ lw_tbl := pg_tt (List.mem_append_left _ (List.mem_of_getElem? h))
theorem pg_t2 {w : Cond} (n : Nat) (h : tables_1_2[n]? = some w) : w ∈ lw_tbl := pg_tt (List.mem_append_right _ (List.mem_append_left _ (List.mem_of_getElem? h)))
theorem pg_t3 {w : Cond} (n : Nat) (h : tables_1_3[n]? = some w) : w ∈ lw_tbl := pg_tt (List.mem_append_right _ (List.mem_append_right _ (List.mem_append_left _ (List.mem_of_getElem? h))))
theorem pg_t4 {w : Cond} (n : Nat) (h : tables_1_4[n]? = some w) : w ∈ lw_tbl := pg_tt (List.mem_append_right _ (List.mem_append_right _ (List.mem_append_right _ (List.mem_append_left _ (List.mem_of_getElem? h)))))
theorem pg_t5 {w : Cond} (n : Nat) (h : tables_1_5[n]? = some w) : w ∈ lw_tbl := pg_tt (List.mem_append_right _ (List.mem_append_right _ (List.mem_append_right _ (List.mem_append_right _ (List.mem_append_left _ (List.mem_of_getElem? h))))))
theorem pg_t6 {w : Cond} (n : Nat) (h : tables_1_6[n]? = some w) : w ∈ lw_tbl := pg_tt (List.mem_append_right _ (List.mem_append_right _ (List.mem_append_right _ (List.mem_append_right _ (List.mem_append_right _ (List.mem_append_left _ (List.mem_of_getElem? h)))))))
theorem pg_t7 {w : Cond} (n : Nat) (h : tables_1_7[n]? = some w) : w ∈ lw_tbl := pg_tt (List.mem_append_right _ (List.mem_append_right _ (List.mem_append_right _ (List.mem_append_right _ (List.mem_append_right _ (List.mem_append_right _ (List.mem_append_left _ (List.mem_of_getElem? h))))))))
theorem pg_t8 {w : Cond} (n : Nat) (h : tables_1_8[n]? = some w) : w ∈ lw_tbl := pg_tt (List.mem_append_right _ (List.mem_append_right _ (List.mem_append_right _ (List.mem_append_right _ (List.mem_append_right _ (List.mem_append_right _ (List.mem_append_right _ (List.mem_of_getElem? h))))))))
theorem pg_sel {q : MethodName × Nat} (h : q ∈ lw_privs) : Cond.selects q.1.cls q.1 q.1 ∈ lw_tbl := List.mem_append_left _ (List.mem_map.mpr ⟨q, h, rfl⟩)
end
section
def RX0 : String := "PegLaws$Chances"
def TX0 : u_T := fun k => match k with
  | 0 => ("PegLaws$Chances", "runs", "[J", true)
  | _ => ("PegLaws$Chances", "nextRuns", "[J", true)
def tyX0 : Nat → FieldType := fun k => match k with
  | 0 => .array .long
  | _ => .array .long
theorem nmX0 : ∀ a, a < 2 → ∀ b, b < 2 → a ≠ b → (TX0 a).2.1 ≠ (TX0 b).2.1 := by decide +kernel
theorem tyX0_ok : ∀ k, k < 2 → parseFieldDescriptor (TX0 k).2.2.1 = some (tyX0 k) := by decide +kernel
def RX1 : String := "PegLaws$Day"
def TX1 : u_T := fun k => match k with
  | 0 => ("PegLaws$Day", "deeds", "[I", true)
  | 1 => ("PegLaws$Day", "cloths", "[I", true)
  | 2 => ("PegLaws$Day", "details", "[I", true)
  | 3 => ("PegLaws$Day", "lines", "I", false)
  | 4 => ("PegLaws$Day", "firstRefused", "I", false)
  | _ => ("PegLaws$Day", "firstFall", "I", false)
def tyX1 : Nat → FieldType := fun k => match k with
  | 0 => .array .int
  | 1 => .array .int
  | 2 => .array .int
  | 3 => .int
  | 4 => .int
  | _ => .int
theorem nmX1 : ∀ a, a < 6 → ∀ b, b < 6 → a ≠ b → (TX1 a).2.1 ≠ (TX1 b).2.1 := by decide +kernel
theorem tyX1_ok : ∀ k, k < 6 → parseFieldDescriptor (TX1 k).2.2.1 = some (tyX1 k) := by decide +kernel
def RX2 : String := "PegLaws$Felt"
def TX2 : u_T := fun k => match k with
  | 0 => ("PegLaws$Felt", "cloths", "[I", true)
  | 1 => ("PegLaws$Felt", "hours", "[I", true)
  | 2 => ("PegLaws$Felt", "wets", "[I", true)
  | 3 => ("PegLaws$Felt", "wetByStart", "[I", true)
  | 4 => ("PegLaws$Felt", "startsByWet", "[I", true)
  | _ => ("PegLaws$Felt", "count", "I", false)
def tyX2 : Nat → FieldType := fun k => match k with
  | 0 => .array .int
  | 1 => .array .int
  | 2 => .array .int
  | 3 => .array .int
  | 4 => .array .int
  | _ => .int
theorem nmX2 : ∀ a, a < 6 → ∀ b, b < 6 → a ≠ b → (TX2 a).2.1 ≠ (TX2 b).2.1 := by decide +kernel
theorem tyX2_ok : ∀ k, k < 6 → parseFieldDescriptor (TX2 k).2.2.1 = some (tyX2 k) := by decide +kernel
def RX3 : String := "PegLaws$Filler"
def TX3 : u_T := fun k => match k with
  | 0 => ("PegLaws$Filler", "choices", "[I", true)
  | 1 => ("PegLaws$Filler", "choiceCounts", "[I", true)
  | 2 => ("PegLaws$Filler", "widths", "[I", true)
  | 3 => ("PegLaws$Filler", "worths", "[I", true)
  | 4 => ("PegLaws$Filler", "canHang", "[Z", true)
  | 5 => ("PegLaws$Filler", "holding", "[J", true)
  | 6 => ("PegLaws$Filler", "row", "[I", true)
  | 7 => ("PegLaws$Filler", "sets", "I", false)
  | 8 => ("PegLaws$Filler", "masks", "I", false)
  | _ => ("PegLaws$Filler", "best", "I", false)
def tyX3 : Nat → FieldType := fun k => match k with
  | 0 => .array .int
  | 1 => .array .int
  | 2 => .array .int
  | 3 => .array .int
  | 4 => .array .boolean
  | 5 => .array .long
  | 6 => .array .int
  | 7 => .int
  | 8 => .int
  | _ => .int
theorem nmX3 : ∀ a, a < 10 → ∀ b, b < 10 → a ≠ b → (TX3 a).2.1 ≠ (TX3 b).2.1 := by decide +kernel
theorem tyX3_ok : ∀ k, k < 10 → parseFieldDescriptor (TX3 k).2.2.1 = some (tyX3 k) := by decide +kernel
def RX4 : String := "PegLaws$Laundry"
def TX4 : u_T := fun k => match k with
  | 0 => ("PegLaws$Laundry", "dirty", "[I", true)
  | 1 => ("PegLaws$Laundry", "dryBehind", "[I", true)
  | 2 => ("PegLaws$Laundry", "soonest", "[I", true)
  | 3 => ("PegLaws$Laundry", "order", "[I", true)
  | 4 => ("PegLaws$Laundry", "count", "I", false)
  | _ => ("PegLaws$Laundry", "hours", "I", false)
def tyX4 : Nat → FieldType := fun k => match k with
  | 0 => .array .int
  | 1 => .array .int
  | 2 => .array .int
  | 3 => .array .int
  | 4 => .int
  | _ => .int
theorem nmX4 : ∀ a, a < 6 → ∀ b, b < 6 → a ≠ b → (TX4 a).2.1 ≠ (TX4 b).2.1 := by decide +kernel
theorem tyX4_ok : ∀ k, k < 6 → parseFieldDescriptor (TX4 k).2.2.1 = some (tyX4 k) := by decide +kernel
def RX5 : String := "PegLaws$Line"
def TX5 : u_T := fun k => match k with
  | 0 => ("PegLaws$Line", "names", "[J", true)
  | 1 => ("PegLaws$Line", "kinds", "[I", true)
  | 2 => ("PegLaws$Line", "widths", "[I", true)
  | 3 => ("PegLaws$Line", "weights", "[I", true)
  | 4 => ("PegLaws$Line", "worths", "[I", true)
  | 5 => ("PegLaws$Line", "foes", "[I", true)
  | 6 => ("PegLaws$Line", "grips", "[I", true)
  | 7 => ("PegLaws$Line", "winds", "[I", true)
  | 8 => ("PegLaws$Line", "pulls", "LPegLaws$Rule;", true)
  | 9 => ("PegLaws$Line", "dries", "LPegLaws$Rule;", true)
  | 10 => ("PegLaws$Line", "cloths", "I", false)
  | 11 => ("PegLaws$Line", "pegs", "I", false)
  | 12 => ("PegLaws$Line", "windCount", "I", false)
  | 13 => ("PegLaws$Line", "yards", "I", false)
  | 14 => ("PegLaws$Line", "gusts", "I", false)
  | _ => ("PegLaws$Line", "clashPairs", "I", false)
def tyX5 : Nat → FieldType := fun k => match k with
  | 0 => .array .long
  | 1 => .array .int
  | 2 => .array .int
  | 3 => .array .int
  | 4 => .array .int
  | 5 => .array .int
  | 6 => .array .int
  | 7 => .array .int
  | 8 => .object "PegLaws$Rule"
  | 9 => .object "PegLaws$Rule"
  | 10 => .int
  | 11 => .int
  | 12 => .int
  | 13 => .int
  | 14 => .int
  | _ => .int
theorem nmX5 : ∀ a, a < 16 → ∀ b, b < 16 → a ≠ b → (TX5 a).2.1 ≠ (TX5 b).2.1 := by decide +kernel
theorem tyX5_ok : ∀ k, k < 16 → parseFieldDescriptor (TX5 k).2.2.1 = some (tyX5 k) := by decide +kernel
def RX6 : String := "PegLaws$Past"
def TX6 : u_T := fun k => match k with
  | 0 => ("PegLaws$Past", "steps", "[LPegLaws$State;", true)
  | 1 => ("PegLaws$Past", "markedStates", "[LPegLaws$State;", true)
  | 2 => ("PegLaws$Past", "markedFelts", "[LPegLaws$Felt;", true)
  | 3 => ("PegLaws$Past", "laid", "[Z", true)
  | 4 => ("PegLaws$Past", "draftAt", "I", false)
  | _ => ("PegLaws$Past", "count", "I", false)
def tyX6 : Nat → FieldType := fun k => match k with
  | 0 => .array (.object "PegLaws$State")
  | 1 => .array (.object "PegLaws$State")
  | 2 => .array (.object "PegLaws$Felt")
  | 3 => .array .boolean
  | 4 => .int
  | _ => .int
theorem nmX6 : ∀ a, a < 6 → ∀ b, b < 6 → a ≠ b → (TX6 a).2.1 ≠ (TX6 b).2.1 := by decide +kernel
theorem tyX6_ok : ∀ k, k < 6 → parseFieldDescriptor (TX6 k).2.2.1 = some (tyX6 k) := by decide +kernel
def RX7 : String := "PegLaws$Reader"
def TX7 : u_T := fun k => match k with
  | 0 => ("PegLaws$Reader", "tape", "[C", true)
  | 1 => ("PegLaws$Reader", "length", "I", false)
  | 2 => ("PegLaws$Reader", "place", "I", false)
  | 3 => ("PegLaws$Reader", "behind", "I", false)
  | 4 => ("PegLaws$Reader", "sort", "I", false)
  | 5 => ("PegLaws$Reader", "number", "I", false)
  | 6 => ("PegLaws$Reader", "name", "J", false)
  | 7 => ("PegLaws$Reader", "word", "I", false)
  | 8 => ("PegLaws$Reader", "toldOnce", "I", false)
  | _ => ("PegLaws$Reader", "fault", "I", false)
def tyX7 : Nat → FieldType := fun k => match k with
  | 0 => .array .char
  | 1 => .int
  | 2 => .int
  | 3 => .int
  | 4 => .int
  | 5 => .int
  | 6 => .long
  | 7 => .int
  | 8 => .int
  | _ => .int
theorem nmX7 : ∀ a, a < 10 → ∀ b, b < 10 → a ≠ b → (TX7 a).2.1 ≠ (TX7 b).2.1 := by decide +kernel
theorem tyX7_ok : ∀ k, k < 10 → parseFieldDescriptor (TX7 k).2.2.1 = some (tyX7 k) := by decide +kernel
def RX8 : String := "PegLaws$Rule"
def TX8 : u_T := fun k => match k with
  | 0 => ("PegLaws$Rule", "code", "[I", true)
  | 1 => ("PegLaws$Rule", "stack", "[I", true)
  | _ => ("PegLaws$Rule", "length", "I", false)
def tyX8 : Nat → FieldType := fun k => match k with
  | 0 => .array .int
  | 1 => .array .int
  | _ => .int
theorem nmX8 : ∀ a, a < 3 → ∀ b, b < 3 → a ≠ b → (TX8 a).2.1 ≠ (TX8 b).2.1 := by decide +kernel
theorem tyX8_ok : ∀ k, k < 3 → parseFieldDescriptor (TX8 k).2.2.1 = some (tyX8 k) := by decide +kernel
def RX9 : String := "PegLaws$State"
def TX9 : u_T := fun k => match k with
  | 0 => ("PegLaws$State", "wet", "[I", true)
  | 1 => ("PegLaws$State", "stains", "[I", true)
  | 2 => ("PegLaws$State", "held", "[I", true)
  | 3 => ("PegLaws$State", "grips", "[I", true)
  | 4 => ("PegLaws$State", "pegs", "I", false)
  | _ => ("PegLaws$State", "hour", "I", false)
def tyX9 : Nat → FieldType := fun k => match k with
  | 0 => .array .int
  | 1 => .array .int
  | 2 => .array .int
  | 3 => .array .int
  | 4 => .int
  | _ => .int
theorem nmX9 : ∀ a, a < 6 → ∀ b, b < 6 → a ≠ b → (TX9 a).2.1 ≠ (TX9 b).2.1 := by decide +kernel
theorem tyX9_ok : ∀ k, k < 6 → parseFieldDescriptor (TX9 k).2.2.1 = some (tyX9 k) := by decide +kernel
def RX10 : String := "PegLaws"
def TX10 : u_T := fun k => match k with
  | 0 => ("PegLaws", "reader", "LPegLaws$Reader;", true)
  | 1 => ("PegLaws", "now", "LPegLaws$State;", true)
  | 2 => ("PegLaws", "trial", "LPegLaws$State;", true)
  | 3 => ("PegLaws", "felt", "LPegLaws$Felt;", true)
  | 4 => ("PegLaws", "past", "LPegLaws$Past;", true)
  | 5 => ("PegLaws", "filler", "LPegLaws$Filler;", true)
  | 6 => ("PegLaws", "chances", "LPegLaws$Chances;", true)
  | 7 => ("PegLaws", "laundry", "LPegLaws$Laundry;", true)
  | 8 => ("PegLaws", "told", "LPegLaws$Line;", false)
  | 9 => ("PegLaws", "spareLine", "LPegLaws$Line;", false)
  | 10 => ("PegLaws", "plan", "LPegLaws$Day;", false)
  | 11 => ("PegLaws", "spareDay", "LPegLaws$Day;", false)
  | _ => ("PegLaws", "drawn", "J", false)
def tyX10 : Nat → FieldType := fun k => match k with
  | 0 => .object "PegLaws$Reader"
  | 1 => .object "PegLaws$State"
  | 2 => .object "PegLaws$State"
  | 3 => .object "PegLaws$Felt"
  | 4 => .object "PegLaws$Past"
  | 5 => .object "PegLaws$Filler"
  | 6 => .object "PegLaws$Chances"
  | 7 => .object "PegLaws$Laundry"
  | 8 => .object "PegLaws$Line"
  | 9 => .object "PegLaws$Line"
  | 10 => .object "PegLaws$Day"
  | 11 => .object "PegLaws$Day"
  | _ => .long
theorem nmX10 : ∀ a, a < 13 → ∀ b, b < 13 → a ≠ b → (TX10 a).2.1 ≠ (TX10 b).2.1 := by decide +kernel
theorem tyX10_ok : ∀ k, k < 13 → parseFieldDescriptor (TX10 k).2.2.1 = some (tyX10 k) := by decide +kernel
def RX11 : String := "PegLawsModel"
def TX11 : u_T := fun k => match k with
  | 0 => ("PegLawsModel", "thrown", "I", false)
  | 1 => ("PegLawsModel", "tape", "[I", true)
  | 2 => ("PegLawsModel", "taped", "I", false)
  | 3 => ("PegLawsModel", "size", "I", false)
  | 4 => ("PegLawsModel", "sort", "[I", true)
  | 5 => ("PegLawsModel", "place", "[I", true)
  | 6 => ("PegLawsModel", "value", "[J", true)
  | 7 => ("PegLawsModel", "at", "I", false)
  | 8 => ("PegLawsModel", "fault", "I", false)
  | 9 => ("PegLawsModel", "words", "[J", true)
  | 10 => ("PegLawsModel", "ropes", "[I", true)
  | 11 => ("PegLawsModel", "op", "[I", true)
  | 12 => ("PegLawsModel", "arg", "[I", true)
  | 13 => ("PegLawsModel", "codes", "I", false)
  | 14 => ("PegLawsModel", "names", "[J", true)
  | 15 => ("PegLawsModel", "readNames", "[J", true)
  | 16 => ("PegLawsModel", "namesMany", "I", false)
  | 17 => ("PegLawsModel", "readMany", "I", false)
  | 18 => ("PegLawsModel", "once", "I", false)
  | 19 => ("PegLawsModel", "lines", "[I", true)
  | 20 => ("PegLawsModel", "facts", "[I", true)
  | 21 => ("PegLawsModel", "pile", "[I", true)
  | 22 => ("PegLawsModel", "state", "[I", true)
  | 23 => ("PegLawsModel", "undos", "I", false)
  | 24 => ("PegLawsModel", "isMarked", "[Z", true)
  | 25 => ("PegLawsModel", "hardest", "[I", true)
  | 26 => ("PegLawsModel", "pegRow", "[I", true)
  | 27 => ("PegLawsModel", "bestPegs", "[I", true)
  | 28 => ("PegLawsModel", "mostWorth", "I", false)
  | 29 => ("PegLawsModel", "whole", "I", false)
  | 30 => ("PegLawsModel", "chanceGrips", "[I", true)
  | 31 => ("PegLawsModel", "dryAt", "[I", true)
  | 32 => ("PegLawsModel", "dryRow", "[I", true)
  | 33 => ("PegLawsModel", "bestDry", "[I", true)
  | 34 => ("PegLawsModel", "soonest", "I", false)
  | 35 => ("PegLawsModel", "toWash", "I", false)
  | 36 => ("PegLawsModel", "alike", "[I", true)
  | _ => ("PegLawsModel", "g", "J", false)
def tyX11 : Nat → FieldType := fun k => match k with
  | 0 => .int
  | 1 => .array .int
  | 2 => .int
  | 3 => .int
  | 4 => .array .int
  | 5 => .array .int
  | 6 => .array .long
  | 7 => .int
  | 8 => .int
  | 9 => .array .long
  | 10 => .array .int
  | 11 => .array .int
  | 12 => .array .int
  | 13 => .int
  | 14 => .array .long
  | 15 => .array .long
  | 16 => .int
  | 17 => .int
  | 18 => .int
  | 19 => .array .int
  | 20 => .array .int
  | 21 => .array .int
  | 22 => .array .int
  | 23 => .int
  | 24 => .array .boolean
  | 25 => .array .int
  | 26 => .array .int
  | 27 => .array .int
  | 28 => .int
  | 29 => .int
  | 30 => .array .int
  | 31 => .array .int
  | 32 => .array .int
  | 33 => .array .int
  | 34 => .int
  | 35 => .int
  | 36 => .array .int
  | _ => .long
theorem nmX11 : ∀ a, a < 38 → ∀ b, b < 38 → a ≠ b → (TX11 a).2.1 ≠ (TX11 b).2.1 := by decide +kernel
theorem tyX11_ok : ∀ k, k < 38 → parseFieldDescriptor (TX11 k).2.2.1 = some (tyX11 k) := by decide +kernel
def RJ11 : String := "java/lang/Character"
def RJ6 : String := "java/lang/Integer"
def RJ9 : String := "java/lang/Math"
def RJ0 : String := "java/lang/String"
def RJ1 : String := "java/lang/StringLatin1"
def RJ2 : String := "java/lang/StringUTF16"
def RJ10 : String := "java/lang/System"
def RJ7 : String := "java/util/Arrays"
def RJ3 : String := "jdk/internal/util/Preconditions"
def RL : String := "PegLawsLaw"
abbrev pg_cls : List vw_C := [(RX0, TX0, 2), (RX1, TX1, 6), (RX2, TX2, 6), (RX3, TX3, 10), (RX4, TX4, 6), (RX5, TX5, 16), (RX6, TX6, 6), (RX7, TX7, 10), (RX8, TX8, 3), (RX9, TX9, 6), (RX10, TX10, 13), (RX11, TX11, 38)]
abbrev pg_Y : Type := MethodName × ByteArray × Nat × Option FieldType
abbrev cX0_init : ByteArray := prog_2_method_1_code
def yX0_init : MethodName := ⟨RX0, "<init>", "()V"⟩
abbrev YX0_init : pg_Y := (yX0_init, cX0_init, 1, none)
abbrev cX0_millionths : ByteArray := prog_2_method_2_code
def yX0_millionths : MethodName := ⟨RX0, "millionths", "(LPegLaws$Line;LPegLaws$State;II)I"⟩
abbrev YX0_millionths : pg_Y := (yX0_millionths, cX0_millionths, 10, (some .int))
abbrev cX0_goOn : ByteArray := prog_2_method_3_code
def yX0_goOn : MethodName := ⟨RX0, "goOn", "(LPegLaws$Line;LPegLaws$State;IIII)V"⟩
abbrev YX0_goOn : pg_Y := (yX0_goOn, cX0_goOn, 11, none)
abbrev cX1_init : ByteArray := prog_3_method_1_code
def yX1_init : MethodName := ⟨RX1, "<init>", "()V"⟩
abbrev YX1_init : pg_Y := (yX1_init, cX1_init, 1, none)
abbrev cX1_clear : ByteArray := prog_3_method_2_code
def yX1_clear : MethodName := ⟨RX1, "clear", "()V"⟩
abbrev YX1_clear : pg_Y := (yX1_clear, cX1_clear, 1, none)
abbrev cX1_add : ByteArray := prog_3_method_3_code
def yX1_add : MethodName := ⟨RX1, "add", "(III)V"⟩
abbrev YX1_add : pg_Y := (yX1_add, cX1_add, 4, none)
abbrev cX1_judge : ByteArray := prog_3_method_4_code
def yX1_judge : MethodName := ⟨RX1, "judge", "(LPegLaws$Line;LPegLaws$State;)V"⟩
abbrev YX1_judge : pg_Y := (yX1_judge, cX1_judge, 4, none)
abbrev cX1_canDo : ByteArray := prog_3_method_5_code
def yX1_canDo : MethodName := ⟨RX1, "canDo", "(LPegLaws$Line;LPegLaws$State;I)Z"⟩
abbrev YX1_canDo : pg_Y := (yX1_canDo, cX1_canDo, 4, (some .boolean))
abbrev cX2_init : ByteArray := prog_4_method_1_code
def yX2_init : MethodName := ⟨RX2, "<init>", "()V"⟩
abbrev YX2_init : pg_Y := (yX2_init, cX2_init, 1, none)
abbrev cX2_clear : ByteArray := prog_4_method_2_code
def yX2_clear : MethodName := ⟨RX2, "clear", "()V"⟩
abbrev YX2_clear : pg_Y := (yX2_clear, cX2_clear, 1, none)
abbrev cX2_copyFrom : ByteArray := prog_4_method_3_code
def yX2_copyFrom : MethodName := ⟨RX2, "copyFrom", "(LPegLaws$Felt;)V"⟩
abbrev YX2_copyFrom : pg_Y := (yX2_copyFrom, cX2_copyFrom, 2, none)
abbrev cX2_add : ByteArray := prog_4_method_4_code
def yX2_add : MethodName := ⟨RX2, "add", "(III)Z"⟩
abbrev YX2_add : pg_Y := (yX2_add, cX2_add, 4, (some .boolean))
abbrev cX2_startBits : ByteArray := prog_4_method_5_code
def yX2_startBits : MethodName := ⟨RX2, "startBits", "(LPegLaws$Line;)I"⟩
abbrev YX2_startBits : pg_Y := (yX2_startBits, cX2_startBits, 4, (some .int))
abbrev cX2_allSo : ByteArray := prog_4_method_6_code
def yX2_allSo : MethodName := ⟨RX2, "allSo", "(LPegLaws$Line;I)Z"⟩
abbrev YX2_allSo : pg_Y := (yX2_allSo, cX2_allSo, 6, (some .boolean))
abbrev cX2_bestHours : ByteArray := prog_4_method_7_code
def yX2_bestHours : MethodName := ⟨RX2, "bestHours", "(LPegLaws$Line;I)I"⟩
abbrev YX2_bestHours : pg_Y := (yX2_bestHours, cX2_bestHours, 9, (some .int))
abbrev cX2_mostAlike : ByteArray := prog_4_method_8_code
def yX2_mostAlike : MethodName := ⟨RX2, "mostAlike", "(I)I"⟩
abbrev YX2_mostAlike : pg_Y := (yX2_mostAlike, cX2_mostAlike, 5, (some .int))
abbrev cX3_init : ByteArray := prog_5_method_1_code
def yX3_init : MethodName := ⟨RX3, "<init>", "()V"⟩
abbrev YX3_init : pg_Y := (yX3_init, cX3_init, 1, none)
abbrev cX3_plan : ByteArray := prog_5_method_2_code
def yX3_plan : MethodName := ⟨RX3, "plan", "(LPegLaws$Line;LPegLaws$State;I)V"⟩
abbrev YX3_plan : pg_Y := (yX3_plan, cX3_plan, 5, none)
abbrev cX3_chooseFor : ByteArray := prog_5_method_3_code
def yX3_chooseFor : MethodName := ⟨RX3, "chooseFor", "(LPegLaws$Line;LPegLaws$State;II)V"⟩
abbrev YX3_chooseFor : pg_Y := (yX3_chooseFor, cX3_chooseFor, 10, none)
abbrev cX3_mostPull : ByteArray := prog_5_method_4_code
def yX3_mostPull : MethodName := ⟨RX3, "mostPull", "(LPegLaws$Line;LPegLaws$State;II)I"⟩
abbrev YX3_mostPull : pg_Y := (yX3_mostPull, cX3_mostPull, 8, (some .int))
abbrev cX3_holdSet : ByteArray := prog_5_method_5_code
def yX3_holdSet : MethodName := ⟨RX3, "holdSet", "(LPegLaws$Line;I)V"⟩
abbrev YX3_holdSet : pg_Y := (yX3_holdSet, cX3_holdSet, 6, none)
abbrev cX3_holdMore : ByteArray := prog_5_method_6_code
def yX3_holdMore : MethodName := ⟨RX3, "holdMore", "(III)V"⟩
abbrev YX3_holdMore : pg_Y := (yX3_holdMore, cX3_holdMore, 7, none)
abbrev cX3_holdsBy : ByteArray := prog_5_method_7_code
def yX3_holdsBy : MethodName := ⟨RX3, "holdsBy", "(II)Z"⟩
abbrev YX3_holdsBy : pg_Y := (yX3_holdsBy, cX3_holdsBy, 3, (some .boolean))
abbrev cX3_layRow : ByteArray := prog_5_method_8_code
def yX3_layRow : MethodName := ⟨RX3, "layRow", "(LPegLaws$Line;)V"⟩
abbrev YX3_layRow : pg_Y := (yX3_layRow, cX3_layRow, 7, none)
abbrev cX3_firstChoice : ByteArray := prog_5_method_9_code
def yX3_firstChoice : MethodName := ⟨RX3, "firstChoice", "(LPegLaws$Line;III)I"⟩
abbrev YX3_firstChoice : pg_Y := (yX3_firstChoice, cX3_firstChoice, 7, (some .int))
abbrev cX3_canEnd : ByteArray := prog_5_method_10_code
def yX3_canEnd : MethodName := ⟨RX3, "canEnd", "(LPegLaws$Line;III)Z"⟩
abbrev YX3_canEnd : pg_Y := (yX3_canEnd, cX3_canEnd, 8, (some .boolean))
abbrev cX3_holdsWithout : ByteArray := prog_5_method_11_code
def yX3_holdsWithout : MethodName := ⟨RX3, "holdsWithout", "(II)Z"⟩
abbrev YX3_holdsWithout : pg_Y := (yX3_holdsWithout, cX3_holdsWithout, 4, (some .boolean))
abbrev cX4_init : ByteArray := prog_6_method_1_code
def yX4_init : MethodName := ⟨RX4, "<init>", "()V"⟩
abbrev YX4_init : pg_Y := (yX4_init, cX4_init, 1, none)
abbrev cX4_plan : ByteArray := prog_6_method_2_code
def yX4_plan : MethodName := ⟨RX4, "plan", "(LPegLaws$Line;LPegLaws$State;)V"⟩
abbrev YX4_plan : pg_Y := (yX4_plan, cX4_plan, 5, none)
abbrev cX4_dryAt : ByteArray := prog_6_method_3_code
def yX4_dryAt : MethodName := ⟨RX4, "dryAt", "(LPegLaws$Line;III)I"⟩
abbrev YX4_dryAt : pg_Y := (yX4_dryAt, cX4_dryAt, 6, (some .int))
abbrev cX4_soonestOf : ByteArray := prog_6_method_4_code
def yX4_soonestOf : MethodName := ⟨RX4, "soonestOf", "(I)I"⟩
abbrev YX4_soonestOf : pg_Y := (yX4_soonestOf, cX4_soonestOf, 4, (some .int))
abbrev cX4_dryIfNext : ByteArray := prog_6_method_5_code
def yX4_dryIfNext : MethodName := ⟨RX4, "dryIfNext", "(II)I"⟩
abbrev YX4_dryIfNext : pg_Y := (yX4_dryIfNext, cX4_dryIfNext, 4, (some .int))
abbrev cX4_layOrder : ByteArray := prog_6_method_6_code
def yX4_layOrder : MethodName := ⟨RX4, "layOrder", "(I)V"⟩
abbrev YX4_layOrder : pg_Y := (yX4_layOrder, cX4_layOrder, 5, none)
abbrev cX4_firstInTime : ByteArray := prog_6_method_7_code
def yX4_firstInTime : MethodName := ⟨RX4, "firstInTime", "(II)I"⟩
abbrev YX4_firstInTime : pg_Y := (yX4_firstInTime, cX4_firstInTime, 4, (some .int))
abbrev cX5_init : ByteArray := prog_7_method_1_code
def yX5_init : MethodName := ⟨RX5, "<init>", "()V"⟩
abbrev YX5_init : pg_Y := (yX5_init, cX5_init, 1, none)
abbrev cX5_clear : ByteArray := prog_7_method_2_code
def yX5_clear : MethodName := ⟨RX5, "clear", "()V"⟩
abbrev YX5_clear : pg_Y := (yX5_clear, cX5_clear, 1, none)
abbrev cX5_has : ByteArray := prog_7_method_3_code
def yX5_has : MethodName := ⟨RX5, "has", "(I)Z"⟩
abbrev YX5_has : pg_Y := (yX5_has, cX5_has, 2, (some .boolean))
abbrev cX5_clothNamed : ByteArray := prog_7_method_4_code
def yX5_clothNamed : MethodName := ⟨RX5, "clothNamed", "(J)I"⟩
abbrev YX5_clothNamed : pg_Y := (yX5_clothNamed, cX5_clothNamed, 4, (some .int))
abbrev cX5_clashTold : ByteArray := prog_7_method_5_code
def yX5_clashTold : MethodName := ⟨RX5, "clashTold", "(II)Z"⟩
abbrev YX5_clashTold : pg_Y := (yX5_clashTold, cX5_clashTold, 3, (some .boolean))
abbrev cX5_addClash : ByteArray := prog_7_method_6_code
def yX5_addClash : MethodName := ⟨RX5, "addClash", "(II)V"⟩
abbrev YX5_addClash : pg_Y := (yX5_addClash, cX5_addClash, 3, none)
abbrev cX5_clashesAmong : ByteArray := prog_7_method_7_code
def yX5_clashesAmong : MethodName := ⟨RX5, "clashesAmong", "(I)I"⟩
abbrev YX5_clashesAmong : pg_Y := (yX5_clashesAmong, cX5_clashesAmong, 4, (some .int))
abbrev cX5_worthOf : ByteArray := prog_7_method_8_code
def yX5_worthOf : MethodName := ⟨RX5, "worthOf", "(I)I"⟩
abbrev YX5_worthOf : pg_Y := (yX5_worthOf, cX5_worthOf, 4, (some .int))
abbrev cX5_pegsFor : ByteArray := prog_7_method_9_code
def yX5_pegsFor : MethodName := ⟨RX5, "pegsFor", "(I)I"⟩
abbrev YX5_pegsFor : pg_Y := (yX5_pegsFor, cX5_pegsFor, 2, (some .int))
abbrev cX5_windAt : ByteArray := prog_7_method_10_code
def yX5_windAt : MethodName := ⟨RX5, "windAt", "(I)I"⟩
abbrev YX5_windAt : pg_Y := (yX5_windAt, cX5_windAt, 2, (some .int))
abbrev cX5_pullOn : ByteArray := prog_7_method_11_code
def yX5_pullOn : MethodName := ⟨RX5, "pullOn", "(III)I"⟩
abbrev YX5_pullOn : pg_Y := (yX5_pullOn, cX5_pullOn, 5, (some .int))
abbrev cX5_wetAfter : ByteArray := prog_7_method_12_code
def yX5_wetAfter : MethodName := ⟨RX5, "wetAfter", "(III)I"⟩
abbrev YX5_wetAfter : pg_Y := (yX5_wetAfter, cX5_wetAfter, 5, (some .int))
abbrev cX5_massOf : ByteArray := prog_7_method_13_code
def yX5_massOf : MethodName := ⟨RX5, "massOf", "(II)I"⟩
abbrev YX5_massOf : pg_Y := (yX5_massOf, cX5_massOf, 3, (some .int))
abbrev cX6_init : ByteArray := prog_8_method_1_code
def yX6_init : MethodName := ⟨RX6, "<init>", "()V"⟩
abbrev YX6_init : pg_Y := (yX6_init, cX6_init, 2, none)
abbrev cX6_clear : ByteArray := prog_8_method_2_code
def yX6_clear : MethodName := ⟨RX6, "clear", "()V"⟩
abbrev YX6_clear : pg_Y := (yX6_clear, cX6_clear, 2, none)
abbrev cX6_draft : ByteArray := prog_8_method_3_code
def yX6_draft : MethodName := ⟨RX6, "draft", "(LPegLaws$State;)V"⟩
abbrev YX6_draft : pg_Y := (yX6_draft, cX6_draft, 2, none)
abbrev cX6_keepDraft : ByteArray := prog_8_method_4_code
def yX6_keepDraft : MethodName := ⟨RX6, "keepDraft", "()V"⟩
abbrev YX6_keepDraft : pg_Y := (yX6_keepDraft, cX6_keepDraft, 1, none)
abbrev cX6_stepBack : ByteArray := prog_8_method_5_code
def yX6_stepBack : MethodName := ⟨RX6, "stepBack", "(LPegLaws$State;)Z"⟩
abbrev YX6_stepBack : pg_Y := (yX6_stepBack, cX6_stepBack, 2, (some .boolean))
abbrev cX6_lay : ByteArray := prog_8_method_6_code
def yX6_lay : MethodName := ⟨RX6, "lay", "(ILPegLaws$State;LPegLaws$Felt;)V"⟩
abbrev YX6_lay : pg_Y := (yX6_lay, cX6_lay, 4, none)
abbrev cX6_goBack : ByteArray := prog_8_method_7_code
def yX6_goBack : MethodName := ⟨RX6, "goBack", "(ILPegLaws$State;LPegLaws$Felt;)Z"⟩
abbrev YX6_goBack : pg_Y := (yX6_goBack, cX6_goBack, 4, (some .boolean))
abbrev cX7_init : ByteArray := prog_9_method_1_code
def yX7_init : MethodName := ⟨RX7, "<init>", "()V"⟩
abbrev YX7_init : pg_Y := (yX7_init, cX7_init, 1, none)
abbrev cX7_addSigns : ByteArray := prog_9_method_2_code
def yX7_addSigns : MethodName := ⟨RX7, "addSigns", "(J)V"⟩
abbrev YX7_addSigns : pg_Y := (yX7_addSigns, cX7_addSigns, 5, none)
abbrev cX7_readLine : ByteArray := prog_9_method_3_code
def yX7_readLine : MethodName := ⟨RX7, "readLine", "(LPegLaws$Line;)I"⟩
abbrev YX7_readLine : pg_Y := (yX7_readLine, cX7_readLine, 3, (some .int))
abbrev cX7_readDay : ByteArray := prog_9_method_4_code
def yX7_readDay : MethodName := ⟨RX7, "readDay", "(LPegLaws$Line;LPegLaws$Day;)I"⟩
abbrev YX7_readDay : pg_Y := (yX7_readDay, cX7_readDay, 4, (some .int))
abbrev cX7_begin : ByteArray := prog_9_method_5_code
def yX7_begin : MethodName := ⟨RX7, "begin", "()V"⟩
abbrev YX7_begin : pg_Y := (yX7_begin, cX7_begin, 1, none)
abbrev cX7_readTold : ByteArray := prog_9_method_6_code
def yX7_readTold : MethodName := ⟨RX7, "readTold", "(LPegLaws$Line;)V"⟩
abbrev YX7_readTold : pg_Y := (yX7_readTold, cX7_readTold, 3, none)
abbrev cX7_readCloth : ByteArray := prog_9_method_7_code
def yX7_readCloth : MethodName := ⟨RX7, "readCloth", "(LPegLaws$Line;)V"⟩
abbrev YX7_readCloth : pg_Y := (yX7_readCloth, cX7_readCloth, 3, none)
abbrev cX7_readMeasure : ByteArray := prog_9_method_8_code
def yX7_readMeasure : MethodName := ⟨RX7, "readMeasure", "(III)I"⟩
abbrev YX7_readMeasure : pg_Y := (yX7_readMeasure, cX7_readMeasure, 4, (some .int))
abbrev cX7_readClash : ByteArray := prog_9_method_9_code
def yX7_readClash : MethodName := ⟨RX7, "readClash", "(LPegLaws$Line;)V"⟩
abbrev YX7_readClash : pg_Y := (yX7_readClash, cX7_readClash, 4, none)
abbrev cX7_readOnce : ByteArray := prog_9_method_10_code
def yX7_readOnce : MethodName := ⟨RX7, "readOnce", "(LPegLaws$Line;I)V"⟩
abbrev YX7_readOnce : pg_Y := (yX7_readOnce, cX7_readOnce, 3, none)
abbrev cX7_readRow : ByteArray := prog_9_method_11_code
def yX7_readRow : MethodName := ⟨RX7, "readRow", "([III)I"⟩
abbrev YX7_readRow : pg_Y := (yX7_readRow, cX7_readRow, 7, (some .int))
abbrev cX7_readDone : ByteArray := prog_9_method_12_code
def yX7_readDone : MethodName := ⟨RX7, "readDone", "(LPegLaws$Line;LPegLaws$Day;)V"⟩
abbrev YX7_readDone : pg_Y := (yX7_readDone, cX7_readDone, 6, none)
abbrev cX7_readPegs : ByteArray := prog_9_method_13_code
def yX7_readPegs : MethodName := ⟨RX7, "readPegs", "()I"⟩
abbrev YX7_readPegs : pg_Y := (yX7_readPegs, cX7_readPegs, 4, (some .int))
abbrev cX7_readTests : ByteArray := prog_9_method_14_code
def yX7_readTests : MethodName := ⟨RX7, "readTests", "(LPegLaws$Rule;I)V"⟩
abbrev YX7_readTests : pg_Y := (yX7_readTests, cX7_readTests, 5, none)
abbrev cX7_readTest : ByteArray := prog_9_method_15_code
def yX7_readTest : MethodName := ⟨RX7, "readTest", "(LPegLaws$Rule;I)V"⟩
abbrev YX7_readTest : pg_Y := (yX7_readTest, cX7_readTest, 4, none)
abbrev cX7_readSum : ByteArray := prog_9_method_16_code
def yX7_readSum : MethodName := ⟨RX7, "readSum", "(LPegLaws$Rule;I)V"⟩
abbrev YX7_readSum : pg_Y := (yX7_readSum, cX7_readSum, 5, none)
abbrev cX7_readProduct : ByteArray := prog_9_method_17_code
def yX7_readProduct : MethodName := ⟨RX7, "readProduct", "(LPegLaws$Rule;I)V"⟩
abbrev YX7_readProduct : pg_Y := (yX7_readProduct, cX7_readProduct, 4, none)
abbrev cX7_readPart : ByteArray := prog_9_method_18_code
def yX7_readPart : MethodName := ⟨RX7, "readPart", "(LPegLaws$Rule;I)V"⟩
abbrev YX7_readPart : pg_Y := (yX7_readPart, cX7_readPart, 5, none)
abbrev cX7_readNumber : ByteArray := prog_9_method_19_code
def yX7_readNumber : MethodName := ⟨RX7, "readNumber", "(II)I"⟩
abbrev YX7_readNumber : pg_Y := (yX7_readNumber, cX7_readNumber, 4, (some .int))
abbrev cX7_numberHere : ByteArray := prog_9_method_20_code
def yX7_numberHere : MethodName := ⟨RX7, "numberHere", "(II)I"⟩
abbrev YX7_numberHere : pg_Y := (yX7_numberHere, cX7_numberHere, 3, (some .int))
abbrev cX7_readNamed : ByteArray := prog_9_method_21_code
def yX7_readNamed : MethodName := ⟨RX7, "readNamed", "(LPegLaws$Line;)I"⟩
abbrev YX7_readNamed : pg_Y := (yX7_readNamed, cX7_readNamed, 3, (some .int))
abbrev cX7_namedHere : ByteArray := prog_9_method_22_code
def yX7_namedHere : MethodName := ⟨RX7, "namedHere", "(LPegLaws$Line;)I"⟩
abbrev YX7_namedHere : pg_Y := (yX7_namedHere, cX7_namedHere, 3, (some .int))
abbrev cX7_isName : ByteArray := prog_9_method_23_code
def yX7_isName : MethodName := ⟨RX7, "isName", "()Z"⟩
abbrev YX7_isName : pg_Y := (yX7_isName, cX7_isName, 1, (some .boolean))
abbrev cX7_expectSign : ByteArray := prog_9_method_24_code
def yX7_expectSign : MethodName := ⟨RX7, "expectSign", "(I)V"⟩
abbrev YX7_expectSign : pg_Y := (yX7_expectSign, cX7_expectSign, 2, none)
abbrev cX7_fail : ByteArray := prog_9_method_25_code
def yX7_fail : MethodName := ⟨RX7, "fail", "(I)V"⟩
abbrev YX7_fail : pg_Y := (yX7_fail, cX7_fail, 2, none)
abbrev cX7_next : ByteArray := prog_9_method_26_code
def yX7_next : MethodName := ⟨RX7, "next", "()V"⟩
abbrev YX7_next : pg_Y := (yX7_next, cX7_next, 4, none)
abbrev cX7_sortOf : ByteArray := prog_9_method_27_code
def yX7_sortOf : MethodName := ⟨RX7, "sortOf", "(II)I"⟩
abbrev YX7_sortOf : pg_Y := (yX7_sortOf, cX7_sortOf, 3, (some .int))
abbrev cX7_knownWord : ByteArray := prog_9_method_28_code
def yX7_knownWord : MethodName := ⟨RX7, "knownWord", "(J)I"⟩
abbrev YX7_knownWord : pg_Y := (yX7_knownWord, cX7_knownWord, 7, (some .int))
abbrev cX7_isLetter : ByteArray := prog_9_method_29_code
def yX7_isLetter : MethodName := ⟨RX7, "isLetter", "(C)Z"⟩
abbrev YX7_isLetter : pg_Y := (yX7_isLetter, cX7_isLetter, 1, (some .boolean))
abbrev cX7_isDigit : ByteArray := prog_9_method_30_code
def yX7_isDigit : MethodName := ⟨RX7, "isDigit", "(C)Z"⟩
abbrev YX7_isDigit : pg_Y := (yX7_isDigit, cX7_isDigit, 1, (some .boolean))
abbrev cX8_init : ByteArray := prog_10_method_1_code
def yX8_init : MethodName := ⟨RX8, "<init>", "()V"⟩
abbrev YX8_init : pg_Y := (yX8_init, cX8_init, 1, none)
abbrev cX8_clear : ByteArray := prog_10_method_2_code
def yX8_clear : MethodName := ⟨RX8, "clear", "()V"⟩
abbrev YX8_clear : pg_Y := (yX8_clear, cX8_clear, 1, none)
abbrev cX8_add : ByteArray := prog_10_method_3_code
def yX8_add : MethodName := ⟨RX8, "add", "(I)V"⟩
abbrev YX8_add : pg_Y := (yX8_add, cX8_add, 2, none)
abbrev cX8_value : ByteArray := prog_10_method_4_code
def yX8_value : MethodName := ⟨RX8, "value", "(III)I"⟩
abbrev YX8_value : pg_Y := (yX8_value, cX8_value, 7, (some .int))
abbrev cX8_fact : ByteArray := prog_10_method_5_code
def yX8_fact : MethodName := ⟨RX8, "fact", "(IIII)I"⟩
abbrev YX8_fact : pg_Y := (yX8_fact, cX8_fact, 4, (some .int))
abbrev cX8_joined : ByteArray := prog_10_method_6_code
def yX8_joined : MethodName := ⟨RX8, "joined", "(III)I"⟩
abbrev YX8_joined : pg_Y := (yX8_joined, cX8_joined, 3, (some .int))
abbrev cX9_init : ByteArray := prog_11_method_1_code
def yX9_init : MethodName := ⟨RX9, "<init>", "()V"⟩
abbrev YX9_init : pg_Y := (yX9_init, cX9_init, 1, none)
abbrev cX9_begin : ByteArray := prog_11_method_2_code
def yX9_begin : MethodName := ⟨RX9, "begin", "(LPegLaws$Line;)V"⟩
abbrev YX9_begin : pg_Y := (yX9_begin, cX9_begin, 2, none)
abbrev cX9_copyFrom : ByteArray := prog_11_method_3_code
def yX9_copyFrom : MethodName := ⟨RX9, "copyFrom", "(LPegLaws$State;)V"⟩
abbrev YX9_copyFrom : pg_Y := (yX9_copyFrom, cX9_copyFrom, 2, none)
abbrev cX9_isLaw : ByteArray := prog_11_method_4_code
def yX9_isLaw : MethodName := ⟨RX9, "isLaw", "(LPegLaws$Line;I)Z"⟩
abbrev YX9_isLaw : pg_Y := (yX9_isLaw, cX9_isLaw, 3, (some .boolean))
abbrev cX9_isTurned : ByteArray := prog_11_method_5_code
def yX9_isTurned : MethodName := ⟨RX9, "isTurned", "(I)Z"⟩
abbrev YX9_isTurned : pg_Y := (yX9_isTurned, cX9_isTurned, 2, (some .boolean))
abbrev cX9_lawBits : ByteArray := prog_11_method_6_code
def yX9_lawBits : MethodName := ⟨RX9, "lawBits", "(LPegLaws$Line;)I"⟩
abbrev YX9_lawBits : pg_Y := (yX9_lawBits, cX9_lawBits, 4, (some .int))
abbrev cX9_turnedBits : ByteArray := prog_11_method_7_code
def yX9_turnedBits : MethodName := ⟨RX9, "turnedBits", "(LPegLaws$Line;)I"⟩
abbrev YX9_turnedBits : pg_Y := (yX9_turnedBits, cX9_turnedBits, 4, (some .int))
abbrev cX9_worthOfLaws : ByteArray := prog_11_method_8_code
def yX9_worthOfLaws : MethodName := ⟨RX9, "worthOfLaws", "(LPegLaws$Line;)I"⟩
abbrev YX9_worthOfLaws : pg_Y := (yX9_worthOfLaws, cX9_worthOfLaws, 2, (some .int))
abbrev cX9_roomOf : ByteArray := prog_11_method_9_code
def yX9_roomOf : MethodName := ⟨RX9, "roomOf", "(LPegLaws$Line;I)I"⟩
abbrev YX9_roomOf : pg_Y := (yX9_roomOf, cX9_roomOf, 3, (some .int))
abbrev cX9_roomLeft : ByteArray := prog_11_method_10_code
def yX9_roomLeft : MethodName := ⟨RX9, "roomLeft", "(LPegLaws$Line;)I"⟩
abbrev YX9_roomLeft : pg_Y := (yX9_roomLeft, cX9_roomLeft, 4, (some .int))
abbrev cX9_heldBy : ByteArray := prog_11_method_11_code
def yX9_heldBy : MethodName := ⟨RX9, "heldBy", "(I)I"⟩
abbrev YX9_heldBy : pg_Y := (yX9_heldBy, cX9_heldBy, 3, (some .int))
abbrev cX9_freePegs : ByteArray := prog_11_method_12_code
def yX9_freePegs : MethodName := ⟨RX9, "freePegs", "()I"⟩
abbrev YX9_freePegs : pg_Y := (yX9_freePegs, cX9_freePegs, 3, (some .int))
abbrev cX9_unsplitPegs : ByteArray := prog_11_method_13_code
def yX9_unsplitPegs : MethodName := ⟨RX9, "unsplitPegs", "()I"⟩
abbrev YX9_unsplitPegs : pg_Y := (yX9_unsplitPegs, cX9_unsplitPegs, 3, (some .int))
abbrev cX9_firstFree : ByteArray := prog_11_method_14_code
def yX9_firstFree : MethodName := ⟨RX9, "firstFree", "(I)I"⟩
abbrev YX9_firstFree : pg_Y := (yX9_firstFree, cX9_firstFree, 5, (some .int))
abbrev cX9_gripsOf : ByteArray := prog_11_method_15_code
def yX9_gripsOf : MethodName := ⟨RX9, "gripsOf", "(I)I"⟩
abbrev YX9_gripsOf : pg_Y := (yX9_gripsOf, cX9_gripsOf, 2, (some .int))
abbrev cX9_gripsLess : ByteArray := prog_11_method_16_code
def yX9_gripsLess : MethodName := ⟨RX9, "gripsLess", "(II)I"⟩
abbrev YX9_gripsLess : pg_Y := (yX9_gripsLess, cX9_gripsLess, 5, (some .int))
abbrev cX9_hangUp : ByteArray := prog_11_method_17_code
def yX9_hangUp : MethodName := ⟨RX9, "hangUp", "(LPegLaws$Line;II)Z"⟩
abbrev YX9_hangUp : pg_Y := (yX9_hangUp, cX9_hangUp, 5, (some .boolean))
abbrev cX9_takeIn : ByteArray := prog_11_method_18_code
def yX9_takeIn : MethodName := ⟨RX9, "takeIn", "(LPegLaws$Line;I)Z"⟩
abbrev YX9_takeIn : pg_Y := (yX9_takeIn, cX9_takeIn, 3, (some .boolean))
abbrev cX9_washOut : ByteArray := prog_11_method_19_code
def yX9_washOut : MethodName := ⟨RX9, "washOut", "(LPegLaws$Line;I)I"⟩
abbrev YX9_washOut : pg_Y := (yX9_washOut, cX9_washOut, 4, (some .int))
abbrev cX9_addPeg : ByteArray := prog_11_method_20_code
def yX9_addPeg : MethodName := ⟨RX9, "addPeg", "(I)I"⟩
abbrev YX9_addPeg : pg_Y := (yX9_addPeg, cX9_addPeg, 2, (some .int))
abbrev cX9_passHour : ByteArray := prog_11_method_21_code
def yX9_passHour : MethodName := ⟨RX9, "passHour", "(LPegLaws$Line;I)I"⟩
abbrev YX9_passHour : pg_Y := (yX9_passHour, cX9_passHour, 6, (some .int))
abbrev cX9_passAlone : ByteArray := prog_11_method_22_code
def yX9_passAlone : MethodName := ⟨RX9, "passAlone", "(LPegLaws$Line;II)Z"⟩
abbrev YX9_passAlone : pg_Y := (yX9_passAlone, cX9_passAlone, 5, (some .boolean))
abbrev cX9_fallsBy : ByteArray := prog_11_method_23_code
def yX9_fallsBy : MethodName := ⟨RX9, "fallsBy", "(LPegLaws$Line;II)Z"⟩
abbrev YX9_fallsBy : pg_Y := (yX9_fallsBy, cX9_fallsBy, 6, (some .boolean))
abbrev cX9_weaken : ByteArray := prog_11_method_24_code
def yX9_weaken : MethodName := ⟨RX9, "weaken", "(I)V"⟩
abbrev YX9_weaken : pg_Y := (yX9_weaken, cX9_weaken, 3, none)
abbrev cX9_roomBy : ByteArray := prog_11_method_25_code
def yX9_roomBy : MethodName := ⟨RX9, "roomBy", "(LPegLaws$Line;II)I"⟩
abbrev YX9_roomBy : pg_Y := (yX9_roomBy, cX9_roomBy, 3, (some .int))
abbrev cX10_init : ByteArray := prog_1_method_1_code
def yX10_init : MethodName := ⟨RX10, "<init>", "()V"⟩
abbrev YX10_init : pg_Y := (yX10_init, cX10_init, 1, none)
abbrev cX10_feed : ByteArray := prog_1_method_2_code
def yX10_feed : MethodName := ⟨RX10, "feed", "(JJJ)I"⟩
abbrev YX10_feed : pg_Y := (yX10_feed, cX10_feed, 7, (some .int))
abbrev cX10_line : ByteArray := prog_1_method_3_code
def yX10_line : MethodName := ⟨RX10, "line", "()I"⟩
abbrev YX10_line : pg_Y := (yX10_line, cX10_line, 3, (some .int))
abbrev cX10_day : ByteArray := prog_1_method_4_code
def yX10_day : MethodName := ⟨RX10, "day", "()I"⟩
abbrev YX10_day : pg_Y := (yX10_day, cX10_day, 3, (some .int))
abbrev cX10_cloth : ByteArray := prog_1_method_5_code
def yX10_cloth : MethodName := ⟨RX10, "cloth", "(II)I"⟩
abbrev YX10_cloth : pg_Y := (yX10_cloth, cX10_cloth, 3, (some .int))
abbrev cX10_peg : ByteArray := prog_1_method_6_code
def yX10_peg : MethodName := ⟨RX10, "peg", "(II)I"⟩
abbrev YX10_peg : pg_Y := (yX10_peg, cX10_peg, 3, (some .int))
abbrev cX10_free : ByteArray := prog_1_method_7_code
def yX10_free : MethodName := ⟨RX10, "free", "()I"⟩
abbrev YX10_free : pg_Y := (yX10_free, cX10_free, 1, (some .int))
abbrev cX10_laws : ByteArray := prog_1_method_8_code
def yX10_laws : MethodName := ⟨RX10, "laws", "()I"⟩
abbrev YX10_laws : pg_Y := (yX10_laws, cX10_laws, 1, (some .int))
abbrev cX10_hang : ByteArray := prog_1_method_9_code
def yX10_hang : MethodName := ⟨RX10, "hang", "(II)I"⟩
abbrev YX10_hang : pg_Y := (yX10_hang, cX10_hang, 3, (some .int))
abbrev cX10_take : ByteArray := prog_1_method_10_code
def yX10_take : MethodName := ⟨RX10, "take", "(I)Z"⟩
abbrev YX10_take : pg_Y := (yX10_take, cX10_take, 2, (some .boolean))
abbrev cX10_wash : ByteArray := prog_1_method_11_code
def yX10_wash : MethodName := ⟨RX10, "wash", "(I)I"⟩
abbrev YX10_wash : pg_Y := (yX10_wash, cX10_wash, 3, (some .int))
abbrev cX10_buy : ByteArray := prog_1_method_12_code
def yX10_buy : MethodName := ⟨RX10, "buy", "(I)I"⟩
abbrev YX10_buy : pg_Y := (yX10_buy, cX10_buy, 3, (some .int))
abbrev cX10_hour : ByteArray := prog_1_method_13_code
def yX10_hour : MethodName := ⟨RX10, "hour", "()I"⟩
abbrev YX10_hour : pg_Y := (yX10_hour, cX10_hour, 1, (some .int))
abbrev cX10_undo : ByteArray := prog_1_method_14_code
def yX10_undo : MethodName := ⟨RX10, "undo", "()Z"⟩
abbrev YX10_undo : pg_Y := (yX10_undo, cX10_undo, 1, (some .boolean))
abbrev cX10_judged : ByteArray := prog_1_method_15_code
def yX10_judged : MethodName := ⟨RX10, "judged", "(I)I"⟩
abbrev YX10_judged : pg_Y := (yX10_judged, cX10_judged, 2, (some .int))
abbrev cX10_holds : ByteArray := prog_1_method_16_code
def yX10_holds : MethodName := ⟨RX10, "holds", "(I)I"⟩
abbrev YX10_holds : pg_Y := (yX10_holds, cX10_holds, 3, (some .int))
abbrev cX10_clashes : ByteArray := prog_1_method_17_code
def yX10_clashes : MethodName := ⟨RX10, "clashes", "()I"⟩
abbrev YX10_clashes : pg_Y := (yX10_clashes, cX10_clashes, 1, (some .int))
abbrev cX10_mend : ByteArray := prog_1_method_18_code
def yX10_mend : MethodName := ⟨RX10, "mend", "(I)I"⟩
abbrev YX10_mend : pg_Y := (yX10_mend, cX10_mend, 7, (some .int))
abbrev cX10_fill : ByteArray := prog_1_method_19_code
def yX10_fill : MethodName := ⟨RX10, "fill", "(II)I"⟩
abbrev YX10_fill : pg_Y := (yX10_fill, cX10_fill, 3, (some .int))
abbrev cX10_odds : ByteArray := prog_1_method_20_code
def yX10_odds : MethodName := ⟨RX10, "odds", "(II)I"⟩
abbrev YX10_odds : pg_Y := (yX10_odds, cX10_odds, 3, (some .int))
abbrev cX10_dry : ByteArray := prog_1_method_21_code
def yX10_dry : MethodName := ⟨RX10, "dry", "(I)I"⟩
abbrev YX10_dry : pg_Y := (yX10_dry, cX10_dry, 2, (some .int))
abbrev cX10_feel : ByteArray := prog_1_method_22_code
def yX10_feel : MethodName := ⟨RX10, "feel", "(III)Z"⟩
abbrev YX10_feel : pg_Y := (yX10_feel, cX10_feel, 4, (some .boolean))
abbrev cX10_starts : ByteArray := prog_1_method_23_code
def yX10_starts : MethodName := ⟨RX10, "starts", "()I"⟩
abbrev YX10_starts : pg_Y := (yX10_starts, cX10_starts, 1, (some .int))
abbrev cX10_ask : ByteArray := prog_1_method_24_code
def yX10_ask : MethodName := ⟨RX10, "ask", "(I)I"⟩
abbrev YX10_ask : pg_Y := (yX10_ask, cX10_ask, 2, (some .int))
abbrev cX10_change : ByteArray := prog_1_method_25_code
def yX10_change : MethodName := ⟨RX10, "change", "(I)I"⟩
abbrev YX10_change : pg_Y := (yX10_change, cX10_change, 6, (some .int))
abbrev cX10_rests : ByteArray := prog_1_method_26_code
def yX10_rests : MethodName := ⟨RX10, "rests", "(IIII)I"⟩
abbrev YX10_rests : pg_Y := (yX10_rests, cX10_rests, 7, (some .int))
abbrev cX10_decades : ByteArray := prog_1_method_27_code
def yX10_decades : MethodName := ⟨RX10, "decades", "(III)I"⟩
abbrev YX10_decades : pg_Y := (yX10_decades, cX10_decades, 7, (some .int))
abbrev cX10_mark : ByteArray := prog_1_method_28_code
def yX10_mark : MethodName := ⟨RX10, "mark", "(IZ)Z"⟩
abbrev YX10_mark : pg_Y := (yX10_mark, cX10_mark, 3, (some .boolean))
abbrev cX10_count : ByteArray := prog_1_method_29_code
def yX10_count : MethodName := ⟨RX10, "count", "(I)I"⟩
abbrev YX10_count : pg_Y := (yX10_count, cX10_count, 2, (some .int))
abbrev cX10_worthBehind : ByteArray := prog_1_method_30_code
def yX10_worthBehind : MethodName := ⟨RX10, "worthBehind", "(II)I"⟩
abbrev YX10_worthBehind : pg_Y := (yX10_worthBehind, cX10_worthBehind, 4, (some .int))
abbrev cX10_handleByDraws : ByteArray := prog_1_method_31_code
def yX10_handleByDraws : MethodName := ⟨RX10, "handleByDraws", "()V"⟩
abbrev YX10_handleByDraws : pg_Y := (yX10_handleByDraws, cX10_handleByDraws, 2, none)
abbrev cX10_draw : ByteArray := prog_1_method_32_code
def yX10_draw : MethodName := ⟨RX10, "draw", "(I)I"⟩
abbrev YX10_draw : pg_Y := (yX10_draw, cX10_draw, 2, (some .int))
abbrev cX10_isWorth : ByteArray := prog_1_method_33_code
def yX10_isWorth : MethodName := ⟨RX10, "isWorth", "(I)Z"⟩
abbrev YX10_isWorth : pg_Y := (yX10_isWorth, cX10_isWorth, 1, (some .boolean))
abbrev cX10_isRest : ByteArray := prog_1_method_34_code
def yX10_isRest : MethodName := ⟨RX10, "isRest", "(IIII)Z"⟩
abbrev YX10_isRest : pg_Y := (yX10_isRest, cX10_isRest, 8, (some .boolean))
abbrev cX10_loot : ByteArray := prog_1_method_35_code
def yX10_loot : MethodName := ⟨RX10, "loot", "(IIIII)I"⟩
abbrev YX10_loot : pg_Y := (yX10_loot, cX10_loot, 5, (some .int))
abbrev cX11_thrown : ByteArray := prog_13_method_1_code
def yX11_thrown : MethodName := ⟨RX11, "thrown", "()I"⟩
abbrev YX11_thrown : pg_Y := (yX11_thrown, cX11_thrown, 1, (some .int))
abbrev cX11_feed : ByteArray := prog_13_method_2_code
def yX11_feed : MethodName := ⟨RX11, "feed", "(JJJ)I"⟩
abbrev YX11_feed : pg_Y := (yX11_feed, cX11_feed, 7, (some .int))
abbrev cX11_lay : ByteArray := prog_13_method_3_code
def yX11_lay : MethodName := ⟨RX11, "lay", "(J)V"⟩
abbrev YX11_lay : pg_Y := (yX11_lay, cX11_lay, 5, none)
abbrev cX11_init : ByteArray := prog_13_method_4_code
def yX11_init : MethodName := ⟨RX11, "<init>", "()V"⟩
abbrev YX11_init : pg_Y := (yX11_init, cX11_init, 1, none)
abbrev cX11_isLetter : ByteArray := prog_13_method_5_code
def yX11_isLetter : MethodName := ⟨RX11, "isLetter", "(I)Z"⟩
abbrev YX11_isLetter : pg_Y := (yX11_isLetter, cX11_isLetter, 1, (some .boolean))
abbrev cX11_isDigit : ByteArray := prog_13_method_6_code
def yX11_isDigit : MethodName := ⟨RX11, "isDigit", "(I)Z"⟩
abbrev YX11_isDigit : pg_Y := (yX11_isDigit, cX11_isDigit, 1, (some .boolean))
abbrev cX11_rank : ByteArray := prog_13_method_7_code
def yX11_rank : MethodName := ⟨RX11, "rank", "(I)I"⟩
abbrev YX11_rank : pg_Y := (yX11_rank, cX11_rank, 1, (some .int))
abbrev cX11_isSignOf : ByteArray := prog_13_method_8_code
def yX11_isSignOf : MethodName := ⟨RX11, "isSignOf", "(I)Z"⟩
abbrev YX11_isSignOf : pg_Y := (yX11_isSignOf, cX11_isSignOf, 1, (some .boolean))
abbrev cX11_cutAll : ByteArray := prog_13_method_9_code
def yX11_cutAll : MethodName := ⟨RX11, "cutAll", "()V"⟩
abbrev YX11_cutAll : pg_Y := (yX11_cutAll, cX11_cutAll, 7, none)
abbrev cX11_wrong : ByteArray := prog_13_method_10_code
def yX11_wrong : MethodName := ⟨RX11, "wrong", "(I)V"⟩
abbrev YX11_wrong : pg_Y := (yX11_wrong, cX11_wrong, 2, none)
abbrev cX11_isSign : ByteArray := prog_13_method_11_code
def yX11_isSign : MethodName := ⟨RX11, "isSign", "(I)Z"⟩
abbrev YX11_isSign : pg_Y := (yX11_isSign, cX11_isSign, 2, (some .boolean))
abbrev cX11_isWord : ByteArray := prog_13_method_12_code
def yX11_isWord : MethodName := ⟨RX11, "isWord", "(I)Z"⟩
abbrev YX11_isWord : pg_Y := (yX11_isWord, cX11_isWord, 2, (some .boolean))
abbrev cX11_takeSign : ByteArray := prog_13_method_13_code
def yX11_takeSign : MethodName := ⟨RX11, "takeSign", "(I)V"⟩
abbrev YX11_takeSign : pg_Y := (yX11_takeSign, cX11_takeSign, 2, none)
abbrev cX11_hasSign : ByteArray := prog_13_method_14_code
def yX11_hasSign : MethodName := ⟨RX11, "hasSign", "(I)Z"⟩
abbrev YX11_hasSign : pg_Y := (yX11_hasSign, cX11_hasSign, 3, (some .boolean))
abbrev cX11_hasWord : ByteArray := prog_13_method_15_code
def yX11_hasWord : MethodName := ⟨RX11, "hasWord", "(I)Z"⟩
abbrev YX11_hasWord : pg_Y := (yX11_hasWord, cX11_hasWord, 3, (some .boolean))
abbrev cX11_takeWord : ByteArray := prog_13_method_16_code
def yX11_takeWord : MethodName := ⟨RX11, "takeWord", "(I)V"⟩
abbrev YX11_takeWord : pg_Y := (yX11_takeWord, cX11_takeWord, 2, none)
abbrev cX11_within : ByteArray := prog_13_method_17_code
def yX11_within : MethodName := ⟨RX11, "within", "(III)Z"⟩
abbrev YX11_within : pg_Y := (yX11_within, cX11_within, 3, (some .boolean))
abbrev cX11_standsAsAlways : ByteArray := prog_13_method_18_code
def yX11_standsAsAlways : MethodName := ⟨RX11, "standsAsAlways", "(I)V"⟩
abbrev YX11_standsAsAlways : pg_Y := (yX11_standsAsAlways, cX11_standsAsAlways, 3, none)
abbrev cX11_takeNumber : ByteArray := prog_13_method_19_code
def yX11_takeNumber : MethodName := ⟨RX11, "takeNumber", "(II)I"⟩
abbrev YX11_takeNumber : pg_Y := (yX11_takeNumber, cX11_takeNumber, 3, (some .int))
abbrev cX11_takeAfter : ByteArray := prog_13_method_20_code
def yX11_takeAfter : MethodName := ⟨RX11, "takeAfter", "(III)I"⟩
abbrev YX11_takeAfter : pg_Y := (yX11_takeAfter, cX11_takeAfter, 4, (some .int))
abbrev cX11_wordHere : ByteArray := prog_13_method_21_code
def yX11_wordHere : MethodName := ⟨RX11, "wordHere", "(II)I"⟩
abbrev YX11_wordHere : pg_Y := (yX11_wordHere, cX11_wordHere, 5, (some .int))
abbrev cX11_takeOne : ByteArray := prog_13_method_22_code
def yX11_takeOne : MethodName := ⟨RX11, "takeOne", "(II)I"⟩
abbrev YX11_takeOne : pg_Y := (yX11_takeOne, cX11_takeOne, 4, (some .int))
abbrev cX11_isName : ByteArray := prog_13_method_23_code
def yX11_isName : MethodName := ⟨RX11, "isName", "()Z"⟩
abbrev YX11_isName : pg_Y := (yX11_isName, cX11_isName, 1, (some .boolean))
abbrev cX11_find : ByteArray := prog_13_method_24_code
def yX11_find : MethodName := ⟨RX11, "find", "(Z)I"⟩
abbrev YX11_find : pg_Y := (yX11_find, cX11_find, 4, (some .int))
abbrev cX11_toldHere : ByteArray := prog_13_method_25_code
def yX11_toldHere : MethodName := ⟨RX11, "toldHere", "(Z)I"⟩
abbrev YX11_toldHere : pg_Y := (yX11_toldHere, cX11_toldHere, 3, (some .int))
abbrev cX11_takeTold : ByteArray := prog_13_method_26_code
def yX11_takeTold : MethodName := ⟨RX11, "takeTold", "(Z)I"⟩
abbrev YX11_takeTold : pg_Y := (yX11_takeTold, cX11_takeTold, 3, (some .int))
abbrev cX11_line : ByteArray := prog_13_method_27_code
def yX11_line : MethodName := ⟨RX11, "line", "()I"⟩
abbrev YX11_line : pg_Y := (yX11_line, cX11_line, 2, (some .int))
abbrev cX11_readCloth : ByteArray := prog_13_method_28_code
def yX11_readCloth : MethodName := ⟨RX11, "readCloth", "()V"⟩
abbrev YX11_readCloth : pg_Y := (yX11_readCloth, cX11_readCloth, 3, none)
abbrev cX11_readClash : ByteArray := prog_13_method_29_code
def yX11_readClash : MethodName := ⟨RX11, "readClash", "()V"⟩
abbrev YX11_readClash : pg_Y := (yX11_readClash, cX11_readClash, 3, none)
abbrev cX11_readOnce : ByteArray := prog_13_method_30_code
def yX11_readOnce : MethodName := ⟨RX11, "readOnce", "()V"⟩
abbrev YX11_readOnce : pg_Y := (yX11_readOnce, cX11_readOnce, 2, none)
abbrev cX11_readRow : ByteArray := prog_13_method_31_code
def yX11_readRow : MethodName := ⟨RX11, "readRow", "(III)I"⟩
abbrev YX11_readRow : pg_Y := (yX11_readRow, cX11_readRow, 6, (some .int))
abbrev cX11_day : ByteArray := prog_13_method_32_code
def yX11_day : MethodName := ⟨RX11, "day", "()I"⟩
abbrev YX11_day : pg_Y := (yX11_day, cX11_day, 3, (some .int))
abbrev cX11_readPegs : ByteArray := prog_13_method_33_code
def yX11_readPegs : MethodName := ⟨RX11, "readPegs", "()I"⟩
abbrev YX11_readPegs : pg_Y := (yX11_readPegs, cX11_readPegs, 5, (some .int))
abbrev cX11_emit : ByteArray := prog_13_method_34_code
def yX11_emit : MethodName := ⟨RX11, "emit", "(II)V"⟩
abbrev YX11_emit : pg_Y := (yX11_emit, cX11_emit, 3, none)
abbrev cX11_all : ByteArray := prog_13_method_35_code
def yX11_all : MethodName := ⟨RX11, "all", "(I)V"⟩
abbrev YX11_all : pg_Y := (yX11_all, cX11_all, 3, none)
abbrev cX11_test : ByteArray := prog_13_method_36_code
def yX11_test : MethodName := ⟨RX11, "test", "(I)V"⟩
abbrev YX11_test : pg_Y := (yX11_test, cX11_test, 3, none)
abbrev cX11_sums : ByteArray := prog_13_method_37_code
def yX11_sums : MethodName := ⟨RX11, "sums", "(I)V"⟩
abbrev YX11_sums : pg_Y := (yX11_sums, cX11_sums, 3, none)
abbrev cX11_products : ByteArray := prog_13_method_38_code
def yX11_products : MethodName := ⟨RX11, "products", "(I)V"⟩
abbrev YX11_products : pg_Y := (yX11_products, cX11_products, 2, none)
abbrev cX11_takePart : ByteArray := prog_13_method_39_code
def yX11_takePart : MethodName := ⟨RX11, "takePart", "(I)V"⟩
abbrev YX11_takePart : pg_Y := (yX11_takePart, cX11_takePart, 4, none)
abbrev cX11_worthAt : ByteArray := prog_13_method_40_code
def yX11_worthAt : MethodName := ⟨RX11, "worthAt", "(I)I"⟩
abbrev YX11_worthAt : pg_Y := (yX11_worthAt, cX11_worthAt, 5, (some .int))
abbrev cX11_both : ByteArray := prog_13_method_41_code
def yX11_both : MethodName := ⟨RX11, "both", "(III)I"⟩
abbrev YX11_both : pg_Y := (yX11_both, cX11_both, 3, (some .int))
abbrev cX11_copies : ByteArray := prog_13_method_42_code
def yX11_copies : MethodName := ⟨RX11, "copies", "(III)V"⟩
abbrev YX11_copies : pg_Y := (yX11_copies, cX11_copies, 5, none)
abbrev cX11_starts : ByteArray := prog_13_method_43_code
def yX11_starts : MethodName := ⟨RX11, "starts", "(I)V"⟩
abbrev YX11_starts : pg_Y := (yX11_starts, cX11_starts, 3, none)
abbrev cX11_begins : ByteArray := prog_13_method_44_code
def yX11_begins : MethodName := ⟨RX11, "begins", "()V"⟩
abbrev YX11_begins : pg_Y := (yX11_begins, cX11_begins, 2, none)
abbrev cX11_keeps : ByteArray := prog_13_method_45_code
def yX11_keeps : MethodName := ⟨RX11, "keeps", "()V"⟩
abbrev YX11_keeps : pg_Y := (yX11_keeps, cX11_keeps, 2, none)
abbrev cX11_cloths : ByteArray := prog_13_method_46_code
def yX11_cloths : MethodName := ⟨RX11, "cloths", "()I"⟩
abbrev YX11_cloths : pg_Y := (yX11_cloths, cX11_cloths, 1, (some .int))
abbrev cX11_clothOf : ByteArray := prog_13_method_47_code
def yX11_clothOf : MethodName := ⟨RX11, "clothOf", "(II)I"⟩
abbrev YX11_clothOf : pg_Y := (yX11_clothOf, cX11_clothOf, 3, (some .int))
abbrev cX11_isCloth : ByteArray := prog_13_method_48_code
def yX11_isCloth : MethodName := ⟨RX11, "isCloth", "(I)Z"⟩
abbrev YX11_isCloth : pg_Y := (yX11_isCloth, cX11_isCloth, 2, (some .boolean))
abbrev cX11_bits : ByteArray := prog_13_method_49_code
def yX11_bits : MethodName := ⟨RX11, "bits", "(I)I"⟩
abbrev YX11_bits : pg_Y := (yX11_bits, cX11_bits, 3, (some .int))
abbrev cX11_needs : ByteArray := prog_13_method_50_code
def yX11_needs : MethodName := ⟨RX11, "needs", "(I)I"⟩
abbrev YX11_needs : pg_Y := (yX11_needs, cX11_needs, 2, (some .int))
abbrev cX11_isHung : ByteArray := prog_13_method_51_code
def yX11_isHung : MethodName := ⟨RX11, "isHung", "(II)Z"⟩
abbrev YX11_isHung : pg_Y := (yX11_isHung, cX11_isHung, 3, (some .boolean))
abbrev cX11_isLaw : ByteArray := prog_13_method_52_code
def yX11_isLaw : MethodName := ⟨RX11, "isLaw", "(II)Z"⟩
abbrev YX11_isLaw : pg_Y := (yX11_isLaw, cX11_isLaw, 3, (some .boolean))
abbrev cX11_isTurned : ByteArray := prog_13_method_53_code
def yX11_isTurned : MethodName := ⟨RX11, "isTurned", "(II)Z"⟩
abbrev YX11_isTurned : pg_Y := (yX11_isTurned, cX11_isTurned, 3, (some .boolean))
abbrev cX11_roomBy : ByteArray := prog_13_method_54_code
def yX11_roomBy : MethodName := ⟨RX11, "roomBy", "(II)I"⟩
abbrev YX11_roomBy : pg_Y := (yX11_roomBy, cX11_roomBy, 3, (some .int))
abbrev cX11_roomLeft : ByteArray := prog_13_method_55_code
def yX11_roomLeft : MethodName := ⟨RX11, "roomLeft", "(I)I"⟩
abbrev YX11_roomLeft : pg_Y := (yX11_roomLeft, cX11_roomLeft, 4, (some .int))
abbrev cX11_windOf : ByteArray := prog_13_method_56_code
def yX11_windOf : MethodName := ⟨RX11, "windOf", "(IZ)I"⟩
abbrev YX11_windOf : pg_Y := (yX11_windOf, cX11_windOf, 3, (some .int))
abbrev cX11_laysFacts : ByteArray := prog_13_method_57_code
def yX11_laysFacts : MethodName := ⟨RX11, "laysFacts", "(III)V"⟩
abbrev YX11_laysFacts : pg_Y := (yX11_laysFacts, cX11_laysFacts, 4, none)
abbrev cX11_pullOf : ByteArray := prog_13_method_58_code
def yX11_pullOf : MethodName := ⟨RX11, "pullOf", "(III)I"⟩
abbrev YX11_pullOf : pg_Y := (yX11_pullOf, cX11_pullOf, 5, (some .int))
abbrev cX11_driedOf : ByteArray := prog_13_method_59_code
def yX11_driedOf : MethodName := ⟨RX11, "driedOf", "(III)I"⟩
abbrev YX11_driedOf : pg_Y := (yX11_driedOf, cX11_driedOf, 5, (some .int))
abbrev cX11_gripsOf : ByteArray := prog_13_method_60_code
def yX11_gripsOf : MethodName := ⟨RX11, "gripsOf", "(II)I"⟩
abbrev YX11_gripsOf : pg_Y := (yX11_gripsOf, cX11_gripsOf, 5, (some .int))
abbrev cX11_falls : ByteArray := prog_13_method_61_code
def yX11_falls : MethodName := ⟨RX11, "falls", "(II)V"⟩
abbrev YX11_falls : pg_Y := (yX11_falls, cX11_falls, 3, none)
abbrev cX11_loosens : ByteArray := prog_13_method_62_code
def yX11_loosens : MethodName := ⟨RX11, "loosens", "(II)V"⟩
abbrev YX11_loosens : pg_Y := (yX11_loosens, cX11_loosens, 4, none)
abbrev cX11_held : ByteArray := prog_13_method_63_code
def yX11_held : MethodName := ⟨RX11, "held", "(II)I"⟩
abbrev YX11_held : pg_Y := (yX11_held, cX11_held, 5, (some .int))
abbrev cX11_pulls : ByteArray := prog_13_method_64_code
def yX11_pulls : MethodName := ⟨RX11, "pulls", "(III)Z"⟩
abbrev YX11_pulls : pg_Y := (yX11_pulls, cX11_pulls, 7, (some .boolean))
abbrev cX11_passes : ByteArray := prog_13_method_65_code
def yX11_passes : MethodName := ⟨RX11, "passes", "(IZ)I"⟩
abbrev YX11_passes : pg_Y := (yX11_passes, cX11_passes, 6, (some .int))
abbrev cX11_lawsOf : ByteArray := prog_13_method_66_code
def yX11_lawsOf : MethodName := ⟨RX11, "lawsOf", "(I)I"⟩
abbrev YX11_lawsOf : pg_Y := (yX11_lawsOf, cX11_lawsOf, 4, (some .int))
abbrev cX11_worthOf : ByteArray := prog_13_method_67_code
def yX11_worthOf : MethodName := ⟨RX11, "worthOf", "(I)I"⟩
abbrev YX11_worthOf : pg_Y := (yX11_worthOf, cX11_worthOf, 4, (some .int))
abbrev cX11_cloth : ByteArray := prog_13_method_68_code
def yX11_cloth : MethodName := ⟨RX11, "cloth", "(II)I"⟩
abbrev YX11_cloth : pg_Y := (yX11_cloth, cX11_cloth, 3, (some .int))
abbrev cX11_heldBy : ByteArray := prog_13_method_69_code
def yX11_heldBy : MethodName := ⟨RX11, "heldBy", "(II)I"⟩
abbrev YX11_heldBy : pg_Y := (yX11_heldBy, cX11_heldBy, 5, (some .int))
abbrev cX11_peg : ByteArray := prog_13_method_70_code
def yX11_peg : MethodName := ⟨RX11, "peg", "(II)I"⟩
abbrev YX11_peg : pg_Y := (yX11_peg, cX11_peg, 3, (some .int))
abbrev cX11_laws : ByteArray := prog_13_method_71_code
def yX11_laws : MethodName := ⟨RX11, "laws", "()I"⟩
abbrev YX11_laws : pg_Y := (yX11_laws, cX11_laws, 1, (some .int))
abbrev cX11_freePegs : ByteArray := prog_13_method_72_code
def yX11_freePegs : MethodName := ⟨RX11, "freePegs", "(I)I"⟩
abbrev YX11_freePegs : pg_Y := (yX11_freePegs, cX11_freePegs, 4, (some .int))
abbrev cX11_free : ByteArray := prog_13_method_73_code
def yX11_free : MethodName := ⟨RX11, "free", "()I"⟩
abbrev YX11_free : pg_Y := (yX11_free, cX11_free, 1, (some .int))
abbrev cX11_mayHang : ByteArray := prog_13_method_74_code
def yX11_mayHang : MethodName := ⟨RX11, "mayHang", "(III)Z"⟩
abbrev YX11_mayHang : pg_Y := (yX11_mayHang, cX11_mayHang, 6, (some .boolean))
abbrev cX11_hang : ByteArray := prog_13_method_75_code
def yX11_hang : MethodName := ⟨RX11, "hang", "(II)I"⟩
abbrev YX11_hang : pg_Y := (yX11_hang, cX11_hang, 3, (some .int))
abbrev cX11_take : ByteArray := prog_13_method_76_code
def yX11_take : MethodName := ⟨RX11, "take", "(I)Z"⟩
abbrev YX11_take : pg_Y := (yX11_take, cX11_take, 2, (some .boolean))
abbrev cX11_washes : ByteArray := prog_13_method_77_code
def yX11_washes : MethodName := ⟨RX11, "washes", "(II)I"⟩
abbrev YX11_washes : pg_Y := (yX11_washes, cX11_washes, 4, (some .int))
abbrev cX11_wash : ByteArray := prog_13_method_78_code
def yX11_wash : MethodName := ⟨RX11, "wash", "(I)I"⟩
abbrev YX11_wash : pg_Y := (yX11_wash, cX11_wash, 2, (some .int))
abbrev cX11_buys : ByteArray := prog_13_method_79_code
def yX11_buys : MethodName := ⟨RX11, "buys", "(II)I"⟩
abbrev YX11_buys : pg_Y := (yX11_buys, cX11_buys, 4, (some .int))
abbrev cX11_buy : ByteArray := prog_13_method_80_code
def yX11_buy : MethodName := ⟨RX11, "buy", "(I)I"⟩
abbrev YX11_buy : pg_Y := (yX11_buy, cX11_buy, 2, (some .int))
abbrev cX11_hour : ByteArray := prog_13_method_81_code
def yX11_hour : MethodName := ⟨RX11, "hour", "()I"⟩
abbrev YX11_hour : pg_Y := (yX11_hour, cX11_hour, 1, (some .int))
abbrev cX11_undo : ByteArray := prog_13_method_82_code
def yX11_undo : MethodName := ⟨RX11, "undo", "()Z"⟩
abbrev YX11_undo : pg_Y := (yX11_undo, cX11_undo, 1, (some .boolean))
abbrev cX11_does : ByteArray := prog_13_method_83_code
def yX11_does : MethodName := ⟨RX11, "does", "(III)Z"⟩
abbrev YX11_does : pg_Y := (yX11_does, cX11_does, 5, (some .boolean))
abbrev cX11_judged : ByteArray := prog_13_method_84_code
def yX11_judged : MethodName := ⟨RX11, "judged", "(I)I"⟩
abbrev YX11_judged : pg_Y := (yX11_judged, cX11_judged, 7, (some .int))
abbrev cX11_holds : ByteArray := prog_13_method_85_code
def yX11_holds : MethodName := ⟨RX11, "holds", "(I)I"⟩
abbrev YX11_holds : pg_Y := (yX11_holds, cX11_holds, 3, (some .int))
abbrev cX11_clashesIn : ByteArray := prog_13_method_86_code
def yX11_clashesIn : MethodName := ⟨RX11, "clashesIn", "(I)I"⟩
abbrev YX11_clashesIn : pg_Y := (yX11_clashesIn, cX11_clashesIn, 5, (some .int))
abbrev cX11_clashes : ByteArray := prog_13_method_87_code
def yX11_clashes : MethodName := ⟨RX11, "clashes", "()I"⟩
abbrev YX11_clashes : pg_Y := (yX11_clashes, cX11_clashes, 1, (some .int))
abbrev cX11_mend : ByteArray := prog_13_method_88_code
def yX11_mend : MethodName := ⟨RX11, "mend", "(I)I"⟩
abbrev YX11_mend : pg_Y := (yX11_mend, cX11_mend, 6, (some .int))
abbrev cX11_findHardest : ByteArray := prog_13_method_89_code
def yX11_findHardest : MethodName := ⟨RX11, "findHardest", "(I)V"⟩
abbrev YX11_findHardest : pg_Y := (yX11_findHardest, cX11_findHardest, 7, none)
abbrev cX11_fills : ByteArray := prog_13_method_90_code
def yX11_fills : MethodName := ⟨RX11, "fills", "(IIII)V"⟩
abbrev YX11_fills : pg_Y := (yX11_fills, cX11_fills, 7, none)
abbrev cX11_fill : ByteArray := prog_13_method_91_code
def yX11_fill : MethodName := ⟨RX11, "fill", "(II)I"⟩
abbrev YX11_fill : pg_Y := (yX11_fill, cX11_fill, 5, (some .int))
abbrev cX11_hanging : ByteArray := prog_13_method_92_code
def yX11_hanging : MethodName := ⟨RX11, "hanging", "(IIIII)J"⟩
abbrev YX11_hanging : pg_Y := (yX11_hanging, cX11_hanging, 15, (some .long))
abbrev cX11_odds : ByteArray := prog_13_method_93_code
def yX11_odds : MethodName := ⟨RX11, "odds", "(II)I"⟩
abbrev YX11_odds : pg_Y := (yX11_odds, cX11_odds, 6, (some .int))
abbrev cX11_driedBehind : ByteArray := prog_13_method_94_code
def yX11_driedBehind : MethodName := ⟨RX11, "driedBehind", "(II)I"⟩
abbrev YX11_driedBehind : pg_Y := (yX11_driedBehind, cX11_driedBehind, 5, (some .int))
abbrev cX11_washesFrom : ByteArray := prog_13_method_95_code
def yX11_washesFrom : MethodName := ⟨RX11, "washesFrom", "(III)V"⟩
abbrev YX11_washesFrom : pg_Y := (yX11_washesFrom, cX11_washesFrom, 6, none)
abbrev cX11_dry : ByteArray := prog_13_method_96_code
def yX11_dry : MethodName := ⟨RX11, "dry", "(I)I"⟩
abbrev YX11_dry : pg_Y := (yX11_dry, cX11_dry, 4, (some .int))
abbrev cX11_feel : ByteArray := prog_13_method_97_code
def yX11_feel : MethodName := ⟨RX11, "feel", "(III)Z"⟩
abbrev YX11_feel : pg_Y := (yX11_feel, cX11_feel, 5, (some .boolean))
abbrev cX11_wetBehind : ByteArray := prog_13_method_98_code
def yX11_wetBehind : MethodName := ⟨RX11, "wetBehind", "(III)I"⟩
abbrev YX11_wetBehind : pg_Y := (yX11_wetBehind, cX11_wetBehind, 6, (some .int))
abbrev cX11_startsNow : ByteArray := prog_13_method_99_code
def yX11_startsNow : MethodName := ⟨RX11, "startsNow", "()I"⟩
abbrev YX11_startsNow : pg_Y := (yX11_startsNow, cX11_startsNow, 6, (some .int))
abbrev cX11_starts_ : ByteArray := prog_13_method_100_code
def yX11_starts_ : MethodName := ⟨RX11, "starts", "()I"⟩
abbrev YX11_starts_ : pg_Y := (yX11_starts_, cX11_starts_, 1, (some .int))
abbrev cX11_ask : ByteArray := prog_13_method_101_code
def yX11_ask : MethodName := ⟨RX11, "ask", "(I)I"⟩
abbrev YX11_ask : pg_Y := (yX11_ask, cX11_ask, 9, (some .int))
abbrev cX11_worthBehind : ByteArray := prog_13_method_102_code
def yX11_worthBehind : MethodName := ⟨RX11, "worthBehind", "(II)I"⟩
abbrev YX11_worthBehind : pg_Y := (yX11_worthBehind, cX11_worthBehind, 4, (some .int))
abbrev cX11_change : ByteArray := prog_13_method_103_code
def yX11_change : MethodName := ⟨RX11, "change", "(I)I"⟩
abbrev YX11_change : pg_Y := (yX11_change, cX11_change, 6, (some .int))
abbrev cX11_rests : ByteArray := prog_13_method_104_code
def yX11_rests : MethodName := ⟨RX11, "rests", "(IIII)I"⟩
abbrev YX11_rests : pg_Y := (yX11_rests, cX11_rests, 15, (some .int))
abbrev cX11_draw : ByteArray := prog_13_method_105_code
def yX11_draw : MethodName := ⟨RX11, "draw", "(I)I"⟩
abbrev YX11_draw : pg_Y := (yX11_draw, cX11_draw, 2, (some .int))
abbrev cX11_firstFree : ByteArray := prog_13_method_106_code
def yX11_firstFree : MethodName := ⟨RX11, "firstFree", "(II)I"⟩
abbrev YX11_firstFree : pg_Y := (yX11_firstFree, cX11_firstFree, 8, (some .int))
abbrev cX11_drawsCloth : ByteArray := prog_13_method_107_code
def yX11_drawsCloth : MethodName := ⟨RX11, "drawsCloth", "()V"⟩
abbrev YX11_drawsCloth : pg_Y := (yX11_drawsCloth, cX11_drawsCloth, 3, none)
abbrev cX11_decades : ByteArray := prog_13_method_108_code
def yX11_decades : MethodName := ⟨RX11, "decades", "(III)I"⟩
abbrev YX11_decades : pg_Y := (yX11_decades, cX11_decades, 7, (some .int))
abbrev cX11_mark : ByteArray := prog_13_method_109_code
def yX11_mark : MethodName := ⟨RX11, "mark", "(IZ)Z"⟩
abbrev YX11_mark : pg_Y := (yX11_mark, cX11_mark, 3, (some .boolean))
abbrev cX11_turnedSet : ByteArray := prog_13_method_110_code
def yX11_turnedSet : MethodName := ⟨RX11, "turnedSet", "()I"⟩
abbrev YX11_turnedSet : pg_Y := (yX11_turnedSet, cX11_turnedSet, 3, (some .int))
abbrev cX11_count : ByteArray := prog_13_method_111_code
def yX11_count : MethodName := ⟨RX11, "count", "(I)I"⟩
abbrev YX11_count : pg_Y := (yX11_count, cX11_count, 2, (some .int))
abbrev cJ11_isValidCodePoint_9a6ad : ByteArray := prog_16_method_11_code
def yJ11_isValidCodePoint_9a6ad : MethodName := ⟨RJ11, "isValidCodePoint", "(I)Z"⟩
abbrev YJ11_isValidCodePoint_9a6ad : pg_Y := (yJ11_isValidCodePoint_9a6ad, cJ11_isValidCodePoint_9a6ad, 2, (some .boolean))
abbrev cJ11_highSurrogate_5068e : ByteArray := prog_16_method_28_code
def yJ11_highSurrogate_5068e : MethodName := ⟨RJ11, "highSurrogate", "(I)C"⟩
abbrev YJ11_highSurrogate_5068e : pg_Y := (yJ11_highSurrogate_5068e, cJ11_highSurrogate_5068e, 1, (some .char))
abbrev cJ11_lowSurrogate_5068e : ByteArray := prog_16_method_29_code
def yJ11_lowSurrogate_5068e : MethodName := ⟨RJ11, "lowSurrogate", "(I)C"⟩
abbrev YJ11_lowSurrogate_5068e : pg_Y := (yJ11_lowSurrogate_5068e, cJ11_lowSurrogate_5068e, 1, (some .char))
abbrev cJ6_lowestOneBit_0f7a4 : ByteArray := prog_19_method_46_code
def yJ6_lowestOneBit_0f7a4 : MethodName := ⟨RJ6, "lowestOneBit", "(I)I"⟩
abbrev YJ6_lowestOneBit_0f7a4 : pg_Y := (yJ6_lowestOneBit_0f7a4, cJ6_lowestOneBit_0f7a4, 1, (some .int))
abbrev cJ6_numberOfLeadingZeros_0f7a4 : ByteArray := prog_19_method_47_code
def yJ6_numberOfLeadingZeros_0f7a4 : MethodName := ⟨RJ6, "numberOfLeadingZeros", "(I)I"⟩
abbrev YJ6_numberOfLeadingZeros_0f7a4 : pg_Y := (yJ6_numberOfLeadingZeros_0f7a4, cJ6_numberOfLeadingZeros_0f7a4, 2, (some .int))
abbrev cJ6_bitCount_0f7a4 : ByteArray := prog_19_method_49_code
def yJ6_bitCount_0f7a4 : MethodName := ⟨RJ6, "bitCount", "(I)I"⟩
abbrev YJ6_bitCount_0f7a4 : pg_Y := (yJ6_bitCount_0f7a4, cJ6_bitCount_0f7a4, 1, (some .int))
abbrev cJ9_floorMod_7cf53 : ByteArray := prog_20_method_50_code
def yJ9_floorMod_7cf53 : MethodName := ⟨RJ9, "floorMod", "(II)I"⟩
abbrev YJ9_floorMod_7cf53 : pg_Y := (yJ9_floorMod_7cf53, cJ9_floorMod_7cf53, 3, (some .int))
abbrev cJ9_max_7cf53 : ByteArray := prog_20_method_65_code
def yJ9_max_7cf53 : MethodName := ⟨RJ9, "max", "(II)I"⟩
abbrev YJ9_max_7cf53 : pg_Y := (yJ9_max_7cf53, cJ9_max_7cf53, 2, (some .int))
abbrev cJ9_min_7cf53 : ByteArray := prog_20_method_69_code
def yJ9_min_7cf53 : MethodName := ⟨RJ9, "min", "(II)I"⟩
abbrev YJ9_min_7cf53 : pg_Y := (yJ9_min_7cf53, cJ9_min_7cf53, 2, (some .int))
abbrev cJ0_length_8abf5 : ByteArray := prog_22_method_54_code
def yJ0_length_8abf5 : MethodName := ⟨RJ0, "length", "()I"⟩
abbrev YJ0_length_8abf5 : pg_Y := (yJ0_length_8abf5, cJ0_length_8abf5, 1, (some .int))
abbrev cJ0_charAt_5068e : ByteArray := prog_22_method_56_code
def yJ0_charAt_5068e : MethodName := ⟨RJ0, "charAt", "(I)C"⟩
abbrev YJ0_charAt_5068e : pg_Y := (yJ0_charAt_5068e, cJ0_charAt_5068e, 2, (some .char))
abbrev cJ0_indexOf_0f7a4 : ByteArray := prog_22_method_79_code
def yJ0_indexOf_0f7a4 : MethodName := ⟨RJ0, "indexOf", "(I)I"⟩
abbrev YJ0_indexOf_0f7a4 : pg_Y := (yJ0_indexOf_0f7a4, cJ0_indexOf_0f7a4, 2, (some .int))
abbrev cJ0_indexOf_7cf53 : ByteArray := prog_22_method_80_code
def yJ0_indexOf_7cf53 : MethodName := ⟨RJ0, "indexOf", "(II)I"⟩
abbrev YJ0_indexOf_7cf53 : pg_Y := (yJ0_indexOf_7cf53, cJ0_indexOf_7cf53, 3, (some .int))
abbrev cJ0_coder_7d493 : ByteArray := prog_22_method_152_code
def yJ0_coder_7d493 : MethodName := ⟨RJ0, "coder", "()B"⟩
abbrev YJ0_coder_7d493 : pg_Y := (yJ0_coder_7d493, cJ0_coder_7d493, 1, (some .byte))
abbrev cJ0_isLatin1_aae02 : ByteArray := prog_22_method_154_code
def yJ0_isLatin1_aae02 : MethodName := ⟨RJ0, "isLatin1", "()Z"⟩
abbrev YJ0_isLatin1_aae02 : pg_Y := (yJ0_isLatin1_aae02, cJ0_isLatin1_aae02, 1, (some .boolean))
abbrev cJ0_checkIndex_df160 : ByteArray := prog_22_method_155_code
def yJ0_checkIndex_df160 : MethodName := ⟨RJ0, "checkIndex", "(II)V"⟩
abbrev YJ0_checkIndex_df160 : pg_Y := (yJ0_checkIndex_df160, cJ0_checkIndex_df160, 2, none)
abbrev cJ0_checkBoundsBeginEnd_23922 : ByteArray := prog_22_method_158_code
def yJ0_checkBoundsBeginEnd_23922 : MethodName := ⟨RJ0, "checkBoundsBeginEnd", "(III)V"⟩
abbrev YJ0_checkBoundsBeginEnd_23922 : pg_Y := (yJ0_checkBoundsBeginEnd_23922, cJ0_checkBoundsBeginEnd_23922, 3, none)
abbrev cJ1_charAt_3b067 : ByteArray := prog_23_method_2_code
def yJ1_charAt_3b067 : MethodName := ⟨RJ1, "charAt", "([BI)C"⟩
abbrev YJ1_charAt_3b067 : pg_Y := (yJ1_charAt_3b067, cJ1_charAt_3b067, 2, (some .char))
abbrev cJ1_canEncode_9a6ad : ByteArray := prog_23_method_4_code
def yJ1_canEncode_9a6ad : MethodName := ⟨RJ1, "canEncode", "(I)Z"⟩
abbrev YJ1_canEncode_9a6ad : pg_Y := (yJ1_canEncode_9a6ad, cJ1_canEncode_9a6ad, 1, (some .boolean))
abbrev cJ1_indexOf_4cfef : ByteArray := prog_23_method_22_code
def yJ1_indexOf_4cfef : MethodName := ⟨RJ1, "indexOf", "([BIII)I"⟩
abbrev YJ1_indexOf_4cfef : pg_Y := (yJ1_indexOf_4cfef, cJ1_indexOf_4cfef, 4, (some .int))
abbrev cJ1_indexOfChar_4cfef : ByteArray := prog_23_method_23_code
def yJ1_indexOfChar_4cfef : MethodName := ⟨RJ1, "indexOfChar", "([BIII)I"⟩
abbrev YJ1_indexOfChar_4cfef : pg_Y := (yJ1_indexOfChar_4cfef, cJ1_indexOfChar_4cfef, 6, (some .int))
abbrev cJ2_getChar_3b067 : ByteArray := prog_24_method_5_code
def yJ2_getChar_3b067 : MethodName := ⟨RJ2, "getChar", "([BI)C"⟩
abbrev YJ2_getChar_3b067 : pg_Y := (yJ2_getChar_3b067, cJ2_getChar_3b067, 2, (some .char))
abbrev cJ2_length_9d52b : ByteArray := prog_24_method_6_code
def yJ2_length_9d52b : MethodName := ⟨RJ2, "length", "([B)I"⟩
abbrev YJ2_length_9d52b : pg_Y := (yJ2_length_9d52b, cJ2_length_9d52b, 1, (some .int))
abbrev cJ2_indexOf_4cfef : ByteArray := prog_24_method_40_code
def yJ2_indexOf_4cfef : MethodName := ⟨RJ2, "indexOf", "([BIII)I"⟩
abbrev YJ2_indexOf_4cfef : pg_Y := (yJ2_indexOf_4cfef, cJ2_indexOf_4cfef, 4, (some .int))
abbrev cJ2_indexOfChar_4cfef : ByteArray := prog_24_method_47_code
def yJ2_indexOfChar_4cfef : MethodName := ⟨RJ2, "indexOfChar", "([BIII)I"⟩
abbrev YJ2_indexOfChar_4cfef : pg_Y := (yJ2_indexOfChar_4cfef, cJ2_indexOfChar_4cfef, 4, (some .int))
abbrev cJ2_indexOfCharUnsafe_4cfef : ByteArray := prog_24_method_48_code
def yJ2_indexOfCharUnsafe_4cfef : MethodName := ⟨RJ2, "indexOfCharUnsafe", "([BIII)I"⟩
abbrev YJ2_indexOfCharUnsafe_4cfef : pg_Y := (yJ2_indexOfCharUnsafe_4cfef, cJ2_indexOfCharUnsafe_4cfef, 5, (some .int))
abbrev cJ2_indexOfSupplementary_4cfef : ByteArray := prog_24_method_49_code
def yJ2_indexOfSupplementary_4cfef : MethodName := ⟨RJ2, "indexOfSupplementary", "([BIII)I"⟩
abbrev YJ2_indexOfSupplementary_4cfef : pg_Y := (yJ2_indexOfSupplementary_4cfef, cJ2_indexOfSupplementary_4cfef, 7, (some .int))
abbrev cJ2_charAt_3b067 : ByteArray := prog_24_method_83_code
def yJ2_charAt_3b067 : MethodName := ⟨RJ2, "charAt", "([BI)C"⟩
abbrev YJ2_charAt_3b067 : pg_Y := (yJ2_charAt_3b067, cJ2_charAt_3b067, 2, (some .char))
abbrev cJ2_checkIndex_2214a : ByteArray := prog_24_method_91_code
def yJ2_checkIndex_2214a : MethodName := ⟨RJ2, "checkIndex", "(I[B)V"⟩
abbrev YJ2_checkIndex_2214a : pg_Y := (yJ2_checkIndex_2214a, cJ2_checkIndex_2214a, 2, none)
abbrev cJ2_checkBoundsBeginEnd_d044e : ByteArray := prog_24_method_93_code
def yJ2_checkBoundsBeginEnd_d044e : MethodName := ⟨RJ2, "checkBoundsBeginEnd", "(II[B)V"⟩
abbrev YJ2_checkBoundsBeginEnd_d044e : pg_Y := (yJ2_checkBoundsBeginEnd_d044e, cJ2_checkBoundsBeginEnd_d044e, 3, none)
abbrev cJ7_fill_d0a16 : ByteArray := prog_29_method_101_code
def yJ7_fill_d0a16 : MethodName := ⟨RJ7, "fill", "([JJ)V"⟩
abbrev YJ7_fill_d0a16 : pg_Y := (yJ7_fill_d0a16, cJ7_fill_d0a16, 5, none)
abbrev cJ7_fill_53178 : ByteArray := prog_29_method_103_code
def yJ7_fill_53178 : MethodName := ⟨RJ7, "fill", "([II)V"⟩
abbrev YJ7_fill_53178 : pg_Y := (yJ7_fill_53178, cJ7_fill_53178, 4, none)
abbrev cJ3_checkIndex_8e157 : ByteArray := prog_31_method_11_code
def yJ3_checkIndex_8e157 : MethodName := ⟨RJ3, "checkIndex", "(IILjava/util/function/BiFunction;)I"⟩
abbrev YJ3_checkIndex_8e157 : pg_Y := (yJ3_checkIndex_8e157, cJ3_checkIndex_8e157, 3, (some .int))
abbrev cJ3_checkFromToIndex_8c36e : ByteArray := prog_31_method_12_code
def yJ3_checkFromToIndex_8c36e : MethodName := ⟨RJ3, "checkFromToIndex", "(IIILjava/util/function/BiFunction;)I"⟩
abbrev YJ3_checkFromToIndex_8c36e : pg_Y := (yJ3_checkFromToIndex_8c36e, cJ3_checkFromToIndex_8c36e, 4, (some .int))
abbrev cL_rests : ByteArray := method_3_code
def yL_rests : MethodName := ⟨RL, "rests", "(LPegLaws;IIII[J)I"⟩
abbrev cL_law : ByteArray := code
def yL_law : MethodName := ⟨RL, "law", "([I)Z"⟩
theorem pg_inX0 : ∀ w ∈ u_ws RX0 TX0 2, w ∈ pg_gd := by
  have h : ∀ k, k < 2 → u_lay RX0 TX0 k ∈ pg_gd := fun k hk => by
    match k, hk with
    | 0, _ => exact pg_g (pg_t1 222 (by decide +kernel)) rfl
    | 1, _ => exact pg_g (pg_t1 224 (by decide +kernel)) rfl
    | n + 2, h => exact absurd h (by omega)
  exact fun w hw => by obtain ⟨k, hk, rfl⟩ := List.mem_map.mp hw; exact h k (List.mem_range.mp hk)
theorem pg_inX1 : ∀ w ∈ u_ws RX1 TX1 6, w ∈ pg_gd := by
  have h : ∀ k, k < 6 → u_lay RX1 TX1 k ∈ pg_gd := fun k hk => by
    match k, hk with
    | 0, _ => exact pg_g (pg_t2 148 (by decide +kernel)) rfl
    | 1, _ => exact pg_g (pg_t2 150 (by decide +kernel)) rfl
    | 2, _ => exact pg_g (pg_t2 152 (by decide +kernel)) rfl
    | 3, _ => exact pg_g (pg_t2 154 (by decide +kernel)) rfl
    | 4, _ => exact pg_g (pg_t2 156 (by decide +kernel)) rfl
    | 5, _ => exact pg_g (pg_t2 158 (by decide +kernel)) rfl
    | n + 6, h => exact absurd h (by omega)
  exact fun w hw => by obtain ⟨k, hk, rfl⟩ := List.mem_map.mp hw; exact h k (List.mem_range.mp hk)
theorem pg_inX2 : ∀ w ∈ u_ws RX2 TX2 6, w ∈ pg_gd := by
  have h : ∀ k, k < 6 → u_lay RX2 TX2 k ∈ pg_gd := fun k hk => by
    match k, hk with
    | 0, _ => exact pg_g (pg_t1 128 (by decide +kernel)) rfl
    | 1, _ => exact pg_g (pg_t1 130 (by decide +kernel)) rfl
    | 2, _ => exact pg_g (pg_t1 132 (by decide +kernel)) rfl
    | 3, _ => exact pg_g (pg_t1 134 (by decide +kernel)) rfl
    | 4, _ => exact pg_g (pg_t1 136 (by decide +kernel)) rfl
    | 5, _ => exact pg_g (pg_t1 138 (by decide +kernel)) rfl
    | n + 6, h => exact absurd h (by omega)
  exact fun w hw => by obtain ⟨k, hk, rfl⟩ := List.mem_map.mp hw; exact h k (List.mem_range.mp hk)
theorem pg_inX3 : ∀ w ∈ u_ws RX3 TX3 10, w ∈ pg_gd := by
  have h : ∀ k, k < 10 → u_lay RX3 TX3 k ∈ pg_gd := fun k hk => by
    match k, hk with
    | 0, _ => exact pg_g (pg_t1 192 (by decide +kernel)) rfl
    | 1, _ => exact pg_g (pg_t1 194 (by decide +kernel)) rfl
    | 2, _ => exact pg_g (pg_t1 196 (by decide +kernel)) rfl
    | 3, _ => exact pg_g (pg_t1 198 (by decide +kernel)) rfl
    | 4, _ => exact pg_g (pg_t1 200 (by decide +kernel)) rfl
    | 5, _ => exact pg_g (pg_t1 202 (by decide +kernel)) rfl
    | 6, _ => exact pg_g (pg_t1 204 (by decide +kernel)) rfl
    | 7, _ => exact pg_g (pg_t1 206 (by decide +kernel)) rfl
    | 8, _ => exact pg_g (pg_t1 208 (by decide +kernel)) rfl
    | 9, _ => exact pg_g (pg_t1 210 (by decide +kernel)) rfl
    | n + 10, h => exact absurd h (by omega)
  exact fun w hw => by obtain ⟨k, hk, rfl⟩ := List.mem_map.mp hw; exact h k (List.mem_range.mp hk)
theorem pg_inX4 : ∀ w ∈ u_ws RX4 TX4 6, w ∈ pg_gd := by
  have h : ∀ k, k < 6 → u_lay RX4 TX4 k ∈ pg_gd := fun k hk => by
    match k, hk with
    | 0, _ => exact pg_g (pg_t2 2 (by decide +kernel)) rfl
    | 1, _ => exact pg_g (pg_t2 4 (by decide +kernel)) rfl
    | 2, _ => exact pg_g (pg_t2 6 (by decide +kernel)) rfl
    | 3, _ => exact pg_g (pg_t2 8 (by decide +kernel)) rfl
    | 4, _ => exact pg_g (pg_t2 10 (by decide +kernel)) rfl
    | 5, _ => exact pg_g (pg_t2 12 (by decide +kernel)) rfl
    | n + 6, h => exact absurd h (by omega)
  exact fun w hw => by obtain ⟨k, hk, rfl⟩ := List.mem_map.mp hw; exact h k (List.mem_range.mp hk)
theorem pg_inX5 : ∀ w ∈ u_ws RX5 TX5 16, w ∈ pg_gd := by
  have h : ∀ k, k < 16 → u_lay RX5 TX5 k ∈ pg_gd := fun k hk => by
    match k, hk with
    | 0, _ => exact pg_g (pg_t2 99 (by decide +kernel)) rfl
    | 1, _ => exact pg_g (pg_t2 101 (by decide +kernel)) rfl
    | 2, _ => exact pg_g (pg_t2 103 (by decide +kernel)) rfl
    | 3, _ => exact pg_g (pg_t2 105 (by decide +kernel)) rfl
    | 4, _ => exact pg_g (pg_t2 107 (by decide +kernel)) rfl
    | 5, _ => exact pg_g (pg_t2 109 (by decide +kernel)) rfl
    | 6, _ => exact pg_g (pg_t2 111 (by decide +kernel)) rfl
    | 7, _ => exact pg_g (pg_t2 113 (by decide +kernel)) rfl
    | 8, _ => exact pg_g (pg_t2 115 (by decide +kernel)) rfl
    | 9, _ => exact pg_g (pg_t2 117 (by decide +kernel)) rfl
    | 10, _ => exact pg_g (pg_t2 119 (by decide +kernel)) rfl
    | 11, _ => exact pg_g (pg_t2 121 (by decide +kernel)) rfl
    | 12, _ => exact pg_g (pg_t2 123 (by decide +kernel)) rfl
    | 13, _ => exact pg_g (pg_t2 125 (by decide +kernel)) rfl
    | 14, _ => exact pg_g (pg_t2 127 (by decide +kernel)) rfl
    | 15, _ => exact pg_g (pg_t2 129 (by decide +kernel)) rfl
    | n + 16, h => exact absurd h (by omega)
  exact fun w hw => by obtain ⟨k, hk, rfl⟩ := List.mem_map.mp hw; exact h k (List.mem_range.mp hk)
theorem pg_inX6 : ∀ w ∈ u_ws RX6 TX6 6, w ∈ pg_gd := by
  have h : ∀ k, k < 6 → u_lay RX6 TX6 k ∈ pg_gd := fun k hk => by
    match k, hk with
    | 0, _ => exact pg_g (pg_t1 160 (by decide +kernel)) rfl
    | 1, _ => exact pg_g (pg_t1 162 (by decide +kernel)) rfl
    | 2, _ => exact pg_g (pg_t1 164 (by decide +kernel)) rfl
    | 3, _ => exact pg_g (pg_t1 166 (by decide +kernel)) rfl
    | 4, _ => exact pg_g (pg_t1 168 (by decide +kernel)) rfl
    | 5, _ => exact pg_g (pg_t1 170 (by decide +kernel)) rfl
    | n + 6, h => exact absurd h (by omega)
  exact fun w hw => by obtain ⟨k, hk, rfl⟩ := List.mem_map.mp hw; exact h k (List.mem_range.mp hk)
theorem pg_inX7 : ∀ w ∈ u_ws RX7 TX7 10, w ∈ pg_gd := by
  have h : ∀ k, k < 10 → u_lay RX7 TX7 k ∈ pg_gd := fun k hk => by
    match k, hk with
    | 0, _ => exact pg_g (pg_t1 51 (by decide +kernel)) rfl
    | 1, _ => exact pg_g (pg_t1 53 (by decide +kernel)) rfl
    | 2, _ => exact pg_g (pg_t1 55 (by decide +kernel)) rfl
    | 3, _ => exact pg_g (pg_t1 57 (by decide +kernel)) rfl
    | 4, _ => exact pg_g (pg_t1 59 (by decide +kernel)) rfl
    | 5, _ => exact pg_g (pg_t1 61 (by decide +kernel)) rfl
    | 6, _ => exact pg_g (pg_t1 63 (by decide +kernel)) rfl
    | 7, _ => exact pg_g (pg_t1 65 (by decide +kernel)) rfl
    | 8, _ => exact pg_g (pg_t1 67 (by decide +kernel)) rfl
    | 9, _ => exact pg_g (pg_t1 69 (by decide +kernel)) rfl
    | n + 10, h => exact absurd h (by omega)
  exact fun w hw => by obtain ⟨k, hk, rfl⟩ := List.mem_map.mp hw; exact h k (List.mem_range.mp hk)
theorem pg_inX8 : ∀ w ∈ u_ws RX8 TX8 3, w ∈ pg_gd := by
  have h : ∀ k, k < 3 → u_lay RX8 TX8 k ∈ pg_gd := fun k hk => by
    match k, hk with
    | 0, _ => exact pg_g (pg_t2 30 (by decide +kernel)) rfl
    | 1, _ => exact pg_g (pg_t2 32 (by decide +kernel)) rfl
    | 2, _ => exact pg_g (pg_t2 34 (by decide +kernel)) rfl
    | n + 3, h => exact absurd h (by omega)
  exact fun w hw => by obtain ⟨k, hk, rfl⟩ := List.mem_map.mp hw; exact h k (List.mem_range.mp hk)
theorem pg_inX9 : ∀ w ∈ u_ws RX9 TX9 6, w ∈ pg_gd := by
  have h : ∀ k, k < 6 → u_lay RX9 TX9 k ∈ pg_gd := fun k hk => by
    match k, hk with
    | 0, _ => exact pg_g (pg_t1 101 (by decide +kernel)) rfl
    | 1, _ => exact pg_g (pg_t1 103 (by decide +kernel)) rfl
    | 2, _ => exact pg_g (pg_t1 105 (by decide +kernel)) rfl
    | 3, _ => exact pg_g (pg_t1 107 (by decide +kernel)) rfl
    | 4, _ => exact pg_g (pg_t1 109 (by decide +kernel)) rfl
    | 5, _ => exact pg_g (pg_t1 111 (by decide +kernel)) rfl
    | n + 6, h => exact absurd h (by omega)
  exact fun w hw => by obtain ⟨k, hk, rfl⟩ := List.mem_map.mp hw; exact h k (List.mem_range.mp hk)
theorem pg_inX10 : ∀ w ∈ u_ws RX10 TX10 13, w ∈ pg_gd := by
  have h : ∀ k, k < 13 → u_lay RX10 TX10 k ∈ pg_gd := fun k hk => by
    match k, hk with
    | 0, _ => exact pg_g (pg_t2 174 (by decide +kernel)) rfl
    | 1, _ => exact pg_g (pg_t2 176 (by decide +kernel)) rfl
    | 2, _ => exact pg_g (pg_t2 178 (by decide +kernel)) rfl
    | 3, _ => exact pg_g (pg_t2 180 (by decide +kernel)) rfl
    | 4, _ => exact pg_g (pg_t2 182 (by decide +kernel)) rfl
    | 5, _ => exact pg_g (pg_t2 184 (by decide +kernel)) rfl
    | 6, _ => exact pg_g (pg_t2 186 (by decide +kernel)) rfl
    | 7, _ => exact pg_g (pg_t2 188 (by decide +kernel)) rfl
    | 8, _ => exact pg_g (pg_t2 190 (by decide +kernel)) rfl
    | 9, _ => exact pg_g (pg_t2 192 (by decide +kernel)) rfl
    | 10, _ => exact pg_g (pg_t2 194 (by decide +kernel)) rfl
    | 11, _ => exact pg_g (pg_t2 196 (by decide +kernel)) rfl
    | 12, _ => exact pg_g (pg_t2 198 (by decide +kernel)) rfl
    | n + 13, h => exact absurd h (by omega)
  exact fun w hw => by obtain ⟨k, hk, rfl⟩ := List.mem_map.mp hw; exact h k (List.mem_range.mp hk)
theorem pg_inX11 : ∀ w ∈ u_ws RX11 TX11 38, w ∈ pg_gd := by
  have h : ∀ k, k < 38 → u_lay RX11 TX11 k ∈ pg_gd := fun k hk => by
    match k, hk with
    | 0, _ => exact pg_g (pg_t6 137 (by decide +kernel)) rfl
    | 1, _ => exact pg_g (pg_t6 139 (by decide +kernel)) rfl
    | 2, _ => exact pg_g (pg_t6 141 (by decide +kernel)) rfl
    | 3, _ => exact pg_g (pg_t6 143 (by decide +kernel)) rfl
    | 4, _ => exact pg_g (pg_t6 145 (by decide +kernel)) rfl
    | 5, _ => exact pg_g (pg_t6 147 (by decide +kernel)) rfl
    | 6, _ => exact pg_g (pg_t6 149 (by decide +kernel)) rfl
    | 7, _ => exact pg_g (pg_t6 151 (by decide +kernel)) rfl
    | 8, _ => exact pg_g (pg_t6 153 (by decide +kernel)) rfl
    | 9, _ => exact pg_g (pg_t6 155 (by decide +kernel)) rfl
    | 10, _ => exact pg_g (pg_t6 157 (by decide +kernel)) rfl
    | 11, _ => exact pg_g (pg_t6 159 (by decide +kernel)) rfl
    | 12, _ => exact pg_g (pg_t6 161 (by decide +kernel)) rfl
    | 13, _ => exact pg_g (pg_t6 163 (by decide +kernel)) rfl
    | 14, _ => exact pg_g (pg_t6 165 (by decide +kernel)) rfl
    | 15, _ => exact pg_g (pg_t6 167 (by decide +kernel)) rfl
    | 16, _ => exact pg_g (pg_t6 169 (by decide +kernel)) rfl
    | 17, _ => exact pg_g (pg_t6 171 (by decide +kernel)) rfl
    | 18, _ => exact pg_g (pg_t6 173 (by decide +kernel)) rfl
    | 19, _ => exact pg_g (pg_t6 175 (by decide +kernel)) rfl
    | 20, _ => exact pg_g (pg_t6 177 (by decide +kernel)) rfl
    | 21, _ => exact pg_g (pg_t6 179 (by decide +kernel)) rfl
    | 22, _ => exact pg_g (pg_t6 181 (by decide +kernel)) rfl
    | 23, _ => exact pg_g (pg_t6 183 (by decide +kernel)) rfl
    | 24, _ => exact pg_g (pg_t6 185 (by decide +kernel)) rfl
    | 25, _ => exact pg_g (pg_t6 187 (by decide +kernel)) rfl
    | 26, _ => exact pg_g (pg_t6 189 (by decide +kernel)) rfl
    | 27, _ => exact pg_g (pg_t6 191 (by decide +kernel)) rfl
    | 28, _ => exact pg_g (pg_t6 193 (by decide +kernel)) rfl
    | 29, _ => exact pg_g (pg_t6 195 (by decide +kernel)) rfl
    | 30, _ => exact pg_g (pg_t6 197 (by decide +kernel)) rfl
    | 31, _ => exact pg_g (pg_t6 199 (by decide +kernel)) rfl
    | 32, _ => exact pg_g (pg_t6 201 (by decide +kernel)) rfl
    | 33, _ => exact pg_g (pg_t6 203 (by decide +kernel)) rfl
    | 34, _ => exact pg_g (pg_t6 205 (by decide +kernel)) rfl
    | 35, _ => exact pg_g (pg_t6 207 (by decide +kernel)) rfl
    | 36, _ => exact pg_g (pg_t6 209 (by decide +kernel)) rfl
    | 37, _ => exact pg_g (pg_t6 211 (by decide +kernel)) rfl
    | n + 38, h => exact absurd h (by omega)
  exact fun w hw => by obtain ⟨k, hk, rfl⟩ := List.mem_map.mp hw; exact h k (List.mem_range.mp hk)
end
section
/-! THE PURE FACE: the cells that the law's objects live in, as one memory of numbers; a method's run as a statement about that memory. -/
abbrev pg_M : Type := (Nat → Nat → Int32) × (Nat → Nat → Int64) × (Nat → Nat → Nat)
abbrev pg_F : Type := Nat ⊕ Nat
abbrev pg_D : Type := (Nat × List pg_F) ⊕ (FieldType × Nat × Option (Option (Nat → Nat)))
abbrev pg_L : Type := Nat → Option pg_D
abbrev pg_S : Type := Launch × Nat × va_G × (FieldType → ClassId) × (Nat → Nat) × Heap
def pg_ad (S : pg_S) (k : Nat) : Nat := if k < 1000 then S.2.1 + k else S.2.2.2.2.1 k
def pg_up (S : pg_S) (v : Value) : Value := match v with
  | .ref k => .ref (pg_ad S k)
  | w => w
theorem pg_up_cat (S : pg_S) (v : Value) : (pg_up S v).category = v.category := by cases v <;> rfl
def pg_fv (M : pg_M) (a i : Nat) (f : pg_F) : Value := match f with
  | .inl 0 => .int (M.1 a i)
  | .inl 1 => .long (M.2.1 a i)
  | .inl _ => .ref (M.2.2 a i)
  | .inr r => .ref r
def pg_fvs (M : pg_M) (a : Nat) : Nat → List pg_F → List Value
  | _, [] => []
  | i, f :: fs => pg_fv M a i f :: pg_fvs M a (i + 1) fs
theorem pg_fvs_get (M : pg_M) (a : Nat) (fs : List pg_F) : ∀ (i k : Nat), (pg_fvs M a i fs)[k]? = (fs[k]?).map (pg_fv M a (i + k)) := by
  induction fs with
  | nil => intro i k; simp [pg_fvs]
  | cons f fs ih =>
    intro i k
    cases k with
    | zero => simp [pg_fvs]
    | succ k => simp [pg_fvs, ih (i + 1) k, show i + 1 + k = i + (k + 1) by omega]
theorem pg_fvs_len (M : pg_M) (a : Nat) (fs : List pg_F) : ∀ i : Nat, (pg_fvs M a i fs).length = fs.length := by
  induction fs with
  | nil => intro i; rfl
  | cons f fs ih => intro i; simp [pg_fvs, ih (i + 1)]
def pg_ce (S : pg_S) (M : pg_M) (a : Nat) (d : pg_D) : va_E := match d with
  | .inl (c, fs) => .inr (c, (pg_fvs M a 0 fs).map (pg_up S))
  | .inr (ty, n, none) => .inl (S.2.2.2.1 ty, n, .inl (M.1 a))
  | .inr (ty, n, some none) => .inl (S.2.2.2.1 ty, n, .inr (.inl (M.2.1 a)))
  | .inr (ty, n, some (some f)) => .inl (S.2.2.2.1 ty, n, .inr (.inr (.inr (.inr (fun j => some (pg_ad S (f j)))))))
/-- the heap holds the memory: the cells of the layout as the memory has them, all that was there before unchanged -/
def pg_R (S : pg_S) (Λ : pg_L) (M : pg_M) (H : Heap) : Prop :=
  (∀ (a : Nat) (d : pg_D), Λ a = some d → a < 1000 ∧ va_at S.2.2.1 pg_cls (pg_ad S a, pg_ce S M a d) H) ∧ (∀ q : Nat, q < S.2.1 → H[q]? = S.2.2.2.2.2[q]?) ∧ S.2.1 ≤ H.size
def pg_tys : List FieldType := [.int, .long, .boolean, .char, .object "PegLaws$State", .object "PegLaws$Felt"]
def pg_nest (w : Cond) : Bool := match w with
  | .fieldLinkNest _ _ _ _ _ _ => true
  | .methodLinkNest _ _ _ _ => true
  | _ => false
def pg_strs : List (String × Nat × String × Nat) := [("PegLaws$Reader", 231, "cloth wide weight worth pegs winds yards gusts clash pulls dries hang take wash buy hour plain sheet flag wool not and or wind mass size ", 1000), ("PegLaws$Reader", 223, "()<=+-*;", 1001), ("PegLaws", 263, "no such worths or no such rest", 1002), ("PegLaws", 272, "fewer rests", 1003)]
def pg_K (S : pg_S) (s : State) : Prop :=
  va_K S.2.2.1 pg_cls (pg_tys.map fun t => (S.2.2.2.1 t, t)) s ∧ (∀ w ∈ lw_tbl, pg_nest w = true → va_Nw w s) ∧ ∀ q ∈ pg_strs, vk_R q.1 q.2.1 q.2.2.1 (S.2.2.2.2.1 q.2.2.2) s
theorem pg_K.warm {S : pg_S} {s U : State} (hW : s.WarmedH U.vm) (h : pg_K S s) : pg_K S U := by
  refine ⟨va_K.moved hW.alike h.1, fun w hw hn => ?_, fun q hq => vk_R.warm hW (h.2.2 q hq)⟩
  have h1 := h.2.1 w hw hn
  cases w with
  | fieldLinkNest a i b n d x => exact va_Nw.warmF hW h1
  | methodLinkNest a i y x => exact va_Nw.warmM hW h1
  | _ => cases hn
theorem pg_K.same {S : pg_S} {s U : State} (hv : s.vm = U.vm) (h : pg_K S s) : pg_K S U := by
  refine ⟨va_K.moved (by rw [hv]; exact Vm.Alike.refl _) h.1, fun w hw hn => ?_, fun q hq => vk_R.same hv.symm (h.2.2 q hq)⟩
  have h1 := h.2.1 w hw hn
  cases w with
  | fieldLinkNest a i b n d x => exact va_Nw.same rfl hv h1
  | methodLinkNest a i y x => exact va_Nw.same rfl hv h1
  | _ => cases hn
def pg_C (S : pg_S) (Y : pg_Y) (p : Program) (s : State) (m : MethodId) (args : Array Value) (meth : Method) (c : Code) : Prop :=
  p.tables.exec = Jvm.exec ∧ c.code = Y.2.1 ∧ c.maxLocals = Y.2.2.1 ∧ s.vm.findClass Y.1.cls = some m.cls ∧ (∀ w ∈ pg_gd, w.before args s = true) ∧ pg_K S s ∧ meth.sig.returnType = Y.2.2.2 ∧ meth.locks = false
def pg_Q (S : pg_S) (Λ : pg_L) (P : Option Value → pg_M → Prop) : Array Value → State → Outcome → State → Prop := fun _ _ o t => ∃ (r : Option Value) (M : pg_M), o = .returned (r.map (pg_up S)) ∧ P r M ∧ pg_R S Λ M t.heap
def pg_P (S : pg_S) (Λ : pg_L) (As : List Value) (M : pg_M) : Array Value → State → Prop := fun v U => v = (As.map (pg_up S)).toArray ∧ pg_R S Λ M U.heap ∧ pg_K S U
def pg_ml (S : pg_S) (ls : List (Nat × Value)) : List (Nat × Value) := ls.map (fun q => (q.1, pg_up S q.2))
/-- from this point of the method, with these locals and this stack, over this memory: it returns, and P -/
def pg_At (S : pg_S) (Λ : pg_L) (Y : pg_Y) (d pc : Nat) (ls : List (Nat × Value)) (st : List Value) (M : pg_M) (P : Option Value → pg_M → Prop) : Prop :=
  ∀ (p : Program) (e : Env) (s : State) (m : MethodId) (args : Array Value) (below : List Frame) (meth : Method) (c : Code) (H : Heap) (locs : List Loc) (R : Room) (lj : Array Slot),
    pg_C S Y p s m args meth c → (d ≤ R.frames ∧ 64 * d ≤ R.locals) → pg_R S Λ M H → (∀ q ∈ locs, S.2.1 ≤ q.base) → lv_has lj Y.2.2.1 (pg_ml S ls) →
    W p S.1 e R s m args below meth c H locs 0 0 (MQ below (pg_Q S Λ P) args s 0 0 (fun q => S.2.1 ≤ q)) (F0 m pc lj (st.map (pg_up S)))
/-- a method, from its start: it returns, and P -/
def pg_Ev (S : pg_S) (Λ : pg_L) (Y : pg_Y) (d : Nat) (As : List Value) (M : pg_M) (P : Option Value → pg_M → Prop) : Prop :=
  ∀ rm : Room, d ≤ rm.frames → 64 * d ≤ rm.locals → rm.cells = 0 → rm.slots = 0 → Met S.1 Y.1 (Cond.code Y.1 Y.2.1 Y.2.2.1 Y.2.2.2 :: pg_gd) rm (pg_P S Λ As M) (pg_Q S Λ P) 0 0 (fun q => S.2.1 ≤ q)
theorem pg_args (S : pg_S) (As : List Value) : ∀ i : Nat, lv_args i (As.map (pg_up S)) = pg_ml S (lv_args i As) := by
  induction As with
  | nil => intro i; rfl
  | cons v vs ih => intro i; simp only [List.map_cons, lv_args, pg_up_cat, pg_ml]; rw [ih]; rfl
theorem pg_sl (S : pg_S) (As : List Value) : (lg_sl (As.map (pg_up S))).length = (lg_sl As).length := by
  induction As with
  | nil => rfl
  | cons v vs ih =>
    simp only [lg_sl, List.map_cons, List.flatMap_cons, List.length_append] at ih ⊢
    rw [ih, pg_up_cat]
    by_cases h : v.category = 2 <;> simp [h]
/-- a method's contract out of the walk of its body -/
theorem pg_Ev.of {S : pg_S} {Λ : pg_L} {Y : pg_Y} {d : Nat} {As : List Value} {M : pg_M} {P : Option Value → pg_M → Prop} (hy : plainName Y.1.cls = true) (hn : (lg_sl As).length ≤ Y.2.2.1) (h : pg_At S Λ Y d 0 (lv_args 0 As) [] M P) : pg_Ev S Λ Y d As M P := by
  intro rm h1 h2 h3 h4
  refine Met.ofW (cc := Y.2.1) (maxL := Y.2.2.1) (ret := Y.2.2.2) hy rfl ?_
  intro p e s m args below meth c s₁ B hml hv
  obtain ⟨rfl, hR, hK⟩ := hv
  have hts := atoms_spec (ws := Cond.code Y.1 Y.2.1 Y.2.2.1 Y.2.2.2 :: pg_gd) B.pre
  have hl := lv_entry (As.map (pg_up S)) (n := Y.2.2.1) (by rw [pg_sl]; exact hn)
  rw [pg_args] at hl
  rw [lg_entry_eq]
  exact h p e s m _ below meth c s.heap [] (headSpec (Cond.code Y.1 Y.2.1 Y.2.2.1 Y.2.2.2 :: pg_gd) rm).room _ ⟨B.exec, B.bytes, hml, findClass_of_methodNamed B.named, fun w hw => hts w (List.mem_cons_of_mem _ hw), hK, B.returns, B.notSynchronized⟩ ⟨h1, h2⟩ hR (fun q hq => by cases hq) hl
theorem pg_Ev.mono {S : pg_S} {Λ : pg_L} {Y : pg_Y} {d d' : Nat} {As : List Value} {M : pg_M} {P : Option Value → pg_M → Prop} (hd : d ≤ d') (h : pg_Ev S Λ Y d As M P) : pg_Ev S Λ Y d' As M P :=
  fun rm h1 h2 h3 h4 => h rm (by omega) (by omega) h3 h4
theorem pg_Q.imp {S : pg_S} {Λ : pg_L} {P P' : Option Value → pg_M → Prop} (h : ∀ r M, P r M → P' r M) {a : Array Value} {s t : State} {o : Outcome} (hq : pg_Q S Λ P a s o t) : pg_Q S Λ P' a s o t := by
  obtain ⟨r, M, h1, h2, h3⟩ := hq
  exact ⟨r, M, h1, h r M h2, h3⟩
theorem pg_At.imp {S : pg_S} {Λ : pg_L} {Y : pg_Y} {d pc : Nat} {ls : List (Nat × Value)} {st : List Value} {M : pg_M} {P P' : Option Value → pg_M → Prop} (hi : ∀ r M, P r M → P' r M) (h : pg_At S Λ Y d pc ls st M P) : pg_At S Λ Y d pc ls st M P' := by
  intro p e s m args below meth c H locs R lj C hR hM hL hl T hT X
  obtain ⟨t, a, o, h1, h2, h3, h4⟩ := h p e s m args below meth c H locs R lj C hR hM hL hl T hT X
  exact ⟨t, a, o, h1, h2, pg_Q.imp hi h3, h4⟩
section PGI
variable {S : pg_S} {Λ : pg_L} {Y : pg_Y} {d pc : Nat} {ls ls' : List (Nat × Value)} {st : List Value} {M : pg_M} {P : Option Value → pg_M → Prop}
theorem pg_loc {n k i : Nat} {v : Value} {lj : Array Slot} (hl : lv_has lj n (pg_ml S ls)) (hk : ls[k]? = some (i, v)) : lj[i]? = some (.val (pg_up S v)) :=
  lv_at hl k (by simp [pg_ml, List.getElem?_map, hk])
theorem pg_filt (F : Nat × Value → Bool) (hF : ∀ q : Nat × Value, F (q.1, pg_up S q.2) = F q) : (pg_ml S ls).filter F = pg_ml S (ls.filter F) := by
  unfold pg_ml
  rw [List.filter_map]
  congr 2
  funext q
  exact hF q
theorem pg_f1 (i : Nat) : (pg_ml S ls).filter (fun q => !(q.1 == i) && !(q.1 + 1 == i && q.2.category == 2)) = pg_ml S (ls.filter (fun q => !(q.1 == i) && !(q.1 + 1 == i && q.2.category == 2))) := pg_filt _ (fun q => by simp [pg_up_cat])
theorem pg_f2 (i : Nat) : (pg_ml S ls).filter (fun q => !(q.1 == i) && (!(q.1 == i + 1) && !(q.1 + 1 == i && q.2.category == 2))) = pg_ml S (ls.filter (fun q => !(q.1 == i) && (!(q.1 == i + 1) && !(q.1 + 1 == i && q.2.category == 2)))) := pg_filt _ (fun q => by simp [pg_up_cat])
/-- fewer locals, by their places -/
theorem pg_drop {ks : List Nat} (h : lv_pick ls ks = ls') (k : pg_At S Λ Y d pc ls' st M P) : pg_At S Λ Y d pc ls st M P := by
  intro p e s m args below meth c H locs R lj C hR hM hL hl
  refine k p e s m args below meth c H locs R lj C hR hM hL (lv_sub hl ks ?_)
  subst h
  unfold lv_pick pg_ml
  rw [List.map_filterMap]
  congr 1
  funext j
  simp [List.getElem?_map]

theorem pg_iconst {n : Int} {v : Int32} (hdg : decode Y.2.1 pc = .ok (.iconst n, 1)) (hv : Int32.ofInt n = v) (k : pg_At S Λ Y d (pc + 1) ls (.int v :: st) M P) : pg_At S Λ Y d pc ls (st) M P :=
  fun p e s m args below meth c H locs R lj C hR hM hL hl => lv_iconst C.1 C.2.1 hdg hv (k p e s m args below meth c H locs R lj C hR hM hL hl)
theorem pg_bipush {n : Int} {v : Int32} (hdg : decode Y.2.1 pc = .ok (.bipush n, 2)) (hv : (Int8.ofInt n).toInt32 = v) (k : pg_At S Λ Y d (pc + 2) ls (.int v :: st) M P) : pg_At S Λ Y d pc ls (st) M P :=
  fun p e s m args below meth c H locs R lj C hR hM hL hl => lv_bipush C.1 C.2.1 hdg hv (k p e s m args below meth c H locs R lj C hR hM hL hl)
theorem pg_sipush {n : Int} {v : Int32} (hdg : decode Y.2.1 pc = .ok (.sipush n, 3)) (hv : (Int16.ofInt n).toInt32 = v) (k : pg_At S Λ Y d (pc + 3) ls (.int v :: st) M P) : pg_At S Λ Y d pc ls (st) M P :=
  fun p e s m args below meth c H locs R lj C hR hM hL hl => lv_sipush C.1 C.2.1 hdg hv (k p e s m args below meth c H locs R lj C hR hM hL hl)
theorem pg_lconst {n : Fin 2} {v : Int64} (hdg : decode Y.2.1 pc = .ok (.lconst n, 1)) (hv : Int64.ofNat (n : Nat) = v) (k : pg_At S Λ Y d (pc + 1) ls (.long v :: st) M P) : pg_At S Λ Y d pc ls (st) M P :=
  fun p e s m args below meth c H locs R lj C hR hM hL hl => lv_lconst C.1 C.2.1 hdg hv (k p e s m args below meth c H locs R lj C hR hM hL hl)
theorem pg_iadd {x y : Int32} (hdg : decode Y.2.1 pc = .ok (.iadd, 1)) (k : pg_At S Λ Y d (pc + 1) ls (.int (x + y) :: st) M P) : pg_At S Λ Y d pc ls (.int y :: .int x :: st) M P :=
  fun p e s m args below meth c H locs R lj C hR hM hL hl => lv_iadd C.1 C.2.1 hdg (k p e s m args below meth c H locs R lj C hR hM hL hl)
theorem pg_isub {x y : Int32} (hdg : decode Y.2.1 pc = .ok (.isub, 1)) (k : pg_At S Λ Y d (pc + 1) ls (.int (x - y) :: st) M P) : pg_At S Λ Y d pc ls (.int y :: .int x :: st) M P :=
  fun p e s m args below meth c H locs R lj C hR hM hL hl => lv_isub C.1 C.2.1 hdg (k p e s m args below meth c H locs R lj C hR hM hL hl)
theorem pg_imul {x y : Int32} (hdg : decode Y.2.1 pc = .ok (.imul, 1)) (k : pg_At S Λ Y d (pc + 1) ls (.int (x * y) :: st) M P) : pg_At S Λ Y d pc ls (.int y :: .int x :: st) M P :=
  fun p e s m args below meth c H locs R lj C hR hM hL hl => lv_imul C.1 C.2.1 hdg (k p e s m args below meth c H locs R lj C hR hM hL hl)
theorem pg_iand {x y : Int32} (hdg : decode Y.2.1 pc = .ok (.iand, 1)) (k : pg_At S Λ Y d (pc + 1) ls (.int (x &&& y) :: st) M P) : pg_At S Λ Y d pc ls (.int y :: .int x :: st) M P :=
  fun p e s m args below meth c H locs R lj C hR hM hL hl => lv_iand C.1 C.2.1 hdg (k p e s m args below meth c H locs R lj C hR hM hL hl)
theorem pg_ior {x y : Int32} (hdg : decode Y.2.1 pc = .ok (.ior, 1)) (k : pg_At S Λ Y d (pc + 1) ls (.int (x ||| y) :: st) M P) : pg_At S Λ Y d pc ls (.int y :: .int x :: st) M P :=
  fun p e s m args below meth c H locs R lj C hR hM hL hl => lv_ior C.1 C.2.1 hdg (k p e s m args below meth c H locs R lj C hR hM hL hl)
theorem pg_ixor {x y : Int32} (hdg : decode Y.2.1 pc = .ok (.ixor, 1)) (k : pg_At S Λ Y d (pc + 1) ls (.int (x ^^^ y) :: st) M P) : pg_At S Λ Y d pc ls (.int y :: .int x :: st) M P :=
  fun p e s m args below meth c H locs R lj C hR hM hL hl => lv_ixor C.1 C.2.1 hdg (k p e s m args below meth c H locs R lj C hR hM hL hl)
theorem pg_idiv {x y : Int32} (hdg : decode Y.2.1 pc = .ok (.idiv, 1)) (hne : ¬ y = 0) (k : pg_At S Λ Y d (pc + 1) ls (.int (x / y) :: st) M P) : pg_At S Λ Y d pc ls (.int y :: .int x :: st) M P :=
  fun p e s m args below meth c H locs R lj C hR hM hL hl => lv_idiv C.1 C.2.1 hdg hne (k p e s m args below meth c H locs R lj C hR hM hL hl)
theorem pg_irem {x y : Int32} (hdg : decode Y.2.1 pc = .ok (.irem, 1)) (hne : ¬ y = 0) (k : pg_At S Λ Y d (pc + 1) ls (.int (x - x / y * y) :: st) M P) : pg_At S Λ Y d pc ls (.int y :: .int x :: st) M P :=
  fun p e s m args below meth c H locs R lj C hR hM hL hl => lv_irem C.1 C.2.1 hdg hne (k p e s m args below meth c H locs R lj C hR hM hL hl)
theorem pg_ineg {x : Int32} (hdg : decode Y.2.1 pc = .ok (.ineg, 1)) (k : pg_At S Λ Y d (pc + 1) ls (.int (-x) :: st) M P) : pg_At S Λ Y d pc ls (.int x :: st) M P :=
  fun p e s m args below meth c H locs R lj C hR hM hL hl => lv_ineg C.1 C.2.1 hdg (k p e s m args below meth c H locs R lj C hR hM hL hl)
theorem pg_ladd {x y : Int64} (hdg : decode Y.2.1 pc = .ok (.ladd, 1)) (k : pg_At S Λ Y d (pc + 1) ls (.long (x + y) :: st) M P) : pg_At S Λ Y d pc ls (.long y :: .long x :: st) M P :=
  fun p e s m args below meth c H locs R lj C hR hM hL hl => lv_ladd C.1 C.2.1 hdg (k p e s m args below meth c H locs R lj C hR hM hL hl)
theorem pg_lsub {x y : Int64} (hdg : decode Y.2.1 pc = .ok (.lsub, 1)) (k : pg_At S Λ Y d (pc + 1) ls (.long (x - y) :: st) M P) : pg_At S Λ Y d pc ls (.long y :: .long x :: st) M P :=
  fun p e s m args below meth c H locs R lj C hR hM hL hl => lv_lsub C.1 C.2.1 hdg (k p e s m args below meth c H locs R lj C hR hM hL hl)
theorem pg_lmul {x y : Int64} (hdg : decode Y.2.1 pc = .ok (.lmul, 1)) (k : pg_At S Λ Y d (pc + 1) ls (.long (x * y) :: st) M P) : pg_At S Λ Y d pc ls (.long y :: .long x :: st) M P :=
  fun p e s m args below meth c H locs R lj C hR hM hL hl => lv_lmul C.1 C.2.1 hdg (k p e s m args below meth c H locs R lj C hR hM hL hl)
theorem pg_land {x y : Int64} (hdg : decode Y.2.1 pc = .ok (.land, 1)) (k : pg_At S Λ Y d (pc + 1) ls (.long (x &&& y) :: st) M P) : pg_At S Λ Y d pc ls (.long y :: .long x :: st) M P :=
  fun p e s m args below meth c H locs R lj C hR hM hL hl => lv_land C.1 C.2.1 hdg (k p e s m args below meth c H locs R lj C hR hM hL hl)
theorem pg_lor {x y : Int64} (hdg : decode Y.2.1 pc = .ok (.lor, 1)) (k : pg_At S Λ Y d (pc + 1) ls (.long (x ||| y) :: st) M P) : pg_At S Λ Y d pc ls (.long y :: .long x :: st) M P :=
  fun p e s m args below meth c H locs R lj C hR hM hL hl => lv_lor C.1 C.2.1 hdg (k p e s m args below meth c H locs R lj C hR hM hL hl)
theorem pg_lxor {x y : Int64} (hdg : decode Y.2.1 pc = .ok (.lxor, 1)) (k : pg_At S Λ Y d (pc + 1) ls (.long (x ^^^ y) :: st) M P) : pg_At S Λ Y d pc ls (.long y :: .long x :: st) M P :=
  fun p e s m args below meth c H locs R lj C hR hM hL hl => lv_lxor C.1 C.2.1 hdg (k p e s m args below meth c H locs R lj C hR hM hL hl)
theorem pg_ldiv {x y : Int64} (hdg : decode Y.2.1 pc = .ok (.ldiv, 1)) (hne : ¬ y = 0) (k : pg_At S Λ Y d (pc + 1) ls (.long (x / y) :: st) M P) : pg_At S Λ Y d pc ls (.long y :: .long x :: st) M P :=
  fun p e s m args below meth c H locs R lj C hR hM hL hl => lv_ldiv C.1 C.2.1 hdg hne (k p e s m args below meth c H locs R lj C hR hM hL hl)
theorem pg_lrem {x y : Int64} (hdg : decode Y.2.1 pc = .ok (.lrem, 1)) (hne : ¬ y = 0) (k : pg_At S Λ Y d (pc + 1) ls (.long (x - x / y * y) :: st) M P) : pg_At S Λ Y d pc ls (.long y :: .long x :: st) M P :=
  fun p e s m args below meth c H locs R lj C hR hM hL hl => lv_lrem C.1 C.2.1 hdg hne (k p e s m args below meth c H locs R lj C hR hM hL hl)
theorem pg_lneg {x : Int64} (hdg : decode Y.2.1 pc = .ok (.lneg, 1)) (k : pg_At S Λ Y d (pc + 1) ls (.long (-x) :: st) M P) : pg_At S Λ Y d pc ls (.long x :: st) M P :=
  fun p e s m args below meth c H locs R lj C hR hM hL hl => lv_lneg C.1 C.2.1 hdg (k p e s m args below meth c H locs R lj C hR hM hL hl)
theorem pg_ishl {x y : Int32} (hdg : decode Y.2.1 pc = .ok (.ishl, 1)) (k : pg_At S Λ Y d (pc + 1) ls (.int (x <<< (y &&& 31)) :: st) M P) : pg_At S Λ Y d pc ls (.int y :: .int x :: st) M P :=
  fun p e s m args below meth c H locs R lj C hR hM hL hl => lv_ishl C.1 C.2.1 hdg (k p e s m args below meth c H locs R lj C hR hM hL hl)
theorem pg_ishr {x y : Int32} (hdg : decode Y.2.1 pc = .ok (.ishr, 1)) (k : pg_At S Λ Y d (pc + 1) ls (.int (x >>> (y &&& 31)) :: st) M P) : pg_At S Λ Y d pc ls (.int y :: .int x :: st) M P :=
  fun p e s m args below meth c H locs R lj C hR hM hL hl => lv_ishr C.1 C.2.1 hdg (k p e s m args below meth c H locs R lj C hR hM hL hl)
theorem pg_iushr {x y v : Int32} (hdg : decode Y.2.1 pc = .ok (.iushr, 1)) (hv : (x.toUInt32 >>> (y.toUInt32 &&& Int32.toUInt32 31)).toInt32 = v) (k : pg_At S Λ Y d (pc + 1) ls (.int v :: st) M P) : pg_At S Λ Y d pc ls (.int y :: .int x :: st) M P :=
  fun p e s m args below meth c H locs R lj C hR hM hL hl => lv_iushr C.1 C.2.1 hdg hv (k p e s m args below meth c H locs R lj C hR hM hL hl)
theorem pg_lshl {x v : Int64} {y : Int32} (hdg : decode Y.2.1 pc = .ok (.lshl, 1)) (hv : x <<< (y.toInt64 &&& 63) = v) (k : pg_At S Λ Y d (pc + 1) ls (.long v :: st) M P) : pg_At S Λ Y d pc ls (.int y :: .long x :: st) M P :=
  fun p e s m args below meth c H locs R lj C hR hM hL hl => lv_lshl C.1 C.2.1 hdg hv (k p e s m args below meth c H locs R lj C hR hM hL hl)
theorem pg_lshr {x v : Int64} {y : Int32} (hdg : decode Y.2.1 pc = .ok (.lshr, 1)) (hv : x >>> (y.toInt64 &&& 63) = v) (k : pg_At S Λ Y d (pc + 1) ls (.long v :: st) M P) : pg_At S Λ Y d pc ls (.int y :: .long x :: st) M P :=
  fun p e s m args below meth c H locs R lj C hR hM hL hl => lv_lshr C.1 C.2.1 hdg hv (k p e s m args below meth c H locs R lj C hR hM hL hl)
theorem pg_lushr {x v : Int64} {y : Int32} (hdg : decode Y.2.1 pc = .ok (.lushr, 1)) (hv : (x.toUInt64 >>> (y.toInt64.toUInt64 &&& Int64.toUInt64 63)).toInt64 = v) (k : pg_At S Λ Y d (pc + 1) ls (.long v :: st) M P) : pg_At S Λ Y d pc ls (.int y :: .long x :: st) M P :=
  fun p e s m args below meth c H locs R lj C hR hM hL hl => lv_lushr C.1 C.2.1 hdg hv (k p e s m args below meth c H locs R lj C hR hM hL hl)
theorem pg_i2l {x : Int32} {v : Int64} (hdg : decode Y.2.1 pc = .ok (.i2l, 1)) (hv : x.toInt64 = v) (k : pg_At S Λ Y d (pc + 1) ls (.long v :: st) M P) : pg_At S Λ Y d pc ls (.int x :: st) M P :=
  fun p e s m args below meth c H locs R lj C hR hM hL hl => lv_i2l C.1 C.2.1 hdg hv (k p e s m args below meth c H locs R lj C hR hM hL hl)
theorem pg_l2i {x : Int64} {v : Int32} (hdg : decode Y.2.1 pc = .ok (.l2i, 1)) (hv : x.toInt32 = v) (k : pg_At S Λ Y d (pc + 1) ls (.int v :: st) M P) : pg_At S Λ Y d pc ls (.long x :: st) M P :=
  fun p e s m args below meth c H locs R lj C hR hM hL hl => lv_l2i C.1 C.2.1 hdg hv (k p e s m args below meth c H locs R lj C hR hM hL hl)
theorem pg_i2b {x : Int32} {v : Int32} (hdg : decode Y.2.1 pc = .ok (.i2b, 1)) (hv : x.toInt8.toInt32 = v) (k : pg_At S Λ Y d (pc + 1) ls (.int v :: st) M P) : pg_At S Λ Y d pc ls (.int x :: st) M P :=
  fun p e s m args below meth c H locs R lj C hR hM hL hl => lv_i2b C.1 C.2.1 hdg hv (k p e s m args below meth c H locs R lj C hR hM hL hl)
theorem pg_i2s {x : Int32} {v : Int32} (hdg : decode Y.2.1 pc = .ok (.i2s, 1)) (hv : x.toInt16.toInt32 = v) (k : pg_At S Λ Y d (pc + 1) ls (.int v :: st) M P) : pg_At S Λ Y d pc ls (.int x :: st) M P :=
  fun p e s m args below meth c H locs R lj C hR hM hL hl => lv_i2s C.1 C.2.1 hdg hv (k p e s m args below meth c H locs R lj C hR hM hL hl)
theorem pg_i2c {x : Int32} {v : Int32} (hdg : decode Y.2.1 pc = .ok (.i2c, 1)) (hv : (x.toUInt32 % 65536).toInt32 = v) (k : pg_At S Λ Y d (pc + 1) ls (.int v :: st) M P) : pg_At S Λ Y d pc ls (.int x :: st) M P :=
  fun p e s m args below meth c H locs R lj C hR hM hL hl => lv_i2c C.1 C.2.1 hdg hv (k p e s m args below meth c H locs R lj C hR hM hL hl)
theorem pg_dup {va : Value} (hdg : decode Y.2.1 pc = .ok (.dup, 1)) (hva : va.category = 1) (k : pg_At S Λ Y d (pc + 1) ls (va :: va :: st) M P) : pg_At S Λ Y d pc ls (va :: st) M P :=
  fun p e s m args below meth c H locs R lj C hR hM hL hl => lv_dup C.1 C.2.1 hdg (by rw [pg_up_cat]; exact hva) (k p e s m args below meth c H locs R lj C hR hM hL hl)
theorem pg_pop {va : Value} (hdg : decode Y.2.1 pc = .ok (.pop, 1)) (hva : va.category = 1) (k : pg_At S Λ Y d (pc + 1) ls (st) M P) : pg_At S Λ Y d pc ls (va :: st) M P :=
  fun p e s m args below meth c H locs R lj C hR hM hL hl => lv_pop C.1 C.2.1 hdg (by rw [pg_up_cat]; exact hva) (k p e s m args below meth c H locs R lj C hR hM hL hl)
theorem pg_dup_x1 {va vb : Value} (hdg : decode Y.2.1 pc = .ok (.dup_x1, 1)) (hva : va.category = 1) (hvb : vb.category = 1) (k : pg_At S Λ Y d (pc + 1) ls (va :: vb :: va :: st) M P) : pg_At S Λ Y d pc ls (va :: vb :: st) M P :=
  fun p e s m args below meth c H locs R lj C hR hM hL hl => lv_dup_x1 C.1 C.2.1 hdg (by rw [pg_up_cat]; exact hva) (by rw [pg_up_cat]; exact hvb) (k p e s m args below meth c H locs R lj C hR hM hL hl)
theorem pg_dup_x2 {va vb vd : Value} (hdg : decode Y.2.1 pc = .ok (.dup_x2, 1)) (hva : va.category = 1) (hvb : vb.category = 1) (hvd : vd.category = 1) (k : pg_At S Λ Y d (pc + 1) ls (va :: vb :: vd :: va :: st) M P) : pg_At S Λ Y d pc ls (va :: vb :: vd :: st) M P :=
  fun p e s m args below meth c H locs R lj C hR hM hL hl => lv_dup_x2 C.1 C.2.1 hdg (by rw [pg_up_cat]; exact hva) (by rw [pg_up_cat]; exact hvb) (by rw [pg_up_cat]; exact hvd) (k p e s m args below meth c H locs R lj C hR hM hL hl)
theorem pg_dup2_11 {va vb : Value} (hdg : decode Y.2.1 pc = .ok (.dup2, 1)) (hva : va.category = 1) (hvb : vb.category = 1) (k : pg_At S Λ Y d (pc + 1) ls (va :: vb :: va :: vb :: st) M P) : pg_At S Λ Y d pc ls (va :: vb :: st) M P :=
  fun p e s m args below meth c H locs R lj C hR hM hL hl => lv_dup2_11 C.1 C.2.1 hdg (by rw [pg_up_cat]; exact hva) (by rw [pg_up_cat]; exact hvb) (k p e s m args below meth c H locs R lj C hR hM hL hl)
theorem pg_dup2_2 {va : Value} (hdg : decode Y.2.1 pc = .ok (.dup2, 1)) (hva : va.category = 2) (k : pg_At S Λ Y d (pc + 1) ls (va :: va :: st) M P) : pg_At S Λ Y d pc ls (va :: st) M P :=
  fun p e s m args below meth c H locs R lj C hR hM hL hl => lv_dup2_2 C.1 C.2.1 hdg (by rw [pg_up_cat]; exact hva) (k p e s m args below meth c H locs R lj C hR hM hL hl)
theorem pg_pop2_2 {va : Value} (hdg : decode Y.2.1 pc = .ok (.pop2, 1)) (hva : va.category = 2) (k : pg_At S Λ Y d (pc + 1) ls (st) M P) : pg_At S Λ Y d pc ls (va :: st) M P :=
  fun p e s m args below meth c H locs R lj C hR hM hL hl => lv_pop2_2 C.1 C.2.1 hdg (by rw [pg_up_cat]; exact hva) (k p e s m args below meth c H locs R lj C hR hM hL hl)
theorem pg_if_eq {x : Int32} {off : Int} {tgt : Nat} (hdg : decode Y.2.1 pc = .ok (.ifCond .eq off, 3)) (ht : (pc : Int) + off = (tgt : Int)) (kt : x = 0 → pg_At S Λ Y d tgt ls st M P) (kf : ¬ x = 0 → pg_At S Λ Y d (pc + 3) ls st M P) : pg_At S Λ Y d pc ls (.int x :: st) M P :=
  fun p e s m args below meth c H locs R lj C hR hM hL hl => lv_if_eq C.1 C.2.1 hdg ht (fun h9 => kt h9 p e s m args below meth c H locs R lj C hR hM hL hl) (fun h9 => kf h9 p e s m args below meth c H locs R lj C hR hM hL hl)
theorem pg_icmp_eq {x y : Int32} {off : Int} {tgt : Nat} (hdg : decode Y.2.1 pc = .ok (.if_icmp .eq off, 3)) (ht : (pc : Int) + off = (tgt : Int)) (kt : x = y → pg_At S Λ Y d tgt ls st M P) (kf : ¬ x = y → pg_At S Λ Y d (pc + 3) ls st M P) : pg_At S Λ Y d pc ls (.int y :: .int x :: st) M P :=
  fun p e s m args below meth c H locs R lj C hR hM hL hl => lv_icmp_eq C.1 C.2.1 hdg ht (fun h9 => kt h9 p e s m args below meth c H locs R lj C hR hM hL hl) (fun h9 => kf h9 p e s m args below meth c H locs R lj C hR hM hL hl)
theorem pg_if_ne {x : Int32} {off : Int} {tgt : Nat} (hdg : decode Y.2.1 pc = .ok (.ifCond .ne off, 3)) (ht : (pc : Int) + off = (tgt : Int)) (kt : ¬ x = 0 → pg_At S Λ Y d tgt ls st M P) (kf : x = 0 → pg_At S Λ Y d (pc + 3) ls st M P) : pg_At S Λ Y d pc ls (.int x :: st) M P :=
  fun p e s m args below meth c H locs R lj C hR hM hL hl => lv_if_ne C.1 C.2.1 hdg ht (fun h9 => kt h9 p e s m args below meth c H locs R lj C hR hM hL hl) (fun h9 => kf h9 p e s m args below meth c H locs R lj C hR hM hL hl)
theorem pg_icmp_ne {x y : Int32} {off : Int} {tgt : Nat} (hdg : decode Y.2.1 pc = .ok (.if_icmp .ne off, 3)) (ht : (pc : Int) + off = (tgt : Int)) (kt : ¬ x = y → pg_At S Λ Y d tgt ls st M P) (kf : x = y → pg_At S Λ Y d (pc + 3) ls st M P) : pg_At S Λ Y d pc ls (.int y :: .int x :: st) M P :=
  fun p e s m args below meth c H locs R lj C hR hM hL hl => lv_icmp_ne C.1 C.2.1 hdg ht (fun h9 => kt h9 p e s m args below meth c H locs R lj C hR hM hL hl) (fun h9 => kf h9 p e s m args below meth c H locs R lj C hR hM hL hl)
theorem pg_if_lt {x : Int32} {off : Int} {tgt : Nat} (hdg : decode Y.2.1 pc = .ok (.ifCond .lt off, 3)) (ht : (pc : Int) + off = (tgt : Int)) (kt : x < 0 → pg_At S Λ Y d tgt ls st M P) (kf : ¬ x < 0 → pg_At S Λ Y d (pc + 3) ls st M P) : pg_At S Λ Y d pc ls (.int x :: st) M P :=
  fun p e s m args below meth c H locs R lj C hR hM hL hl => lv_if_lt C.1 C.2.1 hdg ht (fun h9 => kt h9 p e s m args below meth c H locs R lj C hR hM hL hl) (fun h9 => kf h9 p e s m args below meth c H locs R lj C hR hM hL hl)
theorem pg_icmp_lt {x y : Int32} {off : Int} {tgt : Nat} (hdg : decode Y.2.1 pc = .ok (.if_icmp .lt off, 3)) (ht : (pc : Int) + off = (tgt : Int)) (kt : x < y → pg_At S Λ Y d tgt ls st M P) (kf : ¬ x < y → pg_At S Λ Y d (pc + 3) ls st M P) : pg_At S Λ Y d pc ls (.int y :: .int x :: st) M P :=
  fun p e s m args below meth c H locs R lj C hR hM hL hl => lv_icmp_lt C.1 C.2.1 hdg ht (fun h9 => kt h9 p e s m args below meth c H locs R lj C hR hM hL hl) (fun h9 => kf h9 p e s m args below meth c H locs R lj C hR hM hL hl)
theorem pg_if_ge {x : Int32} {off : Int} {tgt : Nat} (hdg : decode Y.2.1 pc = .ok (.ifCond .ge off, 3)) (ht : (pc : Int) + off = (tgt : Int)) (kt : 0 ≤ x → pg_At S Λ Y d tgt ls st M P) (kf : ¬ 0 ≤ x → pg_At S Λ Y d (pc + 3) ls st M P) : pg_At S Λ Y d pc ls (.int x :: st) M P :=
  fun p e s m args below meth c H locs R lj C hR hM hL hl => lv_if_ge C.1 C.2.1 hdg ht (fun h9 => kt h9 p e s m args below meth c H locs R lj C hR hM hL hl) (fun h9 => kf h9 p e s m args below meth c H locs R lj C hR hM hL hl)
theorem pg_icmp_ge {x y : Int32} {off : Int} {tgt : Nat} (hdg : decode Y.2.1 pc = .ok (.if_icmp .ge off, 3)) (ht : (pc : Int) + off = (tgt : Int)) (kt : y ≤ x → pg_At S Λ Y d tgt ls st M P) (kf : ¬ y ≤ x → pg_At S Λ Y d (pc + 3) ls st M P) : pg_At S Λ Y d pc ls (.int y :: .int x :: st) M P :=
  fun p e s m args below meth c H locs R lj C hR hM hL hl => lv_icmp_ge C.1 C.2.1 hdg ht (fun h9 => kt h9 p e s m args below meth c H locs R lj C hR hM hL hl) (fun h9 => kf h9 p e s m args below meth c H locs R lj C hR hM hL hl)
theorem pg_if_gt {x : Int32} {off : Int} {tgt : Nat} (hdg : decode Y.2.1 pc = .ok (.ifCond .gt off, 3)) (ht : (pc : Int) + off = (tgt : Int)) (kt : 0 < x → pg_At S Λ Y d tgt ls st M P) (kf : ¬ 0 < x → pg_At S Λ Y d (pc + 3) ls st M P) : pg_At S Λ Y d pc ls (.int x :: st) M P :=
  fun p e s m args below meth c H locs R lj C hR hM hL hl => lv_if_gt C.1 C.2.1 hdg ht (fun h9 => kt h9 p e s m args below meth c H locs R lj C hR hM hL hl) (fun h9 => kf h9 p e s m args below meth c H locs R lj C hR hM hL hl)
theorem pg_icmp_gt {x y : Int32} {off : Int} {tgt : Nat} (hdg : decode Y.2.1 pc = .ok (.if_icmp .gt off, 3)) (ht : (pc : Int) + off = (tgt : Int)) (kt : y < x → pg_At S Λ Y d tgt ls st M P) (kf : ¬ y < x → pg_At S Λ Y d (pc + 3) ls st M P) : pg_At S Λ Y d pc ls (.int y :: .int x :: st) M P :=
  fun p e s m args below meth c H locs R lj C hR hM hL hl => lv_icmp_gt C.1 C.2.1 hdg ht (fun h9 => kt h9 p e s m args below meth c H locs R lj C hR hM hL hl) (fun h9 => kf h9 p e s m args below meth c H locs R lj C hR hM hL hl)
theorem pg_if_le {x : Int32} {off : Int} {tgt : Nat} (hdg : decode Y.2.1 pc = .ok (.ifCond .le off, 3)) (ht : (pc : Int) + off = (tgt : Int)) (kt : x ≤ 0 → pg_At S Λ Y d tgt ls st M P) (kf : ¬ x ≤ 0 → pg_At S Λ Y d (pc + 3) ls st M P) : pg_At S Λ Y d pc ls (.int x :: st) M P :=
  fun p e s m args below meth c H locs R lj C hR hM hL hl => lv_if_le C.1 C.2.1 hdg ht (fun h9 => kt h9 p e s m args below meth c H locs R lj C hR hM hL hl) (fun h9 => kf h9 p e s m args below meth c H locs R lj C hR hM hL hl)
theorem pg_icmp_le {x y : Int32} {off : Int} {tgt : Nat} (hdg : decode Y.2.1 pc = .ok (.if_icmp .le off, 3)) (ht : (pc : Int) + off = (tgt : Int)) (kt : x ≤ y → pg_At S Λ Y d tgt ls st M P) (kf : ¬ x ≤ y → pg_At S Λ Y d (pc + 3) ls st M P) : pg_At S Λ Y d pc ls (.int y :: .int x :: st) M P :=
  fun p e s m args below meth c H locs R lj C hR hM hL hl => lv_icmp_le C.1 C.2.1 hdg ht (fun h9 => kt h9 p e s m args below meth c H locs R lj C hR hM hL hl) (fun h9 => kf h9 p e s m args below meth c H locs R lj C hR hM hL hl)
theorem pg_goto {off : Int} {tgt : Nat} (hdg : decode Y.2.1 pc = .ok (.goto off, 3)) (ht : (pc : Int) + off = (tgt : Int)) (k : pg_At S Λ Y d tgt ls st M P) : pg_At S Λ Y d pc ls st M P :=
  fun p e s m args below meth c H locs R lj C hR hM hL hl => lv_goto C.1 C.2.1 hdg ht (k p e s m args below meth c H locs R lj C hR hM hL hl)
theorem pg_tableOut {dflt lo hi : Int} {offs : Array Int} {len : Nat} {x : Int32} {tgt : Nat} (hdg : decode Y.2.1 pc = .ok (.tableswitch dflt lo hi offs, len)) (h : x.toInt < lo ∨ hi < x.toInt) (ht : (pc : Int) + dflt = (tgt : Int)) (k : pg_At S Λ Y d tgt ls st M P) : pg_At S Λ Y d pc ls (.int x :: st) M P :=
  fun p e s m args below meth c H locs R lj C hR hM hL hl => lv_tableOut C.1 C.2.1 hdg h ht (k p e s m args below meth c H locs R lj C hR hM hL hl)
theorem pg_tableIn {dflt lo hi : Int} {offs : Array Int} {len : Nat} {x : Int32} {off : Int} {tgt : Nat} (hdg : decode Y.2.1 pc = .ok (.tableswitch dflt lo hi offs, len)) (h1 : ¬ x.toInt < lo) (h2 : ¬ hi < x.toInt) (ho : offs[(x.toInt - lo).toNat]? = some off) (ht : (pc : Int) + off = (tgt : Int)) (k : pg_At S Λ Y d tgt ls st M P) : pg_At S Λ Y d pc ls (.int x :: st) M P :=
  fun p e s m args below meth c H locs R lj C hR hM hL hl => lv_tableIn C.1 C.2.1 hdg h1 h2 ho ht (k p e s m args below meth c H locs R lj C hR hM hL hl)
theorem pg_lookup {dflt : Int} {ps : Array (Int × Int)} {len : Nat} {x : Int32} {off : Int} {tgt : Nat} (hdg : decode Y.2.1 pc = .ok (.lookupswitch dflt ps, len)) (hp : (ps.toList.zip (ps.toList.drop 1)).all (fun (a, next) => a.1 < next.1) = true) (ho : Op.lookupswitch.offset ps.toList dflt x.toInt = off) (ht : (pc : Int) + off = (tgt : Int)) (k : pg_At S Λ Y d tgt ls st M P) : pg_At S Λ Y d pc ls (.int x :: st) M P :=
  fun p e s m args below meth c H locs R lj C hR hM hL hl => lv_lookup C.1 C.2.1 hdg hp ho ht (k p e s m args below meth c H locs R lj C hR hM hL hl)
theorem pg_lcmp {x y : Int64} (hdg : decode Y.2.1 pc = .ok (.lcmp, 1)) (k : pg_At S Λ Y d (pc + 1) ls (.int (lg_cmp x y) :: st) M P) : pg_At S Λ Y d pc ls (.long y :: .long x :: st) M P :=
  fun p e s m args below meth c H locs R lj C hR hM hL hl => W.lcmp C.1 C.2.1 hdg (k p e s m args below meth c H locs R lj C hR hM hL hl)
theorem pg_iload_n {k : Fin 4} {i j : Nat} {x : Int32} (hdg : decode Y.2.1 pc = .ok (.iload_n k, 1)) (hi : (k : Nat) = i) (hj : ls[j]? = some (i, .int x)) (kk : pg_At S Λ Y d (pc + 1) ls (.int x :: st) M P) : pg_At S Λ Y d pc ls st M P :=
  fun p e s m args below meth c H locs R lj C hR hM hL hl => lv_iload_n C.1 C.2.1 hdg hi (pg_loc (v := .int x) hl hj) (kk p e s m args below meth c H locs R lj C hR hM hL hl)
theorem pg_iload {i j : Nat} {x : Int32} (hdg : decode Y.2.1 pc = .ok (.iload i, 2)) (hj : ls[j]? = some (i, .int x)) (kk : pg_At S Λ Y d (pc + 2) ls (.int x :: st) M P) : pg_At S Λ Y d pc ls st M P :=
  fun p e s m args below meth c H locs R lj C hR hM hL hl => lv_iload C.1 C.2.1 hdg (pg_loc (v := .int x) hl hj) (kk p e s m args below meth c H locs R lj C hR hM hL hl)
theorem pg_istore_n {k : Fin 4} {i : Nat} {x : Int32} (hdg : decode Y.2.1 pc = .ok (.istore_n k, 1)) (hi : (k : Nat) = i) (hn : i < Y.2.2.1) (hls : (i, Value.int x) :: ls.filter (fun q => !(q.1 == i) && !(q.1 + 1 == i && q.2.category == 2)) = ls') (kk : pg_At S Λ Y d (pc + 1) ls' st M P) : pg_At S Λ Y d pc ls (.int x :: st) M P :=
  fun p e s m args below meth c H locs R lj C hR hM hL hl => lv_istore_n C.1 C.2.1 hdg hi hl hn rfl (fun lj' hl' => kk p e s m args below meth c H locs R lj' C hR hM hL (by rw [pg_f1] at hl'; rw [← hls]; exact hl'))
theorem pg_istore {i : Nat} {x : Int32} (hdg : decode Y.2.1 pc = .ok (.istore i, 2)) (hn : i < Y.2.2.1) (hls : (i, Value.int x) :: ls.filter (fun q => !(q.1 == i) && !(q.1 + 1 == i && q.2.category == 2)) = ls') (kk : pg_At S Λ Y d (pc + 2) ls' st M P) : pg_At S Λ Y d pc ls (.int x :: st) M P :=
  fun p e s m args below meth c H locs R lj C hR hM hL hl => lv_istore C.1 C.2.1 hdg hl hn rfl (fun lj' hl' => kk p e s m args below meth c H locs R lj' C hR hM hL (by rw [pg_f1] at hl'; rw [← hls]; exact hl'))
theorem pg_lload_n {k : Fin 4} {i j : Nat} {x : Int64} (hdg : decode Y.2.1 pc = .ok (.lload_n k, 1)) (hi : (k : Nat) = i) (hj : ls[j]? = some (i, .long x)) (kk : pg_At S Λ Y d (pc + 1) ls (.long x :: st) M P) : pg_At S Λ Y d pc ls st M P :=
  fun p e s m args below meth c H locs R lj C hR hM hL hl => lv_lload_n C.1 C.2.1 hdg hi (pg_loc (v := .long x) hl hj) (kk p e s m args below meth c H locs R lj C hR hM hL hl)
theorem pg_lload {i j : Nat} {x : Int64} (hdg : decode Y.2.1 pc = .ok (.lload i, 2)) (hj : ls[j]? = some (i, .long x)) (kk : pg_At S Λ Y d (pc + 2) ls (.long x :: st) M P) : pg_At S Λ Y d pc ls st M P :=
  fun p e s m args below meth c H locs R lj C hR hM hL hl => lv_lload C.1 C.2.1 hdg (pg_loc (v := .long x) hl hj) (kk p e s m args below meth c H locs R lj C hR hM hL hl)
theorem pg_lstore_n {k : Fin 4} {i : Nat} {x : Int64} (hdg : decode Y.2.1 pc = .ok (.lstore_n k, 1)) (hi : (k : Nat) = i) (hn : i + 1 < Y.2.2.1) (hls : (i, Value.long x) :: ls.filter (fun q => !(q.1 == i) && (!(q.1 == i + 1) && !(q.1 + 1 == i && q.2.category == 2))) = ls') (kk : pg_At S Λ Y d (pc + 1) ls' st M P) : pg_At S Λ Y d pc ls (.long x :: st) M P :=
  fun p e s m args below meth c H locs R lj C hR hM hL hl => lv_lstore_n C.1 C.2.1 hdg hi hl hn rfl (fun lj' hl' => kk p e s m args below meth c H locs R lj' C hR hM hL (by rw [pg_f2] at hl'; rw [← hls]; exact hl'))
theorem pg_lstore {i : Nat} {x : Int64} (hdg : decode Y.2.1 pc = .ok (.lstore i, 2)) (hn : i + 1 < Y.2.2.1) (hls : (i, Value.long x) :: ls.filter (fun q => !(q.1 == i) && (!(q.1 == i + 1) && !(q.1 + 1 == i && q.2.category == 2))) = ls') (kk : pg_At S Λ Y d (pc + 2) ls' st M P) : pg_At S Λ Y d pc ls (.long x :: st) M P :=
  fun p e s m args below meth c H locs R lj C hR hM hL hl => lv_lstore C.1 C.2.1 hdg hl hn rfl (fun lj' hl' => kk p e s m args below meth c H locs R lj' C hR hM hL (by rw [pg_f2] at hl'; rw [← hls]; exact hl'))
theorem pg_aload_n {k : Fin 4} {i j : Nat} {x : Nat} (hdg : decode Y.2.1 pc = .ok (.aload_n k, 1)) (hi : (k : Nat) = i) (hj : ls[j]? = some (i, .ref x)) (kk : pg_At S Λ Y d (pc + 1) ls (.ref x :: st) M P) : pg_At S Λ Y d pc ls st M P :=
  fun p e s m args below meth c H locs R lj C hR hM hL hl => lv_aload_n C.1 C.2.1 hdg hi (pg_loc (v := .ref x) hl hj) (kk p e s m args below meth c H locs R lj C hR hM hL hl)
theorem pg_aload {i j : Nat} {x : Nat} (hdg : decode Y.2.1 pc = .ok (.aload i, 2)) (hj : ls[j]? = some (i, .ref x)) (kk : pg_At S Λ Y d (pc + 2) ls (.ref x :: st) M P) : pg_At S Λ Y d pc ls st M P :=
  fun p e s m args below meth c H locs R lj C hR hM hL hl => lv_aload C.1 C.2.1 hdg (pg_loc (v := .ref x) hl hj) (kk p e s m args below meth c H locs R lj C hR hM hL hl)
theorem pg_astore_n {k : Fin 4} {i : Nat} {x : Nat} (hdg : decode Y.2.1 pc = .ok (.astore_n k, 1)) (hi : (k : Nat) = i) (hn : i < Y.2.2.1) (hls : (i, Value.ref x) :: ls.filter (fun q => !(q.1 == i) && !(q.1 + 1 == i && q.2.category == 2)) = ls') (kk : pg_At S Λ Y d (pc + 1) ls' st M P) : pg_At S Λ Y d pc ls (.ref x :: st) M P :=
  fun p e s m args below meth c H locs R lj C hR hM hL hl => lv_astore_n C.1 C.2.1 hdg hi hl hn rfl (fun lj' hl' => kk p e s m args below meth c H locs R lj' C hR hM hL (by rw [pg_f1] at hl'; rw [← hls]; exact hl'))
theorem pg_astore {i : Nat} {x : Nat} (hdg : decode Y.2.1 pc = .ok (.astore i, 2)) (hn : i < Y.2.2.1) (hls : (i, Value.ref x) :: ls.filter (fun q => !(q.1 == i) && !(q.1 + 1 == i && q.2.category == 2)) = ls') (kk : pg_At S Λ Y d (pc + 2) ls' st M P) : pg_At S Λ Y d pc ls (.ref x :: st) M P :=
  fun p e s m args below meth c H locs R lj C hR hM hL hl => lv_astore C.1 C.2.1 hdg hl hn rfl (fun lj' hl' => kk p e s m args below meth c H locs R lj' C hR hM hL (by rw [pg_f1] at hl'; rw [← hls]; exact hl'))
theorem pg_iinc {i j : Nat} {n : Int} {x v : Int32} (hdg : decode Y.2.1 pc = .ok (.iinc i n, 3)) (hj : ls[j]? = some (i, .int x)) (hv : x + Int32.ofInt n = v) (hn : i < Y.2.2.1) (hls : (i, Value.int v) :: ls.filter (fun q => !(q.1 == i) && !(q.1 + 1 == i && q.2.category == 2)) = ls') (kk : pg_At S Λ Y d (pc + 3) ls' st M P) : pg_At S Λ Y d pc ls st M P :=
  fun p e s m args below meth c H locs R lj C hR hM hL hl => lv_iinc (k := j) C.1 C.2.1 hdg hl (by simp [pg_ml, List.getElem?_map, hj]; rfl) hv hn rfl (fun lj' hl' => kk p e s m args below meth c H locs R lj' C hR hM hL (by rw [pg_f1] at hl'; rw [← hls]; exact hl'))
theorem pg_ldc {index : Nat} {v : Int32} (hw : Cond.constant Y.1.cls index v ∈ pg_gd) (hdg : decode Y.2.1 pc = .ok (.ldc index, 2)) (k : pg_At S Λ Y d (pc + 2) ls (.int v :: st) M P) : pg_At S Λ Y d pc ls st M P :=
  fun p e s m args below meth c H locs R lj C hR hM hL hl => lv_ldc C.1 C.2.1 C.2.2.2.1 (C.2.2.2.2.1 _ hw) hdg (k p e s m args below meth c H locs R lj C hR hM hL hl)
theorem pg_ldcw {index : Nat} {v : Int32} (hw : Cond.constant Y.1.cls index v ∈ pg_gd) (hdg : decode Y.2.1 pc = .ok (.ldc_w index, 3)) (k : pg_At S Λ Y d (pc + 3) ls (.int v :: st) M P) : pg_At S Λ Y d pc ls st M P :=
  fun p e s m args below meth c H locs R lj C hR hM hL hl => lv_ldcw C.1 C.2.1 C.2.2.2.1 (C.2.2.2.2.1 _ hw) hdg (k p e s m args below meth c H locs R lj C hR hM hL hl)
theorem pg_ldc2 {index : Nat} {v : Int64} (hw : Cond.constantLong Y.1.cls index v ∈ pg_gd) (hdg : decode Y.2.1 pc = .ok (.ldc2_w index, 3)) (k : pg_At S Λ Y d (pc + 3) ls (.long v :: st) M P) : pg_At S Λ Y d pc ls st M P :=
  fun p e s m args below meth c H locs R lj C hR hM hL hl => lv_ldc2 C.1 C.2.1 C.2.2.2.1 (C.2.2.2.2.1 _ hw) hdg (k p e s m args below meth c H locs R lj C hR hM hL hl)
end PGI
end
section
/-! the memory's cells as one world of the kit -/
def pg_ws (S : pg_S) (Λ : pg_L) (M : pg_M) : va_W := (List.range 1000).filterMap (fun a => (Λ a).map (fun d => (pg_ad S a, pg_ce S M a d)))
theorem pg_ad_lt {S : pg_S} {a : Nat} (h : a < 1000) : pg_ad S a = S.2.1 + a := by simp [pg_ad, h]
theorem pg_ws_mem {S : pg_S} {Λ : pg_L} {M : pg_M} {q : Nat × va_E} : q ∈ pg_ws S Λ M ↔ ∃ a d, a < 1000 ∧ Λ a = some d ∧ q = (pg_ad S a, pg_ce S M a d) := by
  unfold pg_ws
  rw [List.mem_filterMap]
  constructor
  · rintro ⟨a, ha, h⟩
    cases hd : Λ a with
    | none => rw [hd] at h; cases h
    | some d => rw [hd] at h; exact ⟨a, d, List.mem_range.mp ha, hd, (Option.some.inj h).symm⟩
  · rintro ⟨a, d, ha, hd, rfl⟩
    exact ⟨a, List.mem_range.mpr ha, by rw [hd]; rfl⟩
theorem pg_ws_P {S : pg_S} {Λ : pg_L} {M : pg_M} {H : Heap} (h : pg_R S Λ M H) : va_P S.2.2.1 pg_cls (pg_ws S Λ M) H := by
  intro k q hq
  obtain ⟨a, d, ha, hd, rfl⟩ := pg_ws_mem.mp (List.mem_of_getElem? hq)
  exact (h.1 a d hd).2
theorem pg_ws_D {S : pg_S} {Λ : pg_L} {M : pg_M} : va_D (fun q => S.2.1 ≤ q) (pg_ws S Λ M) := by
  refine ⟨fun i j p q hi hj hpq => ?_, fun k q hq => ?_⟩
  · have hpw : (pg_ws S Λ M).Pairwise (fun x y => x.1 ≠ y.1) := by
      unfold pg_ws
      rw [List.pairwise_filterMap]
      refine List.Pairwise.imp_of_mem ?_ (List.pairwise_lt_range (n := 1000))
      intro a b ha hb hab x hx y hy
      cases hda : Λ a with
      | none => rw [hda] at hx; cases hx
      | some da =>
        cases hdb : Λ b with
        | none => rw [hdb] at hy; cases hy
        | some db =>
          rw [hda] at hx; rw [hdb] at hy
          cases Option.some.inj hx
          cases Option.some.inj hy
          simp only [pg_ad_lt (List.mem_range.mp ha), pg_ad_lt (List.mem_range.mp hb)]
          omega
    have hil := (List.getElem?_eq_some_iff.mp hi)
    have hjl := (List.getElem?_eq_some_iff.mp hj)
    obtain ⟨hi1, hi2⟩ := hil
    obtain ⟨hj1, hj2⟩ := hjl
    rcases Nat.lt_trichotomy i j with h | h | h
    · exact absurd (by rw [hi2, hj2]; exact hpq) (List.pairwise_iff_getElem.mp hpw i j hi1 hj1 h)
    · exact h
    · exact absurd (by rw [hi2, hj2]; exact hpq.symm) (List.pairwise_iff_getElem.mp hpw j i hj1 hi1 h)
  · obtain ⟨a, d, ha, hd, rfl⟩ := pg_ws_mem.mp (List.mem_of_getElem? hq)
    simp only [pg_ad_lt ha]
    omega
theorem pg_ws_at {S : pg_S} {Λ : pg_L} {M : pg_M} {a : Nat} {d : pg_D} (ha : a < 1000) (h : Λ a = some d) : ∃ q : Nat, (pg_ws S Λ M)[q]? = some (pg_ad S a, pg_ce S M a d) :=
  List.getElem?_of_mem (pg_ws_mem.mpr ⟨a, d, ha, h, rfl⟩)
/-- one cell changed -/
theorem pg_R.set {S : pg_S} {Λ : pg_L} {M M' : pg_M} {H H1 : Heap} {a q : Nat} {d : pg_D} {e : va_E} {locs : List Loc} (h : pg_R S Λ M H) (ha : Λ a = some d) (hq : (pg_ws S Λ M)[q]? = some (pg_ad S a, pg_ce S M a d)) (he : e = pg_ce S M' a d) (hne : ∀ b d', b ≠ a → pg_ce S M' b d' = pg_ce S M b d')
    (hP : va_P S.2.2.1 pg_cls ((pg_ws S Λ M).set q (pg_ad S a, e)) H1) (hS : va_S (fun x => S.2.1 ≤ x) H H1 locs) : pg_R S Λ M' H1 := by
  have hql : q < (pg_ws S Λ M).length := (List.getElem?_eq_some_iff.mp hq).1
  refine ⟨fun b d' hb => ⟨(h.1 b d' hb).1, ?_⟩, fun x hx => ?_, Nat.le_trans h.2.2 hS.1⟩
  · by_cases hba : b = a
    · subst hba
      cases Option.some.inj (ha.symm.trans hb)
      have h1 := hP q (pg_ad S b, e) (by rw [List.getElem?_set_self hql])
      rw [he] at h1
      exact h1
    · obtain ⟨r, hr⟩ := pg_ws_at (S := S) (M := M) (h.1 b d' hb).1 hb
      have hrq : q ≠ r := by
        intro hqr
        subst hqr
        have h2 := Option.some.inj (hq.symm.trans hr)
        have h3 : pg_ad S a = pg_ad S b := congrArg Prod.fst h2
        rw [pg_ad_lt (h.1 a d ha).1, pg_ad_lt (h.1 b d' hb).1] at h3
        exact hba (by omega)
      have h1 := hP r (pg_ad S b, pg_ce S M b d') (by rw [List.getElem?_set_ne hrq]; exact hr)
      rw [hne b d' hba]
      exact h1
  · rw [hS.2.1 x (Nat.lt_of_lt_of_le hx h.2.2) (by omega)]
    exact h.2.1 x hx
theorem pg_one {S : pg_S} {Λ : pg_L} {M : pg_M} {H : Heap} {a : Nat} {d : pg_D} (h : pg_R S Λ M H) (ha : Λ a = some d) : va_P S.2.2.1 pg_cls [(pg_ad S a, pg_ce S M a d)] H := by
  intro k q hq
  have hz : k < 1 := (List.getElem?_eq_some_iff.mp hq).1
  rw [show k = 0 by omega] at hq
  cases hq
  exact (h.1 a d ha).2
def pg_si (M : pg_M) (a k : Nat) (v : Int32) : pg_M := (fun b => if b = a then upd (M.1 a) k v else M.1 b, M.2.1, M.2.2)
def pg_sj (M : pg_M) (a k : Nat) (v : Int64) : pg_M := (M.1, fun b => if b = a then vp_updL (M.2.1 a) k v else M.2.1 b, M.2.2)
def pg_sr (M : pg_M) (a k : Nat) (v : Nat) : pg_M := (M.1, M.2.1, fun b => if b = a then (fun j => if j = k then v else M.2.2 a j) else M.2.2 b)
/-- a whole row of ints laid -/
def pg_sa (M : pg_M) (a : Nat) (f : Nat → Int32) : pg_M := (fun b => if b = a then f else M.1 b, M.2.1, M.2.2)
def pg_sl2 (M : pg_M) (a : Nat) (f : Nat → Int64) : pg_M := (M.1, fun b => if b = a then f else M.2.1 b, M.2.2)
theorem pg_fvs_off {M M' : pg_M} {b : Nat} (h1 : M'.1 b = M.1 b) (h2 : M'.2.1 b = M.2.1 b) (h3 : M'.2.2 b = M.2.2 b) (fs : List pg_F) : ∀ i, pg_fvs M' b i fs = pg_fvs M b i fs := by
  induction fs with
  | nil => intro i; rfl
  | cons f fs ih =>
    intro i
    have : pg_fv M' b i f = pg_fv M b i f := by unfold pg_fv; split <;> simp [h1, h2, h3]
    simp [pg_fvs, ih, this]
theorem pg_ce_off {S : pg_S} {M M' : pg_M} {b : Nat} (h1 : M'.1 b = M.1 b) (h2 : M'.2.1 b = M.2.1 b) (h3 : M'.2.2 b = M.2.2 b) (d : pg_D) : pg_ce S M' b d = pg_ce S M b d := by
  unfold pg_ce
  split
  · rw [pg_fvs_off h1 h2 h3]
  · rw [h1]
  · rw [h2]
  · rfl
theorem pg_si_off (S : pg_S) (M : pg_M) (a k : Nat) (v : Int32) : ∀ b d', b ≠ a → pg_ce S (pg_si M a k v) b d' = pg_ce S M b d' := fun b d' h => pg_ce_off (M := M) (M' := pg_si M a k v) (b := b) (by simp [pg_si, h]) rfl rfl d'
theorem pg_sj_off (S : pg_S) (M : pg_M) (a k : Nat) (v : Int64) : ∀ b d', b ≠ a → pg_ce S (pg_sj M a k v) b d' = pg_ce S M b d' := fun b d' h => pg_ce_off (M := M) (M' := pg_sj M a k v) (b := b) rfl (by simp [pg_sj, h]) rfl d'
theorem pg_sr_off (S : pg_S) (M : pg_M) (a k : Nat) (v : Nat) : ∀ b d', b ≠ a → pg_ce S (pg_sr M a k v) b d' = pg_ce S M b d' := fun b d' h => pg_ce_off (M := M) (M' := pg_sr M a k v) (b := b) rfl rfl (by simp [pg_sr, h]) d'
theorem pg_sa_off (S : pg_S) (M : pg_M) (a : Nat) (f : Nat → Int32) : ∀ b d', b ≠ a → pg_ce S (pg_sa M a f) b d' = pg_ce S M b d' := fun b d' h => pg_ce_off (M := M) (M' := pg_sa M a f) (b := b) (by simp [pg_sa, h]) rfl rfl d'
theorem pg_sl2_off (S : pg_S) (M : pg_M) (a : Nat) (f : Nat → Int64) : ∀ b d', b ≠ a → pg_ce S (pg_sl2 M a f) b d' = pg_ce S M b d' := fun b d' h => pg_ce_off (M := M) (M' := pg_sl2 M a f) (b := b) rfl (by simp [pg_sl2, h]) rfl d'
section PGM
variable {S : pg_S} {Λ : pg_L} {Y : pg_Y} {d pc : Nat} {ls ls' : List (Nat × Value)} {st : List Value} {M : pg_M} {P : Option Value → pg_M → Prop} {a : Nat}
theorem pg_VS {locs : List Loc} {H : Heap} (hL : ∀ q ∈ locs, S.2.1 ≤ q.base) : va_S (fun x => S.2.1 ≤ x) H H locs := ⟨Nat.le_refl _, fun _ _ _ => rfl, hL⟩
theorem pg_vals {k : Nat} {fs : List pg_F} {f : pg_F} (hf : fs[k]? = some f) : ((pg_fvs M a 0 fs).map (pg_up S))[k]? = some (pg_up S (pg_fv M a k f)) := by
  simp [List.getElem?_map, pg_fvs_get, hf]
theorem pg_get {ci k N index : Nat} {C : String} {T : u_T} {fs : List pg_F} {f : pg_F} (hΛ : Λ a = some (.inl (ci, fs))) (hf : fs[k]? = some f) (hc : pg_cls[ci]? = some (C, T, N)) (hin : ∀ w ∈ u_ws C T N, w ∈ pg_gd) (hk : k < N) (hlink : Cond.fieldLink Y.1.cls index (T k).1 (T k).2.1 (T k).2.2.1 ∈ pg_gd) (hdg : decode Y.2.1 pc = .ok (.getfield index, 3))
    (kk : pg_At S Λ Y d (pc + 3) ls (pg_fv M a k f :: st) M P) : pg_At S Λ Y d pc ls (.ref a :: st) M P :=
  fun p e s m args below meth c H locs R lj C9 hR hM hL hl => va_get (a := pg_ad S a) C9.1 C9.2.1 C9.2.2.2.2.1 hin C9.2.2.2.1 C9.2.2.2.2.2.1.1 (pg_one hM hΛ) 0 rfl hc k hk (C9.2.2.2.2.1 _ hlink) (fun _ h => h) (pg_vals hf) hdg (kk p e s m args below meth c H locs R lj C9 hR hM hL hl)
theorem pg_getN {ci k N index : Nat} {C host : String} {T : u_T} {fs : List pg_F} {f : pg_F} (hΛ : Λ a = some (.inl (ci, fs))) (hf : fs[k]? = some f) (hc : pg_cls[ci]? = some (C, T, N)) (hin : ∀ w ∈ u_ws C T N, w ∈ pg_gd) (hk : k < N) (hlink : Cond.fieldLinkNest Y.1.cls index (T k).1 (T k).2.1 (T k).2.2.1 host ∈ lw_tbl) (hdg : decode Y.2.1 pc = .ok (.getfield index, 3))
    (kk : pg_At S Λ Y d (pc + 3) ls (pg_fv M a k f :: st) M P) : pg_At S Λ Y d pc ls (.ref a :: st) M P :=
  fun p e s m args below meth c H locs R lj C9 hR hM hL hl => va_getN (a := pg_ad S a) (host := host) C9.1 C9.2.1 C9.2.2.2.2.1 hin C9.2.2.2.1 C9.2.2.2.2.2.1.1 (pg_one hM hΛ) 0 rfl hc k hk (va_Nw.use rfl (C9.2.2.2.2.2.1.2.1 _ hlink rfl)) (fun _ h => h) (pg_vals hf) hdg (kk p e s m args below meth c H locs R lj C9 hR hM hL hl)
theorem pg_setl {k : Nat} {fs : List pg_F} {v : Value} {M' : pg_M} (hv : ∀ j f, fs[j]? = some f → pg_fv M' a j f = if j = k then v else pg_fv M a j f) (hk : k < fs.length) : ((pg_fvs M a 0 fs).map (pg_up S)).set k (pg_up S v) = (pg_fvs M' a 0 fs).map (pg_up S) := by
  apply List.ext_getElem?
  intro j
  rw [List.getElem?_set]
  simp only [List.getElem?_map, pg_fvs_get, List.length_map, pg_fvs_len, Nat.zero_add]
  by_cases hjk : k = j
  · subst hjk
    simp only [if_true, hk]
    obtain ⟨f, hf⟩ : ∃ f, fs[k]? = some f := ⟨fs[k], List.getElem?_eq_getElem hk⟩
    simp [hf, hv k f hf]
  · simp only [hjk, if_false]
    cases hf : fs[j]? with
    | none => simp
    | some f => simp [hv j f hf, Ne.symm hjk]
theorem pg_putG {ci k N index : Nat} {C : String} {T : u_T} {fs : List pg_F} {v : Value} {M' : pg_M} (ty0 : Nat → FieldType) {ty : FieldType} (hΛ : Λ a = some (.inl (ci, fs))) (hc : pg_cls[ci]? = some (C, T, N)) (hin : ∀ w ∈ u_ws C T N, w ∈ pg_gd) (hty : ∀ k, k < N → parseFieldDescriptor (T k).2.2.1 = some (ty0 k)) (hnm : ∀ a, a < N → ∀ b, b < N → a ≠ b → (T a).2.1 ≠ (T b).2.1) (hk : k < N) (hkl : k < fs.length) (hlink : Cond.fieldLink Y.1.cls index (T k).1 (T k).2.1 (T k).2.2.1 ∈ pg_gd) (hfin : (T k).2.2.2 = false) (hd : parseFieldDescriptor (T k).2.2.1 = some ty) (hn : narrow ty (pg_up S v) = pg_up S v) (hfit : fits ty (pg_up S v) = true)
    (hv : ∀ j f, fs[j]? = some f → pg_fv M' a j f = if j = k then v else pg_fv M a j f) (hoff : ∀ b d', b ≠ a → pg_ce S M' b d' = pg_ce S M b d') (hdg : decode Y.2.1 pc = .ok (.putfield index, 3)) (kk : pg_At S Λ Y d (pc + 3) ls st M' P) : pg_At S Λ Y d pc ls (v :: .ref a :: st) M P := by
  intro p e s m args below meth c H locs R lj C9 hR hM hL hl
  obtain ⟨q, hq⟩ := pg_ws_at (S := S) (M := M) (hM.1 a _ hΛ).1 hΛ
  refine va_put (a := pg_ad S a) C9.1 C9.2.1 C9.2.2.2.2.1 hin ty0 hty hnm C9.2.2.2.1 C9.2.2.2.2.2.1.1 (pg_ws_P hM) pg_ws_D (pg_VS hL) q hq hc k hk (C9.2.2.2.2.1 _ hlink) (fun _ h => h) hfin hd hn hfit (by simp [pg_fvs_len, hkl]) hdg (fun H1 locs1 hP1 hD1 hS1 => ?_)
  refine kk p e s m args below meth c H1 locs1 R lj C9 hR (pg_R.set hM hΛ hq ?_ hoff hP1 hS1) hS1.2.2 hl
  rw [pg_setl hv hkl]; rfl
theorem pg_putGN {ci k N index : Nat} {C host : String} {T : u_T} {fs : List pg_F} {v : Value} {M' : pg_M} (ty0 : Nat → FieldType) {ty : FieldType} (hΛ : Λ a = some (.inl (ci, fs))) (hc : pg_cls[ci]? = some (C, T, N)) (hin : ∀ w ∈ u_ws C T N, w ∈ pg_gd) (hty : ∀ k, k < N → parseFieldDescriptor (T k).2.2.1 = some (ty0 k)) (hnm : ∀ a, a < N → ∀ b, b < N → a ≠ b → (T a).2.1 ≠ (T b).2.1) (hk : k < N) (hkl : k < fs.length) (hlink : Cond.fieldLinkNest Y.1.cls index (T k).1 (T k).2.1 (T k).2.2.1 host ∈ lw_tbl) (hfin : (T k).2.2.2 = false) (hd : parseFieldDescriptor (T k).2.2.1 = some ty) (hn : narrow ty (pg_up S v) = pg_up S v) (hfit : fits ty (pg_up S v) = true)
    (hv : ∀ j f, fs[j]? = some f → pg_fv M' a j f = if j = k then v else pg_fv M a j f) (hoff : ∀ b d', b ≠ a → pg_ce S M' b d' = pg_ce S M b d') (hdg : decode Y.2.1 pc = .ok (.putfield index, 3)) (kk : pg_At S Λ Y d (pc + 3) ls st M' P) : pg_At S Λ Y d pc ls (v :: .ref a :: st) M P := by
  intro p e s m args below meth c H locs R lj C9 hR hM hL hl
  obtain ⟨q, hq⟩ := pg_ws_at (S := S) (M := M) (hM.1 a _ hΛ).1 hΛ
  refine va_putN (a := pg_ad S a) (host := host) C9.1 C9.2.1 C9.2.2.2.2.1 hin ty0 hty hnm C9.2.2.2.1 C9.2.2.2.2.2.1.1 (pg_ws_P hM) pg_ws_D (pg_VS hL) q hq hc k hk (va_Nw.use rfl (C9.2.2.2.2.2.1.2.1 _ hlink rfl)) (fun _ h => h) hfin hd hn hfit (by simp [pg_fvs_len, hkl]) hdg (fun H1 locs1 hP1 hD1 hS1 => ?_)
  refine kk p e s m args below meth c H1 locs1 R lj C9 hR (pg_R.set hM hΛ hq ?_ hoff hP1 hS1) hS1.2.2 hl
  rw [pg_setl hv hkl]; rfl
theorem pg_hvi {k : Nat} {fs : List pg_F} {v : Int32} (hf : fs[k]? = some (.inl 0)) : ∀ j f, fs[j]? = some f → pg_fv (pg_si M a k v) a j f = if j = k then .int v else pg_fv M a j f := by
  intro j f hj
  by_cases hjk : j = k
  · subst hjk
    cases Option.some.inj (hf.symm.trans hj)
    simp [pg_fv, pg_si, upd]
  · simp only [hjk, if_false]
    unfold pg_fv
    split <;> simp [pg_si, upd, hjk]
theorem pg_hvj {k : Nat} {fs : List pg_F} {v : Int64} (hf : fs[k]? = some (.inl 1)) : ∀ j f, fs[j]? = some f → pg_fv (pg_sj M a k v) a j f = if j = k then .long v else pg_fv M a j f := by
  intro j f hj
  by_cases hjk : j = k
  · subst hjk
    cases Option.some.inj (hf.symm.trans hj)
    simp [pg_fv, pg_sj, vp_updL]
  · simp only [hjk, if_false]
    unfold pg_fv
    split <;> simp [pg_sj, vp_updL, hjk]
theorem pg_hvr {k : Nat} {fs : List pg_F} {v : Nat} (hf : fs[k]? = some (.inl 2)) : ∀ j f, fs[j]? = some f → pg_fv (pg_sr M a k v) a j f = if j = k then .ref v else pg_fv M a j f := by
  intro j f hj
  by_cases hjk : j = k
  · subst hjk
    cases Option.some.inj (hf.symm.trans hj)
    simp [pg_fv, pg_sr]
  · simp only [hjk, if_false]
    unfold pg_fv
    split <;> simp [pg_sr, hjk]
/-! arrays -/
theorem pg_iald {n : Nat} {i : Int32} (hΛ : Λ a = some (.inr (.int, n, none))) (hin : vp_in i n) (hdg : decode Y.2.1 pc = .ok (.iaload, 1)) (kk : pg_At S Λ Y d (pc + 1) ls (.int (M.1 a i.toNatClampNeg) :: st) M P) : pg_At S Λ Y d pc ls (.int i :: .ref a :: st) M P :=
  fun p e s m args below meth c H locs R lj C9 hR hM hL hl => va_iald (a := pg_ad S a) C9.1 C9.2.1 C9.2.2.2.2.2.1.1 (pg_one hM hΛ) 0 0 rfl rfl hin hdg (kk p e s m args below meth c H locs R lj C9 hR hM hL hl)
theorem pg_lald {n : Nat} {i : Int32} (hΛ : Λ a = some (.inr (.long, n, some none))) (hin : vp_in i n) (hdg : decode Y.2.1 pc = .ok (.laload, 1)) (kk : pg_At S Λ Y d (pc + 1) ls (.long (M.2.1 a i.toNatClampNeg) :: st) M P) : pg_At S Λ Y d pc ls (.int i :: .ref a :: st) M P :=
  fun p e s m args below meth c H locs R lj C9 hR hM hL hl => va_lald (a := pg_ad S a) C9.1 C9.2.1 C9.2.2.2.2.2.1.1 (pg_one hM hΛ) 0 1 rfl rfl hin hdg (kk p e s m args below meth c H locs R lj C9 hR hM hL hl)
theorem pg_zald {n : Nat} {i : Int32} (hΛ : Λ a = some (.inr (.boolean, n, none))) (hin : vp_in i n) (hdg : decode Y.2.1 pc = .ok (.baload, 1)) (kk : pg_At S Λ Y d (pc + 1) ls (.int (M.1 a i.toNatClampNeg) :: st) M P) : pg_At S Λ Y d pc ls (.int i :: .ref a :: st) M P :=
  fun p e s m args below meth c H locs R lj C9 hR hM hL hl => va_zald (a := pg_ad S a) C9.1 C9.2.1 C9.2.2.2.2.2.1.1 (pg_one hM hΛ) 0 2 rfl rfl hin hdg (kk p e s m args below meth c H locs R lj C9 hR hM hL hl)
theorem pg_cald {n : Nat} {i : Int32} (hΛ : Λ a = some (.inr (.char, n, none))) (hin : vp_in i n) (hdg : decode Y.2.1 pc = .ok (.caload, 1)) (kk : pg_At S Λ Y d (pc + 1) ls (.int (M.1 a i.toNatClampNeg) :: st) M P) : pg_At S Λ Y d pc ls (.int i :: .ref a :: st) M P :=
  fun p e s m args below meth c H locs R lj C9 hR hM hL hl => va_cald (a := pg_ad S a) C9.1 C9.2.1 C9.2.2.2.2.2.1.1 (pg_one hM hΛ) 0 3 rfl rfl hin hdg (kk p e s m args below meth c H locs R lj C9 hR hM hL hl)
theorem pg_aldS {n : Nat} {i : Int32} {f : Nat → Nat} (hΛ : Λ a = some (.inr (.object "PegLaws$State", n, some (some f)))) (hin : vp_in i n) (hdg : decode Y.2.1 pc = .ok (.aaload, 1)) (kk : pg_At S Λ Y d (pc + 1) ls (.ref (f i.toNatClampNeg) :: st) M P) : pg_At S Λ Y d pc ls (.int i :: .ref a :: st) M P :=
  fun p e s m args below meth c H locs R lj C9 hR hM hL hl => va_aldq (a := pg_ad S a) C9.1 C9.2.1 C9.2.2.2.2.2.1.1 (pg_one hM hΛ) 0 4 rfl rfl hin hdg (kk p e s m args below meth c H locs R lj C9 hR hM hL hl)
theorem pg_aldF {n : Nat} {i : Int32} {f : Nat → Nat} (hΛ : Λ a = some (.inr (.object "PegLaws$Felt", n, some (some f)))) (hin : vp_in i n) (hdg : decode Y.2.1 pc = .ok (.aaload, 1)) (kk : pg_At S Λ Y d (pc + 1) ls (.ref (f i.toNatClampNeg) :: st) M P) : pg_At S Λ Y d pc ls (.int i :: .ref a :: st) M P :=
  fun p e s m args below meth c H locs R lj C9 hR hM hL hl => va_aldq (a := pg_ad S a) C9.1 C9.2.1 C9.2.2.2.2.2.1.1 (pg_one hM hΛ) 0 5 rfl rfl hin hdg (kk p e s m args below meth c H locs R lj C9 hR hM hL hl)
theorem pg_iast {n : Nat} {i x : Int32} (hΛ : Λ a = some (.inr (.int, n, none))) (hin : vp_in i n) (hdg : decode Y.2.1 pc = .ok (.iastore, 1)) (kk : pg_At S Λ Y d (pc + 1) ls st (pg_si M a i.toNatClampNeg x) P) : pg_At S Λ Y d pc ls (.int x :: .int i :: .ref a :: st) M P := by
  intro p e s m args below meth c H locs R lj C9 hR hM hL hl
  obtain ⟨q, hq⟩ := pg_ws_at (S := S) (M := M) (hM.1 a _ hΛ).1 hΛ
  refine va_iast (a := pg_ad S a) C9.1 C9.2.1 C9.2.2.2.2.2.1.1 (pg_ws_P hM) pg_ws_D (pg_VS hL) q 0 hq rfl hin hdg (fun H1 locs1 hP1 hD1 hS1 => ?_)
  exact kk p e s m args below meth c H1 locs1 R lj C9 hR (pg_R.set hM hΛ hq (by simp [pg_ce, pg_si]) (pg_si_off S M a _ _) hP1 hS1) hS1.2.2 hl
theorem pg_zast {n : Nat} {i x : Int32} (hΛ : Λ a = some (.inr (.boolean, n, none))) (hin : vp_in i n) (hdg : decode Y.2.1 pc = .ok (.bastore, 1)) (kk : pg_At S Λ Y d (pc + 1) ls st (pg_si M a i.toNatClampNeg (vp_nar .boolean x)) P) : pg_At S Λ Y d pc ls (.int x :: .int i :: .ref a :: st) M P := by
  intro p e s m args below meth c H locs R lj C9 hR hM hL hl
  obtain ⟨q, hq⟩ := pg_ws_at (S := S) (M := M) (hM.1 a _ hΛ).1 hΛ
  refine va_zast (a := pg_ad S a) C9.1 C9.2.1 C9.2.2.2.2.2.1.1 (pg_ws_P hM) pg_ws_D (pg_VS hL) q 2 hq rfl hin hdg (fun H1 locs1 hP1 hD1 hS1 => ?_)
  exact kk p e s m args below meth c H1 locs1 R lj C9 hR (pg_R.set hM hΛ hq (by simp [pg_ce, pg_si]) (pg_si_off S M a _ _) hP1 hS1) hS1.2.2 hl
theorem pg_cast {n : Nat} {i x : Int32} (hΛ : Λ a = some (.inr (.char, n, none))) (hin : vp_in i n) (hdg : decode Y.2.1 pc = .ok (.castore, 1)) (kk : pg_At S Λ Y d (pc + 1) ls st (pg_si M a i.toNatClampNeg (vp_nar .char x)) P) : pg_At S Λ Y d pc ls (.int x :: .int i :: .ref a :: st) M P := by
  intro p e s m args below meth c H locs R lj C9 hR hM hL hl
  obtain ⟨q, hq⟩ := pg_ws_at (S := S) (M := M) (hM.1 a _ hΛ).1 hΛ
  refine va_cast (a := pg_ad S a) C9.1 C9.2.1 C9.2.2.2.2.2.1.1 (pg_ws_P hM) pg_ws_D (pg_VS hL) q 3 hq rfl hin hdg (fun H1 locs1 hP1 hD1 hS1 => ?_)
  exact kk p e s m args below meth c H1 locs1 R lj C9 hR (pg_R.set hM hΛ hq (by simp [pg_ce, pg_si]) (pg_si_off S M a _ _) hP1 hS1) hS1.2.2 hl
theorem pg_last {n : Nat} {i : Int32} {x : Int64} (hΛ : Λ a = some (.inr (.long, n, some none))) (hin : vp_in i n) (hdg : decode Y.2.1 pc = .ok (.lastore, 1)) (kk : pg_At S Λ Y d (pc + 1) ls st (pg_sj M a i.toNatClampNeg x) P) : pg_At S Λ Y d pc ls (.long x :: .int i :: .ref a :: st) M P := by
  intro p e s m args below meth c H locs R lj C9 hR hM hL hl
  obtain ⟨q, hq⟩ := pg_ws_at (S := S) (M := M) (hM.1 a _ hΛ).1 hΛ
  refine va_last (a := pg_ad S a) C9.1 C9.2.1 C9.2.2.2.2.2.1.1 (pg_ws_P hM) pg_ws_D (pg_VS hL) q 1 hq rfl hin hdg (fun H1 locs1 hP1 hD1 hS1 => ?_)
  exact kk p e s m args below meth c H1 locs1 R lj C9 hR (pg_R.set hM hΛ hq (by simp [pg_ce, pg_sj]) (pg_sj_off S M a _ _) hP1 hS1) hS1.2.2 hl
theorem pg_alen {ty : FieldType} {n : Nat} {x : Option (Option (Nat → Nat))} (hΛ : Λ a = some (.inr (ty, n, x))) (t0 : Nat) (ht : pg_tys[t0]? = some ty) (hdg : decode Y.2.1 pc = .ok (.arraylength, 1)) (kk : pg_At S Λ Y d (pc + 1) ls (.int (Int32.ofNat n) :: st) M P) : pg_At S Λ Y d pc ls (.ref a :: st) M P := by
  intro p e s m args below meth c H locs R lj C9 hR hM hL hl
  have ht' : (pg_tys.map fun t => (S.2.2.2.1 t, t))[t0]? = some (S.2.2.2.1 ty, ty) := by simp [List.getElem?_map, ht]
  have k9 := kk p e s m args below meth c H locs R lj C9 hR hM hL hl
  rcases x with _ | _ | f
  · exact va_alen (a := pg_ad S a) C9.1 C9.2.1 C9.2.2.2.2.2.1.1 (pg_one hM hΛ) 0 t0 rfl ht' rfl hdg k9
  · exact va_alen (a := pg_ad S a) C9.1 C9.2.1 C9.2.2.2.2.2.1.1 (pg_one hM hΛ) 0 t0 rfl ht' rfl hdg k9
  · exact va_alen (a := pg_ad S a) C9.1 C9.2.1 C9.2.2.2.2.2.1.1 (pg_one hM hΛ) 0 t0 rfl ht' rfl hdg k9
/-! ends -/
theorem pg_iret {v : Int32} (hr : Y.2.2.2 = some .int) (hdg : decode Y.2.1 pc = .ok (.ireturn, 1)) (h : P (some (.int v)) M) : pg_At S Λ Y d pc ls [.int v] M P :=
  fun p e s m args below meth c H locs R lj C9 hR hM hL hl => W.iret C9.1 C9.2.1 (C9.2.2.2.2.2.2.1.trans hr) (fun t ht _ => ⟨some (.int v), M, rfl, h, by rw [ht]; exact hM⟩) hL hdg C9.2.2.2.2.2.2.2
theorem pg_zret {v : Int32} {ty : FieldType} (hr : Y.2.2.2 = some ty) (hn : narrow ty (.int v) = .int v) (hdg : decode Y.2.1 pc = .ok (.ireturn, 1)) (h : P (some (.int v)) M) : pg_At S Λ Y d pc ls [.int v] M P :=
  fun p e s m args below meth c H locs R lj C9 hR hM hL hl => W.zret C9.1 C9.2.1 (C9.2.2.2.2.2.2.1.trans hr) hn (fun t ht _ => ⟨some (.int v), M, rfl, h, by rw [ht]; exact hM⟩) hL hdg C9.2.2.2.2.2.2.2
theorem pg_lret {v : Int64} (hr : Y.2.2.2 = some .long) (hdg : decode Y.2.1 pc = .ok (.lreturn, 1)) (h : P (some (.long v)) M) : pg_At S Λ Y d pc ls [.long v] M P :=
  fun p e s m args below meth c H locs R lj C9 hR hM hL hl => W.lret C9.1 C9.2.1 (C9.2.2.2.2.2.2.1.trans hr) (fun t ht _ => ⟨some (.long v), M, rfl, h, by rw [ht]; exact hM⟩) hL hdg C9.2.2.2.2.2.2.2
theorem pg_vret (hr : Y.2.2.2 = none) (hdg : decode Y.2.1 pc = .ok (.return_, 1)) (h : P none M) : pg_At S Λ Y d pc ls [] M P :=
  fun p e s m args below meth c H locs R lj C9 hR hM hL hl => W.vret C9.1 C9.2.1 (C9.2.2.2.2.2.2.1.trans hr) (fun t ht _ => ⟨none, M, rfl, h, by rw [ht]; exact hM⟩) hL hdg C9.2.2.2.2.2.2.2
/-! calls -/
theorem pg_blind {As : List Value} {M0 : pg_M} : FrameBlind (pg_P S Λ As M0) := fun a U g mk h => ⟨h.1, h.2.1, pg_K.same (s := U) (U := U.calling g mk a) rfl h.2.2⟩
theorem pg_goon {As : Array Value} {P' : Option Value → pg_M → Prop} {st0 : List Value} {p : Program} {e : Env} {s : State} {m : MethodId} {args : Array Value} {below : List Frame} {meth : Method} {c : Code} {H : Heap} {locs : List Loc} {R : Room} {lj : Array Slot} (C9 : pg_C S Y p s m args meth c) (hR : d ≤ R.frames ∧ 64 * d ≤ R.locals) (hL : ∀ q ∈ locs, S.2.1 ≤ q.base) (hl : lv_has lj Y.2.2.1 (pg_ml S ls))
    (hr : va_Run p S.1 e R s m args below meth c H locs 0 0 0 0 (F0 m pc lj st0) (st.map (pg_up S)) (pg_Q S Λ P' As) (fun q => S.2.1 ≤ q)) (kk : ∀ r M', P' r M' → pg_At S Λ Y d (pc + 3) ls (r.toList ++ st) M' P) :
    W p S.1 e R s m args below meth c H locs 0 0 (MQ below (pg_Q S Λ P) args s 0 0 (fun q => S.2.1 ≤ q)) (F0 m pc lj st0) := by
  intro T hT X
  obtain ⟨v, st₀, t, T', L, h0, X', hL', e1, e2, ⟨r, M', hv, hp, hm⟩, go⟩ := hr T hT X
  have hv' : v = r.map (pg_up S) := Outcome.returned.inj hv
  subst hv'
  have h9 := kk r M' hp p e s m args below meth c T'.heap (locs ++ L) R lj C9 hR (by rw [e1]; exact hm) (fun q hq => (List.mem_append.mp hq).elim (hL q) (hL' q)) hl
  rw [List.map_append, show r.toList.map (pg_up S) = (r.map (pg_up S)).toList by cases r <;> rfl] at h9
  obtain ⟨t2, a1, b1⟩ := h9 T' rfl X'
  exact ⟨t2, go t2 a1, b1⟩
/-- what the tables say of a method that is called on an object of its class -/
def pg_okV (Y : pg_Y) : Prop := Cond.instanceMethod Y.1 ∈ pg_gd ∧ Cond.selects Y.1.cls Y.1 Y.1 ∈ pg_gd ∧ Cond.initialized Y.1.cls ∈ pg_gd ∧ Cond.code Y.1 Y.2.1 Y.2.2.1 Y.2.2.2 ∈ pg_gd ∧ Y.1.cls ≠ "java/lang/invoke/MethodHandle" ∧ Y.1.cls ≠ "java/lang/invoke/VarHandle" ∧ Y.2.2.1 ≤ 40
def pg_okS (Y : pg_Y) : Prop := Cond.static Y.1 ∈ pg_gd ∧ Cond.initialized Y.1.cls ∈ pg_gd ∧ Cond.code Y.1 Y.2.1 Y.2.2.1 Y.2.2.2 ∈ pg_gd ∧ Y.1.cls ≠ "java/lang/invoke/MethodHandle" ∧ Y.1.cls ≠ "java/lang/invoke/VarHandle" ∧ Y.2.2.1 ≤ 40
theorem pg_callV {Y' : pg_Y} {d' index : Nat} {As : List Value} {b ci N : Nat} {T : u_T} {fs : List pg_F} {P' : Option Value → pg_M → Prop} (ok : pg_okV Y') (hlink : Cond.methodLink Y.1.cls index Y'.1 ∈ pg_gd) (hn : (parseMethodDescriptor Y'.1.desc).map (fun d => d.parameters.length) = some As.length) (hΛ : Λ b = some (.inl (ci, fs))) (hc : pg_cls[ci]? = some (Y'.1.cls, T, N)) (hdd : d' + 1 ≤ d) (hst : (st.map fun v => v.category).sum ≤ 8)
    (hE : pg_Ev S Λ Y' d' (.ref b :: As) M P') (hdg : decode Y.2.1 pc = .ok (.invokevirtual index, 3)) (kk : ∀ r M', P' r M' → pg_At S Λ Y d (pc + 3) ls (r.toList ++ st) M' P) : pg_At S Λ Y d pc ls (As.reverse ++ .ref b :: st) M P := by
  intro p e s m args below meth c H locs R lj C9 hR hM hL hl
  obtain ⟨o1, o2, o3, o4, o5, o6, o7⟩ := ok
  have hM9 := hE ({ frames := d', cells := 0, slots := 0, locals := 64 * d' } : Room) (Nat.le_refl _) (Nat.le_refl _) rfl rfl
  refine pg_goon (As := (Value.ref (pg_ad S b) :: As.map (pg_up S)).toArray) C9 hR hL hl ?_ kk
  refine va_runV (As := As.map (pg_up S)) (b := pg_ad S b) (C := Y'.1.cls) (n := As.length) ⟨C9.1, C9.2.1, C9.2.2.1, C9.2.2.2.1, C9.2.2.2.2.1⟩ hM9 (cwV As.length C9.2.2.2.2.1 (fun w hw => ?_) rfl rfl rfl ⟨rfl, o5, o6, hn⟩ ⟨by show d' + 1 ≤ R.frames; omega, by show 8 + (Y'.2.2.1 + 11) + 64 * d' ≤ R.locals; omega⟩) ⟨pg_blind, va_recv C9.2.2.2.2.2.1.1 (pg_one hM hΛ) hc (q0 := 0) rfl, fun U hU hW => ⟨rfl, by rw [hU]; exact hM, pg_K.warm hW C9.2.2.2.2.2.1⟩⟩ rfl (by simp) hl.1 (by simp [pg_up]) (lv_room (by rw [List.map_map]; simpa [Function.comp_def, pg_up_cat] using hst)) hdg ⟨Nat.zero_le _, Nat.zero_le _⟩
  have hg := pg_good o4
  unfold wsV at hw
  rcases List.mem_append.mp hw with h | h
  · have : w ∈ pg_gd := by
      simp only [List.mem_cons, List.not_mem_nil, or_false] at h
      rcases h with rfl | rfl | rfl | rfl
      · exact hlink
      · exact o1
      · exact o2
      · exact o3
    exact hg w (List.mem_cons_of_mem _ this)
  · exact hg w h
theorem pg_callS {Y' : pg_Y} {d' index : Nat} {As : List Value} {P' : Option Value → pg_M → Prop} (ok : pg_okS Y') (hlink : Cond.methodLink Y.1.cls index Y'.1 ∈ pg_gd) (hn : (parseMethodDescriptor Y'.1.desc).map (fun d => d.parameters.length) = some As.length) (hdd : d' + 1 ≤ d) (hst : (st.map fun v => v.category).sum ≤ 8)
    (hE : pg_Ev S Λ Y' d' As M P') (hdg : decode Y.2.1 pc = .ok (.invokestatic index, 3)) (kk : ∀ r M', P' r M' → pg_At S Λ Y d (pc + 3) ls (r.toList ++ st) M' P) : pg_At S Λ Y d pc ls (As.reverse ++ st) M P := by
  intro p e s m args below meth c H locs R lj C9 hR hM hL hl
  obtain ⟨o1, o3, o4, o5, o6, o7⟩ := ok
  have hM9 := hE ({ frames := d', cells := 0, slots := 0, locals := 64 * d' } : Room) (Nat.le_refl _) (Nat.le_refl _) rfl rfl
  refine pg_goon (As := (As.map (pg_up S)).toArray) C9 hR hL hl ?_ kk
  refine va_runS (As := As.map (pg_up S)) (n := As.length) ⟨C9.1, C9.2.1, C9.2.2.1, C9.2.2.2.1, C9.2.2.2.2.1⟩ hM9 (va_cwS As.length C9.2.2.2.2.1 (fun w hw => ?_) rfl rfl rfl ⟨o5, o6, hn⟩ ⟨by show d' + 1 ≤ R.frames; omega, by show 8 + (Y'.2.2.1 + 11) + 64 * d' ≤ R.locals; omega⟩) ⟨pg_blind, fun U hU hW => ⟨rfl, by rw [hU]; exact hM, pg_K.warm hW C9.2.2.2.2.2.1⟩⟩ rfl (by simp) hl.1 (by simp) (lv_room (by rw [List.map_map]; simpa [Function.comp_def, pg_up_cat] using hst)) hdg ⟨Nat.zero_le _, Nat.zero_le _⟩
  have hg := pg_good o4
  unfold va_wsS at hw
  rcases List.mem_append.mp hw with h | h
  · have : w ∈ pg_gd := by
      simp only [List.mem_cons, List.not_mem_nil, or_false] at h
      rcases h with rfl | rfl | rfl
      · exact hlink
      · exact o1
      · exact o3
    exact hg w (List.mem_cons_of_mem _ this)
  · exact hg w h
end PGM
end
section
def pg_isX0 (Λ : pg_L) : Prop := Λ (161) = some (.inl (0, [.inr (162), .inr (163)])) ∧ Λ (162) = some (.inr (.long, 100, some none)) ∧ Λ (163) = some (.inr (.long, 100, some none))
def pg_isX1 (Λ : pg_L) (a : Nat) : Prop := Λ (a) = some (.inl (1, [.inr (a + 1), .inr (a + 2), .inr (a + 3), .inl 0, .inl 0, .inl 0])) ∧ Λ (a + 1) = some (.inr (.int, 30, none)) ∧ Λ (a + 2) = some (.inr (.int, 30, none)) ∧ Λ (a + 3) = some (.inr (.int, 30, none))
def pg_isX2 (Λ : pg_L) (a : Nat) : Prop := Λ (a) = some (.inl (2, [.inr (a + 1), .inr (a + 2), .inr (a + 3), .inr (a + 4), .inr (a + 5), .inl 0])) ∧ Λ (a + 1) = some (.inr (.int, 8, none)) ∧ Λ (a + 2) = some (.inr (.int, 8, none)) ∧ Λ (a + 3) = some (.inr (.int, 8, none)) ∧ Λ (a + 4) = some (.inr (.int, 12, none)) ∧ Λ (a + 5) = some (.inr (.int, 10, none))
def pg_isX3 (Λ : pg_L) : Prop := Λ (153) = some (.inl (3, [.inr (154), .inr (155), .inr (156), .inr (157), .inr (158), .inr (159), .inr (160), .inl 0, .inl 0, .inl 0])) ∧ Λ (154) = some (.inr (.int, 420, none)) ∧ Λ (155) = some (.inr (.int, 6, none)) ∧ Λ (156) = some (.inr (.int, 64, none)) ∧ Λ (157) = some (.inr (.int, 64, none)) ∧ Λ (158) = some (.inr (.boolean, 64, none)) ∧ Λ (159) = some (.inr (.long, 256, some none)) ∧ Λ (160) = some (.inr (.int, 6, none))
def pg_isX4 (Λ : pg_L) : Prop := Λ (164) = some (.inl (4, [.inr (165), .inr (166), .inr (167), .inr (168), .inl 0, .inl 0])) ∧ Λ (165) = some (.inr (.int, 6, none)) ∧ Λ (166) = some (.inr (.int, 36, none)) ∧ Λ (167) = some (.inr (.int, 64, none)) ∧ Λ (168) = some (.inr (.int, 6, none))
def pg_isX5 (Λ : pg_L) (a : Nat) : Prop := Λ (a) = some (.inl (5, [.inr (a + 1), .inr (a + 2), .inr (a + 3), .inr (a + 4), .inr (a + 5), .inr (a + 6), .inr (a + 7), .inr (a + 8), .inr (a + 9), .inr (a + 12), .inl 0, .inl 0, .inl 0, .inl 0, .inl 0, .inl 0])) ∧ Λ (a + 1) = some (.inr (.long, 6, some none)) ∧ Λ (a + 2) = some (.inr (.int, 6, none)) ∧ Λ (a + 3) = some (.inr (.int, 6, none)) ∧ Λ (a + 4) = some (.inr (.int, 6, none)) ∧ Λ (a + 5) = some (.inr (.int, 6, none)) ∧ Λ (a + 6) = some (.inr (.int, 6, none)) ∧ Λ (a + 7) = some (.inr (.int, 8, none)) ∧ Λ (a + 8) = some (.inr (.int, 12, none)) ∧ Λ (a + 9) = some (.inl (8, [.inr (a + 10), .inr (a + 11), .inl 0])) ∧ Λ (a + 10) = some (.inr (.int, 1000, none)) ∧ Λ (a + 11) = some (.inr (.int, 32, none)) ∧ Λ (a + 12) = some (.inl (8, [.inr (a + 13), .inr (a + 14), .inl 0])) ∧ Λ (a + 13) = some (.inr (.int, 1000, none)) ∧ Λ (a + 14) = some (.inr (.int, 32, none))
def pg_isX6 (Λ : pg_L) : Prop := Λ (19) = some (.inl (6, [.inr (20), .inr (21), .inr (22), .inr (23), .inl 0, .inl 0])) ∧ Λ (20) = some (.inr (.object "PegLaws$State", 17, some (some (fun j => 24 + 5 * j)))) ∧ Λ (21) = some (.inr (.object "PegLaws$State", 4, some (some (fun j => 109 + 11 * j)))) ∧ Λ (22) = some (.inr (.object "PegLaws$Felt", 4, some (some (fun j => 114 + 11 * j)))) ∧ Λ (23) = some (.inr (.boolean, 4, none))
def pg_isX7 (Λ : pg_L) : Prop := Λ (1) = some (.inl (7, [.inr (2), .inl 0, .inl 0, .inl 0, .inl 0, .inl 0, .inl 1, .inl 0, .inl 0, .inl 0])) ∧ Λ (2) = some (.inr (.char, 1000, none))
def pg_isX8 (Λ : pg_L) (a : Nat) : Prop := Λ (a) = some (.inl (8, [.inr (a + 1), .inr (a + 2), .inl 0])) ∧ Λ (a + 1) = some (.inr (.int, 1000, none)) ∧ Λ (a + 2) = some (.inr (.int, 32, none))
def pg_isX9 (Λ : pg_L) (a : Nat) : Prop := Λ (a) = some (.inl (9, [.inr (a + 1), .inr (a + 2), .inr (a + 3), .inr (a + 4), .inl 0, .inl 0])) ∧ Λ (a + 1) = some (.inr (.int, 6, none)) ∧ Λ (a + 2) = some (.inr (.int, 6, none)) ∧ Λ (a + 3) = some (.inr (.int, 6, none)) ∧ Λ (a + 4) = some (.inr (.int, 8, none))
def pg_isX10 (Λ : pg_L) : Prop := Λ (0) = some (.inl (10, [.inr (1), .inr (3), .inr (8), .inr (13), .inr (19), .inr (153), .inr (161), .inr (164), .inl 2, .inl 2, .inl 2, .inl 2, .inl 1]))
def pg_isX11 (Λ : pg_L) : Prop := Λ (207) = some (.inl (11, [.inl 0, .inr (208), .inl 0, .inl 0, .inr (209), .inr (210), .inr (211), .inl 0, .inl 0, .inr (212), .inr (213), .inr (214), .inr (215), .inl 0, .inr (216), .inr (217), .inl 0, .inl 0, .inl 0, .inr (218), .inr (219), .inr (220), .inr (221), .inl 0, .inr (222), .inr (223), .inr (224), .inr (225), .inl 0, .inl 0, .inr (226), .inr (227), .inr (228), .inr (229), .inl 0, .inl 0, .inr (230), .inl 1])) ∧ Λ (208) = some (.inr (.int, 1000, none)) ∧ Λ (209) = some (.inr (.int, 1002, none)) ∧ Λ (210) = some (.inr (.int, 1002, none)) ∧ Λ (211) = some (.inr (.long, 1002, some none)) ∧ Λ (212) = some (.inr (.long, 26, some none)) ∧ Λ (213) = some (.inr (.int, 200, none)) ∧ Λ (214) = some (.inr (.int, 2200, none)) ∧ Λ (215) = some (.inr (.int, 2200, none)) ∧ Λ (216) = some (.inr (.long, 6, some none)) ∧ Λ (217) = some (.inr (.long, 6, some none)) ∧ Λ (218) = some (.inr (.int, 200, none)) ∧ Λ (219) = some (.inr (.int, 3, none)) ∧ Λ (220) = some (.inr (.int, 1100, none)) ∧ Λ (221) = some (.inr (.int, 1242, none)) ∧ Λ (222) = some (.inr (.boolean, 4, none)) ∧ Λ (223) = some (.inr (.int, 6, none)) ∧ Λ (224) = some (.inr (.int, 6, none)) ∧ Λ (225) = some (.inr (.int, 6, none)) ∧ Λ (226) = some (.inr (.int, 72, none)) ∧ Λ (227) = some (.inr (.int, 36, none)) ∧ Λ (228) = some (.inr (.int, 6, none)) ∧ Λ (229) = some (.inr (.int, 6, none)) ∧ Λ (230) = some (.inr (.int, 10, none))
theorem pg_isX5.r8 {Λ : pg_L} {a : Nat} (h : pg_isX5 Λ a) : pg_isX8 Λ (a + 9) := ⟨h.2.2.2.2.2.2.2.2.2.1, h.2.2.2.2.2.2.2.2.2.2.1, h.2.2.2.2.2.2.2.2.2.2.2.1⟩
theorem pg_isX5.r9 {Λ : pg_L} {a : Nat} (h : pg_isX5 Λ a) : pg_isX8 Λ (a + 12) := ⟨h.2.2.2.2.2.2.2.2.2.2.2.2.1, h.2.2.2.2.2.2.2.2.2.2.2.2.2.1, h.2.2.2.2.2.2.2.2.2.2.2.2.2.2⟩
def pg_full (Λ : pg_L) : Prop := pg_isX10 Λ ∧ pg_isX7 Λ ∧ pg_isX9 Λ 3 ∧ pg_isX9 Λ 8 ∧ pg_isX2 Λ 13 ∧ pg_isX6 Λ ∧ pg_isX3 Λ ∧ pg_isX0 Λ ∧ pg_isX4 Λ ∧ pg_isX5 Λ 169 ∧ pg_isX5 Λ 184 ∧ pg_isX1 Λ 199 ∧ pg_isX1 Λ 203 ∧ (∀ j, j < 17 → pg_isX9 Λ (24 + 5 * j)) ∧ (∀ j, j < 4 → pg_isX9 Λ (109 + 11 * j)) ∧ (∀ j, j < 4 → pg_isX2 Λ (114 + 11 * j))
theorem pg_full.x10 {Λ : pg_L} (h : pg_full Λ) : pg_isX10 Λ := h.1
theorem pg_full.x7 {Λ : pg_L} (h : pg_full Λ) : pg_isX7 Λ := h.2.1
theorem pg_full.now {Λ : pg_L} (h : pg_full Λ) : pg_isX9 Λ 3 := h.2.2.1
theorem pg_full.trial {Λ : pg_L} (h : pg_full Λ) : pg_isX9 Λ 8 := h.2.2.2.1
theorem pg_full.felt {Λ : pg_L} (h : pg_full Λ) : pg_isX2 Λ 13 := h.2.2.2.2.1
theorem pg_full.x6 {Λ : pg_L} (h : pg_full Λ) : pg_isX6 Λ := h.2.2.2.2.2.1
theorem pg_full.x3 {Λ : pg_L} (h : pg_full Λ) : pg_isX3 Λ := h.2.2.2.2.2.2.1
theorem pg_full.x0 {Λ : pg_L} (h : pg_full Λ) : pg_isX0 Λ := h.2.2.2.2.2.2.2.1
theorem pg_full.x4 {Λ : pg_L} (h : pg_full Λ) : pg_isX4 Λ := h.2.2.2.2.2.2.2.2.1
theorem pg_full.l0 {Λ : pg_L} (h : pg_full Λ) : pg_isX5 Λ 169 := h.2.2.2.2.2.2.2.2.2.1
theorem pg_full.l1 {Λ : pg_L} (h : pg_full Λ) : pg_isX5 Λ 184 := h.2.2.2.2.2.2.2.2.2.2.1
theorem pg_full.d0 {Λ : pg_L} (h : pg_full Λ) : pg_isX1 Λ 199 := h.2.2.2.2.2.2.2.2.2.2.2.1
theorem pg_full.d1 {Λ : pg_L} (h : pg_full Λ) : pg_isX1 Λ 203 := h.2.2.2.2.2.2.2.2.2.2.2.2.1
theorem pg_full.steps {Λ : pg_L} (h : pg_full Λ) : (∀ j, j < 17 → pg_isX9 Λ (24 + 5 * j)) := h.2.2.2.2.2.2.2.2.2.2.2.2.2.1
theorem pg_full.marks {Λ : pg_L} (h : pg_full Λ) : (∀ j, j < 4 → pg_isX9 Λ (109 + 11 * j)) := h.2.2.2.2.2.2.2.2.2.2.2.2.2.2.1
theorem pg_full.mfelts {Λ : pg_L} (h : pg_full Λ) : (∀ j, j < 4 → pg_isX2 Λ (114 + 11 * j)) := h.2.2.2.2.2.2.2.2.2.2.2.2.2.2.2
section PGF
variable {S : pg_S} {Λ : pg_L} {Y : pg_Y} {d pc : Nat} {ls ls' : List (Nat × Value)} {st : List Value} {M : pg_M} {P : Option Value → pg_M → Prop} {a : Nat}
theorem gfX0_11 (hY : Y.1.cls = RX0) (h : pg_isX0 Λ) (hdg : decode Y.2.1 pc = .ok (.getfield 11, 3)) (kk : pg_At S Λ Y d (pc + 3) ls (.ref (162) :: st) M P) : pg_At S Λ Y d pc ls (.ref (161) :: st) M P :=
  pg_get (T := TX0) (N := 2) (k := 0) h.1 rfl rfl pg_inX0 (by decide) (by rw [hY]; exact pg_g (pg_t1 220 rfl) rfl) hdg kk
theorem gfX0_15 (hY : Y.1.cls = RX0) (h : pg_isX0 Λ) (hdg : decode Y.2.1 pc = .ok (.getfield 15, 3)) (kk : pg_At S Λ Y d (pc + 3) ls (.ref (163) :: st) M P) : pg_At S Λ Y d pc ls (.ref (161) :: st) M P :=
  pg_get (T := TX0) (N := 2) (k := 1) h.1 rfl rfl pg_inX0 (by decide) (by rw [hY]; exact pg_g (pg_t1 221 rfl) rfl) hdg kk
theorem gfX0_24 (hY : Y.1.cls = RX0) (h : pg_isX9 Λ a) (hdg : decode Y.2.1 pc = .ok (.getfield 24, 3)) (kk : pg_At S Λ Y d (pc + 3) ls (.ref (a + 1) :: st) M P) : pg_At S Λ Y d pc ls (.ref (a) :: st) M P :=
  pg_getN (host := "PegLaws") (T := TX9) (N := 6) (k := 0) h.1 rfl rfl pg_inX9 (by decide) (by rw [hY]; exact pg_t1 80 rfl) hdg kk
theorem gfX0_30 (hY : Y.1.cls = RX0) (h : pg_isX9 Λ a) (hdg : decode Y.2.1 pc = .ok (.getfield 30, 3)) (kk : pg_At S Λ Y d (pc + 3) ls (.int (M.1 (a) 5) :: st) M P) : pg_At S Λ Y d pc ls (.ref (a) :: st) M P :=
  pg_getN (host := "PegLaws") (T := TX9) (N := 6) (k := 5) h.1 rfl rfl pg_inX9 (by decide) (by rw [hY]; exact pg_t1 96 rfl) hdg kk
theorem gfX0_40 (hY : Y.1.cls = RX0) (h : pg_isX5 Λ a) (hdg : decode Y.2.1 pc = .ok (.getfield 40, 3)) (kk : pg_At S Λ Y d (pc + 3) ls (.int (M.1 (a) 14) :: st) M P) : pg_At S Λ Y d pc ls (.ref (a) :: st) M P :=
  pg_getN (host := "PegLaws") (T := TX5) (N := 16) (k := 14) h.1 rfl rfl pg_inX5 (by decide) (by rw [hY]; exact pg_t2 94 rfl) hdg kk
theorem gfX0_61 (hY : Y.1.cls = RX0) (h : pg_isX9 Λ a) (hdg : decode Y.2.1 pc = .ok (.getfield 61, 3)) (kk : pg_At S Λ Y d (pc + 3) ls (.ref (a + 3) :: st) M P) : pg_At S Λ Y d pc ls (.ref (a) :: st) M P :=
  pg_getN (host := "PegLaws") (T := TX9) (N := 6) (k := 2) h.1 rfl rfl pg_inX9 (by decide) (by rw [hY]; exact pg_t1 89 rfl) hdg kk
theorem gfX1_15 (hY : Y.1.cls = RX1) (h : pg_isX1 Λ a) (hdg : decode Y.2.1 pc = .ok (.getfield 15, 3)) (kk : pg_At S Λ Y d (pc + 3) ls (.ref (a + 2) :: st) M P) : pg_At S Λ Y d pc ls (.ref (a) :: st) M P :=
  pg_get (T := TX1) (N := 6) (k := 1) h.1 rfl rfl pg_inX1 (by decide) (by rw [hY]; exact pg_g (pg_t2 139 rfl) rfl) hdg kk
theorem gfX1_18 (hY : Y.1.cls = RX1) (h : pg_isX1 Λ a) (hdg : decode Y.2.1 pc = .ok (.getfield 18, 3)) (kk : pg_At S Λ Y d (pc + 3) ls (.ref (a + 3) :: st) M P) : pg_At S Λ Y d pc ls (.ref (a) :: st) M P :=
  pg_get (T := TX1) (N := 6) (k := 2) h.1 rfl rfl pg_inX1 (by decide) (by rw [hY]; exact pg_g (pg_t2 140 rfl) rfl) hdg kk
theorem gfX1_21 (hY : Y.1.cls = RX1) (h : pg_isX1 Λ a) (hdg : decode Y.2.1 pc = .ok (.getfield 21, 3)) (kk : pg_At S Λ Y d (pc + 3) ls (.int (M.1 (a) 3) :: st) M P) : pg_At S Λ Y d pc ls (.ref (a) :: st) M P :=
  pg_get (T := TX1) (N := 6) (k := 3) h.1 rfl rfl pg_inX1 (by decide) (by rw [hY]; exact pg_g (pg_t2 141 rfl) rfl) hdg kk
theorem pfX1_21 {v : Int32} (hY : Y.1.cls = RX1) (h : pg_isX1 Λ a) (hdg : decode Y.2.1 pc = .ok (.putfield 21, 3)) (kk : pg_At S Λ Y d (pc + 3) ls st (pg_si M (a) 3 v) P) : pg_At S Λ Y d pc ls (.int v :: .ref (a) :: st) M P :=
  pg_putG (T := TX1) (N := 6) (k := 3) tyX1 (ty := .int) h.1 rfl pg_inX1 tyX1_ok nmX1 (by decide) (Nat.le_of_ble_eq_true rfl) (by rw [hY]; exact pg_g (pg_t2 141 rfl) rfl) rfl (by decide +kernel) rfl rfl (pg_hvi rfl) (pg_si_off S M _ _ _) hdg kk
theorem gfX1_25 (hY : Y.1.cls = RX1) (h : pg_isX1 Λ a) (hdg : decode Y.2.1 pc = .ok (.getfield 25, 3)) (kk : pg_At S Λ Y d (pc + 3) ls (.int (M.1 (a) 4) :: st) M P) : pg_At S Λ Y d pc ls (.ref (a) :: st) M P :=
  pg_get (T := TX1) (N := 6) (k := 4) h.1 rfl rfl pg_inX1 (by decide) (by rw [hY]; exact pg_g (pg_t2 144 rfl) rfl) hdg kk
theorem pfX1_25 {v : Int32} (hY : Y.1.cls = RX1) (h : pg_isX1 Λ a) (hdg : decode Y.2.1 pc = .ok (.putfield 25, 3)) (kk : pg_At S Λ Y d (pc + 3) ls st (pg_si M (a) 4 v) P) : pg_At S Λ Y d pc ls (.int v :: .ref (a) :: st) M P :=
  pg_putG (T := TX1) (N := 6) (k := 4) tyX1 (ty := .int) h.1 rfl pg_inX1 tyX1_ok nmX1 (by decide) (Nat.le_of_ble_eq_true rfl) (by rw [hY]; exact pg_g (pg_t2 144 rfl) rfl) rfl (by decide +kernel) rfl rfl (pg_hvi rfl) (pg_si_off S M _ _ _) hdg kk
theorem gfX1_28 (hY : Y.1.cls = RX1) (h : pg_isX1 Λ a) (hdg : decode Y.2.1 pc = .ok (.getfield 28, 3)) (kk : pg_At S Λ Y d (pc + 3) ls (.int (M.1 (a) 5) :: st) M P) : pg_At S Λ Y d pc ls (.ref (a) :: st) M P :=
  pg_get (T := TX1) (N := 6) (k := 5) h.1 rfl rfl pg_inX1 (by decide) (by rw [hY]; exact pg_g (pg_t2 146 rfl) rfl) hdg kk
theorem pfX1_28 {v : Int32} (hY : Y.1.cls = RX1) (h : pg_isX1 Λ a) (hdg : decode Y.2.1 pc = .ok (.putfield 28, 3)) (kk : pg_At S Λ Y d (pc + 3) ls st (pg_si M (a) 5 v) P) : pg_At S Λ Y d pc ls (.int v :: .ref (a) :: st) M P :=
  pg_putG (T := TX1) (N := 6) (k := 5) tyX1 (ty := .int) h.1 rfl pg_inX1 tyX1_ok nmX1 (by decide) (Nat.le_of_ble_eq_true rfl) (by rw [hY]; exact pg_g (pg_t2 146 rfl) rfl) rfl (by decide +kernel) rfl rfl (pg_hvi rfl) (pg_si_off S M _ _ _) hdg kk
theorem gfX1_9 (hY : Y.1.cls = RX1) (h : pg_isX1 Λ a) (hdg : decode Y.2.1 pc = .ok (.getfield 9, 3)) (kk : pg_At S Λ Y d (pc + 3) ls (.ref (a + 1) :: st) M P) : pg_At S Λ Y d pc ls (.ref (a) :: st) M P :=
  pg_get (T := TX1) (N := 6) (k := 0) h.1 rfl rfl pg_inX1 (by decide) (by rw [hY]; exact pg_g (pg_t2 138 rfl) rfl) hdg kk
theorem gfX10_10 (hY : Y.1.cls = RX10) (h : pg_isX10 Λ) (hdg : decode Y.2.1 pc = .ok (.getfield 10, 3)) (kk : pg_At S Λ Y d (pc + 3) ls (.ref (1) :: st) M P) : pg_At S Λ Y d pc ls (.ref (0) :: st) M P :=
  pg_get (T := TX10) (N := 13) (k := 0) h rfl rfl pg_inX10 (by decide) (by rw [hY]; exact pg_g (pg_t2 161 rfl) rfl) hdg kk
theorem gfX10_114 (hY : Y.1.cls = RX10) (h : pg_isX5 Λ a) (hdg : decode Y.2.1 pc = .ok (.getfield 114, 3)) (kk : pg_At S Λ Y d (pc + 3) ls (.ref (a + 2) :: st) M P) : pg_At S Λ Y d pc ls (.ref (a) :: st) M P :=
  pg_getN (host := "PegLaws") (T := TX5) (N := 16) (k := 1) h.1 rfl rfl pg_inX5 (by decide) (by rw [hY]; exact pg_t2 55 rfl) hdg kk
theorem gfX10_118 (hY : Y.1.cls = RX10) (h : pg_isX9 Λ a) (hdg : decode Y.2.1 pc = .ok (.getfield 118, 3)) (kk : pg_At S Λ Y d (pc + 3) ls (.ref (a + 1) :: st) M P) : pg_At S Λ Y d pc ls (.ref (a) :: st) M P :=
  pg_getN (host := "PegLaws") (T := TX9) (N := 6) (k := 0) h.1 rfl rfl pg_inX9 (by decide) (by rw [hY]; exact pg_t1 82 rfl) hdg kk
theorem gfX10_121 (hY : Y.1.cls = RX10) (h : pg_isX9 Λ a) (hdg : decode Y.2.1 pc = .ok (.getfield 121, 3)) (kk : pg_At S Λ Y d (pc + 3) ls (.ref (a + 2) :: st) M P) : pg_At S Λ Y d pc ls (.ref (a) :: st) M P :=
  pg_getN (host := "PegLaws") (T := TX9) (N := 6) (k := 1) h.1 rfl rfl pg_inX9 (by decide) (by rw [hY]; exact pg_t1 86 rfl) hdg kk
theorem gfX10_124 (hY : Y.1.cls = RX10) (h : pg_isX9 Λ a) (hdg : decode Y.2.1 pc = .ok (.getfield 124, 3)) (kk : pg_At S Λ Y d (pc + 3) ls (.ref (a + 3) :: st) M P) : pg_At S Λ Y d pc ls (.ref (a) :: st) M P :=
  pg_getN (host := "PegLaws") (T := TX9) (N := 6) (k := 2) h.1 rfl rfl pg_inX9 (by decide) (by rw [hY]; exact pg_t1 90 rfl) hdg kk
theorem gfX10_138 (hY : Y.1.cls = RX10) (h : pg_isX9 Λ a) (hdg : decode Y.2.1 pc = .ok (.getfield 138, 3)) (kk : pg_At S Λ Y d (pc + 3) ls (.int (M.1 (a) 5) :: st) M P) : pg_At S Λ Y d pc ls (.ref (a) :: st) M P :=
  pg_getN (host := "PegLaws") (T := TX9) (N := 6) (k := 5) h.1 rfl rfl pg_inX9 (by decide) (by rw [hY]; exact pg_t1 100 rfl) hdg kk
theorem gfX10_149 (hY : Y.1.cls = RX10) (h : pg_isX9 Λ a) (hdg : decode Y.2.1 pc = .ok (.getfield 149, 3)) (kk : pg_At S Λ Y d (pc + 3) ls (.int (M.1 (a) 4) :: st) M P) : pg_At S Λ Y d pc ls (.ref (a) :: st) M P :=
  pg_getN (host := "PegLaws") (T := TX9) (N := 6) (k := 4) h.1 rfl rfl pg_inX9 (by decide) (by rw [hY]; exact pg_t1 95 rfl) hdg kk
theorem gfX10_152 (hY : Y.1.cls = RX10) (h : pg_isX9 Λ a) (hdg : decode Y.2.1 pc = .ok (.getfield 152, 3)) (kk : pg_At S Λ Y d (pc + 3) ls (.ref (a + 4) :: st) M P) : pg_At S Λ Y d pc ls (.ref (a) :: st) M P :=
  pg_getN (host := "PegLaws") (T := TX9) (N := 6) (k := 3) h.1 rfl rfl pg_inX9 (by decide) (by rw [hY]; exact pg_t1 92 rfl) hdg kk
theorem gfX10_19 (hY : Y.1.cls = RX10) (h : pg_isX10 Λ) (hdg : decode Y.2.1 pc = .ok (.getfield 19, 3)) (kk : pg_At S Λ Y d (pc + 3) ls (.ref (3) :: st) M P) : pg_At S Λ Y d pc ls (.ref (0) :: st) M P :=
  pg_get (T := TX10) (N := 13) (k := 1) h rfl rfl pg_inX10 (by decide) (by rw [hY]; exact pg_g (pg_t2 162 rfl) rfl) hdg kk
theorem gfX10_199 (hY : Y.1.cls = RX10) (h : pg_isX1 Λ a) (hdg : decode Y.2.1 pc = .ok (.getfield 199, 3)) (kk : pg_At S Λ Y d (pc + 3) ls (.int (M.1 (a) 4) :: st) M P) : pg_At S Λ Y d pc ls (.ref (a) :: st) M P :=
  pg_getN (host := "PegLaws") (T := TX1) (N := 6) (k := 4) h.1 rfl rfl pg_inX1 (by decide) (by rw [hY]; exact pg_t2 145 rfl) hdg kk
theorem gfX10_202 (hY : Y.1.cls = RX10) (h : pg_isX1 Λ a) (hdg : decode Y.2.1 pc = .ok (.getfield 202, 3)) (kk : pg_At S Λ Y d (pc + 3) ls (.int (M.1 (a) 5) :: st) M P) : pg_At S Λ Y d pc ls (.ref (a) :: st) M P :=
  pg_getN (host := "PegLaws") (T := TX1) (N := 6) (k := 5) h.1 rfl rfl pg_inX1 (by decide) (by rw [hY]; exact pg_t2 147 rfl) hdg kk
theorem gfX10_223 (hY : Y.1.cls = RX10) (h : pg_isX3 Λ) (hdg : decode Y.2.1 pc = .ok (.getfield 223, 3)) (kk : pg_At S Λ Y d (pc + 3) ls (.int (M.1 (153) 9) :: st) M P) : pg_At S Λ Y d pc ls (.ref (153) :: st) M P :=
  pg_getN (host := "PegLaws") (T := TX3) (N := 10) (k := 9) h.1 rfl rfl pg_inX3 (by decide) (by rw [hY]; exact pg_t1 191 rfl) hdg kk
theorem gfX10_226 (hY : Y.1.cls = RX10) (h : pg_isX3 Λ) (hdg : decode Y.2.1 pc = .ok (.getfield 226, 3)) (kk : pg_At S Λ Y d (pc + 3) ls (.ref (160) :: st) M P) : pg_At S Λ Y d pc ls (.ref (153) :: st) M P :=
  pg_getN (host := "PegLaws") (T := TX3) (N := 10) (k := 6) h.1 rfl rfl pg_inX3 (by decide) (by rw [hY]; exact pg_t1 187 rfl) hdg kk
theorem gfX10_23 (hY : Y.1.cls = RX10) (h : pg_isX10 Λ) (hdg : decode Y.2.1 pc = .ok (.getfield 23, 3)) (kk : pg_At S Λ Y d (pc + 3) ls (.ref (8) :: st) M P) : pg_At S Λ Y d pc ls (.ref (0) :: st) M P :=
  pg_get (T := TX10) (N := 13) (k := 2) h rfl rfl pg_inX10 (by decide) (by rw [hY]; exact pg_g (pg_t2 163 rfl) rfl) hdg kk
theorem gfX10_235 (hY : Y.1.cls = RX10) (h : pg_isX4 Λ) (hdg : decode Y.2.1 pc = .ok (.getfield 235, 3)) (kk : pg_At S Λ Y d (pc + 3) ls (.int (M.1 (164) 5) :: st) M P) : pg_At S Λ Y d pc ls (.ref (164) :: st) M P :=
  pg_getN (host := "PegLaws") (T := TX4) (N := 6) (k := 5) h.1 rfl rfl pg_inX4 (by decide) (by rw [hY]; exact pg_t2 1 rfl) hdg kk
theorem gfX10_238 (hY : Y.1.cls = RX10) (h : pg_isX4 Λ) (hdg : decode Y.2.1 pc = .ok (.getfield 238, 3)) (kk : pg_At S Λ Y d (pc + 3) ls (.int (M.1 (164) 4) :: st) M P) : pg_At S Λ Y d pc ls (.ref (164) :: st) M P :=
  pg_getN (host := "PegLaws") (T := TX4) (N := 6) (k := 4) h.1 rfl rfl pg_inX4 (by decide) (by rw [hY]; exact pg_t1 239 rfl) hdg kk
theorem gfX10_241 (hY : Y.1.cls = RX10) (h : pg_isX4 Λ) (hdg : decode Y.2.1 pc = .ok (.getfield 241, 3)) (kk : pg_At S Λ Y d (pc + 3) ls (.ref (168) :: st) M P) : pg_At S Λ Y d pc ls (.ref (164) :: st) M P :=
  pg_getN (host := "PegLaws") (T := TX4) (N := 6) (k := 3) h.1 rfl rfl pg_inX4 (by decide) (by rw [hY]; exact pg_t1 237 rfl) hdg kk
theorem gfX10_280 (hY : Y.1.cls = RX10) (h : pg_isX5 Λ a) (hdg : decode Y.2.1 pc = .ok (.getfield 280, 3)) (kk : pg_At S Λ Y d (pc + 3) ls (.int (M.1 (a) 14) :: st) M P) : pg_At S Λ Y d pc ls (.ref (a) :: st) M P :=
  pg_getN (host := "PegLaws") (T := TX5) (N := 16) (k := 14) h.1 rfl rfl pg_inX5 (by decide) (by rw [hY]; exact pg_t2 96 rfl) hdg kk
theorem gfX10_29 (hY : Y.1.cls = RX10) (h : pg_isX10 Λ) (hdg : decode Y.2.1 pc = .ok (.getfield 29, 3)) (kk : pg_At S Λ Y d (pc + 3) ls (.ref (13) :: st) M P) : pg_At S Λ Y d pc ls (.ref (0) :: st) M P :=
  pg_get (T := TX10) (N := 13) (k := 3) h rfl rfl pg_inX10 (by decide) (by rw [hY]; exact pg_g (pg_t2 164 rfl) rfl) hdg kk
theorem gfX10_299 (hY : Y.1.cls = RX10) (h : pg_isX5 Λ a) (hdg : decode Y.2.1 pc = .ok (.getfield 299, 3)) (kk : pg_At S Λ Y d (pc + 3) ls (.int (M.1 (a) 10) :: st) M P) : pg_At S Λ Y d pc ls (.ref (a) :: st) M P :=
  pg_getN (host := "PegLaws") (T := TX5) (N := 16) (k := 10) h.1 rfl rfl pg_inX5 (by decide) (by rw [hY]; exact pg_t2 81 rfl) hdg kk
theorem gfX10_302 (hY : Y.1.cls = RX10) (h : pg_isX5 Λ a) (hdg : decode Y.2.1 pc = .ok (.getfield 302, 3)) (kk : pg_At S Λ Y d (pc + 3) ls (.int (M.1 (a) 13) :: st) M P) : pg_At S Λ Y d pc ls (.ref (a) :: st) M P :=
  pg_getN (host := "PegLaws") (T := TX5) (N := 16) (k := 13) h.1 rfl rfl pg_inX5 (by decide) (by rw [hY]; exact pg_t2 92 rfl) hdg kk
theorem gfX10_308 (hY : Y.1.cls = RX10) (h : pg_isX5 Λ a) (hdg : decode Y.2.1 pc = .ok (.getfield 308, 3)) (kk : pg_At S Λ Y d (pc + 3) ls (.int (M.1 (a) 15) :: st) M P) : pg_At S Λ Y d pc ls (.ref (a) :: st) M P :=
  pg_getN (host := "PegLaws") (T := TX5) (N := 16) (k := 15) h.1 rfl rfl pg_inX5 (by decide) (by rw [hY]; exact pg_t2 98 rfl) hdg kk
theorem gfX10_311 (hY : Y.1.cls = RX10) (h : pg_isX1 Λ a) (hdg : decode Y.2.1 pc = .ok (.getfield 311, 3)) (kk : pg_At S Λ Y d (pc + 3) ls (.int (M.1 (a) 3) :: st) M P) : pg_At S Λ Y d pc ls (.ref (a) :: st) M P :=
  pg_getN (host := "PegLaws") (T := TX1) (N := 6) (k := 3) h.1 rfl rfl pg_inX1 (by decide) (by rw [hY]; exact pg_t2 143 rfl) hdg kk
theorem gfX10_314 (hY : Y.1.cls = RX10) (h : pg_isX2 Λ a) (hdg : decode Y.2.1 pc = .ok (.getfield 314, 3)) (kk : pg_At S Λ Y d (pc + 3) ls (.int (M.1 (a) 5) :: st) M P) : pg_At S Λ Y d pc ls (.ref (a) :: st) M P :=
  pg_getN (host := "PegLaws") (T := TX2) (N := 6) (k := 5) h.1 rfl rfl pg_inX2 (by decide) (by rw [hY]; exact pg_t1 127 rfl) hdg kk
theorem gfX10_315 (hY : Y.1.cls = RX10) (h : pg_isX6 Λ) (hdg : decode Y.2.1 pc = .ok (.getfield 315, 3)) (kk : pg_At S Λ Y d (pc + 3) ls (.int (M.1 (19) 5) :: st) M P) : pg_At S Λ Y d pc ls (.ref (19) :: st) M P :=
  pg_getN (host := "PegLaws") (T := TX6) (N := 6) (k := 5) h.1 rfl rfl pg_inX6 (by decide) (by rw [hY]; exact pg_t1 159 rfl) hdg kk
theorem gfX10_36 (hY : Y.1.cls = RX10) (h : pg_isX10 Λ) (hdg : decode Y.2.1 pc = .ok (.getfield 36, 3)) (kk : pg_At S Λ Y d (pc + 3) ls (.ref (19) :: st) M P) : pg_At S Λ Y d pc ls (.ref (0) :: st) M P :=
  pg_get (T := TX10) (N := 13) (k := 4) h rfl rfl pg_inX10 (by decide) (by rw [hY]; exact pg_g (pg_t2 165 rfl) rfl) hdg kk
theorem gfX10_43 (hY : Y.1.cls = RX10) (h : pg_isX10 Λ) (hdg : decode Y.2.1 pc = .ok (.getfield 43, 3)) (kk : pg_At S Λ Y d (pc + 3) ls (.ref (153) :: st) M P) : pg_At S Λ Y d pc ls (.ref (0) :: st) M P :=
  pg_get (T := TX10) (N := 13) (k := 5) h rfl rfl pg_inX10 (by decide) (by rw [hY]; exact pg_g (pg_t2 166 rfl) rfl) hdg kk
theorem gfX10_50 (hY : Y.1.cls = RX10) (h : pg_isX10 Λ) (hdg : decode Y.2.1 pc = .ok (.getfield 50, 3)) (kk : pg_At S Λ Y d (pc + 3) ls (.ref (161) :: st) M P) : pg_At S Λ Y d pc ls (.ref (0) :: st) M P :=
  pg_get (T := TX10) (N := 13) (k := 6) h rfl rfl pg_inX10 (by decide) (by rw [hY]; exact pg_g (pg_t2 167 rfl) rfl) hdg kk
theorem gfX10_57 (hY : Y.1.cls = RX10) (h : pg_isX10 Λ) (hdg : decode Y.2.1 pc = .ok (.getfield 57, 3)) (kk : pg_At S Λ Y d (pc + 3) ls (.ref (164) :: st) M P) : pg_At S Λ Y d pc ls (.ref (0) :: st) M P :=
  pg_get (T := TX10) (N := 13) (k := 7) h rfl rfl pg_inX10 (by decide) (by rw [hY]; exact pg_g (pg_t2 168 rfl) rfl) hdg kk
theorem gfX10_64 (hY : Y.1.cls = RX10) (h : pg_isX10 Λ) (hdg : decode Y.2.1 pc = .ok (.getfield 64, 3)) (kk : pg_At S Λ Y d (pc + 3) ls (.ref (M.2.2 (0) 8) :: st) M P) : pg_At S Λ Y d pc ls (.ref (0) :: st) M P :=
  pg_get (T := TX10) (N := 13) (k := 8) h rfl rfl pg_inX10 (by decide) (by rw [hY]; exact pg_g (pg_t2 169 rfl) rfl) hdg kk
theorem pfX10_64 {v : Nat} (hY : Y.1.cls = RX10) (h : pg_isX10 Λ) (hdg : decode Y.2.1 pc = .ok (.putfield 64, 3)) (kk : pg_At S Λ Y d (pc + 3) ls st (pg_sr M (0) 8 v) P) : pg_At S Λ Y d pc ls (.ref v :: .ref (0) :: st) M P :=
  pg_putG (T := TX10) (N := 13) (k := 8) tyX10 (ty := .object "PegLaws$Line") h rfl pg_inX10 tyX10_ok nmX10 (by decide) (Nat.le_of_ble_eq_true rfl) (by rw [hY]; exact pg_g (pg_t2 169 rfl) rfl) rfl (by decide +kernel) rfl rfl (pg_hvr rfl) (pg_sr_off S M _ _ _) hdg kk
theorem gfX10_68 (hY : Y.1.cls = RX10) (h : pg_isX10 Λ) (hdg : decode Y.2.1 pc = .ok (.getfield 68, 3)) (kk : pg_At S Λ Y d (pc + 3) ls (.ref (M.2.2 (0) 9) :: st) M P) : pg_At S Λ Y d pc ls (.ref (0) :: st) M P :=
  pg_get (T := TX10) (N := 13) (k := 9) h rfl rfl pg_inX10 (by decide) (by rw [hY]; exact pg_g (pg_t2 170 rfl) rfl) hdg kk
theorem pfX10_68 {v : Nat} (hY : Y.1.cls = RX10) (h : pg_isX10 Λ) (hdg : decode Y.2.1 pc = .ok (.putfield 68, 3)) (kk : pg_At S Λ Y d (pc + 3) ls st (pg_sr M (0) 9 v) P) : pg_At S Λ Y d pc ls (.ref v :: .ref (0) :: st) M P :=
  pg_putG (T := TX10) (N := 13) (k := 9) tyX10 (ty := .object "PegLaws$Line") h rfl pg_inX10 tyX10_ok nmX10 (by decide) (Nat.le_of_ble_eq_true rfl) (by rw [hY]; exact pg_g (pg_t2 170 rfl) rfl) rfl (by decide +kernel) rfl rfl (pg_hvr rfl) (pg_sr_off S M _ _ _) hdg kk
theorem gfX10_74 (hY : Y.1.cls = RX10) (h : pg_isX10 Λ) (hdg : decode Y.2.1 pc = .ok (.getfield 74, 3)) (kk : pg_At S Λ Y d (pc + 3) ls (.ref (M.2.2 (0) 10) :: st) M P) : pg_At S Λ Y d pc ls (.ref (0) :: st) M P :=
  pg_get (T := TX10) (N := 13) (k := 10) h rfl rfl pg_inX10 (by decide) (by rw [hY]; exact pg_g (pg_t2 171 rfl) rfl) hdg kk
theorem pfX10_74 {v : Nat} (hY : Y.1.cls = RX10) (h : pg_isX10 Λ) (hdg : decode Y.2.1 pc = .ok (.putfield 74, 3)) (kk : pg_At S Λ Y d (pc + 3) ls st (pg_sr M (0) 10 v) P) : pg_At S Λ Y d pc ls (.ref v :: .ref (0) :: st) M P :=
  pg_putG (T := TX10) (N := 13) (k := 10) tyX10 (ty := .object "PegLaws$Day") h rfl pg_inX10 tyX10_ok nmX10 (by decide) (Nat.le_of_ble_eq_true rfl) (by rw [hY]; exact pg_g (pg_t2 171 rfl) rfl) rfl (by decide +kernel) rfl rfl (pg_hvr rfl) (pg_sr_off S M _ _ _) hdg kk
theorem gfX10_78 (hY : Y.1.cls = RX10) (h : pg_isX10 Λ) (hdg : decode Y.2.1 pc = .ok (.getfield 78, 3)) (kk : pg_At S Λ Y d (pc + 3) ls (.ref (M.2.2 (0) 11) :: st) M P) : pg_At S Λ Y d pc ls (.ref (0) :: st) M P :=
  pg_get (T := TX10) (N := 13) (k := 11) h rfl rfl pg_inX10 (by decide) (by rw [hY]; exact pg_g (pg_t2 172 rfl) rfl) hdg kk
theorem pfX10_78 {v : Nat} (hY : Y.1.cls = RX10) (h : pg_isX10 Λ) (hdg : decode Y.2.1 pc = .ok (.putfield 78, 3)) (kk : pg_At S Λ Y d (pc + 3) ls st (pg_sr M (0) 11 v) P) : pg_At S Λ Y d pc ls (.ref v :: .ref (0) :: st) M P :=
  pg_putG (T := TX10) (N := 13) (k := 11) tyX10 (ty := .object "PegLaws$Day") h rfl pg_inX10 tyX10_ok nmX10 (by decide) (Nat.le_of_ble_eq_true rfl) (by rw [hY]; exact pg_g (pg_t2 172 rfl) rfl) rfl (by decide +kernel) rfl rfl (pg_hvr rfl) (pg_sr_off S M _ _ _) hdg kk
theorem gfX10_81 (hY : Y.1.cls = RX10) (h : pg_isX10 Λ) (hdg : decode Y.2.1 pc = .ok (.getfield 81, 3)) (kk : pg_At S Λ Y d (pc + 3) ls (.long (M.2.1 (0) 12) :: st) M P) : pg_At S Λ Y d pc ls (.ref (0) :: st) M P :=
  pg_get (T := TX10) (N := 13) (k := 12) h rfl rfl pg_inX10 (by decide) (by rw [hY]; exact pg_g (pg_t2 173 rfl) rfl) hdg kk
theorem pfX10_81 {v : Int64} (hY : Y.1.cls = RX10) (h : pg_isX10 Λ) (hdg : decode Y.2.1 pc = .ok (.putfield 81, 3)) (kk : pg_At S Λ Y d (pc + 3) ls st (pg_sj M (0) 12 v) P) : pg_At S Λ Y d pc ls (.long v :: .ref (0) :: st) M P :=
  pg_putG (T := TX10) (N := 13) (k := 12) tyX10 (ty := .long) h rfl pg_inX10 tyX10_ok nmX10 (by decide) (Nat.le_of_ble_eq_true rfl) (by rw [hY]; exact pg_g (pg_t2 173 rfl) rfl) rfl (by decide +kernel) rfl rfl (pg_hvj rfl) (pg_sj_off S M _ _ _) hdg kk
theorem gfX10_89 (hY : Y.1.cls = RX10) (h : pg_isX7 Λ) (hdg : decode Y.2.1 pc = .ok (.getfield 89, 3)) (kk : pg_At S Λ Y d (pc + 3) ls (.int (M.1 (1) 1) :: st) M P) : pg_At S Λ Y d pc ls (.ref (1) :: st) M P :=
  pg_getN (host := "PegLaws") (T := TX7) (N := 10) (k := 1) h.1 rfl rfl pg_inX7 (by decide) (by rw [hY]; exact pg_t1 41 rfl) hdg kk
theorem gfX11_1 (hY : Y.1.cls = RX11) (h : pg_isX11 Λ) (hdg : decode Y.2.1 pc = .ok (.getfield 1, 3)) (kk : pg_At S Λ Y d (pc + 3) ls (.int (M.1 (207) 0) :: st) M P) : pg_At S Λ Y d pc ls (.ref (207) :: st) M P :=
  pg_get (T := TX11) (N := 38) (k := 0) h.1 rfl rfl pg_inX11 (by decide) (by rw [hY]; exact pg_g (pg_t6 99 rfl) rfl) hdg kk
theorem pfX11_1 {v : Int32} (hY : Y.1.cls = RX11) (h : pg_isX11 Λ) (hdg : decode Y.2.1 pc = .ok (.putfield 1, 3)) (kk : pg_At S Λ Y d (pc + 3) ls st (pg_si M (207) 0 v) P) : pg_At S Λ Y d pc ls (.int v :: .ref (207) :: st) M P :=
  pg_putG (T := TX11) (N := 38) (k := 0) tyX11 (ty := .int) h.1 rfl pg_inX11 tyX11_ok nmX11 (by decide) (Nat.le_of_ble_eq_true rfl) (by rw [hY]; exact pg_g (pg_t6 99 rfl) rfl) rfl (by decide +kernel) rfl rfl (pg_hvi rfl) (pg_si_off S M _ _ _) hdg kk
theorem gfX11_101 (hY : Y.1.cls = RX11) (h : pg_isX11 Λ) (hdg : decode Y.2.1 pc = .ok (.getfield 101, 3)) (kk : pg_At S Λ Y d (pc + 3) ls (.ref (217) :: st) M P) : pg_At S Λ Y d pc ls (.ref (207) :: st) M P :=
  pg_get (T := TX11) (N := 38) (k := 15) h.1 rfl rfl pg_inX11 (by decide) (by rw [hY]; exact pg_g (pg_t6 114 rfl) rfl) hdg kk
theorem gfX11_104 (hY : Y.1.cls = RX11) (h : pg_isX11 Λ) (hdg : decode Y.2.1 pc = .ok (.getfield 104, 3)) (kk : pg_At S Λ Y d (pc + 3) ls (.ref (218) :: st) M P) : pg_At S Λ Y d pc ls (.ref (207) :: st) M P :=
  pg_get (T := TX11) (N := 38) (k := 19) h.1 rfl rfl pg_inX11 (by decide) (by rw [hY]; exact pg_g (pg_t6 118 rfl) rfl) hdg kk
theorem gfX11_107 (hY : Y.1.cls = RX11) (h : pg_isX11 Λ) (hdg : decode Y.2.1 pc = .ok (.getfield 107, 3)) (kk : pg_At S Λ Y d (pc + 3) ls (.ref (219) :: st) M P) : pg_At S Λ Y d pc ls (.ref (207) :: st) M P :=
  pg_get (T := TX11) (N := 38) (k := 20) h.1 rfl rfl pg_inX11 (by decide) (by rw [hY]; exact pg_g (pg_t6 119 rfl) rfl) hdg kk
theorem gfX11_11 (hY : Y.1.cls = RX11) (h : pg_isX11 Λ) (hdg : decode Y.2.1 pc = .ok (.getfield 11, 3)) (kk : pg_At S Λ Y d (pc + 3) ls (.int (M.1 (207) 2) :: st) M P) : pg_At S Λ Y d pc ls (.ref (207) :: st) M P :=
  pg_get (T := TX11) (N := 38) (k := 2) h.1 rfl rfl pg_inX11 (by decide) (by rw [hY]; exact pg_g (pg_t6 101 rfl) rfl) hdg kk
theorem pfX11_11 {v : Int32} (hY : Y.1.cls = RX11) (h : pg_isX11 Λ) (hdg : decode Y.2.1 pc = .ok (.putfield 11, 3)) (kk : pg_At S Λ Y d (pc + 3) ls st (pg_si M (207) 2 v) P) : pg_At S Λ Y d pc ls (.int v :: .ref (207) :: st) M P :=
  pg_putG (T := TX11) (N := 38) (k := 2) tyX11 (ty := .int) h.1 rfl pg_inX11 tyX11_ok nmX11 (by decide) (Nat.le_of_ble_eq_true rfl) (by rw [hY]; exact pg_g (pg_t6 101 rfl) rfl) rfl (by decide +kernel) rfl rfl (pg_hvi rfl) (pg_si_off S M _ _ _) hdg kk
theorem gfX11_110 (hY : Y.1.cls = RX11) (h : pg_isX11 Λ) (hdg : decode Y.2.1 pc = .ok (.getfield 110, 3)) (kk : pg_At S Λ Y d (pc + 3) ls (.ref (220) :: st) M P) : pg_At S Λ Y d pc ls (.ref (207) :: st) M P :=
  pg_get (T := TX11) (N := 38) (k := 21) h.1 rfl rfl pg_inX11 (by decide) (by rw [hY]; exact pg_g (pg_t6 120 rfl) rfl) hdg kk
theorem gfX11_113 (hY : Y.1.cls = RX11) (h : pg_isX11 Λ) (hdg : decode Y.2.1 pc = .ok (.getfield 113, 3)) (kk : pg_At S Λ Y d (pc + 3) ls (.ref (221) :: st) M P) : pg_At S Λ Y d pc ls (.ref (207) :: st) M P :=
  pg_get (T := TX11) (N := 38) (k := 22) h.1 rfl rfl pg_inX11 (by decide) (by rw [hY]; exact pg_g (pg_t6 121 rfl) rfl) hdg kk
theorem gfX11_116 (hY : Y.1.cls = RX11) (h : pg_isX11 Λ) (hdg : decode Y.2.1 pc = .ok (.getfield 116, 3)) (kk : pg_At S Λ Y d (pc + 3) ls (.ref (222) :: st) M P) : pg_At S Λ Y d pc ls (.ref (207) :: st) M P :=
  pg_get (T := TX11) (N := 38) (k := 24) h.1 rfl rfl pg_inX11 (by decide) (by rw [hY]; exact pg_g (pg_t6 123 rfl) rfl) hdg kk
theorem gfX11_120 (hY : Y.1.cls = RX11) (h : pg_isX11 Λ) (hdg : decode Y.2.1 pc = .ok (.getfield 120, 3)) (kk : pg_At S Λ Y d (pc + 3) ls (.ref (223) :: st) M P) : pg_At S Λ Y d pc ls (.ref (207) :: st) M P :=
  pg_get (T := TX11) (N := 38) (k := 25) h.1 rfl rfl pg_inX11 (by decide) (by rw [hY]; exact pg_g (pg_t6 124 rfl) rfl) hdg kk
theorem gfX11_123 (hY : Y.1.cls = RX11) (h : pg_isX11 Λ) (hdg : decode Y.2.1 pc = .ok (.getfield 123, 3)) (kk : pg_At S Λ Y d (pc + 3) ls (.ref (224) :: st) M P) : pg_At S Λ Y d pc ls (.ref (207) :: st) M P :=
  pg_get (T := TX11) (N := 38) (k := 26) h.1 rfl rfl pg_inX11 (by decide) (by rw [hY]; exact pg_g (pg_t6 125 rfl) rfl) hdg kk
theorem gfX11_126 (hY : Y.1.cls = RX11) (h : pg_isX11 Λ) (hdg : decode Y.2.1 pc = .ok (.getfield 126, 3)) (kk : pg_At S Λ Y d (pc + 3) ls (.ref (225) :: st) M P) : pg_At S Λ Y d pc ls (.ref (207) :: st) M P :=
  pg_get (T := TX11) (N := 38) (k := 27) h.1 rfl rfl pg_inX11 (by decide) (by rw [hY]; exact pg_g (pg_t6 126 rfl) rfl) hdg kk
theorem gfX11_129 (hY : Y.1.cls = RX11) (h : pg_isX11 Λ) (hdg : decode Y.2.1 pc = .ok (.getfield 129, 3)) (kk : pg_At S Λ Y d (pc + 3) ls (.ref (226) :: st) M P) : pg_At S Λ Y d pc ls (.ref (207) :: st) M P :=
  pg_get (T := TX11) (N := 38) (k := 30) h.1 rfl rfl pg_inX11 (by decide) (by rw [hY]; exact pg_g (pg_t6 129 rfl) rfl) hdg kk
theorem gfX11_132 (hY : Y.1.cls = RX11) (h : pg_isX11 Λ) (hdg : decode Y.2.1 pc = .ok (.getfield 132, 3)) (kk : pg_At S Λ Y d (pc + 3) ls (.ref (227) :: st) M P) : pg_At S Λ Y d pc ls (.ref (207) :: st) M P :=
  pg_get (T := TX11) (N := 38) (k := 31) h.1 rfl rfl pg_inX11 (by decide) (by rw [hY]; exact pg_g (pg_t6 130 rfl) rfl) hdg kk
theorem gfX11_135 (hY : Y.1.cls = RX11) (h : pg_isX11 Λ) (hdg : decode Y.2.1 pc = .ok (.getfield 135, 3)) (kk : pg_At S Λ Y d (pc + 3) ls (.ref (228) :: st) M P) : pg_At S Λ Y d pc ls (.ref (207) :: st) M P :=
  pg_get (T := TX11) (N := 38) (k := 32) h.1 rfl rfl pg_inX11 (by decide) (by rw [hY]; exact pg_g (pg_t6 131 rfl) rfl) hdg kk
theorem gfX11_138 (hY : Y.1.cls = RX11) (h : pg_isX11 Λ) (hdg : decode Y.2.1 pc = .ok (.getfield 138, 3)) (kk : pg_At S Λ Y d (pc + 3) ls (.ref (229) :: st) M P) : pg_At S Λ Y d pc ls (.ref (207) :: st) M P :=
  pg_get (T := TX11) (N := 38) (k := 33) h.1 rfl rfl pg_inX11 (by decide) (by rw [hY]; exact pg_g (pg_t6 132 rfl) rfl) hdg kk
theorem gfX11_14 (hY : Y.1.cls = RX11) (h : pg_isX11 Λ) (hdg : decode Y.2.1 pc = .ok (.getfield 14, 3)) (kk : pg_At S Λ Y d (pc + 3) ls (.ref (208) :: st) M P) : pg_At S Λ Y d pc ls (.ref (207) :: st) M P :=
  pg_get (T := TX11) (N := 38) (k := 1) h.1 rfl rfl pg_inX11 (by decide) (by rw [hY]; exact pg_g (pg_t6 100 rfl) rfl) hdg kk
theorem gfX11_141 (hY : Y.1.cls = RX11) (h : pg_isX11 Λ) (hdg : decode Y.2.1 pc = .ok (.getfield 141, 3)) (kk : pg_At S Λ Y d (pc + 3) ls (.ref (230) :: st) M P) : pg_At S Λ Y d pc ls (.ref (207) :: st) M P :=
  pg_get (T := TX11) (N := 38) (k := 36) h.1 rfl rfl pg_inX11 (by decide) (by rw [hY]; exact pg_g (pg_t6 135 rfl) rfl) hdg kk
theorem gfX11_155 (hY : Y.1.cls = RX11) (h : pg_isX11 Λ) (hdg : decode Y.2.1 pc = .ok (.getfield 155, 3)) (kk : pg_At S Λ Y d (pc + 3) ls (.int (M.1 (207) 3) :: st) M P) : pg_At S Λ Y d pc ls (.ref (207) :: st) M P :=
  pg_get (T := TX11) (N := 38) (k := 3) h.1 rfl rfl pg_inX11 (by decide) (by rw [hY]; exact pg_g (pg_t6 102 rfl) rfl) hdg kk
theorem pfX11_155 {v : Int32} (hY : Y.1.cls = RX11) (h : pg_isX11 Λ) (hdg : decode Y.2.1 pc = .ok (.putfield 155, 3)) (kk : pg_At S Λ Y d (pc + 3) ls st (pg_si M (207) 3 v) P) : pg_At S Λ Y d pc ls (.int v :: .ref (207) :: st) M P :=
  pg_putG (T := TX11) (N := 38) (k := 3) tyX11 (ty := .int) h.1 rfl pg_inX11 tyX11_ok nmX11 (by decide) (Nat.le_of_ble_eq_true rfl) (by rw [hY]; exact pg_g (pg_t6 102 rfl) rfl) rfl (by decide +kernel) rfl rfl (pg_hvi rfl) (pg_si_off S M _ _ _) hdg kk
theorem gfX11_174 (hY : Y.1.cls = RX11) (h : pg_isX11 Λ) (hdg : decode Y.2.1 pc = .ok (.getfield 174, 3)) (kk : pg_At S Λ Y d (pc + 3) ls (.int (M.1 (207) 7) :: st) M P) : pg_At S Λ Y d pc ls (.ref (207) :: st) M P :=
  pg_get (T := TX11) (N := 38) (k := 7) h.1 rfl rfl pg_inX11 (by decide) (by rw [hY]; exact pg_g (pg_t6 106 rfl) rfl) hdg kk
theorem pfX11_174 {v : Int32} (hY : Y.1.cls = RX11) (h : pg_isX11 Λ) (hdg : decode Y.2.1 pc = .ok (.putfield 174, 3)) (kk : pg_At S Λ Y d (pc + 3) ls st (pg_si M (207) 7 v) P) : pg_At S Λ Y d pc ls (.int v :: .ref (207) :: st) M P :=
  pg_putG (T := TX11) (N := 38) (k := 7) tyX11 (ty := .int) h.1 rfl pg_inX11 tyX11_ok nmX11 (by decide) (Nat.le_of_ble_eq_true rfl) (by rw [hY]; exact pg_g (pg_t6 106 rfl) rfl) rfl (by decide +kernel) rfl rfl (pg_hvi rfl) (pg_si_off S M _ _ _) hdg kk
theorem gfX11_177 (hY : Y.1.cls = RX11) (h : pg_isX11 Λ) (hdg : decode Y.2.1 pc = .ok (.getfield 177, 3)) (kk : pg_At S Λ Y d (pc + 3) ls (.int (M.1 (207) 8) :: st) M P) : pg_At S Λ Y d pc ls (.ref (207) :: st) M P :=
  pg_get (T := TX11) (N := 38) (k := 8) h.1 rfl rfl pg_inX11 (by decide) (by rw [hY]; exact pg_g (pg_t6 107 rfl) rfl) hdg kk
theorem pfX11_177 {v : Int32} (hY : Y.1.cls = RX11) (h : pg_isX11 Λ) (hdg : decode Y.2.1 pc = .ok (.putfield 177, 3)) (kk : pg_At S Λ Y d (pc + 3) ls st (pg_si M (207) 8 v) P) : pg_At S Λ Y d pc ls (.int v :: .ref (207) :: st) M P :=
  pg_putG (T := TX11) (N := 38) (k := 8) tyX11 (ty := .int) h.1 rfl pg_inX11 tyX11_ok nmX11 (by decide) (Nat.le_of_ble_eq_true rfl) (by rw [hY]; exact pg_g (pg_t6 107 rfl) rfl) rfl (by decide +kernel) rfl rfl (pg_hvi rfl) (pg_si_off S M _ _ _) hdg kk
theorem gfX11_202 (hY : Y.1.cls = RX11) (h : pg_isX11 Λ) (hdg : decode Y.2.1 pc = .ok (.getfield 202, 3)) (kk : pg_At S Λ Y d (pc + 3) ls (.int (M.1 (207) 17) :: st) M P) : pg_At S Λ Y d pc ls (.ref (207) :: st) M P :=
  pg_get (T := TX11) (N := 38) (k := 17) h.1 rfl rfl pg_inX11 (by decide) (by rw [hY]; exact pg_g (pg_t6 116 rfl) rfl) hdg kk
theorem pfX11_202 {v : Int32} (hY : Y.1.cls = RX11) (h : pg_isX11 Λ) (hdg : decode Y.2.1 pc = .ok (.putfield 202, 3)) (kk : pg_At S Λ Y d (pc + 3) ls st (pg_si M (207) 17 v) P) : pg_At S Λ Y d pc ls (.int v :: .ref (207) :: st) M P :=
  pg_putG (T := TX11) (N := 38) (k := 17) tyX11 (ty := .int) h.1 rfl pg_inX11 tyX11_ok nmX11 (by decide) (Nat.le_of_ble_eq_true rfl) (by rw [hY]; exact pg_g (pg_t6 116 rfl) rfl) rfl (by decide +kernel) rfl rfl (pg_hvi rfl) (pg_si_off S M _ _ _) hdg kk
theorem gfX11_205 (hY : Y.1.cls = RX11) (h : pg_isX11 Λ) (hdg : decode Y.2.1 pc = .ok (.getfield 205, 3)) (kk : pg_At S Λ Y d (pc + 3) ls (.int (M.1 (207) 16) :: st) M P) : pg_At S Λ Y d pc ls (.ref (207) :: st) M P :=
  pg_get (T := TX11) (N := 38) (k := 16) h.1 rfl rfl pg_inX11 (by decide) (by rw [hY]; exact pg_g (pg_t6 115 rfl) rfl) hdg kk
theorem pfX11_205 {v : Int32} (hY : Y.1.cls = RX11) (h : pg_isX11 Λ) (hdg : decode Y.2.1 pc = .ok (.putfield 205, 3)) (kk : pg_At S Λ Y d (pc + 3) ls st (pg_si M (207) 16 v) P) : pg_At S Λ Y d pc ls (.int v :: .ref (207) :: st) M P :=
  pg_putG (T := TX11) (N := 38) (k := 16) tyX11 (ty := .int) h.1 rfl pg_inX11 tyX11_ok nmX11 (by decide) (Nat.le_of_ble_eq_true rfl) (by rw [hY]; exact pg_g (pg_t6 115 rfl) rfl) rfl (by decide +kernel) rfl rfl (pg_hvi rfl) (pg_si_off S M _ _ _) hdg kk
theorem gfX11_222 (hY : Y.1.cls = RX11) (h : pg_isX11 Λ) (hdg : decode Y.2.1 pc = .ok (.getfield 222, 3)) (kk : pg_At S Λ Y d (pc + 3) ls (.int (M.1 (207) 13) :: st) M P) : pg_At S Λ Y d pc ls (.ref (207) :: st) M P :=
  pg_get (T := TX11) (N := 38) (k := 13) h.1 rfl rfl pg_inX11 (by decide) (by rw [hY]; exact pg_g (pg_t6 112 rfl) rfl) hdg kk
theorem pfX11_222 {v : Int32} (hY : Y.1.cls = RX11) (h : pg_isX11 Λ) (hdg : decode Y.2.1 pc = .ok (.putfield 222, 3)) (kk : pg_At S Λ Y d (pc + 3) ls st (pg_si M (207) 13 v) P) : pg_At S Λ Y d pc ls (.int v :: .ref (207) :: st) M P :=
  pg_putG (T := TX11) (N := 38) (k := 13) tyX11 (ty := .int) h.1 rfl pg_inX11 tyX11_ok nmX11 (by decide) (Nat.le_of_ble_eq_true rfl) (by rw [hY]; exact pg_g (pg_t6 112 rfl) rfl) rfl (by decide +kernel) rfl rfl (pg_hvi rfl) (pg_si_off S M _ _ _) hdg kk
theorem gfX11_225 (hY : Y.1.cls = RX11) (h : pg_isX11 Λ) (hdg : decode Y.2.1 pc = .ok (.getfield 225, 3)) (kk : pg_At S Λ Y d (pc + 3) ls (.int (M.1 (207) 18) :: st) M P) : pg_At S Λ Y d pc ls (.ref (207) :: st) M P :=
  pg_get (T := TX11) (N := 38) (k := 18) h.1 rfl rfl pg_inX11 (by decide) (by rw [hY]; exact pg_g (pg_t6 117 rfl) rfl) hdg kk
theorem pfX11_225 {v : Int32} (hY : Y.1.cls = RX11) (h : pg_isX11 Λ) (hdg : decode Y.2.1 pc = .ok (.putfield 225, 3)) (kk : pg_At S Λ Y d (pc + 3) ls st (pg_si M (207) 18 v) P) : pg_At S Λ Y d pc ls (.int v :: .ref (207) :: st) M P :=
  pg_putG (T := TX11) (N := 38) (k := 18) tyX11 (ty := .int) h.1 rfl pg_inX11 tyX11_ok nmX11 (by decide) (Nat.le_of_ble_eq_true rfl) (by rw [hY]; exact pg_g (pg_t6 117 rfl) rfl) rfl (by decide +kernel) rfl rfl (pg_hvi rfl) (pg_si_off S M _ _ _) hdg kk
theorem gfX11_24 (hY : Y.1.cls = RX11) (h : pg_isX11 Λ) (hdg : decode Y.2.1 pc = .ok (.getfield 24, 3)) (kk : pg_At S Λ Y d (pc + 3) ls (.ref (209) :: st) M P) : pg_At S Λ Y d pc ls (.ref (207) :: st) M P :=
  pg_get (T := TX11) (N := 38) (k := 4) h.1 rfl rfl pg_inX11 (by decide) (by rw [hY]; exact pg_g (pg_t6 103 rfl) rfl) hdg kk
theorem gfX11_27 (hY : Y.1.cls = RX11) (h : pg_isX11 Λ) (hdg : decode Y.2.1 pc = .ok (.getfield 27, 3)) (kk : pg_At S Λ Y d (pc + 3) ls (.ref (210) :: st) M P) : pg_At S Λ Y d pc ls (.ref (207) :: st) M P :=
  pg_get (T := TX11) (N := 38) (k := 5) h.1 rfl rfl pg_inX11 (by decide) (by rw [hY]; exact pg_g (pg_t6 104 rfl) rfl) hdg kk
theorem gfX11_285 (hY : Y.1.cls = RX11) (h : pg_isX11 Λ) (hdg : decode Y.2.1 pc = .ok (.getfield 285, 3)) (kk : pg_At S Λ Y d (pc + 3) ls (.int (M.1 (207) 23) :: st) M P) : pg_At S Λ Y d pc ls (.ref (207) :: st) M P :=
  pg_get (T := TX11) (N := 38) (k := 23) h.1 rfl rfl pg_inX11 (by decide) (by rw [hY]; exact pg_g (pg_t6 122 rfl) rfl) hdg kk
theorem pfX11_285 {v : Int32} (hY : Y.1.cls = RX11) (h : pg_isX11 Λ) (hdg : decode Y.2.1 pc = .ok (.putfield 285, 3)) (kk : pg_At S Λ Y d (pc + 3) ls st (pg_si M (207) 23 v) P) : pg_At S Λ Y d pc ls (.int v :: .ref (207) :: st) M P :=
  pg_putG (T := TX11) (N := 38) (k := 23) tyX11 (ty := .int) h.1 rfl pg_inX11 tyX11_ok nmX11 (by decide) (Nat.le_of_ble_eq_true rfl) (by rw [hY]; exact pg_g (pg_t6 122 rfl) rfl) rfl (by decide +kernel) rfl rfl (pg_hvi rfl) (pg_si_off S M _ _ _) hdg kk
theorem gfX11_30 (hY : Y.1.cls = RX11) (h : pg_isX11 Λ) (hdg : decode Y.2.1 pc = .ok (.getfield 30, 3)) (kk : pg_At S Λ Y d (pc + 3) ls (.ref (211) :: st) M P) : pg_At S Λ Y d pc ls (.ref (207) :: st) M P :=
  pg_get (T := TX11) (N := 38) (k := 6) h.1 rfl rfl pg_inX11 (by decide) (by rw [hY]; exact pg_g (pg_t6 105 rfl) rfl) hdg kk
theorem gfX11_391 (hY : Y.1.cls = RX11) (h : pg_isX11 Λ) (hdg : decode Y.2.1 pc = .ok (.getfield 391, 3)) (kk : pg_At S Λ Y d (pc + 3) ls (.int (M.1 (207) 28) :: st) M P) : pg_At S Λ Y d pc ls (.ref (207) :: st) M P :=
  pg_get (T := TX11) (N := 38) (k := 28) h.1 rfl rfl pg_inX11 (by decide) (by rw [hY]; exact pg_g (pg_t6 127 rfl) rfl) hdg kk
theorem pfX11_391 {v : Int32} (hY : Y.1.cls = RX11) (h : pg_isX11 Λ) (hdg : decode Y.2.1 pc = .ok (.putfield 391, 3)) (kk : pg_At S Λ Y d (pc + 3) ls st (pg_si M (207) 28 v) P) : pg_At S Λ Y d pc ls (.int v :: .ref (207) :: st) M P :=
  pg_putG (T := TX11) (N := 38) (k := 28) tyX11 (ty := .int) h.1 rfl pg_inX11 tyX11_ok nmX11 (by decide) (Nat.le_of_ble_eq_true rfl) (by rw [hY]; exact pg_g (pg_t6 127 rfl) rfl) rfl (by decide +kernel) rfl rfl (pg_hvi rfl) (pg_si_off S M _ _ _) hdg kk
theorem gfX11_394 (hY : Y.1.cls = RX11) (h : pg_isX11 Λ) (hdg : decode Y.2.1 pc = .ok (.getfield 394, 3)) (kk : pg_At S Λ Y d (pc + 3) ls (.int (M.1 (207) 29) :: st) M P) : pg_At S Λ Y d pc ls (.ref (207) :: st) M P :=
  pg_get (T := TX11) (N := 38) (k := 29) h.1 rfl rfl pg_inX11 (by decide) (by rw [hY]; exact pg_g (pg_t6 128 rfl) rfl) hdg kk
theorem pfX11_394 {v : Int32} (hY : Y.1.cls = RX11) (h : pg_isX11 Λ) (hdg : decode Y.2.1 pc = .ok (.putfield 394, 3)) (kk : pg_At S Λ Y d (pc + 3) ls st (pg_si M (207) 29 v) P) : pg_At S Λ Y d pc ls (.int v :: .ref (207) :: st) M P :=
  pg_putG (T := TX11) (N := 38) (k := 29) tyX11 (ty := .int) h.1 rfl pg_inX11 tyX11_ok nmX11 (by decide) (Nat.le_of_ble_eq_true rfl) (by rw [hY]; exact pg_g (pg_t6 128 rfl) rfl) rfl (by decide +kernel) rfl rfl (pg_hvi rfl) (pg_si_off S M _ _ _) hdg kk
theorem gfX11_410 (hY : Y.1.cls = RX11) (h : pg_isX11 Λ) (hdg : decode Y.2.1 pc = .ok (.getfield 410, 3)) (kk : pg_At S Λ Y d (pc + 3) ls (.int (M.1 (207) 35) :: st) M P) : pg_At S Λ Y d pc ls (.ref (207) :: st) M P :=
  pg_get (T := TX11) (N := 38) (k := 35) h.1 rfl rfl pg_inX11 (by decide) (by rw [hY]; exact pg_g (pg_t6 134 rfl) rfl) hdg kk
theorem pfX11_410 {v : Int32} (hY : Y.1.cls = RX11) (h : pg_isX11 Λ) (hdg : decode Y.2.1 pc = .ok (.putfield 410, 3)) (kk : pg_At S Λ Y d (pc + 3) ls st (pg_si M (207) 35 v) P) : pg_At S Λ Y d pc ls (.int v :: .ref (207) :: st) M P :=
  pg_putG (T := TX11) (N := 38) (k := 35) tyX11 (ty := .int) h.1 rfl pg_inX11 tyX11_ok nmX11 (by decide) (Nat.le_of_ble_eq_true rfl) (by rw [hY]; exact pg_g (pg_t6 134 rfl) rfl) rfl (by decide +kernel) rfl rfl (pg_hvi rfl) (pg_si_off S M _ _ _) hdg kk
theorem gfX11_413 (hY : Y.1.cls = RX11) (h : pg_isX11 Λ) (hdg : decode Y.2.1 pc = .ok (.getfield 413, 3)) (kk : pg_At S Λ Y d (pc + 3) ls (.int (M.1 (207) 34) :: st) M P) : pg_At S Λ Y d pc ls (.ref (207) :: st) M P :=
  pg_get (T := TX11) (N := 38) (k := 34) h.1 rfl rfl pg_inX11 (by decide) (by rw [hY]; exact pg_g (pg_t6 133 rfl) rfl) hdg kk
theorem pfX11_413 {v : Int32} (hY : Y.1.cls = RX11) (h : pg_isX11 Λ) (hdg : decode Y.2.1 pc = .ok (.putfield 413, 3)) (kk : pg_At S Λ Y d (pc + 3) ls st (pg_si M (207) 34 v) P) : pg_At S Λ Y d pc ls (.int v :: .ref (207) :: st) M P :=
  pg_putG (T := TX11) (N := 38) (k := 34) tyX11 (ty := .int) h.1 rfl pg_inX11 tyX11_ok nmX11 (by decide) (Nat.le_of_ble_eq_true rfl) (by rw [hY]; exact pg_g (pg_t6 133 rfl) rfl) rfl (by decide +kernel) rfl rfl (pg_hvi rfl) (pg_si_off S M _ _ _) hdg kk
theorem gfX11_431 (hY : Y.1.cls = RX11) (h : pg_isX11 Λ) (hdg : decode Y.2.1 pc = .ok (.getfield 431, 3)) (kk : pg_At S Λ Y d (pc + 3) ls (.long (M.2.1 (207) 37) :: st) M P) : pg_At S Λ Y d pc ls (.ref (207) :: st) M P :=
  pg_get (T := TX11) (N := 38) (k := 37) h.1 rfl rfl pg_inX11 (by decide) (by rw [hY]; exact pg_g (pg_t6 136 rfl) rfl) hdg kk
theorem pfX11_431 {v : Int64} (hY : Y.1.cls = RX11) (h : pg_isX11 Λ) (hdg : decode Y.2.1 pc = .ok (.putfield 431, 3)) (kk : pg_At S Λ Y d (pc + 3) ls st (pg_sj M (207) 37 v) P) : pg_At S Λ Y d pc ls (.long v :: .ref (207) :: st) M P :=
  pg_putG (T := TX11) (N := 38) (k := 37) tyX11 (ty := .long) h.1 rfl pg_inX11 tyX11_ok nmX11 (by decide) (Nat.le_of_ble_eq_true rfl) (by rw [hY]; exact pg_g (pg_t6 136 rfl) rfl) rfl (by decide +kernel) rfl rfl (pg_hvj rfl) (pg_sj_off S M _ _ _) hdg kk
theorem gfX11_86 (hY : Y.1.cls = RX11) (h : pg_isX11 Λ) (hdg : decode Y.2.1 pc = .ok (.getfield 86, 3)) (kk : pg_At S Λ Y d (pc + 3) ls (.ref (212) :: st) M P) : pg_At S Λ Y d pc ls (.ref (207) :: st) M P :=
  pg_get (T := TX11) (N := 38) (k := 9) h.1 rfl rfl pg_inX11 (by decide) (by rw [hY]; exact pg_g (pg_t6 108 rfl) rfl) hdg kk
theorem gfX11_89 (hY : Y.1.cls = RX11) (h : pg_isX11 Λ) (hdg : decode Y.2.1 pc = .ok (.getfield 89, 3)) (kk : pg_At S Λ Y d (pc + 3) ls (.ref (213) :: st) M P) : pg_At S Λ Y d pc ls (.ref (207) :: st) M P :=
  pg_get (T := TX11) (N := 38) (k := 10) h.1 rfl rfl pg_inX11 (by decide) (by rw [hY]; exact pg_g (pg_t6 109 rfl) rfl) hdg kk
theorem gfX11_92 (hY : Y.1.cls = RX11) (h : pg_isX11 Λ) (hdg : decode Y.2.1 pc = .ok (.getfield 92, 3)) (kk : pg_At S Λ Y d (pc + 3) ls (.ref (214) :: st) M P) : pg_At S Λ Y d pc ls (.ref (207) :: st) M P :=
  pg_get (T := TX11) (N := 38) (k := 11) h.1 rfl rfl pg_inX11 (by decide) (by rw [hY]; exact pg_g (pg_t6 110 rfl) rfl) hdg kk
theorem gfX11_95 (hY : Y.1.cls = RX11) (h : pg_isX11 Λ) (hdg : decode Y.2.1 pc = .ok (.getfield 95, 3)) (kk : pg_At S Λ Y d (pc + 3) ls (.ref (215) :: st) M P) : pg_At S Λ Y d pc ls (.ref (207) :: st) M P :=
  pg_get (T := TX11) (N := 38) (k := 12) h.1 rfl rfl pg_inX11 (by decide) (by rw [hY]; exact pg_g (pg_t6 111 rfl) rfl) hdg kk
theorem gfX11_98 (hY : Y.1.cls = RX11) (h : pg_isX11 Λ) (hdg : decode Y.2.1 pc = .ok (.getfield 98, 3)) (kk : pg_At S Λ Y d (pc + 3) ls (.ref (216) :: st) M P) : pg_At S Λ Y d pc ls (.ref (207) :: st) M P :=
  pg_get (T := TX11) (N := 38) (k := 14) h.1 rfl rfl pg_inX11 (by decide) (by rw [hY]; exact pg_g (pg_t6 113 rfl) rfl) hdg kk
theorem gfX2_15 (hY : Y.1.cls = RX2) (h : pg_isX2 Λ a) (hdg : decode Y.2.1 pc = .ok (.getfield 15, 3)) (kk : pg_At S Λ Y d (pc + 3) ls (.ref (a + 2) :: st) M P) : pg_At S Λ Y d pc ls (.ref (a) :: st) M P :=
  pg_get (T := TX2) (N := 6) (k := 1) h.1 rfl rfl pg_inX2 (by decide) (by rw [hY]; exact pg_g (pg_t1 122 rfl) rfl) hdg kk
theorem gfX2_18 (hY : Y.1.cls = RX2) (h : pg_isX2 Λ a) (hdg : decode Y.2.1 pc = .ok (.getfield 18, 3)) (kk : pg_At S Λ Y d (pc + 3) ls (.ref (a + 3) :: st) M P) : pg_At S Λ Y d pc ls (.ref (a) :: st) M P :=
  pg_get (T := TX2) (N := 6) (k := 2) h.1 rfl rfl pg_inX2 (by decide) (by rw [hY]; exact pg_g (pg_t1 123 rfl) rfl) hdg kk
theorem gfX2_21 (hY : Y.1.cls = RX2) (h : pg_isX2 Λ a) (hdg : decode Y.2.1 pc = .ok (.getfield 21, 3)) (kk : pg_At S Λ Y d (pc + 3) ls (.ref (a + 4) :: st) M P) : pg_At S Λ Y d pc ls (.ref (a) :: st) M P :=
  pg_get (T := TX2) (N := 6) (k := 3) h.1 rfl rfl pg_inX2 (by decide) (by rw [hY]; exact pg_g (pg_t1 124 rfl) rfl) hdg kk
theorem gfX2_24 (hY : Y.1.cls = RX2) (h : pg_isX2 Λ a) (hdg : decode Y.2.1 pc = .ok (.getfield 24, 3)) (kk : pg_At S Λ Y d (pc + 3) ls (.ref (a + 5) :: st) M P) : pg_At S Λ Y d pc ls (.ref (a) :: st) M P :=
  pg_get (T := TX2) (N := 6) (k := 4) h.1 rfl rfl pg_inX2 (by decide) (by rw [hY]; exact pg_g (pg_t1 125 rfl) rfl) hdg kk
theorem gfX2_27 (hY : Y.1.cls = RX2) (h : pg_isX2 Λ a) (hdg : decode Y.2.1 pc = .ok (.getfield 27, 3)) (kk : pg_At S Λ Y d (pc + 3) ls (.int (M.1 (a) 5) :: st) M P) : pg_At S Λ Y d pc ls (.ref (a) :: st) M P :=
  pg_get (T := TX2) (N := 6) (k := 5) h.1 rfl rfl pg_inX2 (by decide) (by rw [hY]; exact pg_g (pg_t1 126 rfl) rfl) hdg kk
theorem pfX2_27 {v : Int32} (hY : Y.1.cls = RX2) (h : pg_isX2 Λ a) (hdg : decode Y.2.1 pc = .ok (.putfield 27, 3)) (kk : pg_At S Λ Y d (pc + 3) ls st (pg_si M (a) 5 v) P) : pg_At S Λ Y d pc ls (.int v :: .ref (a) :: st) M P :=
  pg_putG (T := TX2) (N := 6) (k := 5) tyX2 (ty := .int) h.1 rfl pg_inX2 tyX2_ok nmX2 (by decide) (Nat.le_of_ble_eq_true rfl) (by rw [hY]; exact pg_g (pg_t1 126 rfl) rfl) rfl (by decide +kernel) rfl rfl (pg_hvi rfl) (pg_si_off S M _ _ _) hdg kk
theorem gfX2_37 (hY : Y.1.cls = RX2) (h : pg_isX5 Λ a) (hdg : decode Y.2.1 pc = .ok (.getfield 37, 3)) (kk : pg_At S Λ Y d (pc + 3) ls (.int (M.1 (a) 12) :: st) M P) : pg_At S Λ Y d pc ls (.ref (a) :: st) M P :=
  pg_getN (host := "PegLaws") (T := TX5) (N := 16) (k := 12) h.1 rfl rfl pg_inX5 (by decide) (by rw [hY]; exact pg_t2 86 rfl) hdg kk
theorem gfX2_9 (hY : Y.1.cls = RX2) (h : pg_isX2 Λ a) (hdg : decode Y.2.1 pc = .ok (.getfield 9, 3)) (kk : pg_At S Λ Y d (pc + 3) ls (.ref (a + 1) :: st) M P) : pg_At S Λ Y d pc ls (.ref (a) :: st) M P :=
  pg_get (T := TX2) (N := 6) (k := 0) h.1 rfl rfl pg_inX2 (by decide) (by rw [hY]; exact pg_g (pg_t1 121 rfl) rfl) hdg kk
theorem gfX3_102 (hY : Y.1.cls = RX3) (h : pg_isX9 Λ a) (hdg : decode Y.2.1 pc = .ok (.getfield 102, 3)) (kk : pg_At S Λ Y d (pc + 3) ls (.ref (a + 1) :: st) M P) : pg_At S Λ Y d pc ls (.ref (a) :: st) M P :=
  pg_getN (host := "PegLaws") (T := TX9) (N := 6) (k := 0) h.1 rfl rfl pg_inX9 (by decide) (by rw [hY]; exact pg_t1 81 rfl) hdg kk
theorem gfX3_105 (hY : Y.1.cls = RX3) (h : pg_isX9 Λ a) (hdg : decode Y.2.1 pc = .ok (.getfield 105, 3)) (kk : pg_At S Λ Y d (pc + 3) ls (.int (M.1 (a) 5) :: st) M P) : pg_At S Λ Y d pc ls (.ref (a) :: st) M P :=
  pg_getN (host := "PegLaws") (T := TX9) (N := 6) (k := 5) h.1 rfl rfl pg_inX9 (by decide) (by rw [hY]; exact pg_t1 99 rfl) hdg kk
theorem gfX3_11 (hY : Y.1.cls = RX3) (h : pg_isX3 Λ) (hdg : decode Y.2.1 pc = .ok (.getfield 11, 3)) (kk : pg_At S Λ Y d (pc + 3) ls (.ref (154) :: st) M P) : pg_At S Λ Y d pc ls (.ref (153) :: st) M P :=
  pg_get (T := TX3) (N := 10) (k := 0) h.1 rfl rfl pg_inX3 (by decide) (by rw [hY]; exact pg_g (pg_t1 180 rfl) rfl) hdg kk
theorem gfX3_121 (hY : Y.1.cls = RX3) (h : pg_isX5 Λ a) (hdg : decode Y.2.1 pc = .ok (.getfield 121, 3)) (kk : pg_At S Λ Y d (pc + 3) ls (.ref (a + 3) :: st) M P) : pg_At S Λ Y d pc ls (.ref (a) :: st) M P :=
  pg_getN (host := "PegLaws") (T := TX5) (N := 16) (k := 2) h.1 rfl rfl pg_inX5 (by decide) (by rw [hY]; exact pg_t2 58 rfl) hdg kk
theorem gfX3_122 (hY : Y.1.cls = RX3) (h : pg_isX5 Λ a) (hdg : decode Y.2.1 pc = .ok (.getfield 122, 3)) (kk : pg_At S Λ Y d (pc + 3) ls (.ref (a + 5) :: st) M P) : pg_At S Λ Y d pc ls (.ref (a) :: st) M P :=
  pg_getN (host := "PegLaws") (T := TX5) (N := 16) (k := 4) h.1 rfl rfl pg_inX5 (by decide) (by rw [hY]; exact pg_t2 64 rfl) hdg kk
theorem gfX3_123 (hY : Y.1.cls = RX3) (h : pg_isX5 Λ a) (hdg : decode Y.2.1 pc = .ok (.getfield 123, 3)) (kk : pg_At S Λ Y d (pc + 3) ls (.int (M.1 (a) 13) :: st) M P) : pg_At S Λ Y d pc ls (.ref (a) :: st) M P :=
  pg_getN (host := "PegLaws") (T := TX5) (N := 16) (k := 13) h.1 rfl rfl pg_inX5 (by decide) (by rw [hY]; exact pg_t2 89 rfl) hdg kk
theorem gfX3_15 (hY : Y.1.cls = RX3) (h : pg_isX3 Λ) (hdg : decode Y.2.1 pc = .ok (.getfield 15, 3)) (kk : pg_At S Λ Y d (pc + 3) ls (.ref (155) :: st) M P) : pg_At S Λ Y d pc ls (.ref (153) :: st) M P :=
  pg_get (T := TX3) (N := 10) (k := 1) h.1 rfl rfl pg_inX3 (by decide) (by rw [hY]; exact pg_g (pg_t1 181 rfl) rfl) hdg kk
theorem gfX3_18 (hY : Y.1.cls = RX3) (h : pg_isX3 Λ) (hdg : decode Y.2.1 pc = .ok (.getfield 18, 3)) (kk : pg_At S Λ Y d (pc + 3) ls (.ref (156) :: st) M P) : pg_At S Λ Y d pc ls (.ref (153) :: st) M P :=
  pg_get (T := TX3) (N := 10) (k := 2) h.1 rfl rfl pg_inX3 (by decide) (by rw [hY]; exact pg_g (pg_t1 182 rfl) rfl) hdg kk
theorem gfX3_21 (hY : Y.1.cls = RX3) (h : pg_isX3 Λ) (hdg : decode Y.2.1 pc = .ok (.getfield 21, 3)) (kk : pg_At S Λ Y d (pc + 3) ls (.ref (157) :: st) M P) : pg_At S Λ Y d pc ls (.ref (153) :: st) M P :=
  pg_get (T := TX3) (N := 10) (k := 3) h.1 rfl rfl pg_inX3 (by decide) (by rw [hY]; exact pg_g (pg_t1 183 rfl) rfl) hdg kk
theorem gfX3_24 (hY : Y.1.cls = RX3) (h : pg_isX3 Λ) (hdg : decode Y.2.1 pc = .ok (.getfield 24, 3)) (kk : pg_At S Λ Y d (pc + 3) ls (.ref (158) :: st) M P) : pg_At S Λ Y d pc ls (.ref (153) :: st) M P :=
  pg_get (T := TX3) (N := 10) (k := 4) h.1 rfl rfl pg_inX3 (by decide) (by rw [hY]; exact pg_g (pg_t1 184 rfl) rfl) hdg kk
theorem gfX3_28 (hY : Y.1.cls = RX3) (h : pg_isX3 Λ) (hdg : decode Y.2.1 pc = .ok (.getfield 28, 3)) (kk : pg_At S Λ Y d (pc + 3) ls (.ref (159) :: st) M P) : pg_At S Λ Y d pc ls (.ref (153) :: st) M P :=
  pg_get (T := TX3) (N := 10) (k := 5) h.1 rfl rfl pg_inX3 (by decide) (by rw [hY]; exact pg_g (pg_t1 185 rfl) rfl) hdg kk
theorem gfX3_32 (hY : Y.1.cls = RX3) (h : pg_isX3 Λ) (hdg : decode Y.2.1 pc = .ok (.getfield 32, 3)) (kk : pg_At S Λ Y d (pc + 3) ls (.ref (160) :: st) M P) : pg_At S Λ Y d pc ls (.ref (153) :: st) M P :=
  pg_get (T := TX3) (N := 10) (k := 6) h.1 rfl rfl pg_inX3 (by decide) (by rw [hY]; exact pg_g (pg_t1 186 rfl) rfl) hdg kk
theorem gfX3_35 (hY : Y.1.cls = RX3) (h : pg_isX5 Λ a) (hdg : decode Y.2.1 pc = .ok (.getfield 35, 3)) (kk : pg_At S Λ Y d (pc + 3) ls (.int (M.1 (a) 10) :: st) M P) : pg_At S Λ Y d pc ls (.ref (a) :: st) M P :=
  pg_getN (host := "PegLaws") (T := TX5) (N := 16) (k := 10) h.1 rfl rfl pg_inX5 (by decide) (by rw [hY]; exact pg_t2 76 rfl) hdg kk
theorem gfX3_41 (hY : Y.1.cls = RX3) (h : pg_isX3 Λ) (hdg : decode Y.2.1 pc = .ok (.getfield 41, 3)) (kk : pg_At S Λ Y d (pc + 3) ls (.int (M.1 (153) 7) :: st) M P) : pg_At S Λ Y d pc ls (.ref (153) :: st) M P :=
  pg_get (T := TX3) (N := 10) (k := 7) h.1 rfl rfl pg_inX3 (by decide) (by rw [hY]; exact pg_g (pg_t1 188 rfl) rfl) hdg kk
theorem pfX3_41 {v : Int32} (hY : Y.1.cls = RX3) (h : pg_isX3 Λ) (hdg : decode Y.2.1 pc = .ok (.putfield 41, 3)) (kk : pg_At S Λ Y d (pc + 3) ls st (pg_si M (153) 7 v) P) : pg_At S Λ Y d pc ls (.int v :: .ref (153) :: st) M P :=
  pg_putG (T := TX3) (N := 10) (k := 7) tyX3 (ty := .int) h.1 rfl pg_inX3 tyX3_ok nmX3 (by decide) (Nat.le_of_ble_eq_true rfl) (by rw [hY]; exact pg_g (pg_t1 188 rfl) rfl) rfl (by decide +kernel) rfl rfl (pg_hvi rfl) (pg_si_off S M _ _ _) hdg kk
theorem gfX3_44 (hY : Y.1.cls = RX3) (h : pg_isX9 Λ a) (hdg : decode Y.2.1 pc = .ok (.getfield 44, 3)) (kk : pg_At S Λ Y d (pc + 3) ls (.int (M.1 (a) 4) :: st) M P) : pg_At S Λ Y d pc ls (.ref (a) :: st) M P :=
  pg_getN (host := "PegLaws") (T := TX9) (N := 6) (k := 4) h.1 rfl rfl pg_inX9 (by decide) (by rw [hY]; exact pg_t1 93 rfl) hdg kk
theorem gfX3_49 (hY : Y.1.cls = RX3) (h : pg_isX3 Λ) (hdg : decode Y.2.1 pc = .ok (.getfield 49, 3)) (kk : pg_At S Λ Y d (pc + 3) ls (.int (M.1 (153) 8) :: st) M P) : pg_At S Λ Y d pc ls (.ref (153) :: st) M P :=
  pg_get (T := TX3) (N := 10) (k := 8) h.1 rfl rfl pg_inX3 (by decide) (by rw [hY]; exact pg_g (pg_t1 189 rfl) rfl) hdg kk
theorem pfX3_49 {v : Int32} (hY : Y.1.cls = RX3) (h : pg_isX3 Λ) (hdg : decode Y.2.1 pc = .ok (.putfield 49, 3)) (kk : pg_At S Λ Y d (pc + 3) ls st (pg_si M (153) 8 v) P) : pg_At S Λ Y d pc ls (.int v :: .ref (153) :: st) M P :=
  pg_putG (T := TX3) (N := 10) (k := 8) tyX3 (ty := .int) h.1 rfl pg_inX3 tyX3_ok nmX3 (by decide) (Nat.le_of_ble_eq_true rfl) (by rw [hY]; exact pg_g (pg_t1 189 rfl) rfl) rfl (by decide +kernel) rfl rfl (pg_hvi rfl) (pg_si_off S M _ _ _) hdg kk
theorem gfX3_62 (hY : Y.1.cls = RX3) (h : pg_isX3 Λ) (hdg : decode Y.2.1 pc = .ok (.getfield 62, 3)) (kk : pg_At S Λ Y d (pc + 3) ls (.int (M.1 (153) 9) :: st) M P) : pg_At S Λ Y d pc ls (.ref (153) :: st) M P :=
  pg_get (T := TX3) (N := 10) (k := 9) h.1 rfl rfl pg_inX3 (by decide) (by rw [hY]; exact pg_g (pg_t1 190 rfl) rfl) hdg kk
theorem pfX3_62 {v : Int32} (hY : Y.1.cls = RX3) (h : pg_isX3 Λ) (hdg : decode Y.2.1 pc = .ok (.putfield 62, 3)) (kk : pg_At S Λ Y d (pc + 3) ls st (pg_si M (153) 9 v) P) : pg_At S Λ Y d pc ls (.int v :: .ref (153) :: st) M P :=
  pg_putG (T := TX3) (N := 10) (k := 9) tyX3 (ty := .int) h.1 rfl pg_inX3 tyX3_ok nmX3 (by decide) (Nat.le_of_ble_eq_true rfl) (by rw [hY]; exact pg_g (pg_t1 190 rfl) rfl) rfl (by decide +kernel) rfl rfl (pg_hvi rfl) (pg_si_off S M _ _ _) hdg kk
theorem gfX3_91 (hY : Y.1.cls = RX3) (h : pg_isX9 Λ a) (hdg : decode Y.2.1 pc = .ok (.getfield 91, 3)) (kk : pg_At S Λ Y d (pc + 3) ls (.ref (a + 2) :: st) M P) : pg_At S Λ Y d pc ls (.ref (a) :: st) M P :=
  pg_getN (host := "PegLaws") (T := TX9) (N := 6) (k := 1) h.1 rfl rfl pg_inX9 (by decide) (by rw [hY]; exact pg_t1 85 rfl) hdg kk
theorem gfX4_15 (hY : Y.1.cls = RX4) (h : pg_isX4 Λ) (hdg : decode Y.2.1 pc = .ok (.getfield 15, 3)) (kk : pg_At S Λ Y d (pc + 3) ls (.ref (166) :: st) M P) : pg_At S Λ Y d pc ls (.ref (164) :: st) M P :=
  pg_get (T := TX4) (N := 6) (k := 1) h.1 rfl rfl pg_inX4 (by decide) (by rw [hY]; exact pg_g (pg_t1 234 rfl) rfl) hdg kk
theorem gfX4_18 (hY : Y.1.cls = RX4) (h : pg_isX4 Λ) (hdg : decode Y.2.1 pc = .ok (.getfield 18, 3)) (kk : pg_At S Λ Y d (pc + 3) ls (.ref (167) :: st) M P) : pg_At S Λ Y d pc ls (.ref (164) :: st) M P :=
  pg_get (T := TX4) (N := 6) (k := 2) h.1 rfl rfl pg_inX4 (by decide) (by rw [hY]; exact pg_g (pg_t1 235 rfl) rfl) hdg kk
theorem gfX4_21 (hY : Y.1.cls = RX4) (h : pg_isX4 Λ) (hdg : decode Y.2.1 pc = .ok (.getfield 21, 3)) (kk : pg_At S Λ Y d (pc + 3) ls (.ref (168) :: st) M P) : pg_At S Λ Y d pc ls (.ref (164) :: st) M P :=
  pg_get (T := TX4) (N := 6) (k := 3) h.1 rfl rfl pg_inX4 (by decide) (by rw [hY]; exact pg_g (pg_t1 236 rfl) rfl) hdg kk
theorem gfX4_24 (hY : Y.1.cls = RX4) (h : pg_isX4 Λ) (hdg : decode Y.2.1 pc = .ok (.getfield 24, 3)) (kk : pg_At S Λ Y d (pc + 3) ls (.int (M.1 (164) 4) :: st) M P) : pg_At S Λ Y d pc ls (.ref (164) :: st) M P :=
  pg_get (T := TX4) (N := 6) (k := 4) h.1 rfl rfl pg_inX4 (by decide) (by rw [hY]; exact pg_g (pg_t1 238 rfl) rfl) hdg kk
theorem pfX4_24 {v : Int32} (hY : Y.1.cls = RX4) (h : pg_isX4 Λ) (hdg : decode Y.2.1 pc = .ok (.putfield 24, 3)) (kk : pg_At S Λ Y d (pc + 3) ls st (pg_si M (164) 4 v) P) : pg_At S Λ Y d pc ls (.int v :: .ref (164) :: st) M P :=
  pg_putG (T := TX4) (N := 6) (k := 4) tyX4 (ty := .int) h.1 rfl pg_inX4 tyX4_ok nmX4 (by decide) (Nat.le_of_ble_eq_true rfl) (by rw [hY]; exact pg_g (pg_t1 238 rfl) rfl) rfl (by decide +kernel) rfl rfl (pg_hvi rfl) (pg_si_off S M _ _ _) hdg kk
theorem gfX4_28 (hY : Y.1.cls = RX4) (h : pg_isX5 Λ a) (hdg : decode Y.2.1 pc = .ok (.getfield 28, 3)) (kk : pg_At S Λ Y d (pc + 3) ls (.int (M.1 (a) 10) :: st) M P) : pg_At S Λ Y d pc ls (.ref (a) :: st) M P :=
  pg_getN (host := "PegLaws") (T := TX5) (N := 16) (k := 10) h.1 rfl rfl pg_inX5 (by decide) (by rw [hY]; exact pg_t2 77 rfl) hdg kk
theorem gfX4_33 (hY : Y.1.cls = RX4) (h : pg_isX9 Λ a) (hdg : decode Y.2.1 pc = .ok (.getfield 33, 3)) (kk : pg_At S Λ Y d (pc + 3) ls (.ref (a + 3) :: st) M P) : pg_At S Λ Y d pc ls (.ref (a) :: st) M P :=
  pg_getN (host := "PegLaws") (T := TX9) (N := 6) (k := 2) h.1 rfl rfl pg_inX9 (by decide) (by rw [hY]; exact pg_t1 88 rfl) hdg kk
theorem gfX4_38 (hY : Y.1.cls = RX4) (h : pg_isX9 Λ a) (hdg : decode Y.2.1 pc = .ok (.getfield 38, 3)) (kk : pg_At S Λ Y d (pc + 3) ls (.ref (a + 2) :: st) M P) : pg_At S Λ Y d pc ls (.ref (a) :: st) M P :=
  pg_getN (host := "PegLaws") (T := TX9) (N := 6) (k := 1) h.1 rfl rfl pg_inX9 (by decide) (by rw [hY]; exact pg_t1 84 rfl) hdg kk
theorem gfX4_41 (hY : Y.1.cls = RX4) (h : pg_isX9 Λ a) (hdg : decode Y.2.1 pc = .ok (.getfield 41, 3)) (kk : pg_At S Λ Y d (pc + 3) ls (.int (M.1 (a) 5) :: st) M P) : pg_At S Λ Y d pc ls (.ref (a) :: st) M P :=
  pg_getN (host := "PegLaws") (T := TX9) (N := 6) (k := 5) h.1 rfl rfl pg_inX9 (by decide) (by rw [hY]; exact pg_t1 98 rfl) hdg kk
theorem pfX4_52 {v : Int32} (hY : Y.1.cls = RX4) (h : pg_isX4 Λ) (hdg : decode Y.2.1 pc = .ok (.putfield 52, 3)) (kk : pg_At S Λ Y d (pc + 3) ls st (pg_si M (164) 5 v) P) : pg_At S Λ Y d pc ls (.int v :: .ref (164) :: st) M P :=
  pg_putG (T := TX4) (N := 6) (k := 5) tyX4 (ty := .int) h.1 rfl pg_inX4 tyX4_ok nmX4 (by decide) (Nat.le_of_ble_eq_true rfl) (by rw [hY]; exact pg_g (pg_t2 0 rfl) rfl) rfl (by decide +kernel) rfl rfl (pg_hvi rfl) (pg_si_off S M _ _ _) hdg kk
theorem gfX4_9 (hY : Y.1.cls = RX4) (h : pg_isX4 Λ) (hdg : decode Y.2.1 pc = .ok (.getfield 9, 3)) (kk : pg_At S Λ Y d (pc + 3) ls (.ref (165) :: st) M P) : pg_At S Λ Y d pc ls (.ref (164) :: st) M P :=
  pg_get (T := TX4) (N := 6) (k := 0) h.1 rfl rfl pg_inX4 (by decide) (by rw [hY]; exact pg_g (pg_t1 233 rfl) rfl) hdg kk
theorem gfX5_15 (hY : Y.1.cls = RX5) (h : pg_isX5 Λ a) (hdg : decode Y.2.1 pc = .ok (.getfield 15, 3)) (kk : pg_At S Λ Y d (pc + 3) ls (.ref (a + 2) :: st) M P) : pg_At S Λ Y d pc ls (.ref (a) :: st) M P :=
  pg_get (T := TX5) (N := 16) (k := 1) h.1 rfl rfl pg_inX5 (by decide) (by rw [hY]; exact pg_g (pg_t2 54 rfl) rfl) hdg kk
theorem gfX5_19 (hY : Y.1.cls = RX5) (h : pg_isX5 Λ a) (hdg : decode Y.2.1 pc = .ok (.getfield 19, 3)) (kk : pg_At S Λ Y d (pc + 3) ls (.ref (a + 3) :: st) M P) : pg_At S Λ Y d pc ls (.ref (a) :: st) M P :=
  pg_get (T := TX5) (N := 16) (k := 2) h.1 rfl rfl pg_inX5 (by decide) (by rw [hY]; exact pg_g (pg_t2 57 rfl) rfl) hdg kk
theorem gfX5_22 (hY : Y.1.cls = RX5) (h : pg_isX5 Λ a) (hdg : decode Y.2.1 pc = .ok (.getfield 22, 3)) (kk : pg_At S Λ Y d (pc + 3) ls (.ref (a + 4) :: st) M P) : pg_At S Λ Y d pc ls (.ref (a) :: st) M P :=
  pg_get (T := TX5) (N := 16) (k := 3) h.1 rfl rfl pg_inX5 (by decide) (by rw [hY]; exact pg_g (pg_t2 61 rfl) rfl) hdg kk
theorem gfX5_25 (hY : Y.1.cls = RX5) (h : pg_isX5 Λ a) (hdg : decode Y.2.1 pc = .ok (.getfield 25, 3)) (kk : pg_At S Λ Y d (pc + 3) ls (.ref (a + 5) :: st) M P) : pg_At S Λ Y d pc ls (.ref (a) :: st) M P :=
  pg_get (T := TX5) (N := 16) (k := 4) h.1 rfl rfl pg_inX5 (by decide) (by rw [hY]; exact pg_g (pg_t2 63 rfl) rfl) hdg kk
theorem gfX5_28 (hY : Y.1.cls = RX5) (h : pg_isX5 Λ a) (hdg : decode Y.2.1 pc = .ok (.getfield 28, 3)) (kk : pg_At S Λ Y d (pc + 3) ls (.ref (a + 6) :: st) M P) : pg_At S Λ Y d pc ls (.ref (a) :: st) M P :=
  pg_get (T := TX5) (N := 16) (k := 5) h.1 rfl rfl pg_inX5 (by decide) (by rw [hY]; exact pg_g (pg_t2 66 rfl) rfl) hdg kk
theorem gfX5_34 (hY : Y.1.cls = RX5) (h : pg_isX5 Λ a) (hdg : decode Y.2.1 pc = .ok (.getfield 34, 3)) (kk : pg_At S Λ Y d (pc + 3) ls (.ref (a + 8) :: st) M P) : pg_At S Λ Y d pc ls (.ref (a) :: st) M P :=
  pg_get (T := TX5) (N := 16) (k := 7) h.1 rfl rfl pg_inX5 (by decide) (by rw [hY]; exact pg_g (pg_t2 70 rfl) rfl) hdg kk
theorem gfX5_40 (hY : Y.1.cls = RX5) (h : pg_isX5 Λ a) (hdg : decode Y.2.1 pc = .ok (.getfield 40, 3)) (kk : pg_At S Λ Y d (pc + 3) ls (.ref (a + 9) :: st) M P) : pg_At S Λ Y d pc ls (.ref (a) :: st) M P :=
  pg_get (T := TX5) (N := 16) (k := 8) h.1 rfl rfl pg_inX5 (by decide) (by rw [hY]; exact pg_g (pg_t2 72 rfl) rfl) hdg kk
theorem gfX5_44 (hY : Y.1.cls = RX5) (h : pg_isX5 Λ a) (hdg : decode Y.2.1 pc = .ok (.getfield 44, 3)) (kk : pg_At S Λ Y d (pc + 3) ls (.ref (a + 12) :: st) M P) : pg_At S Λ Y d pc ls (.ref (a) :: st) M P :=
  pg_get (T := TX5) (N := 16) (k := 9) h.1 rfl rfl pg_inX5 (by decide) (by rw [hY]; exact pg_g (pg_t2 74 rfl) rfl) hdg kk
theorem gfX5_56 (hY : Y.1.cls = RX5) (h : pg_isX5 Λ a) (hdg : decode Y.2.1 pc = .ok (.getfield 56, 3)) (kk : pg_At S Λ Y d (pc + 3) ls (.int (M.1 (a) 10) :: st) M P) : pg_At S Λ Y d pc ls (.ref (a) :: st) M P :=
  pg_get (T := TX5) (N := 16) (k := 10) h.1 rfl rfl pg_inX5 (by decide) (by rw [hY]; exact pg_g (pg_t2 78 rfl) rfl) hdg kk
theorem pfX5_56 {v : Int32} (hY : Y.1.cls = RX5) (h : pg_isX5 Λ a) (hdg : decode Y.2.1 pc = .ok (.putfield 56, 3)) (kk : pg_At S Λ Y d (pc + 3) ls st (pg_si M (a) 10 v) P) : pg_At S Λ Y d pc ls (.int v :: .ref (a) :: st) M P :=
  pg_putG (T := TX5) (N := 16) (k := 10) tyX5 (ty := .int) h.1 rfl pg_inX5 tyX5_ok nmX5 (by decide) (Nat.le_of_ble_eq_true rfl) (by rw [hY]; exact pg_g (pg_t2 78 rfl) rfl) rfl (by decide +kernel) rfl rfl (pg_hvi rfl) (pg_si_off S M _ _ _) hdg kk
theorem pfX5_60 {v : Int32} (hY : Y.1.cls = RX5) (h : pg_isX5 Λ a) (hdg : decode Y.2.1 pc = .ok (.putfield 60, 3)) (kk : pg_At S Λ Y d (pc + 3) ls st (pg_si M (a) 11 v) P) : pg_At S Λ Y d pc ls (.int v :: .ref (a) :: st) M P :=
  pg_putG (T := TX5) (N := 16) (k := 11) tyX5 (ty := .int) h.1 rfl pg_inX5 tyX5_ok nmX5 (by decide) (Nat.le_of_ble_eq_true rfl) (by rw [hY]; exact pg_g (pg_t2 82 rfl) rfl) rfl (by decide +kernel) rfl rfl (pg_hvi rfl) (pg_si_off S M _ _ _) hdg kk
theorem gfX5_63 (hY : Y.1.cls = RX5) (h : pg_isX5 Λ a) (hdg : decode Y.2.1 pc = .ok (.getfield 63, 3)) (kk : pg_At S Λ Y d (pc + 3) ls (.int (M.1 (a) 12) :: st) M P) : pg_At S Λ Y d pc ls (.ref (a) :: st) M P :=
  pg_get (T := TX5) (N := 16) (k := 12) h.1 rfl rfl pg_inX5 (by decide) (by rw [hY]; exact pg_g (pg_t2 85 rfl) rfl) hdg kk
theorem pfX5_63 {v : Int32} (hY : Y.1.cls = RX5) (h : pg_isX5 Λ a) (hdg : decode Y.2.1 pc = .ok (.putfield 63, 3)) (kk : pg_At S Λ Y d (pc + 3) ls st (pg_si M (a) 12 v) P) : pg_At S Λ Y d pc ls (.int v :: .ref (a) :: st) M P :=
  pg_putG (T := TX5) (N := 16) (k := 12) tyX5 (ty := .int) h.1 rfl pg_inX5 tyX5_ok nmX5 (by decide) (Nat.le_of_ble_eq_true rfl) (by rw [hY]; exact pg_g (pg_t2 85 rfl) rfl) rfl (by decide +kernel) rfl rfl (pg_hvi rfl) (pg_si_off S M _ _ _) hdg kk
theorem pfX5_66 {v : Int32} (hY : Y.1.cls = RX5) (h : pg_isX5 Λ a) (hdg : decode Y.2.1 pc = .ok (.putfield 66, 3)) (kk : pg_At S Λ Y d (pc + 3) ls st (pg_si M (a) 13 v) P) : pg_At S Λ Y d pc ls (.int v :: .ref (a) :: st) M P :=
  pg_putG (T := TX5) (N := 16) (k := 13) tyX5 (ty := .int) h.1 rfl pg_inX5 tyX5_ok nmX5 (by decide) (Nat.le_of_ble_eq_true rfl) (by rw [hY]; exact pg_g (pg_t2 88 rfl) rfl) rfl (by decide +kernel) rfl rfl (pg_hvi rfl) (pg_si_off S M _ _ _) hdg kk
theorem pfX5_69 {v : Int32} (hY : Y.1.cls = RX5) (h : pg_isX5 Λ a) (hdg : decode Y.2.1 pc = .ok (.putfield 69, 3)) (kk : pg_At S Λ Y d (pc + 3) ls st (pg_si M (a) 14 v) P) : pg_At S Λ Y d pc ls (.int v :: .ref (a) :: st) M P :=
  pg_putG (T := TX5) (N := 16) (k := 14) tyX5 (ty := .int) h.1 rfl pg_inX5 tyX5_ok nmX5 (by decide) (Nat.le_of_ble_eq_true rfl) (by rw [hY]; exact pg_g (pg_t2 93 rfl) rfl) rfl (by decide +kernel) rfl rfl (pg_hvi rfl) (pg_si_off S M _ _ _) hdg kk
theorem gfX5_72 (hY : Y.1.cls = RX5) (h : pg_isX5 Λ a) (hdg : decode Y.2.1 pc = .ok (.getfield 72, 3)) (kk : pg_At S Λ Y d (pc + 3) ls (.int (M.1 (a) 15) :: st) M P) : pg_At S Λ Y d pc ls (.ref (a) :: st) M P :=
  pg_get (T := TX5) (N := 16) (k := 15) h.1 rfl rfl pg_inX5 (by decide) (by rw [hY]; exact pg_g (pg_t2 97 rfl) rfl) hdg kk
theorem pfX5_72 {v : Int32} (hY : Y.1.cls = RX5) (h : pg_isX5 Λ a) (hdg : decode Y.2.1 pc = .ok (.putfield 72, 3)) (kk : pg_At S Λ Y d (pc + 3) ls st (pg_si M (a) 15 v) P) : pg_At S Λ Y d pc ls (.int v :: .ref (a) :: st) M P :=
  pg_putG (T := TX5) (N := 16) (k := 15) tyX5 (ty := .int) h.1 rfl pg_inX5 tyX5_ok nmX5 (by decide) (Nat.le_of_ble_eq_true rfl) (by rw [hY]; exact pg_g (pg_t2 97 rfl) rfl) rfl (by decide +kernel) rfl rfl (pg_hvi rfl) (pg_si_off S M _ _ _) hdg kk
theorem gfX5_9 (hY : Y.1.cls = RX5) (h : pg_isX5 Λ a) (hdg : decode Y.2.1 pc = .ok (.getfield 9, 3)) (kk : pg_At S Λ Y d (pc + 3) ls (.ref (a + 1) :: st) M P) : pg_At S Λ Y d pc ls (.ref (a) :: st) M P :=
  pg_get (T := TX5) (N := 16) (k := 0) h.1 rfl rfl pg_inX5 (by decide) (by rw [hY]; exact pg_g (pg_t2 52 rfl) rfl) hdg kk
theorem gfX6_11 (hY : Y.1.cls = RX6) (h : pg_isX6 Λ) (hdg : decode Y.2.1 pc = .ok (.getfield 11, 3)) (kk : pg_At S Λ Y d (pc + 3) ls (.ref (20) :: st) M P) : pg_At S Λ Y d pc ls (.ref (19) :: st) M P :=
  pg_get (T := TX6) (N := 6) (k := 0) h.1 rfl rfl pg_inX6 (by decide) (by rw [hY]; exact pg_g (pg_t1 153 rfl) rfl) hdg kk
theorem gfX6_17 (hY : Y.1.cls = RX6) (h : pg_isX6 Λ) (hdg : decode Y.2.1 pc = .ok (.getfield 17, 3)) (kk : pg_At S Λ Y d (pc + 3) ls (.ref (21) :: st) M P) : pg_At S Λ Y d pc ls (.ref (19) :: st) M P :=
  pg_get (T := TX6) (N := 6) (k := 1) h.1 rfl rfl pg_inX6 (by decide) (by rw [hY]; exact pg_g (pg_t1 154 rfl) rfl) hdg kk
theorem gfX6_22 (hY : Y.1.cls = RX6) (h : pg_isX6 Λ) (hdg : decode Y.2.1 pc = .ok (.getfield 22, 3)) (kk : pg_At S Λ Y d (pc + 3) ls (.ref (22) :: st) M P) : pg_At S Λ Y d pc ls (.ref (19) :: st) M P :=
  pg_get (T := TX6) (N := 6) (k := 2) h.1 rfl rfl pg_inX6 (by decide) (by rw [hY]; exact pg_g (pg_t1 155 rfl) rfl) hdg kk
theorem gfX6_26 (hY : Y.1.cls = RX6) (h : pg_isX6 Λ) (hdg : decode Y.2.1 pc = .ok (.getfield 26, 3)) (kk : pg_At S Λ Y d (pc + 3) ls (.ref (23) :: st) M P) : pg_At S Λ Y d pc ls (.ref (19) :: st) M P :=
  pg_get (T := TX6) (N := 6) (k := 3) h.1 rfl rfl pg_inX6 (by decide) (by rw [hY]; exact pg_g (pg_t1 156 rfl) rfl) hdg kk
theorem gfX6_32 (hY : Y.1.cls = RX6) (h : pg_isX6 Λ) (hdg : decode Y.2.1 pc = .ok (.getfield 32, 3)) (kk : pg_At S Λ Y d (pc + 3) ls (.int (M.1 (19) 5) :: st) M P) : pg_At S Λ Y d pc ls (.ref (19) :: st) M P :=
  pg_get (T := TX6) (N := 6) (k := 5) h.1 rfl rfl pg_inX6 (by decide) (by rw [hY]; exact pg_g (pg_t1 158 rfl) rfl) hdg kk
theorem pfX6_32 {v : Int32} (hY : Y.1.cls = RX6) (h : pg_isX6 Λ) (hdg : decode Y.2.1 pc = .ok (.putfield 32, 3)) (kk : pg_At S Λ Y d (pc + 3) ls st (pg_si M (19) 5 v) P) : pg_At S Λ Y d pc ls (.int v :: .ref (19) :: st) M P :=
  pg_putG (T := TX6) (N := 6) (k := 5) tyX6 (ty := .int) h.1 rfl pg_inX6 tyX6_ok nmX6 (by decide) (Nat.le_of_ble_eq_true rfl) (by rw [hY]; exact pg_g (pg_t1 158 rfl) rfl) rfl (by decide +kernel) rfl rfl (pg_hvi rfl) (pg_si_off S M _ _ _) hdg kk
theorem gfX6_36 (hY : Y.1.cls = RX6) (h : pg_isX6 Λ) (hdg : decode Y.2.1 pc = .ok (.getfield 36, 3)) (kk : pg_At S Λ Y d (pc + 3) ls (.int (M.1 (19) 4) :: st) M P) : pg_At S Λ Y d pc ls (.ref (19) :: st) M P :=
  pg_get (T := TX6) (N := 6) (k := 4) h.1 rfl rfl pg_inX6 (by decide) (by rw [hY]; exact pg_g (pg_t1 157 rfl) rfl) hdg kk
theorem pfX6_36 {v : Int32} (hY : Y.1.cls = RX6) (h : pg_isX6 Λ) (hdg : decode Y.2.1 pc = .ok (.putfield 36, 3)) (kk : pg_At S Λ Y d (pc + 3) ls st (pg_si M (19) 4 v) P) : pg_At S Λ Y d pc ls (.int v :: .ref (19) :: st) M P :=
  pg_putG (T := TX6) (N := 6) (k := 4) tyX6 (ty := .int) h.1 rfl pg_inX6 tyX6_ok nmX6 (by decide) (Nat.le_of_ble_eq_true rfl) (by rw [hY]; exact pg_g (pg_t1 157 rfl) rfl) rfl (by decide +kernel) rfl rfl (pg_hvi rfl) (pg_si_off S M _ _ _) hdg kk
theorem gfX7_105 (hY : Y.1.cls = RX7) (h : pg_isX5 Λ a) (hdg : decode Y.2.1 pc = .ok (.getfield 105, 3)) (kk : pg_At S Λ Y d (pc + 3) ls (.ref (a + 4) :: st) M P) : pg_At S Λ Y d pc ls (.ref (a) :: st) M P :=
  pg_getN (host := "PegLaws") (T := TX5) (N := 16) (k := 3) h.1 rfl rfl pg_inX5 (by decide) (by rw [hY]; exact pg_t2 62 rfl) hdg kk
theorem gfX7_108 (hY : Y.1.cls = RX7) (h : pg_isX5 Λ a) (hdg : decode Y.2.1 pc = .ok (.getfield 108, 3)) (kk : pg_At S Λ Y d (pc + 3) ls (.ref (a + 5) :: st) M P) : pg_At S Λ Y d pc ls (.ref (a) :: st) M P :=
  pg_getN (host := "PegLaws") (T := TX5) (N := 16) (k := 4) h.1 rfl rfl pg_inX5 (by decide) (by rw [hY]; exact pg_t2 65 rfl) hdg kk
theorem gfX7_130 (hY : Y.1.cls = RX7) (h : pg_isX5 Λ a) (hdg : decode Y.2.1 pc = .ok (.getfield 130, 3)) (kk : pg_At S Λ Y d (pc + 3) ls (.ref (a + 7) :: st) M P) : pg_At S Λ Y d pc ls (.ref (a) :: st) M P :=
  pg_getN (host := "PegLaws") (T := TX5) (N := 16) (k := 6) h.1 rfl rfl pg_inX5 (by decide) (by rw [hY]; exact pg_t2 69 rfl) hdg kk
theorem pfX7_137 {v : Int32} (hY : Y.1.cls = RX7) (h : pg_isX5 Λ a) (hdg : decode Y.2.1 pc = .ok (.putfield 137, 3)) (kk : pg_At S Λ Y d (pc + 3) ls st (pg_si M (a) 11 v) P) : pg_At S Λ Y d pc ls (.int v :: .ref (a) :: st) M P :=
  pg_putGN (host := "PegLaws") (T := TX5) (N := 16) (k := 11) tyX5 (ty := .int) h.1 rfl pg_inX5 tyX5_ok nmX5 (by decide) (Nat.le_of_ble_eq_true rfl) (by rw [hY]; exact pg_t2 84 rfl) rfl (by decide +kernel) rfl rfl (pg_hvi rfl) (pg_si_off S M _ _ _) hdg kk
theorem gfX7_140 (hY : Y.1.cls = RX7) (h : pg_isX5 Λ a) (hdg : decode Y.2.1 pc = .ok (.getfield 140, 3)) (kk : pg_At S Λ Y d (pc + 3) ls (.ref (a + 8) :: st) M P) : pg_At S Λ Y d pc ls (.ref (a) :: st) M P :=
  pg_getN (host := "PegLaws") (T := TX5) (N := 16) (k := 7) h.1 rfl rfl pg_inX5 (by decide) (by rw [hY]; exact pg_t2 71 rfl) hdg kk
theorem pfX7_143 {v : Int32} (hY : Y.1.cls = RX7) (h : pg_isX5 Λ a) (hdg : decode Y.2.1 pc = .ok (.putfield 143, 3)) (kk : pg_At S Λ Y d (pc + 3) ls st (pg_si M (a) 12 v) P) : pg_At S Λ Y d pc ls (.int v :: .ref (a) :: st) M P :=
  pg_putGN (host := "PegLaws") (T := TX5) (N := 16) (k := 12) tyX5 (ty := .int) h.1 rfl pg_inX5 tyX5_ok nmX5 (by decide) (Nat.le_of_ble_eq_true rfl) (by rw [hY]; exact pg_t2 87 rfl) rfl (by decide +kernel) rfl rfl (pg_hvi rfl) (pg_si_off S M _ _ _) hdg kk
theorem pfX7_146 {v : Int32} (hY : Y.1.cls = RX7) (h : pg_isX5 Λ a) (hdg : decode Y.2.1 pc = .ok (.putfield 146, 3)) (kk : pg_At S Λ Y d (pc + 3) ls st (pg_si M (a) 13 v) P) : pg_At S Λ Y d pc ls (.int v :: .ref (a) :: st) M P :=
  pg_putGN (host := "PegLaws") (T := TX5) (N := 16) (k := 13) tyX5 (ty := .int) h.1 rfl pg_inX5 tyX5_ok nmX5 (by decide) (Nat.le_of_ble_eq_true rfl) (by rw [hY]; exact pg_t2 91 rfl) rfl (by decide +kernel) rfl rfl (pg_hvi rfl) (pg_si_off S M _ _ _) hdg kk
theorem pfX7_149 {v : Int32} (hY : Y.1.cls = RX7) (h : pg_isX5 Λ a) (hdg : decode Y.2.1 pc = .ok (.putfield 149, 3)) (kk : pg_At S Λ Y d (pc + 3) ls st (pg_si M (a) 14 v) P) : pg_At S Λ Y d pc ls (.int v :: .ref (a) :: st) M P :=
  pg_putGN (host := "PegLaws") (T := TX5) (N := 16) (k := 14) tyX5 (ty := .int) h.1 rfl pg_inX5 tyX5_ok nmX5 (by decide) (Nat.le_of_ble_eq_true rfl) (by rw [hY]; exact pg_t2 95 rfl) rfl (by decide +kernel) rfl rfl (pg_hvi rfl) (pg_si_off S M _ _ _) hdg kk
theorem gfX7_152 (hY : Y.1.cls = RX7) (h : pg_isX5 Λ a) (hdg : decode Y.2.1 pc = .ok (.getfield 152, 3)) (kk : pg_At S Λ Y d (pc + 3) ls (.ref (a + 9) :: st) M P) : pg_At S Λ Y d pc ls (.ref (a) :: st) M P :=
  pg_getN (host := "PegLaws") (T := TX5) (N := 16) (k := 8) h.1 rfl rfl pg_inX5 (by decide) (by rw [hY]; exact pg_t2 73 rfl) hdg kk
theorem gfX7_163 (hY : Y.1.cls = RX7) (h : pg_isX5 Λ a) (hdg : decode Y.2.1 pc = .ok (.getfield 163, 3)) (kk : pg_At S Λ Y d (pc + 3) ls (.ref (a + 12) :: st) M P) : pg_At S Λ Y d pc ls (.ref (a) :: st) M P :=
  pg_getN (host := "PegLaws") (T := TX5) (N := 16) (k := 9) h.1 rfl rfl pg_inX5 (by decide) (by rw [hY]; exact pg_t2 75 rfl) hdg kk
theorem gfX7_169 (hY : Y.1.cls = RX7) (h : pg_isX1 Λ a) (hdg : decode Y.2.1 pc = .ok (.getfield 169, 3)) (kk : pg_At S Λ Y d (pc + 3) ls (.int (M.1 (a) 3) :: st) M P) : pg_At S Λ Y d pc ls (.ref (a) :: st) M P :=
  pg_getN (host := "PegLaws") (T := TX1) (N := 6) (k := 3) h.1 rfl rfl pg_inX1 (by decide) (by rw [hY]; exact pg_t2 142 rfl) hdg kk
theorem gfX7_17 (hY : Y.1.cls = RX7) (h : pg_isX7 Λ) (hdg : decode Y.2.1 pc = .ok (.getfield 17, 3)) (kk : pg_At S Λ Y d (pc + 3) ls (.int (M.1 (1) 1) :: st) M P) : pg_At S Λ Y d pc ls (.ref (1) :: st) M P :=
  pg_get (T := TX7) (N := 10) (k := 1) h.1 rfl rfl pg_inX7 (by decide) (by rw [hY]; exact pg_g (pg_t1 42 rfl) rfl) hdg kk
theorem pfX7_17 {v : Int32} (hY : Y.1.cls = RX7) (h : pg_isX7 Λ) (hdg : decode Y.2.1 pc = .ok (.putfield 17, 3)) (kk : pg_At S Λ Y d (pc + 3) ls st (pg_si M (1) 1 v) P) : pg_At S Λ Y d pc ls (.int v :: .ref (1) :: st) M P :=
  pg_putG (T := TX7) (N := 10) (k := 1) tyX7 (ty := .int) h.1 rfl pg_inX7 tyX7_ok nmX7 (by decide) (Nat.le_of_ble_eq_true rfl) (by rw [hY]; exact pg_g (pg_t1 42 rfl) rfl) rfl (by decide +kernel) rfl rfl (pg_hvi rfl) (pg_si_off S M _ _ _) hdg kk
theorem gfX7_194 (hY : Y.1.cls = RX7) (h : pg_isX7 Λ) (hdg : decode Y.2.1 pc = .ok (.getfield 194, 3)) (kk : pg_At S Λ Y d (pc + 3) ls (.int (M.1 (1) 5) :: st) M P) : pg_At S Λ Y d pc ls (.ref (1) :: st) M P :=
  pg_get (T := TX7) (N := 10) (k := 5) h.1 rfl rfl pg_inX7 (by decide) (by rw [hY]; exact pg_g (pg_t1 46 rfl) rfl) hdg kk
theorem pfX7_194 {v : Int32} (hY : Y.1.cls = RX7) (h : pg_isX7 Λ) (hdg : decode Y.2.1 pc = .ok (.putfield 194, 3)) (kk : pg_At S Λ Y d (pc + 3) ls st (pg_si M (1) 5 v) P) : pg_At S Λ Y d pc ls (.int v :: .ref (1) :: st) M P :=
  pg_putG (T := TX7) (N := 10) (k := 5) tyX7 (ty := .int) h.1 rfl pg_inX7 tyX7_ok nmX7 (by decide) (Nat.le_of_ble_eq_true rfl) (by rw [hY]; exact pg_g (pg_t1 46 rfl) rfl) rfl (by decide +kernel) rfl rfl (pg_hvi rfl) (pg_si_off S M _ _ _) hdg kk
theorem gfX7_197 (hY : Y.1.cls = RX7) (h : pg_isX7 Λ) (hdg : decode Y.2.1 pc = .ok (.getfield 197, 3)) (kk : pg_At S Λ Y d (pc + 3) ls (.int (M.1 (1) 2) :: st) M P) : pg_At S Λ Y d pc ls (.ref (1) :: st) M P :=
  pg_get (T := TX7) (N := 10) (k := 2) h.1 rfl rfl pg_inX7 (by decide) (by rw [hY]; exact pg_g (pg_t1 43 rfl) rfl) hdg kk
theorem pfX7_197 {v : Int32} (hY : Y.1.cls = RX7) (h : pg_isX7 Λ) (hdg : decode Y.2.1 pc = .ok (.putfield 197, 3)) (kk : pg_At S Λ Y d (pc + 3) ls st (pg_si M (1) 2 v) P) : pg_At S Λ Y d pc ls (.int v :: .ref (1) :: st) M P :=
  pg_putG (T := TX7) (N := 10) (k := 2) tyX7 (ty := .int) h.1 rfl pg_inX7 tyX7_ok nmX7 (by decide) (Nat.le_of_ble_eq_true rfl) (by rw [hY]; exact pg_g (pg_t1 43 rfl) rfl) rfl (by decide +kernel) rfl rfl (pg_hvi rfl) (pg_si_off S M _ _ _) hdg kk
theorem gfX7_26 (hY : Y.1.cls = RX7) (h : pg_isX7 Λ) (hdg : decode Y.2.1 pc = .ok (.getfield 26, 3)) (kk : pg_At S Λ Y d (pc + 3) ls (.int (M.1 (1) 8) :: st) M P) : pg_At S Λ Y d pc ls (.ref (1) :: st) M P :=
  pg_get (T := TX7) (N := 10) (k := 8) h.1 rfl rfl pg_inX7 (by decide) (by rw [hY]; exact pg_g (pg_t1 49 rfl) rfl) hdg kk
theorem pfX7_26 {v : Int32} (hY : Y.1.cls = RX7) (h : pg_isX7 Λ) (hdg : decode Y.2.1 pc = .ok (.putfield 26, 3)) (kk : pg_At S Λ Y d (pc + 3) ls st (pg_si M (1) 8 v) P) : pg_At S Λ Y d pc ls (.int v :: .ref (1) :: st) M P :=
  pg_putG (T := TX7) (N := 10) (k := 8) tyX7 (ty := .int) h.1 rfl pg_inX7 tyX7_ok nmX7 (by decide) (Nat.le_of_ble_eq_true rfl) (by rw [hY]; exact pg_g (pg_t1 49 rfl) rfl) rfl (by decide +kernel) rfl rfl (pg_hvi rfl) (pg_si_off S M _ _ _) hdg kk
theorem gfX7_32 (hY : Y.1.cls = RX7) (h : pg_isX7 Λ) (hdg : decode Y.2.1 pc = .ok (.getfield 32, 3)) (kk : pg_At S Λ Y d (pc + 3) ls (.int (M.1 (1) 9) :: st) M P) : pg_At S Λ Y d pc ls (.ref (1) :: st) M P :=
  pg_get (T := TX7) (N := 10) (k := 9) h.1 rfl rfl pg_inX7 (by decide) (by rw [hY]; exact pg_g (pg_t1 50 rfl) rfl) hdg kk
theorem pfX7_32 {v : Int32} (hY : Y.1.cls = RX7) (h : pg_isX7 Λ) (hdg : decode Y.2.1 pc = .ok (.putfield 32, 3)) (kk : pg_At S Λ Y d (pc + 3) ls st (pg_si M (1) 9 v) P) : pg_At S Λ Y d pc ls (.int v :: .ref (1) :: st) M P :=
  pg_putG (T := TX7) (N := 10) (k := 9) tyX7 (ty := .int) h.1 rfl pg_inX7 tyX7_ok nmX7 (by decide) (Nat.le_of_ble_eq_true rfl) (by rw [hY]; exact pg_g (pg_t1 50 rfl) rfl) rfl (by decide +kernel) rfl rfl (pg_hvi rfl) (pg_si_off S M _ _ _) hdg kk
theorem gfX7_35 (hY : Y.1.cls = RX7) (h : pg_isX7 Λ) (hdg : decode Y.2.1 pc = .ok (.getfield 35, 3)) (kk : pg_At S Λ Y d (pc + 3) ls (.int (M.1 (1) 4) :: st) M P) : pg_At S Λ Y d pc ls (.ref (1) :: st) M P :=
  pg_get (T := TX7) (N := 10) (k := 4) h.1 rfl rfl pg_inX7 (by decide) (by rw [hY]; exact pg_g (pg_t1 45 rfl) rfl) hdg kk
theorem pfX7_35 {v : Int32} (hY : Y.1.cls = RX7) (h : pg_isX7 Λ) (hdg : decode Y.2.1 pc = .ok (.putfield 35, 3)) (kk : pg_At S Λ Y d (pc + 3) ls st (pg_si M (1) 4 v) P) : pg_At S Λ Y d pc ls (.int v :: .ref (1) :: st) M P :=
  pg_putG (T := TX7) (N := 10) (k := 4) tyX7 (ty := .int) h.1 rfl pg_inX7 tyX7_ok nmX7 (by decide) (Nat.le_of_ble_eq_true rfl) (by rw [hY]; exact pg_g (pg_t1 45 rfl) rfl) rfl (by decide +kernel) rfl rfl (pg_hvi rfl) (pg_si_off S M _ _ _) hdg kk
theorem gfX7_49 (hY : Y.1.cls = RX7) (h : pg_isX7 Λ) (hdg : decode Y.2.1 pc = .ok (.getfield 49, 3)) (kk : pg_At S Λ Y d (pc + 3) ls (.int (M.1 (1) 3) :: st) M P) : pg_At S Λ Y d pc ls (.ref (1) :: st) M P :=
  pg_get (T := TX7) (N := 10) (k := 3) h.1 rfl rfl pg_inX7 (by decide) (by rw [hY]; exact pg_g (pg_t1 44 rfl) rfl) hdg kk
theorem pfX7_49 {v : Int32} (hY : Y.1.cls = RX7) (h : pg_isX7 Λ) (hdg : decode Y.2.1 pc = .ok (.putfield 49, 3)) (kk : pg_At S Λ Y d (pc + 3) ls st (pg_si M (1) 3 v) P) : pg_At S Λ Y d pc ls (.int v :: .ref (1) :: st) M P :=
  pg_putG (T := TX7) (N := 10) (k := 3) tyX7 (ty := .int) h.1 rfl pg_inX7 tyX7_ok nmX7 (by decide) (Nat.le_of_ble_eq_true rfl) (by rw [hY]; exact pg_g (pg_t1 44 rfl) rfl) rfl (by decide +kernel) rfl rfl (pg_hvi rfl) (pg_si_off S M _ _ _) hdg kk
theorem gfX7_55 (hY : Y.1.cls = RX7) (h : pg_isX7 Λ) (hdg : decode Y.2.1 pc = .ok (.getfield 55, 3)) (kk : pg_At S Λ Y d (pc + 3) ls (.int (M.1 (1) 7) :: st) M P) : pg_At S Λ Y d pc ls (.ref (1) :: st) M P :=
  pg_get (T := TX7) (N := 10) (k := 7) h.1 rfl rfl pg_inX7 (by decide) (by rw [hY]; exact pg_g (pg_t1 48 rfl) rfl) hdg kk
theorem pfX7_55 {v : Int32} (hY : Y.1.cls = RX7) (h : pg_isX7 Λ) (hdg : decode Y.2.1 pc = .ok (.putfield 55, 3)) (kk : pg_At S Λ Y d (pc + 3) ls st (pg_si M (1) 7 v) P) : pg_At S Λ Y d pc ls (.int v :: .ref (1) :: st) M P :=
  pg_putG (T := TX7) (N := 10) (k := 7) tyX7 (ty := .int) h.1 rfl pg_inX7 tyX7_ok nmX7 (by decide) (Nat.le_of_ble_eq_true rfl) (by rw [hY]; exact pg_g (pg_t1 48 rfl) rfl) rfl (by decide +kernel) rfl rfl (pg_hvi rfl) (pg_si_off S M _ _ _) hdg kk
theorem gfX7_75 (hY : Y.1.cls = RX7) (h : pg_isX5 Λ a) (hdg : decode Y.2.1 pc = .ok (.getfield 75, 3)) (kk : pg_At S Λ Y d (pc + 3) ls (.int (M.1 (a) 10) :: st) M P) : pg_At S Λ Y d pc ls (.ref (a) :: st) M P :=
  pg_getN (host := "PegLaws") (T := TX5) (N := 16) (k := 10) h.1 rfl rfl pg_inX5 (by decide) (by rw [hY]; exact pg_t2 80 rfl) hdg kk
theorem pfX7_75 {v : Int32} (hY : Y.1.cls = RX7) (h : pg_isX5 Λ a) (hdg : decode Y.2.1 pc = .ok (.putfield 75, 3)) (kk : pg_At S Λ Y d (pc + 3) ls st (pg_si M (a) 10 v) P) : pg_At S Λ Y d pc ls (.int v :: .ref (a) :: st) M P :=
  pg_putGN (host := "PegLaws") (T := TX5) (N := 16) (k := 10) tyX5 (ty := .int) h.1 rfl pg_inX5 tyX5_ok nmX5 (by decide) (Nat.le_of_ble_eq_true rfl) (by rw [hY]; exact pg_t2 80 rfl) rfl (by decide +kernel) rfl rfl (pg_hvi rfl) (pg_si_off S M _ _ _) hdg kk
theorem gfX7_82 (hY : Y.1.cls = RX7) (h : pg_isX7 Λ) (hdg : decode Y.2.1 pc = .ok (.getfield 82, 3)) (kk : pg_At S Λ Y d (pc + 3) ls (.long (M.2.1 (1) 6) :: st) M P) : pg_At S Λ Y d pc ls (.ref (1) :: st) M P :=
  pg_get (T := TX7) (N := 10) (k := 6) h.1 rfl rfl pg_inX7 (by decide) (by rw [hY]; exact pg_g (pg_t1 47 rfl) rfl) hdg kk
theorem pfX7_82 {v : Int64} (hY : Y.1.cls = RX7) (h : pg_isX7 Λ) (hdg : decode Y.2.1 pc = .ok (.putfield 82, 3)) (kk : pg_At S Λ Y d (pc + 3) ls st (pg_sj M (1) 6 v) P) : pg_At S Λ Y d pc ls (.long v :: .ref (1) :: st) M P :=
  pg_putG (T := TX7) (N := 10) (k := 6) tyX7 (ty := .long) h.1 rfl pg_inX7 tyX7_ok nmX7 (by decide) (Nat.le_of_ble_eq_true rfl) (by rw [hY]; exact pg_g (pg_t1 47 rfl) rfl) rfl (by decide +kernel) rfl rfl (pg_hvj rfl) (pg_sj_off S M _ _ _) hdg kk
theorem gfX7_9 (hY : Y.1.cls = RX7) (h : pg_isX7 Λ) (hdg : decode Y.2.1 pc = .ok (.getfield 9, 3)) (kk : pg_At S Λ Y d (pc + 3) ls (.ref (2) :: st) M P) : pg_At S Λ Y d pc ls (.ref (1) :: st) M P :=
  pg_get (T := TX7) (N := 10) (k := 0) h.1 rfl rfl pg_inX7 (by decide) (by rw [hY]; exact pg_g (pg_t1 40 rfl) rfl) hdg kk
theorem gfX7_90 (hY : Y.1.cls = RX7) (h : pg_isX5 Λ a) (hdg : decode Y.2.1 pc = .ok (.getfield 90, 3)) (kk : pg_At S Λ Y d (pc + 3) ls (.ref (a + 1) :: st) M P) : pg_At S Λ Y d pc ls (.ref (a) :: st) M P :=
  pg_getN (host := "PegLaws") (T := TX5) (N := 16) (k := 0) h.1 rfl rfl pg_inX5 (by decide) (by rw [hY]; exact pg_t2 53 rfl) hdg kk
theorem gfX7_94 (hY : Y.1.cls = RX7) (h : pg_isX5 Λ a) (hdg : decode Y.2.1 pc = .ok (.getfield 94, 3)) (kk : pg_At S Λ Y d (pc + 3) ls (.ref (a + 2) :: st) M P) : pg_At S Λ Y d pc ls (.ref (a) :: st) M P :=
  pg_getN (host := "PegLaws") (T := TX5) (N := 16) (k := 1) h.1 rfl rfl pg_inX5 (by decide) (by rw [hY]; exact pg_t2 56 rfl) hdg kk
theorem gfX7_98 (hY : Y.1.cls = RX7) (h : pg_isX5 Λ a) (hdg : decode Y.2.1 pc = .ok (.getfield 98, 3)) (kk : pg_At S Λ Y d (pc + 3) ls (.ref (a + 3) :: st) M P) : pg_At S Λ Y d pc ls (.ref (a) :: st) M P :=
  pg_getN (host := "PegLaws") (T := TX5) (N := 16) (k := 2) h.1 rfl rfl pg_inX5 (by decide) (by rw [hY]; exact pg_t2 59 rfl) hdg kk
theorem gfX8_15 (hY : Y.1.cls = RX8) (h : pg_isX8 Λ a) (hdg : decode Y.2.1 pc = .ok (.getfield 15, 3)) (kk : pg_At S Λ Y d (pc + 3) ls (.ref (a + 2) :: st) M P) : pg_At S Λ Y d pc ls (.ref (a) :: st) M P :=
  pg_get (T := TX8) (N := 3) (k := 1) h.1 rfl rfl pg_inX8 (by decide) (by rw [hY]; exact pg_g (pg_t2 28 rfl) rfl) hdg kk
theorem gfX8_18 (hY : Y.1.cls = RX8) (h : pg_isX8 Λ a) (hdg : decode Y.2.1 pc = .ok (.getfield 18, 3)) (kk : pg_At S Λ Y d (pc + 3) ls (.int (M.1 (a) 2) :: st) M P) : pg_At S Λ Y d pc ls (.ref (a) :: st) M P :=
  pg_get (T := TX8) (N := 3) (k := 2) h.1 rfl rfl pg_inX8 (by decide) (by rw [hY]; exact pg_g (pg_t2 29 rfl) rfl) hdg kk
theorem pfX8_18 {v : Int32} (hY : Y.1.cls = RX8) (h : pg_isX8 Λ a) (hdg : decode Y.2.1 pc = .ok (.putfield 18, 3)) (kk : pg_At S Λ Y d (pc + 3) ls st (pg_si M (a) 2 v) P) : pg_At S Λ Y d pc ls (.int v :: .ref (a) :: st) M P :=
  pg_putG (T := TX8) (N := 3) (k := 2) tyX8 (ty := .int) h.1 rfl pg_inX8 tyX8_ok nmX8 (by decide) (Nat.le_of_ble_eq_true rfl) (by rw [hY]; exact pg_g (pg_t2 29 rfl) rfl) rfl (by decide +kernel) rfl rfl (pg_hvi rfl) (pg_si_off S M _ _ _) hdg kk
theorem gfX8_9 (hY : Y.1.cls = RX8) (h : pg_isX8 Λ a) (hdg : decode Y.2.1 pc = .ok (.getfield 9, 3)) (kk : pg_At S Λ Y d (pc + 3) ls (.ref (a + 1) :: st) M P) : pg_At S Λ Y d pc ls (.ref (a) :: st) M P :=
  pg_get (T := TX8) (N := 3) (k := 0) h.1 rfl rfl pg_inX8 (by decide) (by rw [hY]; exact pg_g (pg_t2 27 rfl) rfl) hdg kk
theorem gfX9_134 (hY : Y.1.cls = RX9) (h : pg_isX5 Λ a) (hdg : decode Y.2.1 pc = .ok (.getfield 134, 3)) (kk : pg_At S Λ Y d (pc + 3) ls (.ref (a + 3) :: st) M P) : pg_At S Λ Y d pc ls (.ref (a) :: st) M P :=
  pg_getN (host := "PegLaws") (T := TX5) (N := 16) (k := 2) h.1 rfl rfl pg_inX5 (by decide) (by rw [hY]; exact pg_t2 60 rfl) hdg kk
theorem gfX9_15 (hY : Y.1.cls = RX9) (h : pg_isX9 Λ a) (hdg : decode Y.2.1 pc = .ok (.getfield 15, 3)) (kk : pg_At S Λ Y d (pc + 3) ls (.ref (a + 2) :: st) M P) : pg_At S Λ Y d pc ls (.ref (a) :: st) M P :=
  pg_get (T := TX9) (N := 6) (k := 1) h.1 rfl rfl pg_inX9 (by decide) (by rw [hY]; exact pg_g (pg_t1 83 rfl) rfl) hdg kk
theorem gfX9_18 (hY : Y.1.cls = RX9) (h : pg_isX9 Λ a) (hdg : decode Y.2.1 pc = .ok (.getfield 18, 3)) (kk : pg_At S Λ Y d (pc + 3) ls (.ref (a + 3) :: st) M P) : pg_At S Λ Y d pc ls (.ref (a) :: st) M P :=
  pg_get (T := TX9) (N := 6) (k := 2) h.1 rfl rfl pg_inX9 (by decide) (by rw [hY]; exact pg_g (pg_t1 87 rfl) rfl) hdg kk
theorem gfX9_21 (hY : Y.1.cls = RX9) (h : pg_isX9 Λ a) (hdg : decode Y.2.1 pc = .ok (.getfield 21, 3)) (kk : pg_At S Λ Y d (pc + 3) ls (.ref (a + 4) :: st) M P) : pg_At S Λ Y d pc ls (.ref (a) :: st) M P :=
  pg_get (T := TX9) (N := 6) (k := 3) h.1 rfl rfl pg_inX9 (by decide) (by rw [hY]; exact pg_g (pg_t1 91 rfl) rfl) hdg kk
theorem gfX9_30 (hY : Y.1.cls = RX9) (h : pg_isX5 Λ a) (hdg : decode Y.2.1 pc = .ok (.getfield 30, 3)) (kk : pg_At S Λ Y d (pc + 3) ls (.ref (a + 7) :: st) M P) : pg_At S Λ Y d pc ls (.ref (a) :: st) M P :=
  pg_getN (host := "PegLaws") (T := TX5) (N := 16) (k := 6) h.1 rfl rfl pg_inX5 (by decide) (by rw [hY]; exact pg_t2 68 rfl) hdg kk
theorem gfX9_39 (hY : Y.1.cls = RX9) (h : pg_isX5 Λ a) (hdg : decode Y.2.1 pc = .ok (.getfield 39, 3)) (kk : pg_At S Λ Y d (pc + 3) ls (.int (M.1 (a) 11) :: st) M P) : pg_At S Λ Y d pc ls (.ref (a) :: st) M P :=
  pg_getN (host := "PegLaws") (T := TX5) (N := 16) (k := 11) h.1 rfl rfl pg_inX5 (by decide) (by rw [hY]; exact pg_t2 83 rfl) hdg kk
theorem gfX9_43 (hY : Y.1.cls = RX9) (h : pg_isX9 Λ a) (hdg : decode Y.2.1 pc = .ok (.getfield 43, 3)) (kk : pg_At S Λ Y d (pc + 3) ls (.int (M.1 (a) 4) :: st) M P) : pg_At S Λ Y d pc ls (.ref (a) :: st) M P :=
  pg_get (T := TX9) (N := 6) (k := 4) h.1 rfl rfl pg_inX9 (by decide) (by rw [hY]; exact pg_g (pg_t1 94 rfl) rfl) hdg kk
theorem pfX9_43 {v : Int32} (hY : Y.1.cls = RX9) (h : pg_isX9 Λ a) (hdg : decode Y.2.1 pc = .ok (.putfield 43, 3)) (kk : pg_At S Λ Y d (pc + 3) ls st (pg_si M (a) 4 v) P) : pg_At S Λ Y d pc ls (.int v :: .ref (a) :: st) M P :=
  pg_putG (T := TX9) (N := 6) (k := 4) tyX9 (ty := .int) h.1 rfl pg_inX9 tyX9_ok nmX9 (by decide) (Nat.le_of_ble_eq_true rfl) (by rw [hY]; exact pg_g (pg_t1 94 rfl) rfl) rfl (by decide +kernel) rfl rfl (pg_hvi rfl) (pg_si_off S M _ _ _) hdg kk
theorem gfX9_44 (hY : Y.1.cls = RX9) (h : pg_isX9 Λ a) (hdg : decode Y.2.1 pc = .ok (.getfield 44, 3)) (kk : pg_At S Λ Y d (pc + 3) ls (.int (M.1 (a) 5) :: st) M P) : pg_At S Λ Y d pc ls (.ref (a) :: st) M P :=
  pg_get (T := TX9) (N := 6) (k := 5) h.1 rfl rfl pg_inX9 (by decide) (by rw [hY]; exact pg_g (pg_t1 97 rfl) rfl) hdg kk
theorem pfX9_44 {v : Int32} (hY : Y.1.cls = RX9) (h : pg_isX9 Λ a) (hdg : decode Y.2.1 pc = .ok (.putfield 44, 3)) (kk : pg_At S Λ Y d (pc + 3) ls st (pg_si M (a) 5 v) P) : pg_At S Λ Y d pc ls (.int v :: .ref (a) :: st) M P :=
  pg_putG (T := TX9) (N := 6) (k := 5) tyX9 (ty := .int) h.1 rfl pg_inX9 tyX9_ok nmX9 (by decide) (Nat.le_of_ble_eq_true rfl) (by rw [hY]; exact pg_g (pg_t1 97 rfl) rfl) rfl (by decide +kernel) rfl rfl (pg_hvi rfl) (pg_si_off S M _ _ _) hdg kk
theorem gfX9_56 (hY : Y.1.cls = RX9) (h : pg_isX5 Λ a) (hdg : decode Y.2.1 pc = .ok (.getfield 56, 3)) (kk : pg_At S Λ Y d (pc + 3) ls (.int (M.1 (a) 10) :: st) M P) : pg_At S Λ Y d pc ls (.ref (a) :: st) M P :=
  pg_getN (host := "PegLaws") (T := TX5) (N := 16) (k := 10) h.1 rfl rfl pg_inX5 (by decide) (by rw [hY]; exact pg_t2 79 rfl) hdg kk
theorem gfX9_78 (hY : Y.1.cls = RX9) (h : pg_isX5 Λ a) (hdg : decode Y.2.1 pc = .ok (.getfield 78, 3)) (kk : pg_At S Λ Y d (pc + 3) ls (.int (M.1 (a) 13) :: st) M P) : pg_At S Λ Y d pc ls (.ref (a) :: st) M P :=
  pg_getN (host := "PegLaws") (T := TX5) (N := 16) (k := 13) h.1 rfl rfl pg_inX5 (by decide) (by rw [hY]; exact pg_t2 90 rfl) hdg kk
theorem gfX9_9 (hY : Y.1.cls = RX9) (h : pg_isX9 Λ a) (hdg : decode Y.2.1 pc = .ok (.getfield 9, 3)) (kk : pg_At S Λ Y d (pc + 3) ls (.ref (a + 1) :: st) M P) : pg_At S Λ Y d pc ls (.ref (a) :: st) M P :=
  pg_get (T := TX9) (N := 6) (k := 0) h.1 rfl rfl pg_inX9 (by decide) (by rw [hY]; exact pg_g (pg_t1 79 rfl) rfl) hdg kk
end PGF
end
section
theorem pg_p1 {q : MethodName × Nat} (n : Nat) (h : lw_privs_1[n]? = some q) : q ∈ lw_privs := List.mem_append_left _ (List.mem_of_getElem? (i := n) h)
theorem pg_p2 {q : MethodName × Nat} (n : Nat) (h : lw_privs_2[n]? = some q) : q ∈ lw_privs := List.mem_append_right _ (List.mem_append_left _ (List.mem_of_getElem? (i := n) h))
theorem pg_p3 {q : MethodName × Nat} (n : Nat) (h : lw_privs_3[n]? = some q) : q ∈ lw_privs := List.mem_append_right _ (List.mem_append_right _ (List.mem_append_left _ (List.mem_of_getElem? (i := n) h)))
theorem pg_p4 {q : MethodName × Nat} (n : Nat) (h : lw_privs_4[n]? = some q) : q ∈ lw_privs := List.mem_append_right _ (List.mem_append_right _ (List.mem_append_right _ (List.mem_append_left _ (List.mem_of_getElem? (i := n) h))))
theorem pg_p5 {q : MethodName × Nat} (n : Nat) (h : lw_privs_5[n]? = some q) : q ∈ lw_privs := List.mem_append_right _ (List.mem_append_right _ (List.mem_append_right _ (List.mem_append_right _ (List.mem_append_left _ (List.mem_of_getElem? (i := n) h)))))
theorem pg_p6 {q : MethodName × Nat} (n : Nat) (h : lw_privs_6[n]? = some q) : q ∈ lw_privs := List.mem_append_right _ (List.mem_append_right _ (List.mem_append_right _ (List.mem_append_right _ (List.mem_append_right _ (List.mem_append_left _ (List.mem_of_getElem? (i := n) h))))))
theorem pg_p7 {q : MethodName × Nat} (n : Nat) (h : lw_privs_7[n]? = some q) : q ∈ lw_privs := List.mem_append_right _ (List.mem_append_right _ (List.mem_append_right _ (List.mem_append_right _ (List.mem_append_right _ (List.mem_append_right _ (List.mem_append_left _ (List.mem_of_getElem? (i := n) h)))))))
theorem pg_p8 {q : MethodName × Nat} (n : Nat) (h : lw_privs_8[n]? = some q) : q ∈ lw_privs := List.mem_append_right _ (List.mem_append_right _ (List.mem_append_right _ (List.mem_append_right _ (List.mem_append_right _ (List.mem_append_right _ (List.mem_append_right _ (List.mem_of_getElem? (i := n) h)))))))
theorem okX0_millionths : pg_okV YX0_millionths := ⟨pg_g (pg_t5 55 rfl) rfl, pg_g (pg_t5 56 rfl) rfl, pg_g (pg_t1 7 rfl) rfl, pg_g (pg_t5 57 rfl) rfl, by decide, by decide, by decide⟩
theorem okX0_goOn : pg_okV YX0_goOn := ⟨pg_g (pg_t5 62 rfl) rfl, pg_g (pg_sel (q := (yX0_goOn, 2)) (pg_p3 3 rfl)) rfl, pg_g (pg_t1 7 rfl) rfl, pg_g (pg_t5 63 rfl) rfl, by decide, by decide, by decide⟩
theorem okX1_clear : pg_okV YX1_clear := ⟨pg_g (pg_t3 209 rfl) rfl, pg_g (pg_t3 210 rfl) rfl, pg_g (pg_t1 12 rfl) rfl, pg_g (pg_t3 211 rfl) rfl, by decide, by decide, by decide⟩
theorem okX1_add : pg_okV YX1_add := ⟨pg_g (pg_t3 239 rfl) rfl, pg_g (pg_t4 0 rfl) rfl, pg_g (pg_t1 12 rfl) rfl, pg_g (pg_t4 1 rfl) rfl, by decide, by decide, by decide⟩
theorem okX1_judge : pg_okV YX1_judge := ⟨pg_g (pg_t4 187 rfl) rfl, pg_g (pg_t4 188 rfl) rfl, pg_g (pg_t1 12 rfl) rfl, pg_g (pg_t4 189 rfl) rfl, by decide, by decide, by decide⟩
theorem okX1_canDo : pg_okV YX1_canDo := ⟨pg_g (pg_t4 194 rfl) rfl, pg_g (pg_sel (q := (yX1_canDo, 6)) (pg_p2 10 rfl)) rfl, pg_g (pg_t1 12 rfl) rfl, pg_g (pg_t4 195 rfl) rfl, by decide, by decide, by decide⟩
theorem okX2_clear : pg_okV YX2_clear := ⟨pg_g (pg_t3 213 rfl) rfl, pg_g (pg_t3 214 rfl) rfl, pg_g (pg_t1 4 rfl) rfl, pg_g (pg_t3 215 rfl) rfl, by decide, by decide, by decide⟩
theorem okX2_copyFrom : pg_okV YX2_copyFrom := ⟨pg_g (pg_t5 183 rfl) rfl, pg_g (pg_t5 184 rfl) rfl, pg_g (pg_t1 4 rfl) rfl, pg_g (pg_t5 185 rfl) rfl, by decide, by decide, by decide⟩
theorem okX2_add : pg_okV YX2_add := ⟨pg_g (pg_t5 107 rfl) rfl, pg_g (pg_t5 108 rfl) rfl, pg_g (pg_t1 4 rfl) rfl, pg_g (pg_t5 109 rfl) rfl, by decide, by decide, by decide⟩
theorem okX2_startBits : pg_okV YX2_startBits := ⟨pg_g (pg_t5 115 rfl) rfl, pg_g (pg_t5 116 rfl) rfl, pg_g (pg_t1 4 rfl) rfl, pg_g (pg_t5 117 rfl) rfl, by decide, by decide, by decide⟩
theorem okX2_allSo : pg_okV YX2_allSo := ⟨pg_g (pg_t5 120 rfl) rfl, pg_g (pg_sel (q := (yX2_allSo, 6)) (pg_p3 8 rfl)) rfl, pg_g (pg_t1 4 rfl) rfl, pg_g (pg_t5 121 rfl) rfl, by decide, by decide, by decide⟩
theorem okX2_bestHours : pg_okV YX2_bestHours := ⟨pg_g (pg_t5 129 rfl) rfl, pg_g (pg_t5 130 rfl) rfl, pg_g (pg_t1 4 rfl) rfl, pg_g (pg_t5 131 rfl) rfl, by decide, by decide, by decide⟩
theorem okX2_mostAlike : pg_okV YX2_mostAlike := ⟨pg_g (pg_t5 137 rfl) rfl, pg_g (pg_sel (q := (yX2_mostAlike, 6)) (pg_p3 9 rfl)) rfl, pg_g (pg_t1 4 rfl) rfl, pg_g (pg_t5 138 rfl) rfl, by decide, by decide, by decide⟩
theorem okX3_plan : pg_okV YX3_plan := ⟨pg_g (pg_t4 237 rfl) rfl, pg_g (pg_t4 238 rfl) rfl, pg_g (pg_t1 6 rfl) rfl, pg_g (pg_t4 239 rfl) rfl, by decide, by decide, by decide⟩
theorem okX3_chooseFor : pg_okV YX3_chooseFor := ⟨pg_g (pg_t5 2 rfl) rfl, pg_g (pg_sel (q := (yX3_chooseFor, 10)) (pg_p2 11 rfl)) rfl, pg_g (pg_t1 6 rfl) rfl, pg_g (pg_t5 3 rfl) rfl, by decide, by decide, by decide⟩
theorem okX3_mostPull : pg_okS YX3_mostPull := ⟨pg_g (pg_t5 7 rfl) rfl, pg_g (pg_t1 6 rfl) rfl, pg_g (pg_t5 8 rfl) rfl, by decide, by decide, by decide⟩
theorem okX3_holdSet : pg_okV YX3_holdSet := ⟨pg_g (pg_t5 20 rfl) rfl, pg_g (pg_sel (q := (yX3_holdSet, 10)) (pg_p2 12 rfl)) rfl, pg_g (pg_t1 6 rfl) rfl, pg_g (pg_t5 21 rfl) rfl, by decide, by decide, by decide⟩
theorem okX3_holdMore : pg_okV YX3_holdMore := ⟨pg_g (pg_t5 32 rfl) rfl, pg_g (pg_sel (q := (yX3_holdMore, 10)) (pg_p2 14 rfl)) rfl, pg_g (pg_t1 6 rfl) rfl, pg_g (pg_t5 33 rfl) rfl, by decide, by decide, by decide⟩
theorem okX3_holdsBy : pg_okV YX3_holdsBy := ⟨pg_g (pg_t5 28 rfl) rfl, pg_g (pg_sel (q := (yX3_holdsBy, 10)) (pg_p2 13 rfl)) rfl, pg_g (pg_t1 6 rfl) rfl, pg_g (pg_t5 29 rfl) rfl, by decide, by decide, by decide⟩
theorem okX3_layRow : pg_okV YX3_layRow := ⟨pg_g (pg_t5 36 rfl) rfl, pg_g (pg_sel (q := (yX3_layRow, 10)) (pg_p2 15 rfl)) rfl, pg_g (pg_t1 6 rfl) rfl, pg_g (pg_t5 37 rfl) rfl, by decide, by decide, by decide⟩
theorem okX3_firstChoice : pg_okV YX3_firstChoice := ⟨pg_g (pg_t5 40 rfl) rfl, pg_g (pg_sel (q := (yX3_firstChoice, 10)) (pg_p3 0 rfl)) rfl, pg_g (pg_t1 6 rfl) rfl, pg_g (pg_t5 41 rfl) rfl, by decide, by decide, by decide⟩
theorem okX3_canEnd : pg_okV YX3_canEnd := ⟨pg_g (pg_t5 44 rfl) rfl, pg_g (pg_sel (q := (yX3_canEnd, 10)) (pg_p3 1 rfl)) rfl, pg_g (pg_t1 6 rfl) rfl, pg_g (pg_t5 45 rfl) rfl, by decide, by decide, by decide⟩
theorem okX3_holdsWithout : pg_okV YX3_holdsWithout := ⟨pg_g (pg_t5 48 rfl) rfl, pg_g (pg_sel (q := (yX3_holdsWithout, 10)) (pg_p3 2 rfl)) rfl, pg_g (pg_t1 6 rfl) rfl, pg_g (pg_t5 49 rfl) rfl, by decide, by decide, by decide⟩
theorem okX4_plan : pg_okV YX4_plan := ⟨pg_g (pg_t5 75 rfl) rfl, pg_g (pg_t5 76 rfl) rfl, pg_g (pg_t1 8 rfl) rfl, pg_g (pg_t5 77 rfl) rfl, by decide, by decide, by decide⟩
theorem okX4_dryAt : pg_okS YX4_dryAt := ⟨pg_g (pg_t5 79 rfl) rfl, pg_g (pg_t1 8 rfl) rfl, pg_g (pg_t5 80 rfl) rfl, by decide, by decide, by decide⟩
theorem okX4_soonestOf : pg_okV YX4_soonestOf := ⟨pg_g (pg_t5 85 rfl) rfl, pg_g (pg_sel (q := (yX4_soonestOf, 6)) (pg_p3 4 rfl)) rfl, pg_g (pg_t1 8 rfl) rfl, pg_g (pg_t5 86 rfl) rfl, by decide, by decide, by decide⟩
theorem okX4_dryIfNext : pg_okV YX4_dryIfNext := ⟨pg_g (pg_t5 89 rfl) rfl, pg_g (pg_sel (q := (yX4_dryIfNext, 6)) (pg_p3 5 rfl)) rfl, pg_g (pg_t1 8 rfl) rfl, pg_g (pg_t5 90 rfl) rfl, by decide, by decide, by decide⟩
theorem okX4_layOrder : pg_okV YX4_layOrder := ⟨pg_g (pg_t5 96 rfl) rfl, pg_g (pg_sel (q := (yX4_layOrder, 6)) (pg_p3 6 rfl)) rfl, pg_g (pg_t1 8 rfl) rfl, pg_g (pg_t5 97 rfl) rfl, by decide, by decide, by decide⟩
theorem okX4_firstInTime : pg_okV YX4_firstInTime := ⟨pg_g (pg_t5 100 rfl) rfl, pg_g (pg_sel (q := (yX4_firstInTime, 6)) (pg_p3 7 rfl)) rfl, pg_g (pg_t1 8 rfl) rfl, pg_g (pg_t5 101 rfl) rfl, by decide, by decide, by decide⟩
theorem okX5_clear : pg_okV YX5_clear := ⟨pg_g (pg_t2 38 rfl) rfl, pg_g (pg_t2 39 rfl) rfl, pg_g (pg_t1 9 rfl) rfl, pg_g (pg_t2 40 rfl) rfl, by decide, by decide, by decide⟩
theorem okX5_has : pg_okV YX5_has := ⟨pg_g (pg_t4 7 rfl) rfl, pg_g (pg_t4 8 rfl) rfl, pg_g (pg_t1 9 rfl) rfl, pg_g (pg_t4 9 rfl) rfl, by decide, by decide, by decide⟩
theorem okX5_clothNamed : pg_okV YX5_clothNamed := ⟨pg_g (pg_t3 129 rfl) rfl, pg_g (pg_t3 130 rfl) rfl, pg_g (pg_t1 9 rfl) rfl, pg_g (pg_t3 131 rfl) rfl, by decide, by decide, by decide⟩
theorem okX5_clashTold : pg_okV YX5_clashTold := ⟨pg_g (pg_t3 157 rfl) rfl, pg_g (pg_t3 158 rfl) rfl, pg_g (pg_t1 9 rfl) rfl, pg_g (pg_t3 159 rfl) rfl, by decide, by decide, by decide⟩
theorem okX5_addClash : pg_okV YX5_addClash := ⟨pg_g (pg_t3 163 rfl) rfl, pg_g (pg_t3 164 rfl) rfl, pg_g (pg_t1 9 rfl) rfl, pg_g (pg_t3 165 rfl) rfl, by decide, by decide, by decide⟩
theorem okX5_clashesAmong : pg_okV YX5_clashesAmong := ⟨pg_g (pg_t4 223 rfl) rfl, pg_g (pg_t4 224 rfl) rfl, pg_g (pg_t1 9 rfl) rfl, pg_g (pg_t4 225 rfl) rfl, by decide, by decide, by decide⟩
theorem okX5_worthOf : pg_okV YX5_worthOf := ⟨pg_g (pg_t4 206 rfl) rfl, pg_g (pg_t4 207 rfl) rfl, pg_g (pg_t1 9 rfl) rfl, pg_g (pg_t4 208 rfl) rfl, by decide, by decide, by decide⟩
theorem okX5_pegsFor : pg_okV YX5_pegsFor := ⟨pg_g (pg_t4 21 rfl) rfl, pg_g (pg_t4 22 rfl) rfl, pg_g (pg_t1 9 rfl) rfl, pg_g (pg_t4 23 rfl) rfl, by decide, by decide, by decide⟩
theorem okX5_windAt : pg_okV YX5_windAt := ⟨pg_g (pg_t4 36 rfl) rfl, pg_g (pg_t4 37 rfl) rfl, pg_g (pg_t1 9 rfl) rfl, pg_g (pg_t4 38 rfl) rfl, by decide, by decide, by decide⟩
theorem okX5_pullOn : pg_okV YX5_pullOn := ⟨pg_g (pg_t4 43 rfl) rfl, pg_g (pg_t4 44 rfl) rfl, pg_g (pg_t1 9 rfl) rfl, pg_g (pg_t4 45 rfl) rfl, by decide, by decide, by decide⟩
theorem okX5_wetAfter : pg_okV YX5_wetAfter := ⟨pg_g (pg_t4 171 rfl) rfl, pg_g (pg_t4 172 rfl) rfl, pg_g (pg_t1 9 rfl) rfl, pg_g (pg_t4 173 rfl) rfl, by decide, by decide, by decide⟩
theorem okX5_massOf : pg_okV YX5_massOf := ⟨pg_g (pg_t4 48 rfl) rfl, pg_g (pg_sel (q := (yX5_massOf, 16)) (pg_p2 7 rfl)) rfl, pg_g (pg_t1 9 rfl) rfl, pg_g (pg_t4 49 rfl) rfl, by decide, by decide, by decide⟩
theorem okX6_clear : pg_okV YX6_clear := ⟨pg_g (pg_t3 217 rfl) rfl, pg_g (pg_t3 218 rfl) rfl, pg_g (pg_t1 5 rfl) rfl, pg_g (pg_t3 219 rfl) rfl, by decide, by decide, by decide⟩
theorem okX6_draft : pg_okV YX6_draft := ⟨pg_g (pg_t4 94 rfl) rfl, pg_g (pg_t4 95 rfl) rfl, pg_g (pg_t1 5 rfl) rfl, pg_g (pg_t4 96 rfl) rfl, by decide, by decide, by decide⟩
theorem okX6_keepDraft : pg_okV YX6_keepDraft := ⟨pg_g (pg_t4 113 rfl) rfl, pg_g (pg_t4 114 rfl) rfl, pg_g (pg_t1 5 rfl) rfl, pg_g (pg_t4 115 rfl) rfl, by decide, by decide, by decide⟩
theorem okX6_stepBack : pg_okV YX6_stepBack := ⟨pg_g (pg_t4 179 rfl) rfl, pg_g (pg_t4 180 rfl) rfl, pg_g (pg_t1 5 rfl) rfl, pg_g (pg_t4 181 rfl) rfl, by decide, by decide, by decide⟩
theorem okX6_lay : pg_okV YX6_lay := ⟨pg_g (pg_t5 188 rfl) rfl, pg_g (pg_t5 189 rfl) rfl, pg_g (pg_t1 5 rfl) rfl, pg_g (pg_t5 190 rfl) rfl, by decide, by decide, by decide⟩
theorem okX6_goBack : pg_okV YX6_goBack := ⟨pg_g (pg_t5 179 rfl) rfl, pg_g (pg_t5 180 rfl) rfl, pg_g (pg_t1 5 rfl) rfl, pg_g (pg_t5 181 rfl) rfl, by decide, by decide, by decide⟩
theorem okX7_addSigns : pg_okV YX7_addSigns := ⟨pg_g (pg_t2 206 rfl) rfl, pg_g (pg_t2 207 rfl) rfl, pg_g (pg_t1 2 rfl) rfl, pg_g (pg_t2 208 rfl) rfl, by decide, by decide, by decide⟩
theorem okX7_readLine : pg_okV YX7_readLine := ⟨pg_g (pg_t2 215 rfl) rfl, pg_g (pg_t2 216 rfl) rfl, pg_g (pg_t1 2 rfl) rfl, pg_g (pg_t2 217 rfl) rfl, by decide, by decide, by decide⟩
theorem okX7_readDay : pg_okV YX7_readDay := ⟨pg_g (pg_t3 226 rfl) rfl, pg_g (pg_t3 227 rfl) rfl, pg_g (pg_t1 2 rfl) rfl, pg_g (pg_t3 228 rfl) rfl, by decide, by decide, by decide⟩
theorem okX7_begin : pg_okV YX7_begin := ⟨pg_g (pg_t2 221 rfl) rfl, pg_g (pg_sel (q := (yX7_begin, 10)) (pg_p1 0 rfl)) rfl, pg_g (pg_t1 2 rfl) rfl, pg_g (pg_t2 222 rfl) rfl, by decide, by decide, by decide⟩
theorem okX7_readTold : pg_okV YX7_readTold := ⟨pg_g (pg_t3 114 rfl) rfl, pg_g (pg_sel (q := (yX7_readTold, 10)) (pg_p1 3 rfl)) rfl, pg_g (pg_t1 2 rfl) rfl, pg_g (pg_t3 115 rfl) rfl, by decide, by decide, by decide⟩
theorem okX7_readCloth : pg_okV YX7_readCloth := ⟨pg_g (pg_t3 118 rfl) rfl, pg_g (pg_sel (q := (yX7_readCloth, 10)) (pg_p1 4 rfl)) rfl, pg_g (pg_t1 2 rfl) rfl, pg_g (pg_t3 119 rfl) rfl, by decide, by decide, by decide⟩
theorem okX7_readMeasure : pg_okV YX7_readMeasure := ⟨pg_g (pg_t3 134 rfl) rfl, pg_g (pg_sel (q := (yX7_readMeasure, 10)) (pg_p1 7 rfl)) rfl, pg_g (pg_t1 2 rfl) rfl, pg_g (pg_t3 135 rfl) rfl, by decide, by decide, by decide⟩
theorem okX7_readClash : pg_okV YX7_readClash := ⟨pg_g (pg_t3 146 rfl) rfl, pg_g (pg_sel (q := (yX7_readClash, 10)) (pg_p1 10 rfl)) rfl, pg_g (pg_t1 2 rfl) rfl, pg_g (pg_t3 147 rfl) rfl, by decide, by decide, by decide⟩
theorem okX7_readOnce : pg_okV YX7_readOnce := ⟨pg_g (pg_t3 168 rfl) rfl, pg_g (pg_sel (q := (yX7_readOnce, 10)) (pg_p1 13 rfl)) rfl, pg_g (pg_t1 2 rfl) rfl, pg_g (pg_t3 169 rfl) rfl, by decide, by decide, by decide⟩
theorem okX7_readRow : pg_okV YX7_readRow := ⟨pg_g (pg_t3 172 rfl) rfl, pg_g (pg_sel (q := (yX7_readRow, 10)) (pg_p1 14 rfl)) rfl, pg_g (pg_t1 2 rfl) rfl, pg_g (pg_t3 173 rfl) rfl, by decide, by decide, by decide⟩
theorem okX7_readDone : pg_okV YX7_readDone := ⟨pg_g (pg_t3 232 rfl) rfl, pg_g (pg_sel (q := (yX7_readDone, 10)) (pg_p2 5 rfl)) rfl, pg_g (pg_t1 2 rfl) rfl, pg_g (pg_t3 233 rfl) rfl, by decide, by decide, by decide⟩
theorem okX7_readPegs : pg_okV YX7_readPegs := ⟨pg_g (pg_t3 236 rfl) rfl, pg_g (pg_sel (q := (yX7_readPegs, 10)) (pg_p2 6 rfl)) rfl, pg_g (pg_t1 2 rfl) rfl, pg_g (pg_t3 237 rfl) rfl, by decide, by decide, by decide⟩
theorem okX7_readTests : pg_okV YX7_readTests := ⟨pg_g (pg_t3 177 rfl) rfl, pg_g (pg_sel (q := (yX7_readTests, 10)) (pg_p1 15 rfl)) rfl, pg_g (pg_t1 2 rfl) rfl, pg_g (pg_t3 178 rfl) rfl, by decide, by decide, by decide⟩
theorem okX7_readTest : pg_okV YX7_readTest := ⟨pg_g (pg_t3 181 rfl) rfl, pg_g (pg_sel (q := (yX7_readTest, 10)) (pg_p2 0 rfl)) rfl, pg_g (pg_t1 2 rfl) rfl, pg_g (pg_t3 182 rfl) rfl, by decide, by decide, by decide⟩
theorem okX7_readSum : pg_okV YX7_readSum := ⟨pg_g (pg_t3 185 rfl) rfl, pg_g (pg_sel (q := (yX7_readSum, 10)) (pg_p2 1 rfl)) rfl, pg_g (pg_t1 2 rfl) rfl, pg_g (pg_t3 186 rfl) rfl, by decide, by decide, by decide⟩
theorem okX7_readProduct : pg_okV YX7_readProduct := ⟨pg_g (pg_t3 189 rfl) rfl, pg_g (pg_sel (q := (yX7_readProduct, 10)) (pg_p2 2 rfl)) rfl, pg_g (pg_t1 2 rfl) rfl, pg_g (pg_t3 190 rfl) rfl, by decide, by decide, by decide⟩
theorem okX7_readPart : pg_okV YX7_readPart := ⟨pg_g (pg_t3 193 rfl) rfl, pg_g (pg_sel (q := (yX7_readPart, 10)) (pg_p2 3 rfl)) rfl, pg_g (pg_t1 2 rfl) rfl, pg_g (pg_t3 194 rfl) rfl, by decide, by decide, by decide⟩
theorem okX7_readNumber : pg_okV YX7_readNumber := ⟨pg_g (pg_t3 138 rfl) rfl, pg_g (pg_sel (q := (yX7_readNumber, 10)) (pg_p1 8 rfl)) rfl, pg_g (pg_t1 2 rfl) rfl, pg_g (pg_t3 139 rfl) rfl, by decide, by decide, by decide⟩
theorem okX7_numberHere : pg_okV YX7_numberHere := ⟨pg_g (pg_t3 142 rfl) rfl, pg_g (pg_sel (q := (yX7_numberHere, 10)) (pg_p1 9 rfl)) rfl, pg_g (pg_t1 2 rfl) rfl, pg_g (pg_t3 143 rfl) rfl, by decide, by decide, by decide⟩
theorem okX7_readNamed : pg_okV YX7_readNamed := ⟨pg_g (pg_t3 150 rfl) rfl, pg_g (pg_sel (q := (yX7_readNamed, 10)) (pg_p1 11 rfl)) rfl, pg_g (pg_t1 2 rfl) rfl, pg_g (pg_t3 151 rfl) rfl, by decide, by decide, by decide⟩
theorem okX7_namedHere : pg_okV YX7_namedHere := ⟨pg_g (pg_t3 154 rfl) rfl, pg_g (pg_sel (q := (yX7_namedHere, 10)) (pg_p1 12 rfl)) rfl, pg_g (pg_t1 2 rfl) rfl, pg_g (pg_t3 155 rfl) rfl, by decide, by decide, by decide⟩
theorem okX7_isName : pg_okV YX7_isName := ⟨pg_g (pg_t3 126 rfl) rfl, pg_g (pg_sel (q := (yX7_isName, 10)) (pg_p1 6 rfl)) rfl, pg_g (pg_t1 2 rfl) rfl, pg_g (pg_t3 127 rfl) rfl, by decide, by decide, by decide⟩
theorem okX7_expectSign : pg_okV YX7_expectSign := ⟨pg_g (pg_t3 197 rfl) rfl, pg_g (pg_sel (q := (yX7_expectSign, 10)) (pg_p2 4 rfl)) rfl, pg_g (pg_t1 2 rfl) rfl, pg_g (pg_t3 198 rfl) rfl, by decide, by decide, by decide⟩
theorem okX7_fail : pg_okV YX7_fail := ⟨pg_g (pg_t3 122 rfl) rfl, pg_g (pg_sel (q := (yX7_fail, 10)) (pg_p1 5 rfl)) rfl, pg_g (pg_t1 2 rfl) rfl, pg_g (pg_t3 123 rfl) rfl, by decide, by decide, by decide⟩
theorem okX7_next : pg_okV YX7_next := ⟨pg_g (pg_t2 225 rfl) rfl, pg_g (pg_sel (q := (yX7_next, 10)) (pg_p1 1 rfl)) rfl, pg_g (pg_t1 2 rfl) rfl, pg_g (pg_t2 226 rfl) rfl, by decide, by decide, by decide⟩
theorem okX7_sortOf : pg_okV YX7_sortOf := ⟨pg_g (pg_t3 54 rfl) rfl, pg_g (pg_sel (q := (yX7_sortOf, 10)) (pg_p1 2 rfl)) rfl, pg_g (pg_t1 2 rfl) rfl, pg_g (pg_t3 55 rfl) rfl, by decide, by decide, by decide⟩
theorem okX7_knownWord : pg_okS YX7_knownWord := ⟨pg_g (pg_t3 1 rfl) rfl, pg_g (pg_t1 2 rfl) rfl, pg_g (pg_t3 2 rfl) rfl, by decide, by decide, by decide⟩
theorem okX7_isLetter : pg_okS YX7_isLetter := ⟨pg_g (pg_t2 228 rfl) rfl, pg_g (pg_t1 2 rfl) rfl, pg_g (pg_t2 229 rfl) rfl, by decide, by decide, by decide⟩
theorem okX7_isDigit : pg_okS YX7_isDigit := ⟨pg_g (pg_t2 232 rfl) rfl, pg_g (pg_t1 2 rfl) rfl, pg_g (pg_t2 233 rfl) rfl, by decide, by decide, by decide⟩
theorem okX8_clear : pg_okV YX8_clear := ⟨pg_g (pg_t2 45 rfl) rfl, pg_g (pg_t2 46 rfl) rfl, pg_g (pg_t1 10 rfl) rfl, pg_g (pg_t2 47 rfl) rfl, by decide, by decide, by decide⟩
theorem okX8_add : pg_okV YX8_add := ⟨pg_g (pg_t2 49 rfl) rfl, pg_g (pg_t2 50 rfl) rfl, pg_g (pg_t1 10 rfl) rfl, pg_g (pg_t2 51 rfl) rfl, by decide, by decide, by decide⟩
theorem okX8_value : pg_okV YX8_value := ⟨pg_g (pg_t4 51 rfl) rfl, pg_g (pg_t4 52 rfl) rfl, pg_g (pg_t1 10 rfl) rfl, pg_g (pg_t4 53 rfl) rfl, by decide, by decide, by decide⟩
theorem okX8_fact : pg_okS YX8_fact := ⟨pg_g (pg_t4 55 rfl) rfl, pg_g (pg_t1 10 rfl) rfl, pg_g (pg_t4 56 rfl) rfl, by decide, by decide, by decide⟩
theorem okX8_joined : pg_okS YX8_joined := ⟨pg_g (pg_t4 58 rfl) rfl, pg_g (pg_t1 10 rfl) rfl, pg_g (pg_t4 59 rfl) rfl, by decide, by decide, by decide⟩
theorem okX9_begin : pg_okV YX9_begin := ⟨pg_g (pg_t3 201 rfl) rfl, pg_g (pg_t3 202 rfl) rfl, pg_g (pg_t1 3 rfl) rfl, pg_g (pg_t3 203 rfl) rfl, by decide, by decide, by decide⟩
theorem okX9_copyFrom : pg_okV YX9_copyFrom := ⟨pg_g (pg_t4 98 rfl) rfl, pg_g (pg_t4 99 rfl) rfl, pg_g (pg_t1 3 rfl) rfl, pg_g (pg_t4 100 rfl) rfl, by decide, by decide, by decide⟩
theorem okX9_isLaw : pg_okV YX9_isLaw := ⟨pg_g (pg_t4 11 rfl) rfl, pg_g (pg_t4 12 rfl) rfl, pg_g (pg_t1 3 rfl) rfl, pg_g (pg_t4 13 rfl) rfl, by decide, by decide, by decide⟩
theorem okX9_isTurned : pg_okV YX9_isTurned := ⟨pg_g (pg_t4 25 rfl) rfl, pg_g (pg_t4 26 rfl) rfl, pg_g (pg_t1 3 rfl) rfl, pg_g (pg_t4 27 rfl) rfl, by decide, by decide, by decide⟩
theorem okX9_lawBits : pg_okV YX9_lawBits := ⟨pg_g (pg_t4 85 rfl) rfl, pg_g (pg_t4 86 rfl) rfl, pg_g (pg_t1 3 rfl) rfl, pg_g (pg_t4 87 rfl) rfl, by decide, by decide, by decide⟩
theorem okX9_turnedBits : pg_okV YX9_turnedBits := ⟨pg_g (pg_t5 196 rfl) rfl, pg_g (pg_t5 197 rfl) rfl, pg_g (pg_t1 3 rfl) rfl, pg_g (pg_t5 198 rfl) rfl, by decide, by decide, by decide⟩
theorem okX9_worthOfLaws : pg_okV YX9_worthOfLaws := ⟨pg_g (pg_t4 201 rfl) rfl, pg_g (pg_t4 202 rfl) rfl, pg_g (pg_t1 3 rfl) rfl, pg_g (pg_t4 203 rfl) rfl, by decide, by decide, by decide⟩
theorem okX9_roomOf : pg_okV YX9_roomOf := ⟨pg_g (pg_t4 29 rfl) rfl, pg_g (pg_t4 30 rfl) rfl, pg_g (pg_t1 3 rfl) rfl, pg_g (pg_t4 31 rfl) rfl, by decide, by decide, by decide⟩
theorem okX9_roomLeft : pg_okV YX9_roomLeft := ⟨pg_g (pg_t4 108 rfl) rfl, pg_g (pg_t4 109 rfl) rfl, pg_g (pg_t1 3 rfl) rfl, pg_g (pg_t4 110 rfl) rfl, by decide, by decide, by decide⟩
theorem okX9_heldBy : pg_okV YX9_heldBy := ⟨pg_g (pg_t4 65 rfl) rfl, pg_g (pg_t4 66 rfl) rfl, pg_g (pg_t1 3 rfl) rfl, pg_g (pg_t4 67 rfl) rfl, by decide, by decide, by decide⟩
theorem okX9_freePegs : pg_okV YX9_freePegs := ⟨pg_g (pg_t4 73 rfl) rfl, pg_g (pg_t4 74 rfl) rfl, pg_g (pg_t1 3 rfl) rfl, pg_g (pg_t4 75 rfl) rfl, by decide, by decide, by decide⟩
theorem okX9_unsplitPegs : pg_okV YX9_unsplitPegs := ⟨pg_g (pg_t4 77 rfl) rfl, pg_g (pg_t4 78 rfl) rfl, pg_g (pg_t1 3 rfl) rfl, pg_g (pg_t4 79 rfl) rfl, by decide, by decide, by decide⟩
theorem okX9_firstFree : pg_okV YX9_firstFree := ⟨pg_g (pg_t5 166 rfl) rfl, pg_g (pg_t5 167 rfl) rfl, pg_g (pg_t1 3 rfl) rfl, pg_g (pg_t5 168 rfl) rfl, by decide, by decide, by decide⟩
theorem okX9_gripsOf : pg_okV YX9_gripsOf := ⟨pg_g (pg_t4 157 rfl) rfl, pg_g (pg_t4 158 rfl) rfl, pg_g (pg_t1 3 rfl) rfl, pg_g (pg_t4 159 rfl) rfl, by decide, by decide, by decide⟩
theorem okX9_gripsLess : pg_okV YX9_gripsLess := ⟨pg_g (pg_t4 161 rfl) rfl, pg_g (pg_t4 162 rfl) rfl, pg_g (pg_t1 3 rfl) rfl, pg_g (pg_t4 163 rfl) rfl, by decide, by decide, by decide⟩
theorem okX9_hangUp : pg_okV YX9_hangUp := ⟨pg_g (pg_t4 102 rfl) rfl, pg_g (pg_t4 103 rfl) rfl, pg_g (pg_t1 3 rfl) rfl, pg_g (pg_t4 104 rfl) rfl, by decide, by decide, by decide⟩
theorem okX9_takeIn : pg_okV YX9_takeIn := ⟨pg_g (pg_t4 123 rfl) rfl, pg_g (pg_t4 124 rfl) rfl, pg_g (pg_t1 3 rfl) rfl, pg_g (pg_t4 125 rfl) rfl, by decide, by decide, by decide⟩
theorem okX9_washOut : pg_okV YX9_washOut := ⟨pg_g (pg_t4 131 rfl) rfl, pg_g (pg_t4 132 rfl) rfl, pg_g (pg_t1 3 rfl) rfl, pg_g (pg_t4 133 rfl) rfl, by decide, by decide, by decide⟩
theorem okX9_addPeg : pg_okV YX9_addPeg := ⟨pg_g (pg_t4 139 rfl) rfl, pg_g (pg_t4 140 rfl) rfl, pg_g (pg_t1 3 rfl) rfl, pg_g (pg_t4 141 rfl) rfl, by decide, by decide, by decide⟩
theorem okX9_passHour : pg_okV YX9_passHour := ⟨pg_g (pg_t4 147 rfl) rfl, pg_g (pg_t4 148 rfl) rfl, pg_g (pg_t1 3 rfl) rfl, pg_g (pg_t4 149 rfl) rfl, by decide, by decide, by decide⟩
theorem okX9_passAlone : pg_okV YX9_passAlone := ⟨pg_g (pg_t4 215 rfl) rfl, pg_g (pg_t4 216 rfl) rfl, pg_g (pg_t1 3 rfl) rfl, pg_g (pg_t4 217 rfl) rfl, by decide, by decide, by decide⟩
theorem okX9_fallsBy : pg_okV YX9_fallsBy := ⟨pg_g (pg_t4 153 rfl) rfl, pg_g (pg_sel (q := (yX9_fallsBy, 6)) (pg_p2 8 rfl)) rfl, pg_g (pg_t1 3 rfl) rfl, pg_g (pg_t4 154 rfl) rfl, by decide, by decide, by decide⟩
theorem okX9_weaken : pg_okV YX9_weaken := ⟨pg_g (pg_t4 167 rfl) rfl, pg_g (pg_sel (q := (yX9_weaken, 6)) (pg_p2 9 rfl)) rfl, pg_g (pg_t1 3 rfl) rfl, pg_g (pg_t4 168 rfl) rfl, by decide, by decide, by decide⟩
theorem okX9_roomBy : pg_okS YX9_roomBy := ⟨pg_g (pg_t4 33 rfl) rfl, pg_g (pg_t1 3 rfl) rfl, pg_g (pg_t4 34 rfl) rfl, by decide, by decide, by decide⟩
theorem okX10_feed : pg_okV YX10_feed := ⟨pg_g (pg_t2 202 rfl) rfl, pg_g (pg_t2 203 rfl) rfl, pg_g (pg_t1 1 rfl) rfl, pg_g (pg_t2 204 rfl) rfl, by decide, by decide, by decide⟩
theorem okX10_line : pg_okV YX10_line := ⟨pg_g (pg_t2 211 rfl) rfl, pg_g (pg_t2 212 rfl) rfl, pg_g (pg_t1 1 rfl) rfl, pg_g (pg_t2 213 rfl) rfl, by decide, by decide, by decide⟩
theorem okX10_day : pg_okV YX10_day := ⟨pg_g (pg_t3 222 rfl) rfl, pg_g (pg_t3 223 rfl) rfl, pg_g (pg_t1 1 rfl) rfl, pg_g (pg_t3 224 rfl) rfl, by decide, by decide, by decide⟩
theorem okX10_cloth : pg_okV YX10_cloth := ⟨pg_g (pg_t4 3 rfl) rfl, pg_g (pg_t4 4 rfl) rfl, pg_g (pg_t1 1 rfl) rfl, pg_g (pg_t4 5 rfl) rfl, by decide, by decide, by decide⟩
theorem okX10_peg : pg_okV YX10_peg := ⟨pg_g (pg_t4 61 rfl) rfl, pg_g (pg_t4 62 rfl) rfl, pg_g (pg_t1 1 rfl) rfl, pg_g (pg_t4 63 rfl) rfl, by decide, by decide, by decide⟩
theorem okX10_free : pg_okV YX10_free := ⟨pg_g (pg_t4 69 rfl) rfl, pg_g (pg_t4 70 rfl) rfl, pg_g (pg_t1 1 rfl) rfl, pg_g (pg_t4 71 rfl) rfl, by decide, by decide, by decide⟩
theorem okX10_laws : pg_okV YX10_laws := ⟨pg_g (pg_t4 81 rfl) rfl, pg_g (pg_t4 82 rfl) rfl, pg_g (pg_t1 1 rfl) rfl, pg_g (pg_t4 83 rfl) rfl, by decide, by decide, by decide⟩
theorem okX10_hang : pg_okV YX10_hang := ⟨pg_g (pg_t4 90 rfl) rfl, pg_g (pg_t4 91 rfl) rfl, pg_g (pg_t1 1 rfl) rfl, pg_g (pg_t4 92 rfl) rfl, by decide, by decide, by decide⟩
theorem okX10_take : pg_okV YX10_take := ⟨pg_g (pg_t4 119 rfl) rfl, pg_g (pg_t4 120 rfl) rfl, pg_g (pg_t1 1 rfl) rfl, pg_g (pg_t4 121 rfl) rfl, by decide, by decide, by decide⟩
theorem okX10_wash : pg_okV YX10_wash := ⟨pg_g (pg_t4 127 rfl) rfl, pg_g (pg_t4 128 rfl) rfl, pg_g (pg_t1 1 rfl) rfl, pg_g (pg_t4 129 rfl) rfl, by decide, by decide, by decide⟩
theorem okX10_buy : pg_okV YX10_buy := ⟨pg_g (pg_t4 135 rfl) rfl, pg_g (pg_t4 136 rfl) rfl, pg_g (pg_t1 1 rfl) rfl, pg_g (pg_t4 137 rfl) rfl, by decide, by decide, by decide⟩
theorem okX10_hour : pg_okV YX10_hour := ⟨pg_g (pg_t4 143 rfl) rfl, pg_g (pg_t4 144 rfl) rfl, pg_g (pg_t1 1 rfl) rfl, pg_g (pg_t4 145 rfl) rfl, by decide, by decide, by decide⟩
theorem okX10_undo : pg_okV YX10_undo := ⟨pg_g (pg_t4 175 rfl) rfl, pg_g (pg_t4 176 rfl) rfl, pg_g (pg_t1 1 rfl) rfl, pg_g (pg_t4 177 rfl) rfl, by decide, by decide, by decide⟩
theorem okX10_judged : pg_okV YX10_judged := ⟨pg_g (pg_t4 183 rfl) rfl, pg_g (pg_t4 184 rfl) rfl, pg_g (pg_t1 1 rfl) rfl, pg_g (pg_t4 185 rfl) rfl, by decide, by decide, by decide⟩
theorem okX10_holds : pg_okV YX10_holds := ⟨pg_g (pg_t4 210 rfl) rfl, pg_g (pg_t4 211 rfl) rfl, pg_g (pg_t1 1 rfl) rfl, pg_g (pg_t4 212 rfl) rfl, by decide, by decide, by decide⟩
theorem okX10_clashes : pg_okV YX10_clashes := ⟨pg_g (pg_t4 219 rfl) rfl, pg_g (pg_t4 220 rfl) rfl, pg_g (pg_t1 1 rfl) rfl, pg_g (pg_t4 221 rfl) rfl, by decide, by decide, by decide⟩
theorem okX10_mend : pg_okV YX10_mend := ⟨pg_g (pg_t4 228 rfl) rfl, pg_g (pg_t4 229 rfl) rfl, pg_g (pg_t1 1 rfl) rfl, pg_g (pg_t4 230 rfl) rfl, by decide, by decide, by decide⟩
theorem okX10_fill : pg_okV YX10_fill := ⟨pg_g (pg_t4 233 rfl) rfl, pg_g (pg_t4 234 rfl) rfl, pg_g (pg_t1 1 rfl) rfl, pg_g (pg_t4 235 rfl) rfl, by decide, by decide, by decide⟩
theorem okX10_odds : pg_okV YX10_odds := ⟨pg_g (pg_t5 51 rfl) rfl, pg_g (pg_t5 52 rfl) rfl, pg_g (pg_t1 1 rfl) rfl, pg_g (pg_t5 53 rfl) rfl, by decide, by decide, by decide⟩
theorem okX10_dry : pg_okV YX10_dry := ⟨pg_g (pg_t5 71 rfl) rfl, pg_g (pg_t5 72 rfl) rfl, pg_g (pg_t1 1 rfl) rfl, pg_g (pg_t5 73 rfl) rfl, by decide, by decide, by decide⟩
theorem okX10_feel : pg_okV YX10_feel := ⟨pg_g (pg_t5 103 rfl) rfl, pg_g (pg_t5 104 rfl) rfl, pg_g (pg_t1 1 rfl) rfl, pg_g (pg_t5 105 rfl) rfl, by decide, by decide, by decide⟩
theorem okX10_starts : pg_okV YX10_starts := ⟨pg_g (pg_t5 111 rfl) rfl, pg_g (pg_t5 112 rfl) rfl, pg_g (pg_t1 1 rfl) rfl, pg_g (pg_t5 113 rfl) rfl, by decide, by decide, by decide⟩
theorem okX10_ask : pg_okV YX10_ask := ⟨pg_g (pg_t5 125 rfl) rfl, pg_g (pg_t5 126 rfl) rfl, pg_g (pg_t1 1 rfl) rfl, pg_g (pg_t5 127 rfl) rfl, by decide, by decide, by decide⟩
theorem okX10_change : pg_okV YX10_change := ⟨pg_g (pg_t5 141 rfl) rfl, pg_g (pg_t5 142 rfl) rfl, pg_g (pg_t1 1 rfl) rfl, pg_g (pg_t5 143 rfl) rfl, by decide, by decide, by decide⟩
theorem okX10_rests : pg_okV YX10_rests := ⟨pg_g (pg_t5 205 rfl) rfl, pg_g (pg_t5 206 rfl) rfl, pg_g (pg_t1 1 rfl) rfl, pg_g (pg_t5 207 rfl) rfl, by decide, by decide, by decide⟩
theorem okX10_decades : pg_okV YX10_decades := ⟨pg_g (pg_t5 149 rfl) rfl, pg_g (pg_t5 150 rfl) rfl, pg_g (pg_t1 1 rfl) rfl, pg_g (pg_t5 151 rfl) rfl, by decide, by decide, by decide⟩
theorem okX10_mark : pg_okV YX10_mark := ⟨pg_g (pg_t5 175 rfl) rfl, pg_g (pg_t5 176 rfl) rfl, pg_g (pg_t1 1 rfl) rfl, pg_g (pg_t5 177 rfl) rfl, by decide, by decide, by decide⟩
theorem okX10_count : pg_okV YX10_count := ⟨pg_g (pg_t5 192 rfl) rfl, pg_g (pg_t5 193 rfl) rfl, pg_g (pg_t1 1 rfl) rfl, pg_g (pg_t5 194 rfl) rfl, by decide, by decide, by decide⟩
theorem okX10_worthBehind : pg_okV YX10_worthBehind := ⟨pg_g (pg_t5 146 rfl) rfl, pg_g (pg_sel (q := (yX10_worthBehind, 13)) (pg_p3 10 rfl)) rfl, pg_g (pg_t1 1 rfl) rfl, pg_g (pg_t5 147 rfl) rfl, by decide, by decide, by decide⟩
theorem okX10_handleByDraws : pg_okV YX10_handleByDraws := ⟨pg_g (pg_t5 154 rfl) rfl, pg_g (pg_sel (q := (yX10_handleByDraws, 13)) (pg_p3 11 rfl)) rfl, pg_g (pg_t1 1 rfl) rfl, pg_g (pg_t5 155 rfl) rfl, by decide, by decide, by decide⟩
theorem okX10_draw : pg_okV YX10_draw := ⟨pg_g (pg_t5 158 rfl) rfl, pg_g (pg_sel (q := (yX10_draw, 13)) (pg_p3 12 rfl)) rfl, pg_g (pg_t1 1 rfl) rfl, pg_g (pg_t5 159 rfl) rfl, by decide, by decide, by decide⟩
theorem okX10_isWorth : pg_okS YX10_isWorth := ⟨pg_g (pg_t5 209 rfl) rfl, pg_g (pg_t1 1 rfl) rfl, pg_g (pg_t5 210 rfl) rfl, by decide, by decide, by decide⟩
theorem okX10_isRest : pg_okS YX10_isRest := ⟨pg_g (pg_t6 37 rfl) rfl, pg_g (pg_t1 1 rfl) rfl, pg_g (pg_t6 38 rfl) rfl, by decide, by decide, by decide⟩
theorem okX10_loot : pg_okS YX10_loot := ⟨pg_g (pg_t6 40 rfl) rfl, pg_g (pg_t1 1 rfl) rfl, pg_g (pg_t6 41 rfl) rfl, by decide, by decide, by decide⟩
theorem okX11_thrown : pg_okV YX11_thrown := ⟨pg_g (pg_t6 44 rfl) rfl, pg_g (pg_t6 45 rfl) rfl, pg_g (pg_t1 13 rfl) rfl, pg_g (pg_t6 46 rfl) rfl, by decide, by decide, by decide⟩
theorem okX11_feed : pg_okV YX11_feed := ⟨pg_g (pg_t6 48 rfl) rfl, pg_g (pg_t6 49 rfl) rfl, pg_g (pg_t1 13 rfl) rfl, pg_g (pg_t6 50 rfl) rfl, by decide, by decide, by decide⟩
theorem okX11_lay : pg_okV YX11_lay := ⟨pg_g (pg_t6 53 rfl) rfl, pg_g (pg_sel (q := (yX11_lay, 38)) (pg_p3 14 rfl)) rfl, pg_g (pg_t1 13 rfl) rfl, pg_g (pg_t6 55 rfl) rfl, by decide, by decide, by decide⟩
theorem okX11_isLetter : pg_okS YX11_isLetter := ⟨pg_g (pg_t6 223 rfl) rfl, pg_g (pg_t1 13 rfl) rfl, pg_g (pg_t6 224 rfl) rfl, by decide, by decide, by decide⟩
theorem okX11_isDigit : pg_okS YX11_isDigit := ⟨pg_g (pg_t6 230 rfl) rfl, pg_g (pg_t1 13 rfl) rfl, pg_g (pg_t6 231 rfl) rfl, by decide, by decide, by decide⟩
theorem okX11_rank : pg_okS YX11_rank := ⟨pg_g (pg_t6 227 rfl) rfl, pg_g (pg_t1 13 rfl) rfl, pg_g (pg_t6 228 rfl) rfl, by decide, by decide, by decide⟩
theorem okX11_isSignOf : pg_okS YX11_isSignOf := ⟨pg_g (pg_t6 235 rfl) rfl, pg_g (pg_t1 13 rfl) rfl, pg_g (pg_t6 236 rfl) rfl, by decide, by decide, by decide⟩
theorem okX11_cutAll : pg_okV YX11_cutAll := ⟨pg_g (pg_t6 220 rfl) rfl, pg_g (pg_sel (q := (yX11_cutAll, 38)) (pg_p4 2 rfl)) rfl, pg_g (pg_t1 13 rfl) rfl, pg_g (pg_t6 221 rfl) rfl, by decide, by decide, by decide⟩
theorem okX11_wrong : pg_okV YX11_wrong := ⟨pg_g (pg_t7 7 rfl) rfl, pg_g (pg_sel (q := (yX11_wrong, 38)) (pg_p4 5 rfl)) rfl, pg_g (pg_t1 13 rfl) rfl, pg_g (pg_t7 8 rfl) rfl, by decide, by decide, by decide⟩
theorem okX11_isSign : pg_okV YX11_isSign := ⟨pg_g (pg_t7 83 rfl) rfl, pg_g (pg_sel (q := (yX11_isSign, 38)) (pg_p5 8 rfl)) rfl, pg_g (pg_t1 13 rfl) rfl, pg_g (pg_t7 84 rfl) rfl, by decide, by decide, by decide⟩
theorem okX11_isWord : pg_okV YX11_isWord := ⟨pg_g (pg_t6 239 rfl) rfl, pg_g (pg_sel (q := (yX11_isWord, 38)) (pg_p4 3 rfl)) rfl, pg_g (pg_t1 13 rfl) rfl, pg_g (pg_t7 0 rfl) rfl, by decide, by decide, by decide⟩
theorem okX11_takeSign : pg_okV YX11_takeSign := ⟨pg_g (pg_t7 95 rfl) rfl, pg_g (pg_sel (q := (yX11_takeSign, 38)) (pg_p5 11 rfl)) rfl, pg_g (pg_t1 13 rfl) rfl, pg_g (pg_t7 96 rfl) rfl, by decide, by decide, by decide⟩
theorem okX11_hasSign : pg_okV YX11_hasSign := ⟨pg_g (pg_t7 91 rfl) rfl, pg_g (pg_sel (q := (yX11_hasSign, 38)) (pg_p5 10 rfl)) rfl, pg_g (pg_t1 13 rfl) rfl, pg_g (pg_t7 92 rfl) rfl, by decide, by decide, by decide⟩
theorem okX11_hasWord : pg_okV YX11_hasWord := ⟨pg_g (pg_t7 35 rfl) rfl, pg_g (pg_sel (q := (yX11_hasWord, 38)) (pg_p4 12 rfl)) rfl, pg_g (pg_t1 13 rfl) rfl, pg_g (pg_t7 36 rfl) rfl, by decide, by decide, by decide⟩
theorem okX11_takeWord : pg_okV YX11_takeWord := ⟨pg_g (pg_t7 31 rfl) rfl, pg_g (pg_sel (q := (yX11_takeWord, 38)) (pg_p4 11 rfl)) rfl, pg_g (pg_t1 13 rfl) rfl, pg_g (pg_t7 32 rfl) rfl, by decide, by decide, by decide⟩
theorem okX11_within : pg_okS YX11_within := ⟨pg_g (pg_t7 118 rfl) rfl, pg_g (pg_t1 13 rfl) rfl, pg_g (pg_t7 119 rfl) rfl, by decide, by decide, by decide⟩
theorem okX11_standsAsAlways : pg_okV YX11_standsAsAlways := ⟨pg_g (pg_t6 89 rfl) rfl, pg_g (pg_sel (q := (yX11_standsAsAlways, 38)) (pg_p3 15 rfl)) rfl, pg_g (pg_t1 13 rfl) rfl, pg_g (pg_t6 90 rfl) rfl, by decide, by decide, by decide⟩
theorem okX11_takeNumber : pg_okV YX11_takeNumber := ⟨pg_g (pg_t7 39 rfl) rfl, pg_g (pg_sel (q := (yX11_takeNumber, 38)) (pg_p4 13 rfl)) rfl, pg_g (pg_t1 13 rfl) rfl, pg_g (pg_t7 40 rfl) rfl, by decide, by decide, by decide⟩
theorem okX11_takeAfter : pg_okV YX11_takeAfter := ⟨pg_g (pg_t7 27 rfl) rfl, pg_g (pg_sel (q := (yX11_takeAfter, 38)) (pg_p4 10 rfl)) rfl, pg_g (pg_t1 13 rfl) rfl, pg_g (pg_t7 28 rfl) rfl, by decide, by decide, by decide⟩
theorem okX11_wordHere : pg_okV YX11_wordHere := ⟨pg_g (pg_t7 15 rfl) rfl, pg_g (pg_sel (q := (yX11_wordHere, 38)) (pg_p4 7 rfl)) rfl, pg_g (pg_t1 13 rfl) rfl, pg_g (pg_t7 16 rfl) rfl, by decide, by decide, by decide⟩
theorem okX11_takeOne : pg_okV YX11_takeOne := ⟨pg_g (pg_t7 23 rfl) rfl, pg_g (pg_sel (q := (yX11_takeOne, 38)) (pg_p4 9 rfl)) rfl, pg_g (pg_t1 13 rfl) rfl, pg_g (pg_t7 24 rfl) rfl, by decide, by decide, by decide⟩
theorem okX11_isName : pg_okV YX11_isName := ⟨pg_g (pg_t7 11 rfl) rfl, pg_g (pg_sel (q := (yX11_isName, 38)) (pg_p4 6 rfl)) rfl, pg_g (pg_t1 13 rfl) rfl, pg_g (pg_t7 12 rfl) rfl, by decide, by decide, by decide⟩
theorem okX11_find : pg_okV YX11_find := ⟨pg_g (pg_t7 19 rfl) rfl, pg_g (pg_sel (q := (yX11_find, 38)) (pg_p4 8 rfl)) rfl, pg_g (pg_t1 13 rfl) rfl, pg_g (pg_t7 20 rfl) rfl, by decide, by decide, by decide⟩
theorem okX11_toldHere : pg_okV YX11_toldHere := ⟨pg_g (pg_t7 51 rfl) rfl, pg_g (pg_sel (q := (yX11_toldHere, 38)) (pg_p5 0 rfl)) rfl, pg_g (pg_t1 13 rfl) rfl, pg_g (pg_t7 52 rfl) rfl, by decide, by decide, by decide⟩
theorem okX11_takeTold : pg_okV YX11_takeTold := ⟨pg_g (pg_t7 47 rfl) rfl, pg_g (pg_sel (q := (yX11_takeTold, 38)) (pg_p4 15 rfl)) rfl, pg_g (pg_t1 13 rfl) rfl, pg_g (pg_t7 48 rfl) rfl, by decide, by decide, by decide⟩
theorem okX11_line : pg_okV YX11_line := ⟨pg_g (pg_t6 215 rfl) rfl, pg_g (pg_t6 216 rfl) rfl, pg_g (pg_t1 13 rfl) rfl, pg_g (pg_t6 217 rfl) rfl, by decide, by decide, by decide⟩
theorem okX11_readCloth : pg_okV YX11_readCloth := ⟨pg_g (pg_t7 3 rfl) rfl, pg_g (pg_sel (q := (yX11_readCloth, 38)) (pg_p4 4 rfl)) rfl, pg_g (pg_t1 13 rfl) rfl, pg_g (pg_t7 4 rfl) rfl, by decide, by decide, by decide⟩
theorem okX11_readClash : pg_okV YX11_readClash := ⟨pg_g (pg_t7 43 rfl) rfl, pg_g (pg_sel (q := (yX11_readClash, 38)) (pg_p4 14 rfl)) rfl, pg_g (pg_t1 13 rfl) rfl, pg_g (pg_t7 44 rfl) rfl, by decide, by decide, by decide⟩
theorem okX11_readOnce : pg_okV YX11_readOnce := ⟨pg_g (pg_t7 55 rfl) rfl, pg_g (pg_sel (q := (yX11_readOnce, 38)) (pg_p5 1 rfl)) rfl, pg_g (pg_t1 13 rfl) rfl, pg_g (pg_t7 56 rfl) rfl, by decide, by decide, by decide⟩
theorem okX11_readRow : pg_okV YX11_readRow := ⟨pg_g (pg_t7 59 rfl) rfl, pg_g (pg_sel (q := (yX11_readRow, 38)) (pg_p5 2 rfl)) rfl, pg_g (pg_t1 13 rfl) rfl, pg_g (pg_t7 60 rfl) rfl, by decide, by decide, by decide⟩
theorem okX11_day : pg_okV YX11_day := ⟨pg_g (pg_t7 98 rfl) rfl, pg_g (pg_t7 99 rfl) rfl, pg_g (pg_t1 13 rfl) rfl, pg_g (pg_t7 100 rfl) rfl, by decide, by decide, by decide⟩
theorem okX11_readPegs : pg_okV YX11_readPegs := ⟨pg_g (pg_t7 103 rfl) rfl, pg_g (pg_sel (q := (yX11_readPegs, 38)) (pg_p5 12 rfl)) rfl, pg_g (pg_t1 13 rfl) rfl, pg_g (pg_t7 104 rfl) rfl, by decide, by decide, by decide⟩
theorem okX11_emit : pg_okV YX11_emit := ⟨pg_g (pg_t7 87 rfl) rfl, pg_g (pg_sel (q := (yX11_emit, 38)) (pg_p5 9 rfl)) rfl, pg_g (pg_t1 13 rfl) rfl, pg_g (pg_t7 88 rfl) rfl, by decide, by decide, by decide⟩
theorem okX11_all : pg_okV YX11_all := ⟨pg_g (pg_t7 63 rfl) rfl, pg_g (pg_sel (q := (yX11_all, 38)) (pg_p5 3 rfl)) rfl, pg_g (pg_t1 13 rfl) rfl, pg_g (pg_t7 64 rfl) rfl, by decide, by decide, by decide⟩
theorem okX11_test : pg_okV YX11_test := ⟨pg_g (pg_t7 67 rfl) rfl, pg_g (pg_sel (q := (yX11_test, 38)) (pg_p5 4 rfl)) rfl, pg_g (pg_t1 13 rfl) rfl, pg_g (pg_t7 68 rfl) rfl, by decide, by decide, by decide⟩
theorem okX11_sums : pg_okV YX11_sums := ⟨pg_g (pg_t7 71 rfl) rfl, pg_g (pg_sel (q := (yX11_sums, 38)) (pg_p5 5 rfl)) rfl, pg_g (pg_t1 13 rfl) rfl, pg_g (pg_t7 72 rfl) rfl, by decide, by decide, by decide⟩
theorem okX11_products : pg_okV YX11_products := ⟨pg_g (pg_t7 75 rfl) rfl, pg_g (pg_sel (q := (yX11_products, 38)) (pg_p5 6 rfl)) rfl, pg_g (pg_t1 13 rfl) rfl, pg_g (pg_t7 76 rfl) rfl, by decide, by decide, by decide⟩
theorem okX11_takePart : pg_okV YX11_takePart := ⟨pg_g (pg_t7 79 rfl) rfl, pg_g (pg_sel (q := (yX11_takePart, 38)) (pg_p5 7 rfl)) rfl, pg_g (pg_t1 13 rfl) rfl, pg_g (pg_t7 80 rfl) rfl, by decide, by decide, by decide⟩
theorem okX11_worthAt : pg_okV YX11_worthAt := ⟨pg_g (pg_t7 161 rfl) rfl, pg_g (pg_sel (q := (yX11_worthAt, 38)) (pg_p6 8 rfl)) rfl, pg_g (pg_t1 13 rfl) rfl, pg_g (pg_t7 162 rfl) rfl, by decide, by decide, by decide⟩
theorem okX11_both : pg_okS YX11_both := ⟨pg_g (pg_t7 164 rfl) rfl, pg_g (pg_t1 13 rfl) rfl, pg_g (pg_t7 165 rfl) rfl, by decide, by decide, by decide⟩
theorem okX11_copies : pg_okV YX11_copies := ⟨pg_g (pg_t7 208 rfl) rfl, pg_g (pg_sel (q := (yX11_copies, 38)) (pg_p6 15 rfl)) rfl, pg_g (pg_t1 13 rfl) rfl, pg_g (pg_t7 209 rfl) rfl, by decide, by decide, by decide⟩
theorem okX11_starts : pg_okV YX11_starts := ⟨pg_g (pg_t6 97 rfl) rfl, pg_g (pg_sel (q := (yX11_starts, 38)) (pg_p4 1 rfl)) rfl, pg_g (pg_t1 13 rfl) rfl, pg_g (pg_t6 98 rfl) rfl, by decide, by decide, by decide⟩
theorem okX11_begins : pg_okV YX11_begins := ⟨pg_g (pg_t6 93 rfl) rfl, pg_g (pg_sel (q := (yX11_begins, 38)) (pg_p4 0 rfl)) rfl, pg_g (pg_t1 13 rfl) rfl, pg_g (pg_t6 94 rfl) rfl, by decide, by decide, by decide⟩
theorem okX11_keeps : pg_okV YX11_keeps := ⟨pg_g (pg_t7 204 rfl) rfl, pg_g (pg_sel (q := (yX11_keeps, 38)) (pg_p6 14 rfl)) rfl, pg_g (pg_t1 13 rfl) rfl, pg_g (pg_t7 205 rfl) rfl, by decide, by decide, by decide⟩
theorem okX11_cloths : pg_okV YX11_cloths := ⟨pg_g (pg_t7 115 rfl) rfl, pg_g (pg_sel (q := (yX11_cloths, 38)) (pg_p5 14 rfl)) rfl, pg_g (pg_t1 13 rfl) rfl, pg_g (pg_t7 116 rfl) rfl, by decide, by decide, by decide⟩
theorem okX11_clothOf : pg_okV YX11_clothOf := ⟨pg_g (pg_t7 122 rfl) rfl, pg_g (pg_sel (q := (yX11_clothOf, 38)) (pg_p5 15 rfl)) rfl, pg_g (pg_t1 13 rfl) rfl, pg_g (pg_t7 123 rfl) rfl, by decide, by decide, by decide⟩
theorem okX11_isCloth : pg_okV YX11_isCloth := ⟨pg_g (pg_t7 111 rfl) rfl, pg_g (pg_sel (q := (yX11_isCloth, 38)) (pg_p5 13 rfl)) rfl, pg_g (pg_t1 13 rfl) rfl, pg_g (pg_t7 112 rfl) rfl, by decide, by decide, by decide⟩
theorem okX11_bits : pg_okS YX11_bits := ⟨pg_g (pg_t7 129 rfl) rfl, pg_g (pg_t1 13 rfl) rfl, pg_g (pg_t7 130 rfl) rfl, by decide, by decide, by decide⟩
theorem okX11_needs : pg_okV YX11_needs := ⟨pg_g (pg_t7 133 rfl) rfl, pg_g (pg_sel (q := (yX11_needs, 38)) (pg_p6 1 rfl)) rfl, pg_g (pg_t1 13 rfl) rfl, pg_g (pg_t7 134 rfl) rfl, by decide, by decide, by decide⟩
theorem okX11_isHung : pg_okV YX11_isHung := ⟨pg_g (pg_t7 141 rfl) rfl, pg_g (pg_sel (q := (yX11_isHung, 38)) (pg_p6 3 rfl)) rfl, pg_g (pg_t1 13 rfl) rfl, pg_g (pg_t7 142 rfl) rfl, by decide, by decide, by decide⟩
theorem okX11_isLaw : pg_okV YX11_isLaw := ⟨pg_g (pg_t7 126 rfl) rfl, pg_g (pg_sel (q := (yX11_isLaw, 38)) (pg_p6 0 rfl)) rfl, pg_g (pg_t1 13 rfl) rfl, pg_g (pg_t7 127 rfl) rfl, by decide, by decide, by decide⟩
theorem okX11_isTurned : pg_okV YX11_isTurned := ⟨pg_g (pg_t7 137 rfl) rfl, pg_g (pg_sel (q := (yX11_isTurned, 38)) (pg_p6 2 rfl)) rfl, pg_g (pg_t1 13 rfl) rfl, pg_g (pg_t7 138 rfl) rfl, by decide, by decide, by decide⟩
theorem okX11_roomBy : pg_okV YX11_roomBy := ⟨pg_g (pg_t7 145 rfl) rfl, pg_g (pg_sel (q := (yX11_roomBy, 38)) (pg_p6 4 rfl)) rfl, pg_g (pg_t1 13 rfl) rfl, pg_g (pg_t7 146 rfl) rfl, by decide, by decide, by decide⟩
theorem okX11_roomLeft : pg_okV YX11_roomLeft := ⟨pg_g (pg_t7 200 rfl) rfl, pg_g (pg_sel (q := (yX11_roomLeft, 38)) (pg_p6 13 rfl)) rfl, pg_g (pg_t1 13 rfl) rfl, pg_g (pg_t7 201 rfl) rfl, by decide, by decide, by decide⟩
theorem okX11_windOf : pg_okV YX11_windOf := ⟨pg_g (pg_t7 149 rfl) rfl, pg_g (pg_sel (q := (yX11_windOf, 38)) (pg_p6 5 rfl)) rfl, pg_g (pg_t1 13 rfl) rfl, pg_g (pg_t7 150 rfl) rfl, by decide, by decide, by decide⟩
theorem okX11_laysFacts : pg_okV YX11_laysFacts := ⟨pg_g (pg_t7 157 rfl) rfl, pg_g (pg_sel (q := (yX11_laysFacts, 38)) (pg_p6 7 rfl)) rfl, pg_g (pg_t1 13 rfl) rfl, pg_g (pg_t7 158 rfl) rfl, by decide, by decide, by decide⟩
theorem okX11_pullOf : pg_okV YX11_pullOf := ⟨pg_g (pg_t7 153 rfl) rfl, pg_g (pg_sel (q := (yX11_pullOf, 38)) (pg_p6 6 rfl)) rfl, pg_g (pg_t1 13 rfl) rfl, pg_g (pg_t7 154 rfl) rfl, by decide, by decide, by decide⟩
theorem okX11_driedOf : pg_okV YX11_driedOf := ⟨pg_g (pg_t8 20 rfl) rfl, pg_g (pg_sel (q := (yX11_driedOf, 38)) (pg_p7 8 rfl)) rfl, pg_g (pg_t1 13 rfl) rfl, pg_g (pg_t8 21 rfl) rfl, by decide, by decide, by decide⟩
theorem okX11_gripsOf : pg_okV YX11_gripsOf := ⟨pg_g (pg_t8 4 rfl) rfl, pg_g (pg_sel (q := (yX11_gripsOf, 38)) (pg_p7 4 rfl)) rfl, pg_g (pg_t1 13 rfl) rfl, pg_g (pg_t8 5 rfl) rfl, by decide, by decide, by decide⟩
theorem okX11_falls : pg_okV YX11_falls := ⟨pg_g (pg_t8 16 rfl) rfl, pg_g (pg_sel (q := (yX11_falls, 38)) (pg_p7 7 rfl)) rfl, pg_g (pg_t1 13 rfl) rfl, pg_g (pg_t8 17 rfl) rfl, by decide, by decide, by decide⟩
theorem okX11_loosens : pg_okV YX11_loosens := ⟨pg_g (pg_t8 8 rfl) rfl, pg_g (pg_sel (q := (yX11_loosens, 38)) (pg_p7 5 rfl)) rfl, pg_g (pg_t1 13 rfl) rfl, pg_g (pg_t8 9 rfl) rfl, by decide, by decide, by decide⟩
theorem okX11_held : pg_okV YX11_held := ⟨pg_g (pg_t8 12 rfl) rfl, pg_g (pg_sel (q := (yX11_held, 38)) (pg_p7 6 rfl)) rfl, pg_g (pg_t1 13 rfl) rfl, pg_g (pg_t8 13 rfl) rfl, by decide, by decide, by decide⟩
theorem okX11_pulls : pg_okV YX11_pulls := ⟨pg_g (pg_t8 0 rfl) rfl, pg_g (pg_sel (q := (yX11_pulls, 38)) (pg_p7 3 rfl)) rfl, pg_g (pg_t1 13 rfl) rfl, pg_g (pg_t8 1 rfl) rfl, by decide, by decide, by decide⟩
theorem okX11_passes : pg_okV YX11_passes := ⟨pg_g (pg_t7 236 rfl) rfl, pg_g (pg_sel (q := (yX11_passes, 38)) (pg_p7 2 rfl)) rfl, pg_g (pg_t1 13 rfl) rfl, pg_g (pg_t7 237 rfl) rfl, by decide, by decide, by decide⟩
theorem okX11_lawsOf : pg_okV YX11_lawsOf := ⟨pg_g (pg_t7 180 rfl) rfl, pg_g (pg_sel (q := (yX11_lawsOf, 38)) (pg_p6 10 rfl)) rfl, pg_g (pg_t1 13 rfl) rfl, pg_g (pg_t7 181 rfl) rfl, by decide, by decide, by decide⟩
theorem okX11_worthOf : pg_okV YX11_worthOf := ⟨pg_g (pg_t8 36 rfl) rfl, pg_g (pg_sel (q := (yX11_worthOf, 38)) (pg_p7 10 rfl)) rfl, pg_g (pg_t1 13 rfl) rfl, pg_g (pg_t8 37 rfl) rfl, by decide, by decide, by decide⟩
theorem okX11_cloth : pg_okV YX11_cloth := ⟨pg_g (pg_t7 106 rfl) rfl, pg_g (pg_t7 107 rfl) rfl, pg_g (pg_t1 13 rfl) rfl, pg_g (pg_t7 108 rfl) rfl, by decide, by decide, by decide⟩
theorem okX11_heldBy : pg_okV YX11_heldBy := ⟨pg_g (pg_t7 172 rfl) rfl, pg_g (pg_sel (q := (yX11_heldBy, 38)) (pg_p6 9 rfl)) rfl, pg_g (pg_t1 13 rfl) rfl, pg_g (pg_t7 173 rfl) rfl, by decide, by decide, by decide⟩
theorem okX11_peg : pg_okV YX11_peg := ⟨pg_g (pg_t7 167 rfl) rfl, pg_g (pg_t7 168 rfl) rfl, pg_g (pg_t1 13 rfl) rfl, pg_g (pg_t7 169 rfl) rfl, by decide, by decide, by decide⟩
theorem okX11_laws : pg_okV YX11_laws := ⟨pg_g (pg_t7 175 rfl) rfl, pg_g (pg_t7 176 rfl) rfl, pg_g (pg_t1 13 rfl) rfl, pg_g (pg_t7 177 rfl) rfl, by decide, by decide, by decide⟩
theorem okX11_freePegs : pg_okV YX11_freePegs := ⟨pg_g (pg_t7 188 rfl) rfl, pg_g (pg_sel (q := (yX11_freePegs, 38)) (pg_p6 11 rfl)) rfl, pg_g (pg_t1 13 rfl) rfl, pg_g (pg_t7 189 rfl) rfl, by decide, by decide, by decide⟩
theorem okX11_free : pg_okV YX11_free := ⟨pg_g (pg_t7 183 rfl) rfl, pg_g (pg_t7 184 rfl) rfl, pg_g (pg_t1 13 rfl) rfl, pg_g (pg_t7 185 rfl) rfl, by decide, by decide, by decide⟩
theorem okX11_mayHang : pg_okV YX11_mayHang := ⟨pg_g (pg_t7 196 rfl) rfl, pg_g (pg_sel (q := (yX11_mayHang, 38)) (pg_p6 12 rfl)) rfl, pg_g (pg_t1 13 rfl) rfl, pg_g (pg_t7 197 rfl) rfl, by decide, by decide, by decide⟩
theorem okX11_hang : pg_okV YX11_hang := ⟨pg_g (pg_t7 191 rfl) rfl, pg_g (pg_t7 192 rfl) rfl, pg_g (pg_t1 13 rfl) rfl, pg_g (pg_t7 193 rfl) rfl, by decide, by decide, by decide⟩
theorem okX11_take : pg_okV YX11_take := ⟨pg_g (pg_t7 211 rfl) rfl, pg_g (pg_t7 212 rfl) rfl, pg_g (pg_t1 13 rfl) rfl, pg_g (pg_t7 213 rfl) rfl, by decide, by decide, by decide⟩
theorem okX11_washes : pg_okV YX11_washes := ⟨pg_g (pg_t7 220 rfl) rfl, pg_g (pg_sel (q := (yX11_washes, 38)) (pg_p7 0 rfl)) rfl, pg_g (pg_t1 13 rfl) rfl, pg_g (pg_t7 221 rfl) rfl, by decide, by decide, by decide⟩
theorem okX11_wash : pg_okV YX11_wash := ⟨pg_g (pg_t7 215 rfl) rfl, pg_g (pg_t7 216 rfl) rfl, pg_g (pg_t1 13 rfl) rfl, pg_g (pg_t7 217 rfl) rfl, by decide, by decide, by decide⟩
theorem okX11_buys : pg_okV YX11_buys := ⟨pg_g (pg_t7 228 rfl) rfl, pg_g (pg_sel (q := (yX11_buys, 38)) (pg_p7 1 rfl)) rfl, pg_g (pg_t1 13 rfl) rfl, pg_g (pg_t7 229 rfl) rfl, by decide, by decide, by decide⟩
theorem okX11_buy : pg_okV YX11_buy := ⟨pg_g (pg_t7 223 rfl) rfl, pg_g (pg_t7 224 rfl) rfl, pg_g (pg_t1 13 rfl) rfl, pg_g (pg_t7 225 rfl) rfl, by decide, by decide, by decide⟩
theorem okX11_hour : pg_okV YX11_hour := ⟨pg_g (pg_t7 231 rfl) rfl, pg_g (pg_t7 232 rfl) rfl, pg_g (pg_t1 13 rfl) rfl, pg_g (pg_t7 233 rfl) rfl, by decide, by decide, by decide⟩
theorem okX11_undo : pg_okV YX11_undo := ⟨pg_g (pg_t8 23 rfl) rfl, pg_g (pg_t8 24 rfl) rfl, pg_g (pg_t1 13 rfl) rfl, pg_g (pg_t8 25 rfl) rfl, by decide, by decide, by decide⟩
theorem okX11_does : pg_okV YX11_does := ⟨pg_g (pg_t8 32 rfl) rfl, pg_g (pg_sel (q := (yX11_does, 38)) (pg_p7 9 rfl)) rfl, pg_g (pg_t1 13 rfl) rfl, pg_g (pg_t8 33 rfl) rfl, by decide, by decide, by decide⟩
theorem okX11_judged : pg_okV YX11_judged := ⟨pg_g (pg_t8 27 rfl) rfl, pg_g (pg_t8 28 rfl) rfl, pg_g (pg_t1 13 rfl) rfl, pg_g (pg_t8 29 rfl) rfl, by decide, by decide, by decide⟩
theorem okX11_holds : pg_okV YX11_holds := ⟨pg_g (pg_t8 39 rfl) rfl, pg_g (pg_t8 40 rfl) rfl, pg_g (pg_t1 13 rfl) rfl, pg_g (pg_t8 41 rfl) rfl, by decide, by decide, by decide⟩
theorem okX11_clashesIn : pg_okV YX11_clashesIn := ⟨pg_g (pg_t8 48 rfl) rfl, pg_g (pg_sel (q := (yX11_clashesIn, 38)) (pg_p7 11 rfl)) rfl, pg_g (pg_t1 13 rfl) rfl, pg_g (pg_t8 49 rfl) rfl, by decide, by decide, by decide⟩
theorem okX11_clashes : pg_okV YX11_clashes := ⟨pg_g (pg_t8 43 rfl) rfl, pg_g (pg_t8 44 rfl) rfl, pg_g (pg_t1 13 rfl) rfl, pg_g (pg_t8 45 rfl) rfl, by decide, by decide, by decide⟩
theorem okX11_mend : pg_okV YX11_mend := ⟨pg_g (pg_t8 51 rfl) rfl, pg_g (pg_t8 52 rfl) rfl, pg_g (pg_t1 13 rfl) rfl, pg_g (pg_t8 53 rfl) rfl, by decide, by decide, by decide⟩
theorem okX11_findHardest : pg_okV YX11_findHardest := ⟨pg_g (pg_t8 60 rfl) rfl, pg_g (pg_sel (q := (yX11_findHardest, 38)) (pg_p7 12 rfl)) rfl, pg_g (pg_t1 13 rfl) rfl, pg_g (pg_t8 61 rfl) rfl, by decide, by decide, by decide⟩
theorem okX11_fills : pg_okV YX11_fills := ⟨pg_g (pg_t8 64 rfl) rfl, pg_g (pg_sel (q := (yX11_fills, 38)) (pg_p7 13 rfl)) rfl, pg_g (pg_t1 13 rfl) rfl, pg_g (pg_t8 65 rfl) rfl, by decide, by decide, by decide⟩
theorem okX11_fill : pg_okV YX11_fill := ⟨pg_g (pg_t8 55 rfl) rfl, pg_g (pg_t8 56 rfl) rfl, pg_g (pg_t1 13 rfl) rfl, pg_g (pg_t8 57 rfl) rfl, by decide, by decide, by decide⟩
theorem okX11_hanging : pg_okV YX11_hanging := ⟨pg_g (pg_t8 72 rfl) rfl, pg_g (pg_sel (q := (yX11_hanging, 38)) (pg_p7 14 rfl)) rfl, pg_g (pg_t1 13 rfl) rfl, pg_g (pg_t8 73 rfl) rfl, by decide, by decide, by decide⟩
theorem okX11_odds : pg_okV YX11_odds := ⟨pg_g (pg_t8 67 rfl) rfl, pg_g (pg_t8 68 rfl) rfl, pg_g (pg_t1 13 rfl) rfl, pg_g (pg_t8 69 rfl) rfl, by decide, by decide, by decide⟩
theorem okX11_driedBehind : pg_okV YX11_driedBehind := ⟨pg_g (pg_t8 81 rfl) rfl, pg_g (pg_sel (q := (yX11_driedBehind, 38)) (pg_p7 15 rfl)) rfl, pg_g (pg_t1 13 rfl) rfl, pg_g (pg_t8 82 rfl) rfl, by decide, by decide, by decide⟩
theorem okX11_washesFrom : pg_okV YX11_washesFrom := ⟨pg_g (pg_t8 85 rfl) rfl, pg_g (pg_sel (q := (yX11_washesFrom, 38)) (pg_p8 0 rfl)) rfl, pg_g (pg_t1 13 rfl) rfl, pg_g (pg_t8 86 rfl) rfl, by decide, by decide, by decide⟩
theorem okX11_dry : pg_okV YX11_dry := ⟨pg_g (pg_t8 76 rfl) rfl, pg_g (pg_t8 77 rfl) rfl, pg_g (pg_t1 13 rfl) rfl, pg_g (pg_t8 78 rfl) rfl, by decide, by decide, by decide⟩
theorem okX11_feel : pg_okV YX11_feel := ⟨pg_g (pg_t8 88 rfl) rfl, pg_g (pg_t8 89 rfl) rfl, pg_g (pg_t1 13 rfl) rfl, pg_g (pg_t8 90 rfl) rfl, by decide, by decide, by decide⟩
theorem okX11_wetBehind : pg_okV YX11_wetBehind := ⟨pg_g (pg_t8 101 rfl) rfl, pg_g (pg_sel (q := (yX11_wetBehind, 38)) (pg_p8 2 rfl)) rfl, pg_g (pg_t1 13 rfl) rfl, pg_g (pg_t8 102 rfl) rfl, by decide, by decide, by decide⟩
theorem okX11_startsNow : pg_okV YX11_startsNow := ⟨pg_g (pg_t8 97 rfl) rfl, pg_g (pg_sel (q := (yX11_startsNow, 38)) (pg_p8 1 rfl)) rfl, pg_g (pg_t1 13 rfl) rfl, pg_g (pg_t8 98 rfl) rfl, by decide, by decide, by decide⟩
theorem okX11_starts_ : pg_okV YX11_starts_ := ⟨pg_g (pg_t8 92 rfl) rfl, pg_g (pg_t8 93 rfl) rfl, pg_g (pg_t1 13 rfl) rfl, pg_g (pg_t8 94 rfl) rfl, by decide, by decide, by decide⟩
theorem okX11_ask : pg_okV YX11_ask := ⟨pg_g (pg_t8 104 rfl) rfl, pg_g (pg_t8 105 rfl) rfl, pg_g (pg_t1 13 rfl) rfl, pg_g (pg_t8 106 rfl) rfl, by decide, by decide, by decide⟩
theorem okX11_worthBehind : pg_okV YX11_worthBehind := ⟨pg_g (pg_t8 113 rfl) rfl, pg_g (pg_sel (q := (yX11_worthBehind, 38)) (pg_p8 3 rfl)) rfl, pg_g (pg_t1 13 rfl) rfl, pg_g (pg_t8 114 rfl) rfl, by decide, by decide, by decide⟩
theorem okX11_change : pg_okV YX11_change := ⟨pg_g (pg_t8 108 rfl) rfl, pg_g (pg_t8 109 rfl) rfl, pg_g (pg_t1 13 rfl) rfl, pg_g (pg_t8 110 rfl) rfl, by decide, by decide, by decide⟩
theorem okX11_rests : pg_okV YX11_rests := ⟨pg_g (pg_t8 116 rfl) rfl, pg_g (pg_t8 117 rfl) rfl, pg_g (pg_t1 13 rfl) rfl, pg_g (pg_t8 118 rfl) rfl, by decide, by decide, by decide⟩
theorem okX11_draw : pg_okV YX11_draw := ⟨pg_g (pg_t8 129 rfl) rfl, pg_g (pg_sel (q := (yX11_draw, 38)) (pg_p8 5 rfl)) rfl, pg_g (pg_t1 13 rfl) rfl, pg_g (pg_t8 130 rfl) rfl, by decide, by decide, by decide⟩
theorem okX11_firstFree : pg_okV YX11_firstFree := ⟨pg_g (pg_t8 137 rfl) rfl, pg_g (pg_sel (q := (yX11_firstFree, 38)) (pg_p8 6 rfl)) rfl, pg_g (pg_t1 13 rfl) rfl, pg_g (pg_t8 138 rfl) rfl, by decide, by decide, by decide⟩
theorem okX11_drawsCloth : pg_okV YX11_drawsCloth := ⟨pg_g (pg_t8 125 rfl) rfl, pg_g (pg_sel (q := (yX11_drawsCloth, 38)) (pg_p8 4 rfl)) rfl, pg_g (pg_t1 13 rfl) rfl, pg_g (pg_t8 126 rfl) rfl, by decide, by decide, by decide⟩
theorem okX11_decades : pg_okV YX11_decades := ⟨pg_g (pg_t8 120 rfl) rfl, pg_g (pg_t8 121 rfl) rfl, pg_g (pg_t1 13 rfl) rfl, pg_g (pg_t8 122 rfl) rfl, by decide, by decide, by decide⟩
theorem okX11_mark : pg_okV YX11_mark := ⟨pg_g (pg_t8 140 rfl) rfl, pg_g (pg_t8 141 rfl) rfl, pg_g (pg_t1 13 rfl) rfl, pg_g (pg_t8 142 rfl) rfl, by decide, by decide, by decide⟩
theorem okX11_turnedSet : pg_okV YX11_turnedSet := ⟨pg_g (pg_t8 149 rfl) rfl, pg_g (pg_sel (q := (yX11_turnedSet, 38)) (pg_p8 7 rfl)) rfl, pg_g (pg_t1 13 rfl) rfl, pg_g (pg_t8 150 rfl) rfl, by decide, by decide, by decide⟩
theorem okX11_count : pg_okV YX11_count := ⟨pg_g (pg_t8 144 rfl) rfl, pg_g (pg_t8 145 rfl) rfl, pg_g (pg_t1 13 rfl) rfl, pg_g (pg_t8 146 rfl) rfl, by decide, by decide, by decide⟩
theorem okJ11_isValidCodePoint_9a6ad : pg_okS YJ11_isValidCodePoint_9a6ad := ⟨pg_g (pg_t3 102 rfl) rfl, pg_g (pg_t1 19 rfl) rfl, pg_g (pg_t3 103 rfl) rfl, by decide, by decide, by decide⟩
theorem okJ11_highSurrogate_5068e : pg_okS YJ11_highSurrogate_5068e := ⟨pg_g (pg_t3 105 rfl) rfl, pg_g (pg_t1 19 rfl) rfl, pg_g (pg_t3 106 rfl) rfl, by decide, by decide, by decide⟩
theorem okJ11_lowSurrogate_5068e : pg_okS YJ11_lowSurrogate_5068e := ⟨pg_g (pg_t3 109 rfl) rfl, pg_g (pg_t1 19 rfl) rfl, pg_g (pg_t3 110 rfl) rfl, by decide, by decide, by decide⟩
theorem okJ6_lowestOneBit_0f7a4 : pg_okS YJ6_lowestOneBit_0f7a4 := ⟨pg_g (pg_t5 170 rfl) rfl, pg_g (pg_t1 21 rfl) rfl, pg_g (pg_t5 171 rfl) rfl, by decide, by decide, by decide⟩
theorem okJ6_numberOfLeadingZeros_0f7a4 : pg_okS YJ6_numberOfLeadingZeros_0f7a4 := ⟨pg_g (pg_t5 23 rfl) rfl, pg_g (pg_t1 21 rfl) rfl, pg_g (pg_t5 24 rfl) rfl, by decide, by decide, by decide⟩
theorem okJ6_bitCount_0f7a4 : pg_okS YJ6_bitCount_0f7a4 := ⟨pg_g (pg_t4 15 rfl) rfl, pg_g (pg_t1 21 rfl) rfl, pg_g (pg_t4 16 rfl) rfl, by decide, by decide, by decide⟩
theorem okJ9_floorMod_7cf53 : pg_okS YJ9_floorMod_7cf53 := ⟨pg_g (pg_t4 40 rfl) rfl, pg_g (pg_t1 14 rfl) rfl, pg_g (pg_t4 41 rfl) rfl, by decide, by decide, by decide⟩
theorem okJ9_max_7cf53 : pg_okS YJ9_max_7cf53 := ⟨pg_g (pg_t2 235 rfl) rfl, pg_g (pg_t1 14 rfl) rfl, pg_g (pg_t2 236 rfl) rfl, by decide, by decide, by decide⟩
theorem okJ9_min_7cf53 : pg_okS YJ9_min_7cf53 := ⟨pg_g (pg_t2 238 rfl) rfl, pg_g (pg_t1 14 rfl) rfl, pg_g (pg_t2 239 rfl) rfl, by decide, by decide, by decide⟩
theorem okJ0_length_8abf5 : pg_okV YJ0_length_8abf5 := ⟨pg_g (pg_t3 5 rfl) rfl, pg_g (pg_t3 6 rfl) rfl, pg_g (pg_t1 15 rfl) rfl, pg_g (pg_t3 7 rfl) rfl, by decide, by decide, by decide⟩
theorem okJ0_charAt_5068e : pg_okV YJ0_charAt_5068e := ⟨pg_g (pg_t3 15 rfl) rfl, pg_g (pg_t3 16 rfl) rfl, pg_g (pg_t1 15 rfl) rfl, pg_g (pg_t3 17 rfl) rfl, by decide, by decide, by decide⟩
theorem okJ0_indexOf_0f7a4 : pg_okV YJ0_indexOf_0f7a4 := ⟨pg_g (pg_t3 58 rfl) rfl, pg_g (pg_t3 59 rfl) rfl, pg_g (pg_t1 15 rfl) rfl, pg_g (pg_t3 60 rfl) rfl, by decide, by decide, by decide⟩
theorem okJ0_indexOf_7cf53 : pg_okV YJ0_indexOf_7cf53 := ⟨pg_g (pg_t3 62 rfl) rfl, pg_g (pg_t3 63 rfl) rfl, pg_g (pg_t1 15 rfl) rfl, pg_g (pg_t3 64 rfl) rfl, by decide, by decide, by decide⟩
theorem okJ0_coder_7d493 : pg_okV YJ0_coder_7d493 := ⟨pg_g (pg_t3 9 rfl) rfl, pg_g (pg_t3 10 rfl) rfl, pg_g (pg_t1 15 rfl) rfl, pg_g (pg_t3 11 rfl) rfl, by decide, by decide, by decide⟩
theorem okJ0_isLatin1_aae02 : pg_okV YJ0_isLatin1_aae02 := ⟨pg_g (pg_t3 19 rfl) rfl, pg_g (pg_t3 20 rfl) rfl, pg_g (pg_t1 15 rfl) rfl, pg_g (pg_t3 21 rfl) rfl, by decide, by decide, by decide⟩
theorem okJ0_checkIndex_df160 : pg_okS YJ0_checkIndex_df160 := ⟨pg_g (pg_t3 26 rfl) rfl, pg_g (pg_t1 15 rfl) rfl, pg_g (pg_t3 27 rfl) rfl, by decide, by decide, by decide⟩
theorem okJ0_checkBoundsBeginEnd_23922 : pg_okS YJ0_checkBoundsBeginEnd_23922 := ⟨pg_g (pg_t3 90 rfl) rfl, pg_g (pg_t1 15 rfl) rfl, pg_g (pg_t3 91 rfl) rfl, by decide, by decide, by decide⟩
theorem okJ1_charAt_3b067 : pg_okS YJ1_charAt_3b067 := ⟨pg_g (pg_t3 23 rfl) rfl, pg_g (pg_t1 16 rfl) rfl, pg_g (pg_t3 24 rfl) rfl, by decide, by decide, by decide⟩
theorem okJ1_canEncode_9a6ad : pg_okS YJ1_canEncode_9a6ad := ⟨pg_g (pg_t3 70 rfl) rfl, pg_g (pg_t1 16 rfl) rfl, pg_g (pg_t3 71 rfl) rfl, by decide, by decide, by decide⟩
theorem okJ1_indexOf_4cfef : pg_okS YJ1_indexOf_4cfef := ⟨pg_g (pg_t3 67 rfl) rfl, pg_g (pg_t1 16 rfl) rfl, pg_g (pg_t3 68 rfl) rfl, by decide, by decide, by decide⟩
theorem okJ1_indexOfChar_4cfef : pg_okS YJ1_indexOfChar_4cfef := ⟨pg_g (pg_t3 75 rfl) rfl, pg_g (pg_t1 16 rfl) rfl, pg_g (pg_t3 76 rfl) rfl, by decide, by decide, by decide⟩
theorem okJ2_getChar_3b067 : pg_okS YJ2_getChar_3b067 := ⟨pg_g (pg_t3 44 rfl) rfl, pg_g (pg_t1 18 rfl) rfl, pg_g (pg_t3 45 rfl) rfl, by decide, by decide, by decide⟩
theorem okJ2_length_9d52b : pg_okS YJ2_length_9d52b := ⟨pg_g (pg_t3 40 rfl) rfl, pg_g (pg_t1 18 rfl) rfl, pg_g (pg_t3 41 rfl) rfl, by decide, by decide, by decide⟩
theorem okJ2_indexOf_4cfef : pg_okS YJ2_indexOf_4cfef := ⟨pg_g (pg_t3 78 rfl) rfl, pg_g (pg_t1 18 rfl) rfl, pg_g (pg_t3 79 rfl) rfl, by decide, by decide, by decide⟩
theorem okJ2_indexOfChar_4cfef : pg_okS YJ2_indexOfChar_4cfef := ⟨pg_g (pg_t3 84 rfl) rfl, pg_g (pg_t1 18 rfl) rfl, pg_g (pg_t3 85 rfl) rfl, by decide, by decide, by decide⟩
theorem okJ2_indexOfCharUnsafe_4cfef : pg_okS YJ2_indexOfCharUnsafe_4cfef := ⟨pg_g (pg_t3 96 rfl) rfl, pg_g (pg_t1 18 rfl) rfl, pg_g (pg_t3 97 rfl) rfl, by decide, by decide, by decide⟩
theorem okJ2_indexOfSupplementary_4cfef : pg_okS YJ2_indexOfSupplementary_4cfef := ⟨pg_g (pg_t3 99 rfl) rfl, pg_g (pg_t1 18 rfl) rfl, pg_g (pg_t3 100 rfl) rfl, by decide, by decide, by decide⟩
theorem okJ2_charAt_3b067 : pg_okS YJ2_charAt_3b067 := ⟨pg_g (pg_t3 34 rfl) rfl, pg_g (pg_t1 18 rfl) rfl, pg_g (pg_t3 35 rfl) rfl, by decide, by decide, by decide⟩
theorem okJ2_checkIndex_2214a : pg_okS YJ2_checkIndex_2214a := ⟨pg_g (pg_t3 37 rfl) rfl, pg_g (pg_t1 18 rfl) rfl, pg_g (pg_t3 38 rfl) rfl, by decide, by decide, by decide⟩
theorem okJ2_checkBoundsBeginEnd_d044e : pg_okS YJ2_checkBoundsBeginEnd_d044e := ⟨pg_g (pg_t3 87 rfl) rfl, pg_g (pg_t1 18 rfl) rfl, pg_g (pg_t3 88 rfl) rfl, by decide, by decide, by decide⟩
theorem okJ7_fill_d0a16 : pg_okS YJ7_fill_d0a16 := ⟨pg_g (pg_t5 16 rfl) rfl, pg_g (pg_t1 11 rfl) rfl, pg_g (pg_t5 17 rfl) rfl, by decide, by decide, by decide⟩
theorem okJ7_fill_53178 : pg_okS YJ7_fill_53178 := ⟨pg_g (pg_t2 42 rfl) rfl, pg_g (pg_t1 11 rfl) rfl, pg_g (pg_t2 43 rfl) rfl, by decide, by decide, by decide⟩
theorem okJ3_checkIndex_8e157 : pg_okS YJ3_checkIndex_8e157 := ⟨pg_g (pg_t3 31 rfl) rfl, pg_g (pg_t1 17 rfl) rfl, pg_g (pg_t3 32 rfl) rfl, by decide, by decide, by decide⟩
theorem okJ3_checkFromToIndex_8c36e : pg_okS YJ3_checkFromToIndex_8c36e := ⟨pg_g (pg_t3 93 rfl) rfl, pg_g (pg_t1 17 rfl) rfl, pg_g (pg_t3 94 rfl) rfl, by decide, by decide, by decide⟩
theorem lkL_15 : Cond.methodLink RL 15 yX10_init ∈ pg_gd := pg_g (pg_t1 28 rfl) rfl
theorem lkX10_35 : Cond.methodLink RX10 35 yX6_init ∈ pg_gd := pg_g (pg_t1 143 rfl) rfl
theorem lkX10_63 : Cond.methodLink RX10 63 yX5_init ∈ pg_gd := pg_g (pg_t2 17 rfl) rfl
theorem lkX5_47 : Cond.methodLink RX5 47 yX5_clear ∈ pg_gd := pg_g (pg_t2 37 rfl) rfl
theorem lkX5_50 : Cond.methodLink RX5 50 yJ7_fill_53178 ∈ pg_gd := pg_g (pg_t2 41 rfl) rfl
theorem lkX5_75 : Cond.methodLink RX5 75 yX8_clear ∈ pg_gd := pg_g (pg_t2 44 rfl) rfl
theorem lkX5_76 : Cond.methodLink RX5 76 yX8_add ∈ pg_gd := pg_g (pg_t2 48 rfl) rfl
theorem lkL_21 : Cond.methodLink RL 21 yX10_feed ∈ pg_gd := pg_g (pg_t2 201 rfl) rfl
theorem lkX10_85 : Cond.methodLink RX10 85 yX7_addSigns ∈ pg_gd := pg_g (pg_t2 205 rfl) rfl
theorem lkL_26 : Cond.methodLink RL 26 yX10_line ∈ pg_gd := pg_g (pg_t2 210 rfl) rfl
theorem lkX10_93 : Cond.methodLink RX10 93 yX7_readLine ∈ pg_gd := pg_g (pg_t2 214 rfl) rfl
theorem lkX7_21 : Cond.methodLink RX7 21 yX5_clear ∈ pg_gd := pg_g (pg_t2 218 rfl) rfl
theorem lkX7_29 : Cond.methodLink RX7 29 yX7_begin ∈ pg_gd := pg_g (pg_t2 219 rfl) rfl
theorem lkX7_52 : Cond.methodLink RX7 52 yX7_next ∈ pg_gd := pg_g (pg_t2 223 rfl) rfl
theorem lkX7_200 : Cond.methodLink RX7 200 yX7_isLetter ∈ pg_gd := pg_g (pg_t2 227 rfl) rfl
theorem lkX7_206 : Cond.methodLink RX7 206 yX7_isDigit ∈ pg_gd := pg_g (pg_t2 231 rfl) rfl
theorem lkX7_209 : Cond.methodLink RX7 209 yJ9_max_7cf53 ∈ pg_gd := pg_g (pg_t2 234 rfl) rfl
theorem lkX7_214 : Cond.methodLink RX7 214 yJ9_min_7cf53 ∈ pg_gd := pg_g (pg_t2 237 rfl) rfl
theorem lkX7_217 : Cond.methodLink RX7 217 yX7_knownWord ∈ pg_gd := pg_g (pg_t3 0 rfl) rfl
theorem lkX7_233 : Cond.methodLink RX7 233 yJ0_length_8abf5 ∈ pg_gd := pg_g (pg_t3 4 rfl) rfl
theorem lkJ0_335 : Cond.methodLink RJ0 335 yJ0_coder_7d493 ∈ pg_gd := pg_g (pg_t3 8 rfl) rfl
theorem lkX7_235 : Cond.methodLink RX7 235 yJ0_charAt_5068e ∈ pg_gd := pg_g (pg_t3 14 rfl) rfl
theorem lkJ0_492 : Cond.methodLink RJ0 492 yJ0_isLatin1_aae02 ∈ pg_gd := pg_g (pg_t3 18 rfl) rfl
theorem lkJ0_495 : Cond.methodLink RJ0 495 yJ1_charAt_3b067 ∈ pg_gd := pg_g (pg_t3 22 rfl) rfl
theorem lkJ1_9 : Cond.methodLink RJ1 9 yJ0_checkIndex_df160 ∈ pg_gd := pg_g (pg_t3 25 rfl) rfl
theorem lkJ0_1059 : Cond.methodLink RJ0 1059 yJ3_checkIndex_8e157 ∈ pg_gd := pg_g (pg_t3 30 rfl) rfl
theorem lkJ0_498 : Cond.methodLink RJ0 498 yJ2_charAt_3b067 ∈ pg_gd := pg_g (pg_t3 33 rfl) rfl
theorem lkJ2_67 : Cond.methodLink RJ2 67 yJ2_checkIndex_2214a ∈ pg_gd := pg_g (pg_t3 36 rfl) rfl
theorem lkJ2_48 : Cond.methodLink RJ2 48 yJ2_length_9d52b ∈ pg_gd := pg_g (pg_t3 39 rfl) rfl
theorem lkJ2_414 : Cond.methodLink RJ2 414 yJ0_checkIndex_df160 ∈ pg_gd := pg_g (pg_t3 42 rfl) rfl
theorem lkJ2_71 : Cond.methodLink RJ2 71 yJ2_getChar_3b067 ∈ pg_gd := pg_g (pg_t3 43 rfl) rfl
theorem lkX7_220 : Cond.methodLink RX7 220 yX7_sortOf ∈ pg_gd := pg_g (pg_t3 52 rfl) rfl
theorem lkX7_225 : Cond.methodLink RX7 225 yJ0_indexOf_0f7a4 ∈ pg_gd := pg_g (pg_t3 57 rfl) rfl
theorem lkJ0_633 : Cond.methodLink RJ0 633 yJ0_indexOf_7cf53 ∈ pg_gd := pg_g (pg_t3 61 rfl) rfl
theorem lkJ0_505 : Cond.methodLink RJ0 505 yJ0_length_8abf5 ∈ pg_gd := pg_g (pg_t3 65 rfl) rfl
theorem lkJ0_637 : Cond.methodLink RJ0 637 yJ1_indexOf_4cfef ∈ pg_gd := pg_g (pg_t3 66 rfl) rfl
theorem lkJ1_88 : Cond.methodLink RJ1 88 yJ1_canEncode_9a6ad ∈ pg_gd := pg_g (pg_t3 69 rfl) rfl
theorem lkJ1_92 : Cond.methodLink RJ1 92 yJ9_max_7cf53 ∈ pg_gd := pg_g (pg_t3 72 rfl) rfl
theorem lkJ1_38 : Cond.methodLink RJ1 38 yJ9_min_7cf53 ∈ pg_gd := pg_g (pg_t3 73 rfl) rfl
theorem lkJ1_95 : Cond.methodLink RJ1 95 yJ1_indexOfChar_4cfef ∈ pg_gd := pg_g (pg_t3 74 rfl) rfl
theorem lkJ0_640 : Cond.methodLink RJ0 640 yJ2_indexOf_4cfef ∈ pg_gd := pg_g (pg_t3 77 rfl) rfl
theorem lkJ2_224 : Cond.methodLink RJ2 224 yJ9_max_7cf53 ∈ pg_gd := pg_g (pg_t3 80 rfl) rfl
theorem lkJ2_183 : Cond.methodLink RJ2 183 yJ9_min_7cf53 ∈ pg_gd := pg_g (pg_t3 81 rfl) rfl
theorem lkJ2_228 : Cond.methodLink RJ2 228 yJ2_indexOfChar_4cfef ∈ pg_gd := pg_g (pg_t3 83 rfl) rfl
theorem lkJ2_96 : Cond.methodLink RJ2 96 yJ2_checkBoundsBeginEnd_d044e ∈ pg_gd := pg_g (pg_t3 86 rfl) rfl
theorem lkJ2_241 : Cond.methodLink RJ2 241 yJ0_checkBoundsBeginEnd_23922 ∈ pg_gd := pg_g (pg_t3 89 rfl) rfl
theorem lkJ0_1062 : Cond.methodLink RJ0 1062 yJ3_checkFromToIndex_8c36e ∈ pg_gd := pg_g (pg_t3 92 rfl) rfl
theorem lkJ2_244 : Cond.methodLink RJ2 244 yJ2_indexOfCharUnsafe_4cfef ∈ pg_gd := pg_g (pg_t3 95 rfl) rfl
theorem lkJ2_232 : Cond.methodLink RJ2 232 yJ2_indexOfSupplementary_4cfef ∈ pg_gd := pg_g (pg_t3 98 rfl) rfl
theorem lkJ2_164 : Cond.methodLink RJ2 164 yJ11_isValidCodePoint_9a6ad ∈ pg_gd := pg_g (pg_t3 101 rfl) rfl
theorem lkJ2_157 : Cond.methodLink RJ2 157 yJ11_highSurrogate_5068e ∈ pg_gd := pg_g (pg_t3 104 rfl) rfl
theorem lkJ2_161 : Cond.methodLink RJ2 161 yJ11_lowSurrogate_5068e ∈ pg_gd := pg_g (pg_t3 108 rfl) rfl
theorem lkX7_38 : Cond.methodLink RX7 38 yX7_readTold ∈ pg_gd := pg_g (pg_t3 112 rfl) rfl
theorem lkX7_58 : Cond.methodLink RX7 58 yX7_readCloth ∈ pg_gd := pg_g (pg_t3 116 rfl) rfl
theorem lkX7_68 : Cond.methodLink RX7 68 yX7_fail ∈ pg_gd := pg_g (pg_t3 120 rfl) rfl
theorem lkX7_78 : Cond.methodLink RX7 78 yX7_isName ∈ pg_gd := pg_g (pg_t3 124 rfl) rfl
theorem lkX7_86 : Cond.methodLink RX7 86 yX5_clothNamed ∈ pg_gd := pg_g (pg_t3 128 rfl) rfl
theorem lkX7_101 : Cond.methodLink RX7 101 yX7_readMeasure ∈ pg_gd := pg_g (pg_t3 132 rfl) rfl
theorem lkX7_111 : Cond.methodLink RX7 111 yX7_readNumber ∈ pg_gd := pg_g (pg_t3 136 rfl) rfl
theorem lkX7_166 : Cond.methodLink RX7 166 yX7_numberHere ∈ pg_gd := pg_g (pg_t3 140 rfl) rfl
theorem lkX7_61 : Cond.methodLink RX7 61 yX7_readClash ∈ pg_gd := pg_g (pg_t3 144 rfl) rfl
theorem lkX7_115 : Cond.methodLink RX7 115 yX7_readNamed ∈ pg_gd := pg_g (pg_t3 148 rfl) rfl
theorem lkX7_119 : Cond.methodLink RX7 119 yX7_namedHere ∈ pg_gd := pg_g (pg_t3 152 rfl) rfl
theorem lkX7_122 : Cond.methodLink RX7 122 yX5_clashTold ∈ pg_gd := pg_g (pg_t3 156 rfl) rfl
theorem lkX5_80 : Cond.methodLink RX5 80 yJ9_min_7cf53 ∈ pg_gd := pg_g (pg_t3 160 rfl) rfl
theorem lkX5_86 : Cond.methodLink RX5 86 yJ9_max_7cf53 ∈ pg_gd := pg_g (pg_t3 161 rfl) rfl
theorem lkX7_126 : Cond.methodLink RX7 126 yX5_addClash ∈ pg_gd := pg_g (pg_t3 162 rfl) rfl
theorem lkX7_64 : Cond.methodLink RX7 64 yX7_readOnce ∈ pg_gd := pg_g (pg_t3 166 rfl) rfl
theorem lkX7_133 : Cond.methodLink RX7 133 yX7_readRow ∈ pg_gd := pg_g (pg_t3 170 rfl) rfl
theorem lkX7_156 : Cond.methodLink RX7 156 yX8_clear ∈ pg_gd := pg_g (pg_t3 174 rfl) rfl
theorem lkX7_159 : Cond.methodLink RX7 159 yX7_readTests ∈ pg_gd := pg_g (pg_t3 175 rfl) rfl
theorem lkX7_180 : Cond.methodLink RX7 180 yX7_readTest ∈ pg_gd := pg_g (pg_t3 179 rfl) rfl
theorem lkX7_185 : Cond.methodLink RX7 185 yX7_readSum ∈ pg_gd := pg_g (pg_t3 183 rfl) rfl
theorem lkX7_188 : Cond.methodLink RX7 188 yX7_readProduct ∈ pg_gd := pg_g (pg_t3 187 rfl) rfl
theorem lkX7_191 : Cond.methodLink RX7 191 yX7_readPart ∈ pg_gd := pg_g (pg_t3 191 rfl) rfl
theorem lkX7_72 : Cond.methodLink RX7 72 yX7_expectSign ∈ pg_gd := pg_g (pg_t3 195 rfl) rfl
theorem lkX7_183 : Cond.methodLink RX7 183 yX8_add ∈ pg_gd := pg_g (pg_t3 199 rfl) rfl
theorem lkX10_97 : Cond.methodLink RX10 97 yX9_begin ∈ pg_gd := pg_g (pg_t3 200 rfl) rfl
theorem lkX9_24 : Cond.methodLink RX9 24 yJ7_fill_53178 ∈ pg_gd := pg_g (pg_t3 204 rfl) rfl
theorem lkX10_101 : Cond.methodLink RX10 101 yX1_clear ∈ pg_gd := pg_g (pg_t3 208 rfl) rfl
theorem lkX10_104 : Cond.methodLink RX10 104 yX2_clear ∈ pg_gd := pg_g (pg_t3 212 rfl) rfl
theorem lkX10_105 : Cond.methodLink RX10 105 yX6_clear ∈ pg_gd := pg_g (pg_t3 216 rfl) rfl
theorem lkL_31 : Cond.methodLink RL 31 yX10_day ∈ pg_gd := pg_g (pg_t3 221 rfl) rfl
theorem lkX10_106 : Cond.methodLink RX10 106 yX7_readDay ∈ pg_gd := pg_g (pg_t3 225 rfl) rfl
theorem lkX7_42 : Cond.methodLink RX7 42 yX1_clear ∈ pg_gd := pg_g (pg_t3 229 rfl) rfl
theorem lkX7_45 : Cond.methodLink RX7 45 yX7_readDone ∈ pg_gd := pg_g (pg_t3 230 rfl) rfl
theorem lkX7_172 : Cond.methodLink RX7 172 yX7_readPegs ∈ pg_gd := pg_g (pg_t3 234 rfl) rfl
theorem lkX7_176 : Cond.methodLink RX7 176 yX1_add ∈ pg_gd := pg_g (pg_t3 238 rfl) rfl
theorem lkL_35 : Cond.methodLink RL 35 yX10_cloth ∈ pg_gd := pg_g (pg_t4 2 rfl) rfl
theorem lkX10_110 : Cond.methodLink RX10 110 yX5_has ∈ pg_gd := pg_g (pg_t4 6 rfl) rfl
theorem lkX10_127 : Cond.methodLink RX10 127 yX9_isLaw ∈ pg_gd := pg_g (pg_t4 10 rfl) rfl
theorem lkX9_47 : Cond.methodLink RX9 47 yJ6_bitCount_0f7a4 ∈ pg_gd := pg_g (pg_t4 14 rfl) rfl
theorem lkX9_53 : Cond.methodLink RX9 53 yX5_pegsFor ∈ pg_gd := pg_g (pg_t4 20 rfl) rfl
theorem lkX10_131 : Cond.methodLink RX10 131 yX9_isTurned ∈ pg_gd := pg_g (pg_t4 24 rfl) rfl
theorem lkX10_134 : Cond.methodLink RX10 134 yX9_roomOf ∈ pg_gd := pg_g (pg_t4 28 rfl) rfl
theorem lkX9_74 : Cond.methodLink RX9 74 yX9_roomBy ∈ pg_gd := pg_g (pg_t4 32 rfl) rfl
theorem lkX10_141 : Cond.methodLink RX10 141 yX5_windAt ∈ pg_gd := pg_g (pg_t4 35 rfl) rfl
theorem lkX5_95 : Cond.methodLink RX5 95 yJ9_floorMod_7cf53 ∈ pg_gd := pg_g (pg_t4 39 rfl) rfl
theorem lkX10_145 : Cond.methodLink RX10 145 yX5_pullOn ∈ pg_gd := pg_g (pg_t4 42 rfl) rfl
theorem lkX5_98 : Cond.methodLink RX5 98 yX5_massOf ∈ pg_gd := pg_g (pg_t4 46 rfl) rfl
theorem lkX5_101 : Cond.methodLink RX5 101 yX8_value ∈ pg_gd := pg_g (pg_t4 50 rfl) rfl
theorem lkX8_22 : Cond.methodLink RX8 22 yX8_fact ∈ pg_gd := pg_g (pg_t4 54 rfl) rfl
theorem lkX8_26 : Cond.methodLink RX8 26 yX8_joined ∈ pg_gd := pg_g (pg_t4 57 rfl) rfl
theorem lkL_40 : Cond.methodLink RL 40 yX10_peg ∈ pg_gd := pg_g (pg_t4 60 rfl) rfl
theorem lkX10_155 : Cond.methodLink RX10 155 yX9_heldBy ∈ pg_gd := pg_g (pg_t4 64 rfl) rfl
theorem lkL_44 : Cond.methodLink RL 44 yX10_free ∈ pg_gd := pg_g (pg_t4 68 rfl) rfl
theorem lkX10_158 : Cond.methodLink RX10 158 yX9_freePegs ∈ pg_gd := pg_g (pg_t4 72 rfl) rfl
theorem lkX9_85 : Cond.methodLink RX9 85 yX9_unsplitPegs ∈ pg_gd := pg_g (pg_t4 76 rfl) rfl
theorem lkL_48 : Cond.methodLink RL 48 yX10_laws ∈ pg_gd := pg_g (pg_t4 80 rfl) rfl
theorem lkX10_162 : Cond.methodLink RX10 162 yX9_lawBits ∈ pg_gd := pg_g (pg_t4 84 rfl) rfl
theorem lkX9_59 : Cond.methodLink RX9 59 yX9_isLaw ∈ pg_gd := pg_g (pg_t4 88 rfl) rfl
theorem lkL_52 : Cond.methodLink RL 52 yX10_hang ∈ pg_gd := pg_g (pg_t4 89 rfl) rfl
theorem lkX10_165 : Cond.methodLink RX10 165 yX6_draft ∈ pg_gd := pg_g (pg_t4 93 rfl) rfl
theorem lkX6_39 : Cond.methodLink RX6 39 yX9_copyFrom ∈ pg_gd := pg_g (pg_t4 97 rfl) rfl
theorem lkX10_169 : Cond.methodLink RX10 169 yX9_hangUp ∈ pg_gd := pg_g (pg_t4 101 rfl) rfl
theorem lkX9_104 : Cond.methodLink RX9 104 yX5_has ∈ pg_gd := pg_g (pg_t4 105 rfl) rfl
theorem lkX9_89 : Cond.methodLink RX9 89 yX9_freePegs ∈ pg_gd := pg_g (pg_t4 106 rfl) rfl
theorem lkX9_107 : Cond.methodLink RX9 107 yX9_roomLeft ∈ pg_gd := pg_g (pg_t4 107 rfl) rfl
theorem lkX9_81 : Cond.methodLink RX9 81 yX9_roomOf ∈ pg_gd := pg_g (pg_t4 111 rfl) rfl
theorem lkX10_173 : Cond.methodLink RX10 173 yX6_keepDraft ∈ pg_gd := pg_g (pg_t4 112 rfl) rfl
theorem lkX6_43 : Cond.methodLink RX6 43 yJ9_min_7cf53 ∈ pg_gd := pg_g (pg_t4 116 rfl) rfl
theorem lkX10_176 : Cond.methodLink RX10 176 yX9_roomLeft ∈ pg_gd := pg_g (pg_t4 117 rfl) rfl
theorem lkL_56 : Cond.methodLink RL 56 yX10_take ∈ pg_gd := pg_g (pg_t4 118 rfl) rfl
theorem lkX10_179 : Cond.methodLink RX10 179 yX9_takeIn ∈ pg_gd := pg_g (pg_t4 122 rfl) rfl
theorem lkL_61 : Cond.methodLink RL 61 yX10_wash ∈ pg_gd := pg_g (pg_t4 126 rfl) rfl
theorem lkX10_182 : Cond.methodLink RX10 182 yX9_washOut ∈ pg_gd := pg_g (pg_t4 130 rfl) rfl
theorem lkL_66 : Cond.methodLink RL 66 yX10_buy ∈ pg_gd := pg_g (pg_t4 134 rfl) rfl
theorem lkX10_185 : Cond.methodLink RX10 185 yX9_addPeg ∈ pg_gd := pg_g (pg_t4 138 rfl) rfl
theorem lkL_70 : Cond.methodLink RL 70 yX10_hour ∈ pg_gd := pg_g (pg_t4 142 rfl) rfl
theorem lkX10_188 : Cond.methodLink RX10 188 yX9_passHour ∈ pg_gd := pg_g (pg_t4 146 rfl) rfl
theorem lkX9_110 : Cond.methodLink RX9 110 yX5_windAt ∈ pg_gd := pg_g (pg_t4 150 rfl) rfl
theorem lkX9_113 : Cond.methodLink RX9 113 yX9_fallsBy ∈ pg_gd := pg_g (pg_t4 151 rfl) rfl
theorem lkX9_121 : Cond.methodLink RX9 121 yX5_pullOn ∈ pg_gd := pg_g (pg_t4 155 rfl) rfl
theorem lkX9_124 : Cond.methodLink RX9 124 yX9_gripsOf ∈ pg_gd := pg_g (pg_t4 156 rfl) rfl
theorem lkX9_95 : Cond.methodLink RX9 95 yX9_gripsLess ∈ pg_gd := pg_g (pg_t4 160 rfl) rfl
theorem lkX9_99 : Cond.methodLink RX9 99 yJ9_max_7cf53 ∈ pg_gd := pg_g (pg_t4 164 rfl) rfl
theorem lkX9_127 : Cond.methodLink RX9 127 yX9_weaken ∈ pg_gd := pg_g (pg_t4 165 rfl) rfl
theorem lkX9_131 : Cond.methodLink RX9 131 yJ9_min_7cf53 ∈ pg_gd := pg_g (pg_t4 169 rfl) rfl
theorem lkX9_117 : Cond.methodLink RX9 117 yX5_wetAfter ∈ pg_gd := pg_g (pg_t4 170 rfl) rfl
theorem lkL_74 : Cond.methodLink RL 74 yX10_undo ∈ pg_gd := pg_g (pg_t4 174 rfl) rfl
theorem lkX10_191 : Cond.methodLink RX10 191 yX6_stepBack ∈ pg_gd := pg_g (pg_t4 178 rfl) rfl
theorem lkL_79 : Cond.methodLink RL 79 yX10_judged ∈ pg_gd := pg_g (pg_t4 182 rfl) rfl
theorem lkX10_195 : Cond.methodLink RX10 195 yX1_judge ∈ pg_gd := pg_g (pg_t4 186 rfl) rfl
theorem lkX1_31 : Cond.methodLink RX1 31 yX9_begin ∈ pg_gd := pg_g (pg_t4 190 rfl) rfl
theorem lkX1_37 : Cond.methodLink RX1 37 yX9_passHour ∈ pg_gd := pg_g (pg_t4 191 rfl) rfl
theorem lkX1_41 : Cond.methodLink RX1 41 yX1_canDo ∈ pg_gd := pg_g (pg_t4 192 rfl) rfl
theorem lkX1_45 : Cond.methodLink RX1 45 yX9_hangUp ∈ pg_gd := pg_g (pg_t4 196 rfl) rfl
theorem lkX1_49 : Cond.methodLink RX1 49 yX9_takeIn ∈ pg_gd := pg_g (pg_t4 197 rfl) rfl
theorem lkX1_53 : Cond.methodLink RX1 53 yX9_washOut ∈ pg_gd := pg_g (pg_t4 198 rfl) rfl
theorem lkX1_56 : Cond.methodLink RX1 56 yX9_addPeg ∈ pg_gd := pg_g (pg_t4 199 rfl) rfl
theorem lkX10_205 : Cond.methodLink RX10 205 yX9_worthOfLaws ∈ pg_gd := pg_g (pg_t4 200 rfl) rfl
theorem lkX9_67 : Cond.methodLink RX9 67 yX9_lawBits ∈ pg_gd := pg_g (pg_t4 204 rfl) rfl
theorem lkX9_71 : Cond.methodLink RX9 71 yX5_worthOf ∈ pg_gd := pg_g (pg_t4 205 rfl) rfl
theorem lkL_83 : Cond.methodLink RL 83 yX10_holds ∈ pg_gd := pg_g (pg_t4 209 rfl) rfl
theorem lkX10_208 : Cond.methodLink RX10 208 yX9_copyFrom ∈ pg_gd := pg_g (pg_t4 213 rfl) rfl
theorem lkX10_211 : Cond.methodLink RX10 211 yX9_passAlone ∈ pg_gd := pg_g (pg_t4 214 rfl) rfl
theorem lkL_87 : Cond.methodLink RL 87 yX10_clashes ∈ pg_gd := pg_g (pg_t4 218 rfl) rfl
theorem lkX10_214 : Cond.methodLink RX10 214 yX5_clashesAmong ∈ pg_gd := pg_g (pg_t4 222 rfl) rfl
theorem lkX5_89 : Cond.methodLink RX5 89 yJ6_bitCount_0f7a4 ∈ pg_gd := pg_g (pg_t4 226 rfl) rfl
theorem lkL_91 : Cond.methodLink RL 91 yX10_mend ∈ pg_gd := pg_g (pg_t4 227 rfl) rfl
theorem lkX10_217 : Cond.methodLink RX10 217 yX5_worthOf ∈ pg_gd := pg_g (pg_t4 231 rfl) rfl
theorem lkL_95 : Cond.methodLink RL 95 yX10_fill ∈ pg_gd := pg_g (pg_t4 232 rfl) rfl
theorem lkX10_220 : Cond.methodLink RX10 220 yX3_plan ∈ pg_gd := pg_g (pg_t4 236 rfl) rfl
theorem lkX3_52 : Cond.methodLink RX3 52 yX3_chooseFor ∈ pg_gd := pg_g (pg_t5 0 rfl) rfl
theorem lkX3_79 : Cond.methodLink RX3 79 yX5_pegsFor ∈ pg_gd := pg_g (pg_t5 4 rfl) rfl
theorem lkX3_83 : Cond.methodLink RX3 83 yX9_unsplitPegs ∈ pg_gd := pg_g (pg_t5 5 rfl) rfl
theorem lkX3_87 : Cond.methodLink RX3 87 yX3_mostPull ∈ pg_gd := pg_g (pg_t5 6 rfl) rfl
theorem lkX3_108 : Cond.methodLink RX3 108 yX5_windAt ∈ pg_gd := pg_g (pg_t5 9 rfl) rfl
theorem lkX3_111 : Cond.methodLink RX3 111 yX5_pullOn ∈ pg_gd := pg_g (pg_t5 10 rfl) rfl
theorem lkX3_69 : Cond.methodLink RX3 69 yJ9_max_7cf53 ∈ pg_gd := pg_g (pg_t5 11 rfl) rfl
theorem lkX3_115 : Cond.methodLink RX3 115 yX5_wetAfter ∈ pg_gd := pg_g (pg_t5 12 rfl) rfl
theorem lkX3_94 : Cond.methodLink RX3 94 yJ6_bitCount_0f7a4 ∈ pg_gd := pg_g (pg_t5 13 rfl) rfl
theorem lkX3_99 : Cond.methodLink RX3 99 yX9_gripsOf ∈ pg_gd := pg_g (pg_t5 14 rfl) rfl
theorem lkX3_56 : Cond.methodLink RX3 56 yJ7_fill_d0a16 ∈ pg_gd := pg_g (pg_t5 15 rfl) rfl
theorem lkX3_65 : Cond.methodLink RX3 65 yX3_holdSet ∈ pg_gd := pg_g (pg_t5 18 rfl) rfl
theorem lkX3_118 : Cond.methodLink RX3 118 yJ6_numberOfLeadingZeros_0f7a4 ∈ pg_gd := pg_g (pg_t5 22 rfl) rfl
theorem lkX3_126 : Cond.methodLink RX3 126 yX3_holdsBy ∈ pg_gd := pg_g (pg_t5 26 rfl) rfl
theorem lkX3_130 : Cond.methodLink RX3 130 yX3_holdMore ∈ pg_gd := pg_g (pg_t5 30 rfl) rfl
theorem lkX3_75 : Cond.methodLink RX3 75 yX3_layRow ∈ pg_gd := pg_g (pg_t5 34 rfl) rfl
theorem lkX3_134 : Cond.methodLink RX3 134 yX3_firstChoice ∈ pg_gd := pg_g (pg_t5 38 rfl) rfl
theorem lkX3_138 : Cond.methodLink RX3 138 yX3_canEnd ∈ pg_gd := pg_g (pg_t5 42 rfl) rfl
theorem lkX3_142 : Cond.methodLink RX3 142 yX3_holdsWithout ∈ pg_gd := pg_g (pg_t5 46 rfl) rfl
theorem lkL_99 : Cond.methodLink RL 99 yX10_odds ∈ pg_gd := pg_g (pg_t5 50 rfl) rfl
theorem lkX10_229 : Cond.methodLink RX10 229 yX0_millionths ∈ pg_gd := pg_g (pg_t5 54 rfl) rfl
theorem lkX0_18 : Cond.methodLink RX0 18 yJ7_fill_d0a16 ∈ pg_gd := pg_g (pg_t5 58 rfl) rfl
theorem lkX0_34 : Cond.methodLink RX0 34 yX5_windAt ∈ pg_gd := pg_g (pg_t5 59 rfl) rfl
theorem lkX0_43 : Cond.methodLink RX0 43 yX0_goOn ∈ pg_gd := pg_g (pg_t5 60 rfl) rfl
theorem lkX0_57 : Cond.methodLink RX0 57 yX5_pullOn ∈ pg_gd := pg_g (pg_t5 64 rfl) rfl
theorem lkX0_64 : Cond.methodLink RX0 64 yX9_gripsLess ∈ pg_gd := pg_g (pg_t5 65 rfl) rfl
theorem lkX0_68 : Cond.methodLink RX0 68 yX5_wetAfter ∈ pg_gd := pg_g (pg_t5 66 rfl) rfl
theorem lkL_103 : Cond.methodLink RL 103 yX10_dry ∈ pg_gd := pg_g (pg_t5 70 rfl) rfl
theorem lkX10_233 : Cond.methodLink RX10 233 yX4_plan ∈ pg_gd := pg_g (pg_t5 74 rfl) rfl
theorem lkX4_44 : Cond.methodLink RX4 44 yX4_dryAt ∈ pg_gd := pg_g (pg_t5 78 rfl) rfl
theorem lkX4_59 : Cond.methodLink RX4 59 yX5_windAt ∈ pg_gd := pg_g (pg_t5 81 rfl) rfl
theorem lkX4_62 : Cond.methodLink RX4 62 yX5_wetAfter ∈ pg_gd := pg_g (pg_t5 82 rfl) rfl
theorem lkX4_48 : Cond.methodLink RX4 48 yX4_soonestOf ∈ pg_gd := pg_g (pg_t5 83 rfl) rfl
theorem lkX4_66 : Cond.methodLink RX4 66 yX4_dryIfNext ∈ pg_gd := pg_g (pg_t5 87 rfl) rfl
theorem lkX4_75 : Cond.methodLink RX4 75 yJ6_bitCount_0f7a4 ∈ pg_gd := pg_g (pg_t5 91 rfl) rfl
theorem lkX4_80 : Cond.methodLink RX4 80 yJ9_max_7cf53 ∈ pg_gd := pg_g (pg_t5 92 rfl) rfl
theorem lkX4_70 : Cond.methodLink RX4 70 yJ9_min_7cf53 ∈ pg_gd := pg_g (pg_t5 93 rfl) rfl
theorem lkX4_55 : Cond.methodLink RX4 55 yX4_layOrder ∈ pg_gd := pg_g (pg_t5 94 rfl) rfl
theorem lkX4_83 : Cond.methodLink RX4 83 yX4_firstInTime ∈ pg_gd := pg_g (pg_t5 98 rfl) rfl
theorem lkL_107 : Cond.methodLink RL 107 yX10_feel ∈ pg_gd := pg_g (pg_t5 102 rfl) rfl
theorem lkX10_244 : Cond.methodLink RX10 244 yX2_add ∈ pg_gd := pg_g (pg_t5 106 rfl) rfl
theorem lkL_112 : Cond.methodLink RL 112 yX10_starts ∈ pg_gd := pg_g (pg_t5 110 rfl) rfl
theorem lkX10_248 : Cond.methodLink RX10 248 yX2_startBits ∈ pg_gd := pg_g (pg_t5 114 rfl) rfl
theorem lkX2_42 : Cond.methodLink RX2 42 yX2_allSo ∈ pg_gd := pg_g (pg_t5 118 rfl) rfl
theorem lkX2_46 : Cond.methodLink RX2 46 yX5_windAt ∈ pg_gd := pg_g (pg_t5 122 rfl) rfl
theorem lkX2_50 : Cond.methodLink RX2 50 yX5_wetAfter ∈ pg_gd := pg_g (pg_t5 123 rfl) rfl
theorem lkL_116 : Cond.methodLink RL 116 yX10_ask ∈ pg_gd := pg_g (pg_t5 124 rfl) rfl
theorem lkX10_251 : Cond.methodLink RX10 251 yX2_bestHours ∈ pg_gd := pg_g (pg_t5 128 rfl) rfl
theorem lkX2_54 : Cond.methodLink RX2 54 yX2_startBits ∈ pg_gd := pg_g (pg_t5 132 rfl) rfl
theorem lkX2_58 : Cond.methodLink RX2 58 yJ6_bitCount_0f7a4 ∈ pg_gd := pg_g (pg_t5 133 rfl) rfl
theorem lkX2_63 : Cond.methodLink RX2 63 yJ7_fill_53178 ∈ pg_gd := pg_g (pg_t5 134 rfl) rfl
theorem lkX2_69 : Cond.methodLink RX2 69 yX2_mostAlike ∈ pg_gd := pg_g (pg_t5 135 rfl) rfl
theorem lkX2_72 : Cond.methodLink RX2 72 yJ9_max_7cf53 ∈ pg_gd := pg_g (pg_t5 139 rfl) rfl
theorem lkL_120 : Cond.methodLink RL 120 yX10_change ∈ pg_gd := pg_g (pg_t5 140 rfl) rfl
theorem lkX10_254 : Cond.methodLink RX10 254 yX10_worthBehind ∈ pg_gd := pg_g (pg_t5 144 rfl) rfl
theorem lkL_133 : Cond.methodLink RL 133 yX10_decades ∈ pg_gd := pg_g (pg_t5 148 rfl) rfl
theorem lkX10_274 : Cond.methodLink RX10 274 yX10_handleByDraws ∈ pg_gd := pg_g (pg_t5 152 rfl) rfl
theorem lkX10_277 : Cond.methodLink RX10 277 yX10_draw ∈ pg_gd := pg_g (pg_t5 156 rfl) rfl
theorem lkX10_316 : Cond.methodLink RX10 316 yX5_pegsFor ∈ pg_gd := pg_g (pg_t5 164 rfl) rfl
theorem lkX10_319 : Cond.methodLink RX10 319 yX9_firstFree ∈ pg_gd := pg_g (pg_t5 165 rfl) rfl
theorem lkX9_92 : Cond.methodLink RX9 92 yJ6_lowestOneBit_0f7a4 ∈ pg_gd := pg_g (pg_t5 169 rfl) rfl
theorem lkX10_283 : Cond.methodLink RX10 283 yJ6_bitCount_0f7a4 ∈ pg_gd := pg_g (pg_t5 172 rfl) rfl
theorem lkX10_288 : Cond.methodLink RX10 288 yX9_gripsOf ∈ pg_gd := pg_g (pg_t5 173 rfl) rfl
theorem lkL_138 : Cond.methodLink RL 138 yX10_mark ∈ pg_gd := pg_g (pg_t5 174 rfl) rfl
theorem lkX10_291 : Cond.methodLink RX10 291 yX6_goBack ∈ pg_gd := pg_g (pg_t5 178 rfl) rfl
theorem lkX6_49 : Cond.methodLink RX6 49 yX2_copyFrom ∈ pg_gd := pg_g (pg_t5 182 rfl) rfl
theorem lkX10_295 : Cond.methodLink RX10 295 yX6_lay ∈ pg_gd := pg_g (pg_t5 187 rfl) rfl
theorem lkL_143 : Cond.methodLink RL 143 yX10_count ∈ pg_gd := pg_g (pg_t5 191 rfl) rfl
theorem lkX10_305 : Cond.methodLink RX10 305 yX9_turnedBits ∈ pg_gd := pg_g (pg_t5 195 rfl) rfl
theorem lkX9_63 : Cond.methodLink RX9 63 yX9_isTurned ∈ pg_gd := pg_g (pg_t5 199 rfl) rfl
theorem lkL_124 : Cond.methodLink RL 124 yL_rests ∈ pg_gd := pg_g (pg_t5 200 rfl) rfl
theorem lkL_7 : Cond.methodLink RL 7 yX10_rests ∈ pg_gd := pg_g (pg_t5 204 rfl) rfl
theorem lkX10_258 : Cond.methodLink RX10 258 yX10_isWorth ∈ pg_gd := pg_g (pg_t5 208 rfl) rfl
theorem lkX10_268 : Cond.methodLink RX10 268 yX10_isRest ∈ pg_gd := pg_g (pg_t6 36 rfl) rfl
theorem lkX10_330 : Cond.methodLink RX10 330 yX10_loot ∈ pg_gd := pg_g (pg_t6 39 rfl) rfl
theorem lkL_130 : Cond.methodLink RL 130 yX11_thrown ∈ pg_gd := pg_g (pg_t6 43 rfl) rfl
theorem lkL_25 : Cond.methodLink RL 25 yX11_feed ∈ pg_gd := pg_g (pg_t6 47 rfl) rfl
theorem lkX11_7 : Cond.methodLink RX11 7 yX11_lay ∈ pg_gd := pg_g (pg_t6 51 rfl) rfl
theorem lkL_18 : Cond.methodLink RL 18 yX11_init ∈ pg_gd := pg_g (pg_t6 57 rfl) rfl
theorem lkX11_144 : Cond.methodLink RX11 144 yX11_standsAsAlways ∈ pg_gd := pg_g (pg_t6 87 rfl) rfl
theorem lkX11_148 : Cond.methodLink RX11 148 yX11_begins ∈ pg_gd := pg_g (pg_t6 91 rfl) rfl
theorem lkX11_282 : Cond.methodLink RX11 282 yX11_starts ∈ pg_gd := pg_g (pg_t6 95 rfl) rfl
theorem lkL_30 : Cond.methodLink RL 30 yX11_line ∈ pg_gd := pg_g (pg_t6 214 rfl) rfl
theorem lkX11_219 : Cond.methodLink RX11 219 yX11_cutAll ∈ pg_gd := pg_g (pg_t6 218 rfl) rfl
theorem lkX11_151 : Cond.methodLink RX11 151 yX11_isLetter ∈ pg_gd := pg_g (pg_t6 222 rfl) rfl
theorem lkX11_160 : Cond.methodLink RX11 160 yX11_rank ∈ pg_gd := pg_g (pg_t6 226 rfl) rfl
theorem lkX11_164 : Cond.methodLink RX11 164 yX11_isDigit ∈ pg_gd := pg_g (pg_t6 229 rfl) rfl
theorem lkX11_171 : Cond.methodLink RX11 171 yX11_isSignOf ∈ pg_gd := pg_g (pg_t6 234 rfl) rfl
theorem lkX11_186 : Cond.methodLink RX11 186 yX11_isWord ∈ pg_gd := pg_g (pg_t6 237 rfl) rfl
theorem lkX11_228 : Cond.methodLink RX11 228 yX11_readCloth ∈ pg_gd := pg_g (pg_t7 1 rfl) rfl
theorem lkX11_183 : Cond.methodLink RX11 183 yX11_wrong ∈ pg_gd := pg_g (pg_t7 5 rfl) rfl
theorem lkX11_208 : Cond.methodLink RX11 208 yX11_isName ∈ pg_gd := pg_g (pg_t7 9 rfl) rfl
theorem lkX11_199 : Cond.methodLink RX11 199 yX11_wordHere ∈ pg_gd := pg_g (pg_t7 13 rfl) rfl
theorem lkX11_212 : Cond.methodLink RX11 212 yX11_find ∈ pg_gd := pg_g (pg_t7 17 rfl) rfl
theorem lkX11_240 : Cond.methodLink RX11 240 yX11_takeOne ∈ pg_gd := pg_g (pg_t7 21 rfl) rfl
theorem lkX11_243 : Cond.methodLink RX11 243 yX11_takeAfter ∈ pg_gd := pg_g (pg_t7 25 rfl) rfl
theorem lkX11_192 : Cond.methodLink RX11 192 yX11_takeWord ∈ pg_gd := pg_g (pg_t7 29 rfl) rfl
theorem lkX11_189 : Cond.methodLink RX11 189 yX11_hasWord ∈ pg_gd := pg_g (pg_t7 33 rfl) rfl
theorem lkX11_195 : Cond.methodLink RX11 195 yX11_takeNumber ∈ pg_gd := pg_g (pg_t7 37 rfl) rfl
theorem lkX11_231 : Cond.methodLink RX11 231 yX11_readClash ∈ pg_gd := pg_g (pg_t7 41 rfl) rfl
theorem lkX11_247 : Cond.methodLink RX11 247 yX11_takeTold ∈ pg_gd := pg_g (pg_t7 45 rfl) rfl
theorem lkX11_216 : Cond.methodLink RX11 216 yX11_toldHere ∈ pg_gd := pg_g (pg_t7 49 rfl) rfl
theorem lkX11_234 : Cond.methodLink RX11 234 yX11_readOnce ∈ pg_gd := pg_g (pg_t7 53 rfl) rfl
theorem lkX11_250 : Cond.methodLink RX11 250 yX11_readRow ∈ pg_gd := pg_g (pg_t7 57 rfl) rfl
theorem lkX11_253 : Cond.methodLink RX11 253 yX11_all ∈ pg_gd := pg_g (pg_t7 61 rfl) rfl
theorem lkX11_264 : Cond.methodLink RX11 264 yX11_test ∈ pg_gd := pg_g (pg_t7 65 rfl) rfl
theorem lkX11_267 : Cond.methodLink RX11 267 yX11_sums ∈ pg_gd := pg_g (pg_t7 69 rfl) rfl
theorem lkX11_273 : Cond.methodLink RX11 273 yX11_products ∈ pg_gd := pg_g (pg_t7 73 rfl) rfl
theorem lkX11_276 : Cond.methodLink RX11 276 yX11_takePart ∈ pg_gd := pg_g (pg_t7 77 rfl) rfl
theorem lkX11_180 : Cond.methodLink RX11 180 yX11_isSign ∈ pg_gd := pg_g (pg_t7 81 rfl) rfl
theorem lkX11_256 : Cond.methodLink RX11 256 yX11_emit ∈ pg_gd := pg_g (pg_t7 85 rfl) rfl
theorem lkX11_270 : Cond.methodLink RX11 270 yX11_hasSign ∈ pg_gd := pg_g (pg_t7 89 rfl) rfl
theorem lkX11_237 : Cond.methodLink RX11 237 yX11_takeSign ∈ pg_gd := pg_g (pg_t7 93 rfl) rfl
theorem lkL_34 : Cond.methodLink RL 34 yX11_day ∈ pg_gd := pg_g (pg_t7 97 rfl) rfl
theorem lkX11_260 : Cond.methodLink RX11 260 yX11_readPegs ∈ pg_gd := pg_g (pg_t7 101 rfl) rfl
theorem lkL_39 : Cond.methodLink RL 39 yX11_cloth ∈ pg_gd := pg_g (pg_t7 105 rfl) rfl
theorem lkX11_346 : Cond.methodLink RX11 346 yX11_isCloth ∈ pg_gd := pg_g (pg_t7 109 rfl) rfl
theorem lkX11_292 : Cond.methodLink RX11 292 yX11_cloths ∈ pg_gd := pg_g (pg_t7 113 rfl) rfl
theorem lkX11_349 : Cond.methodLink RX11 349 yX11_within ∈ pg_gd := pg_g (pg_t7 117 rfl) rfl
theorem lkX11_295 : Cond.methodLink RX11 295 yX11_clothOf ∈ pg_gd := pg_g (pg_t7 120 rfl) rfl
theorem lkX11_343 : Cond.methodLink RX11 343 yX11_isLaw ∈ pg_gd := pg_g (pg_t7 124 rfl) rfl
theorem lkX11_298 : Cond.methodLink RX11 298 yX11_bits ∈ pg_gd := pg_g (pg_t7 128 rfl) rfl
theorem lkX11_301 : Cond.methodLink RX11 301 yX11_needs ∈ pg_gd := pg_g (pg_t7 131 rfl) rfl
theorem lkX11_352 : Cond.methodLink RX11 352 yX11_isTurned ∈ pg_gd := pg_g (pg_t7 135 rfl) rfl
theorem lkX11_304 : Cond.methodLink RX11 304 yX11_isHung ∈ pg_gd := pg_g (pg_t7 139 rfl) rfl
theorem lkX11_308 : Cond.methodLink RX11 308 yX11_roomBy ∈ pg_gd := pg_g (pg_t7 143 rfl) rfl
theorem lkX11_332 : Cond.methodLink RX11 332 yX11_windOf ∈ pg_gd := pg_g (pg_t7 147 rfl) rfl
theorem lkX11_317 : Cond.methodLink RX11 317 yX11_pullOf ∈ pg_gd := pg_g (pg_t7 151 rfl) rfl
theorem lkX11_311 : Cond.methodLink RX11 311 yX11_laysFacts ∈ pg_gd := pg_g (pg_t7 155 rfl) rfl
theorem lkX11_314 : Cond.methodLink RX11 314 yX11_worthAt ∈ pg_gd := pg_g (pg_t7 159 rfl) rfl
theorem lkX11_279 : Cond.methodLink RX11 279 yX11_both ∈ pg_gd := pg_g (pg_t7 163 rfl) rfl
theorem lkL_43 : Cond.methodLink RL 43 yX11_peg ∈ pg_gd := pg_g (pg_t7 166 rfl) rfl
theorem lkX11_355 : Cond.methodLink RX11 355 yX11_heldBy ∈ pg_gd := pg_g (pg_t7 170 rfl) rfl
theorem lkL_51 : Cond.methodLink RL 51 yX11_laws ∈ pg_gd := pg_g (pg_t7 174 rfl) rfl
theorem lkX11_358 : Cond.methodLink RX11 358 yX11_lawsOf ∈ pg_gd := pg_g (pg_t7 178 rfl) rfl
theorem lkL_47 : Cond.methodLink RL 47 yX11_free ∈ pg_gd := pg_g (pg_t7 182 rfl) rfl
theorem lkX11_361 : Cond.methodLink RX11 361 yX11_freePegs ∈ pg_gd := pg_g (pg_t7 186 rfl) rfl
theorem lkL_55 : Cond.methodLink RL 55 yX11_hang ∈ pg_gd := pg_g (pg_t7 190 rfl) rfl
theorem lkX11_367 : Cond.methodLink RX11 367 yX11_mayHang ∈ pg_gd := pg_g (pg_t7 194 rfl) rfl
theorem lkX11_364 : Cond.methodLink RX11 364 yX11_roomLeft ∈ pg_gd := pg_g (pg_t7 198 rfl) rfl
theorem lkX11_370 : Cond.methodLink RX11 370 yX11_keeps ∈ pg_gd := pg_g (pg_t7 202 rfl) rfl
theorem lkX11_288 : Cond.methodLink RX11 288 yX11_copies ∈ pg_gd := pg_g (pg_t7 206 rfl) rfl
theorem lkL_60 : Cond.methodLink RL 60 yX11_take ∈ pg_gd := pg_g (pg_t7 210 rfl) rfl
theorem lkL_65 : Cond.methodLink RL 65 yX11_wash ∈ pg_gd := pg_g (pg_t7 214 rfl) rfl
theorem lkX11_373 : Cond.methodLink RX11 373 yX11_washes ∈ pg_gd := pg_g (pg_t7 218 rfl) rfl
theorem lkL_69 : Cond.methodLink RL 69 yX11_buy ∈ pg_gd := pg_g (pg_t7 222 rfl) rfl
theorem lkX11_376 : Cond.methodLink RX11 376 yX11_buys ∈ pg_gd := pg_g (pg_t7 226 rfl) rfl
theorem lkL_73 : Cond.methodLink RL 73 yX11_hour ∈ pg_gd := pg_g (pg_t7 230 rfl) rfl
theorem lkX11_379 : Cond.methodLink RX11 379 yX11_passes ∈ pg_gd := pg_g (pg_t7 234 rfl) rfl
theorem lkX11_336 : Cond.methodLink RX11 336 yX11_pulls ∈ pg_gd := pg_g (pg_t7 238 rfl) rfl
theorem lkX11_320 : Cond.methodLink RX11 320 yX11_gripsOf ∈ pg_gd := pg_g (pg_t8 2 rfl) rfl
theorem lkX11_323 : Cond.methodLink RX11 323 yX11_loosens ∈ pg_gd := pg_g (pg_t8 6 rfl) rfl
theorem lkX11_326 : Cond.methodLink RX11 326 yX11_held ∈ pg_gd := pg_g (pg_t8 10 rfl) rfl
theorem lkX11_329 : Cond.methodLink RX11 329 yX11_falls ∈ pg_gd := pg_g (pg_t8 14 rfl) rfl
theorem lkX11_340 : Cond.methodLink RX11 340 yX11_driedOf ∈ pg_gd := pg_g (pg_t8 18 rfl) rfl
theorem lkL_78 : Cond.methodLink RL 78 yX11_undo ∈ pg_gd := pg_g (pg_t8 22 rfl) rfl
theorem lkL_82 : Cond.methodLink RL 82 yX11_judged ∈ pg_gd := pg_g (pg_t8 26 rfl) rfl
theorem lkX11_382 : Cond.methodLink RX11 382 yX11_does ∈ pg_gd := pg_g (pg_t8 30 rfl) rfl
theorem lkX11_385 : Cond.methodLink RX11 385 yX11_worthOf ∈ pg_gd := pg_g (pg_t8 34 rfl) rfl
theorem lkL_86 : Cond.methodLink RL 86 yX11_holds ∈ pg_gd := pg_g (pg_t8 38 rfl) rfl
theorem lkL_90 : Cond.methodLink RL 90 yX11_clashes ∈ pg_gd := pg_g (pg_t8 42 rfl) rfl
theorem lkX11_388 : Cond.methodLink RX11 388 yX11_clashesIn ∈ pg_gd := pg_g (pg_t8 46 rfl) rfl
theorem lkL_94 : Cond.methodLink RL 94 yX11_mend ∈ pg_gd := pg_g (pg_t8 50 rfl) rfl
theorem lkL_98 : Cond.methodLink RL 98 yX11_fill ∈ pg_gd := pg_g (pg_t8 54 rfl) rfl
theorem lkX11_401 : Cond.methodLink RX11 401 yX11_findHardest ∈ pg_gd := pg_g (pg_t8 58 rfl) rfl
theorem lkX11_397 : Cond.methodLink RX11 397 yX11_fills ∈ pg_gd := pg_g (pg_t8 62 rfl) rfl
theorem lkL_102 : Cond.methodLink RL 102 yX11_odds ∈ pg_gd := pg_g (pg_t8 66 rfl) rfl
theorem lkX11_404 : Cond.methodLink RX11 404 yX11_hanging ∈ pg_gd := pg_g (pg_t8 70 rfl) rfl
theorem lkL_106 : Cond.methodLink RL 106 yX11_dry ∈ pg_gd := pg_g (pg_t8 75 rfl) rfl
theorem lkX11_419 : Cond.methodLink RX11 419 yX11_driedBehind ∈ pg_gd := pg_g (pg_t8 79 rfl) rfl
theorem lkX11_416 : Cond.methodLink RX11 416 yX11_washesFrom ∈ pg_gd := pg_g (pg_t8 83 rfl) rfl
theorem lkL_111 : Cond.methodLink RL 111 yX11_feel ∈ pg_gd := pg_g (pg_t8 87 rfl) rfl
theorem lkL_115 : Cond.methodLink RL 115 yX11_starts_ ∈ pg_gd := pg_g (pg_t8 91 rfl) rfl
theorem lkX11_425 : Cond.methodLink RX11 425 yX11_startsNow ∈ pg_gd := pg_g (pg_t8 95 rfl) rfl
theorem lkX11_422 : Cond.methodLink RX11 422 yX11_wetBehind ∈ pg_gd := pg_g (pg_t8 99 rfl) rfl
theorem lkL_119 : Cond.methodLink RL 119 yX11_ask ∈ pg_gd := pg_g (pg_t8 103 rfl) rfl
theorem lkL_123 : Cond.methodLink RL 123 yX11_change ∈ pg_gd := pg_g (pg_t8 107 rfl) rfl
theorem lkX11_428 : Cond.methodLink RX11 428 yX11_worthBehind ∈ pg_gd := pg_g (pg_t8 111 rfl) rfl
theorem lkL_129 : Cond.methodLink RL 129 yX11_rests ∈ pg_gd := pg_g (pg_t8 115 rfl) rfl
theorem lkL_137 : Cond.methodLink RL 137 yX11_decades ∈ pg_gd := pg_g (pg_t8 119 rfl) rfl
theorem lkX11_449 : Cond.methodLink RX11 449 yX11_drawsCloth ∈ pg_gd := pg_g (pg_t8 123 rfl) rfl
theorem lkX11_443 : Cond.methodLink RX11 443 yX11_draw ∈ pg_gd := pg_g (pg_t8 127 rfl) rfl
theorem lkX11_446 : Cond.methodLink RX11 446 yX11_firstFree ∈ pg_gd := pg_g (pg_t8 135 rfl) rfl
theorem lkL_142 : Cond.methodLink RL 142 yX11_mark ∈ pg_gd := pg_g (pg_t8 139 rfl) rfl
theorem lkL_146 : Cond.methodLink RL 146 yX11_count ∈ pg_gd := pg_g (pg_t8 143 rfl) rfl
theorem lkX11_452 : Cond.methodLink RX11 452 yX11_turnedSet ∈ pg_gd := pg_g (pg_t8 147 rfl) rfl
theorem kX7_15 : Cond.constantLong RX7 15 (255) ∈ pg_gd := pg_g (pg_t2 209 rfl) rfl
theorem kX7_204 : Cond.constantLong RX7 204 (32) ∈ pg_gd := pg_g (pg_t2 230 rfl) rfl
theorem kJ2_227 : Cond.constant RJ2 227 (65536) ∈ pg_gd := pg_g (pg_t3 82 rfl) rfl
theorem kJ11_110 : Cond.constant RJ11 110 (55232) ∈ pg_gd := pg_g (pg_t3 107 rfl) rfl
theorem kJ11_76 : Cond.constant RJ11 76 (56320) ∈ pg_gd := pg_g (pg_t3 111 rfl) rfl
theorem kJ6_265 : Cond.constant RJ6 265 (1431655765) ∈ pg_gd := pg_g (pg_t4 17 rfl) rfl
theorem kJ6_266 : Cond.constant RJ6 266 (858993459) ∈ pg_gd := pg_g (pg_t4 18 rfl) rfl
theorem kJ6_267 : Cond.constant RJ6 267 (252645135) ∈ pg_gd := pg_g (pg_t4 19 rfl) rfl
theorem kJ6_264 : Cond.constant RJ6 264 (65536) ∈ pg_gd := pg_g (pg_t5 25 rfl) rfl
theorem kX0_53 : Cond.constantLong RX0 53 (10) ∈ pg_gd := pg_g (pg_t5 68 rfl) rfl
theorem kX0_55 : Cond.constantLong RX0 55 (1000000) ∈ pg_gd := pg_g (pg_t5 69 rfl) rfl
theorem kX10_322 : Cond.constantLong RX10 322 (1103515245) ∈ pg_gd := pg_g (pg_t5 160 rfl) rfl
theorem kX10_324 : Cond.constantLong RX10 324 (12345) ∈ pg_gd := pg_g (pg_t5 161 rfl) rfl
theorem kX10_326 : Cond.constantLong RX10 326 (2147483648) ∈ pg_gd := pg_g (pg_t5 162 rfl) rfl
theorem kX10_328 : Cond.constantLong RX10 328 (65536) ∈ pg_gd := pg_g (pg_t5 163 rfl) rfl
theorem kX11_34 : Cond.constantLong RX11 34 (6251602) ∈ pg_gd := pg_g (pg_t6 61 rfl) rfl
theorem kX11_36 : Cond.constantLong RX11 36 (1177493) ∈ pg_gd := pg_g (pg_t6 62 rfl) rfl
theorem kX11_38 : Cond.constantLong RX11 38 (1604747592) ∈ pg_gd := pg_g (pg_t6 63 rfl) rfl
theorem kX11_40 : Cond.constantLong RX11 40 (43890888) ∈ pg_gd := pg_g (pg_t6 64 rfl) rfl
theorem kX11_42 : Cond.constantLong RX11 42 (817571) ∈ pg_gd := pg_g (pg_t6 65 rfl) rfl
theorem kX11_44 : Cond.constantLong RX11 44 (43580913) ∈ pg_gd := pg_g (pg_t6 66 rfl) rfl
theorem kX11_46 : Cond.constantLong RX11 46 (46929487) ∈ pg_gd := pg_g (pg_t6 67 rfl) rfl
theorem kX11_48 : Cond.constantLong RX11 48 (14209610) ∈ pg_gd := pg_g (pg_t6 68 rfl) rfl
theorem kX11_50 : Cond.constantLong RX11 50 (6232399) ∈ pg_gd := pg_g (pg_t6 69 rfl) rfl
theorem kX11_52 : Cond.constantLong RX11 52 (31067180) ∈ pg_gd := pg_g (pg_t6 70 rfl) rfl
theorem kX11_54 : Cond.constantLong RX11 54 (8420923) ∈ pg_gd := pg_g (pg_t6 71 rfl) rfl
theorem kX11_56 : Cond.constantLong RX11 56 (407118) ∈ pg_gd := pg_g (pg_t6 72 rfl) rfl
theorem kX11_58 : Cond.constantLong RX11 58 (1014841) ∈ pg_gd := pg_g (pg_t6 73 rfl) rfl
theorem kX11_60 : Cond.constantLong RX11 60 (1167099) ∈ pg_gd := pg_g (pg_t6 74 rfl) rfl
theorem kX11_62 : Cond.constantLong RX11 62 (3540) ∈ pg_gd := pg_g (pg_t6 75 rfl) rfl
theorem kX11_64 : Cond.constantLong RX11 64 (426554) ∈ pg_gd := pg_g (pg_t6 76 rfl) rfl
theorem kX11_66 : Cond.constantLong RX11 66 (30596128) ∈ pg_gd := pg_g (pg_t6 77 rfl) rfl
theorem kX11_68 : Cond.constantLong RX11 68 (36021333) ∈ pg_gd := pg_g (pg_t6 78 rfl) rfl
theorem kX11_70 : Cond.constantLong RX11 70 (320390) ∈ pg_gd := pg_g (pg_t6 79 rfl) rfl
theorem kX11_72 : Cond.constantLong RX11 72 (1186121) ∈ pg_gd := pg_g (pg_t6 80 rfl) rfl
theorem kX11_74 : Cond.constantLong RX11 74 (19741) ∈ pg_gd := pg_g (pg_t6 81 rfl) rfl
theorem kX11_76 : Cond.constantLong RX11 76 (1891) ∈ pg_gd := pg_g (pg_t6 82 rfl) rfl
theorem kX11_78 : Cond.constantLong RX11 78 (573) ∈ pg_gd := pg_g (pg_t6 83 rfl) rfl
theorem kX11_80 : Cond.constantLong RX11 80 (1177862) ∈ pg_gd := pg_g (pg_t6 84 rfl) rfl
theorem kX11_82 : Cond.constantLong RX11 82 (660580) ∈ pg_gd := pg_g (pg_t6 85 rfl) rfl
theorem kX11_84 : Cond.constantLong RX11 84 (975695) ∈ pg_gd := pg_g (pg_t6 86 rfl) rfl
theorem kX11_158 : Cond.constantLong RX11 158 (37) ∈ pg_gd := pg_g (pg_t6 225 rfl) rfl
theorem kX11_167 : Cond.constantLong RX11 167 (10) ∈ pg_gd := pg_g (pg_t6 232 rfl) rfl
theorem kX11_169 : Cond.constantLong RX11 169 (48) ∈ pg_gd := pg_g (pg_t6 233 rfl) rfl
theorem kX11_408 : Cond.constantLong RX11 408 (1000000) ∈ pg_gd := pg_g (pg_t8 74 rfl) rfl
theorem kX11_435 : Cond.constantLong RX11 435 (1103515245) ∈ pg_gd := pg_g (pg_t8 131 rfl) rfl
theorem kX11_437 : Cond.constantLong RX11 437 (12345) ∈ pg_gd := pg_g (pg_t8 132 rfl) rfl
theorem kX11_439 : Cond.constantLong RX11 439 (2147483648) ∈ pg_gd := pg_g (pg_t8 133 rfl) rfl
theorem kX11_441 : Cond.constantLong RX11 441 (65536) ∈ pg_gd := pg_g (pg_t8 134 rfl) rfl
theorem kL_19 : Cond.constantLong RL 19 (4294967295) ∈ pg_gd := pg_g (pg_t8 151 rfl) rfl
end
