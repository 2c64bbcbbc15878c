section
-- ===== PART A: goes FIRST, ahead of the names: the tables' words, and 'selects' of the private methods out of them =====
/-- a private method of a class that the tables say can be made, by its rows of tables_1 -/
def lw_okq (q : MethodName × Nat) : Prop := (q.1.cls ≠ "java/lang/invoke/MethodHandle" ∧ q.1.cls ≠ "java/lang/invoke/VarHandle") ∧ Cond.instantiable q.1.cls q.2 ∈ tables_1 ∧ Cond.privateMethod q.1 ∈ tables_1 ∧ Cond.instanceMethod q.1 ∈ tables_1
theorem lw_p0 : lw_okq (⟨"ThreePhases$Reader", "next", "()V"⟩, 13) := ⟨⟨by decide +kernel, by decide +kernel⟩, List.mem_of_getElem? (i := 192) (by decide +kernel), List.mem_of_getElem? (i := 556) (by decide +kernel), List.mem_of_getElem? (i := 557) (by decide +kernel)⟩
theorem lw_p1 : lw_okq (⟨"ThreePhases$Reader", "readWord", "()V"⟩, 13) := ⟨⟨by decide +kernel, by decide +kernel⟩, List.mem_of_getElem? (i := 192) (by decide +kernel), List.mem_of_getElem? (i := 563) (by decide +kernel), List.mem_of_getElem? (i := 564) (by decide +kernel)⟩
theorem lw_p2 : lw_okq (⟨"ThreePhases$Reader", "readNumber", "()V"⟩, 13) := ⟨⟨by decide +kernel, by decide +kernel⟩, List.mem_of_getElem? (i := 192) (by decide +kernel), List.mem_of_getElem? (i := 570) (by decide +kernel), List.mem_of_getElem? (i := 571) (by decide +kernel)⟩
theorem lw_p3 : lw_okq (⟨"ThreePhases$Reader", "readLine", "(I)Z"⟩, 13) := ⟨⟨by decide +kernel, by decide +kernel⟩, List.mem_of_getElem? (i := 192) (by decide +kernel), List.mem_of_getElem? (i := 574) (by decide +kernel), List.mem_of_getElem? (i := 575) (by decide +kernel)⟩
theorem lw_p4 : lw_okq (⟨"ThreePhases$Reader", "lineOf", "(I)I"⟩, 13) := ⟨⟨by decide +kernel, by decide +kernel⟩, List.mem_of_getElem? (i := 192) (by decide +kernel), List.mem_of_getElem? (i := 578) (by decide +kernel), List.mem_of_getElem? (i := 579) (by decide +kernel)⟩
theorem lw_p5 : lw_okq (⟨"ThreePhases$Reader", "isWord", "(Ljava/lang/String;)Z"⟩, 13) := ⟨⟨by decide +kernel, by decide +kernel⟩, List.mem_of_getElem? (i := 192) (by decide +kernel), List.mem_of_getElem? (i := 604) (by decide +kernel), List.mem_of_getElem? (i := 605) (by decide +kernel)⟩
theorem lw_p6 : lw_okq (⟨"ThreePhases$Reader", "isFull", "(I)Z"⟩, 13) := ⟨⟨by decide +kernel, by decide +kernel⟩, List.mem_of_getElem? (i := 192) (by decide +kernel), List.mem_of_getElem? (i := 656) (by decide +kernel), List.mem_of_getElem? (i := 657) (by decide +kernel)⟩
theorem lw_p7 : lw_okq (⟨"ThreePhases$Reader", "note", "(II)V"⟩, 13) := ⟨⟨by decide +kernel, by decide +kernel⟩, List.mem_of_getElem? (i := 192) (by decide +kernel), List.mem_of_getElem? (i := 660) (by decide +kernel), List.mem_of_getElem? (i := 661) (by decide +kernel)⟩
theorem lw_p8 : lw_okq (⟨"ThreePhases$Reader", "mayBe", "(II)Z"⟩, 13) := ⟨⟨by decide +kernel, by decide +kernel⟩, List.mem_of_getElem? (i := 192) (by decide +kernel), List.mem_of_getElem? (i := 667) (by decide +kernel), List.mem_of_getElem? (i := 668) (by decide +kernel)⟩
theorem lw_p9 : lw_okq (⟨"ThreePhases$Reader", "keep", "(I)V"⟩, 13) := ⟨⟨by decide +kernel, by decide +kernel⟩, List.mem_of_getElem? (i := 192) (by decide +kernel), List.mem_of_getElem? (i := 678) (by decide +kernel), List.mem_of_getElem? (i := 679) (by decide +kernel)⟩
theorem lw_p10 : lw_okq (⟨"ThreePhases$Assembly", "begin", "(LThreePhases$Council;)V"⟩, 7) := ⟨⟨by decide +kernel, by decide +kernel⟩, List.mem_of_getElem? (i := 249) (by decide +kernel), List.mem_of_getElem? (i := 757) (by decide +kernel), List.mem_of_getElem? (i := 758) (by decide +kernel)⟩
theorem lw_p11 : lw_okq (⟨"ThreePhases$Assembly", "act", "(IIII)Z"⟩, 7) := ⟨⟨by decide +kernel, by decide +kernel⟩, List.mem_of_getElem? (i := 249) (by decide +kernel), List.mem_of_getElem? (i := 783) (by decide +kernel), List.mem_of_getElem? (i := 784) (by decide +kernel)⟩
theorem lw_p12 : lw_okq (⟨"ThreePhases$Assembly", "isSeat", "(I)Z"⟩, 7) := ⟨⟨by decide +kernel, by decide +kernel⟩, List.mem_of_getElem? (i := 249) (by decide +kernel), List.mem_of_getElem? (i := 787) (by decide +kernel), List.mem_of_getElem? (i := 788) (by decide +kernel)⟩
theorem lw_p13 : lw_okq (⟨"ThreePhases$Assembly", "propose", "(III)Z"⟩, 7) := ⟨⟨by decide +kernel, by decide +kernel⟩, List.mem_of_getElem? (i := 249) (by decide +kernel), List.mem_of_getElem? (i := 791) (by decide +kernel), List.mem_of_getElem? (i := 792) (by decide +kernel)⟩
theorem lw_p14 : lw_okq (⟨"ThreePhases$Assembly", "isHonest", "(I)Z"⟩, 7) := ⟨⟨by decide +kernel, by decide +kernel⟩, List.mem_of_getElem? (i := 249) (by decide +kernel), List.mem_of_getElem? (i := 795) (by decide +kernel), List.mem_of_getElem? (i := 796) (by decide +kernel)⟩
theorem lw_p15 : lw_okq (⟨"ThreePhases$Assembly", "primaryOf", "(I)I"⟩, 7) := ⟨⟨by decide +kernel, by decide +kernel⟩, List.mem_of_getElem? (i := 249) (by decide +kernel), List.mem_of_getElem? (i := 810) (by decide +kernel), List.mem_of_getElem? (i := 811) (by decide +kernel)⟩
def lw_privs_1 : List (MethodName × Nat) := [(⟨"ThreePhases$Reader", "next", "()V"⟩, 13), (⟨"ThreePhases$Reader", "readWord", "()V"⟩, 13), (⟨"ThreePhases$Reader", "readNumber", "()V"⟩, 13), (⟨"ThreePhases$Reader", "readLine", "(I)Z"⟩, 13), (⟨"ThreePhases$Reader", "lineOf", "(I)I"⟩, 13), (⟨"ThreePhases$Reader", "isWord", "(Ljava/lang/String;)Z"⟩, 13), (⟨"ThreePhases$Reader", "isFull", "(I)Z"⟩, 13), (⟨"ThreePhases$Reader", "note", "(II)V"⟩, 13), (⟨"ThreePhases$Reader", "mayBe", "(II)Z"⟩, 13), (⟨"ThreePhases$Reader", "keep", "(I)V"⟩, 13), (⟨"ThreePhases$Assembly", "begin", "(LThreePhases$Council;)V"⟩, 7), (⟨"ThreePhases$Assembly", "act", "(IIII)Z"⟩, 7), (⟨"ThreePhases$Assembly", "isSeat", "(I)Z"⟩, 7), (⟨"ThreePhases$Assembly", "propose", "(III)Z"⟩, 7), (⟨"ThreePhases$Assembly", "isHonest", "(I)Z"⟩, 7), (⟨"ThreePhases$Assembly", "primaryOf", "(I)I"⟩, 7)]
theorem lw_r1 : ∀ q ∈ lw_privs_1, lw_okq q := List.forall_mem_cons.mpr ⟨lw_p0, List.forall_mem_cons.mpr ⟨lw_p1, List.forall_mem_cons.mpr ⟨lw_p2, List.forall_mem_cons.mpr ⟨lw_p3, List.forall_mem_cons.mpr ⟨lw_p4, List.forall_mem_cons.mpr ⟨lw_p5, List.forall_mem_cons.mpr ⟨lw_p6, List.forall_mem_cons.mpr ⟨lw_p7, List.forall_mem_cons.mpr ⟨lw_p8, List.forall_mem_cons.mpr ⟨lw_p9, List.forall_mem_cons.mpr ⟨lw_p10, List.forall_mem_cons.mpr ⟨lw_p11, List.forall_mem_cons.mpr ⟨lw_p12, List.forall_mem_cons.mpr ⟨lw_p13, List.forall_mem_cons.mpr ⟨lw_p14, List.forall_mem_cons.mpr ⟨lw_p15, fun _ h => absurd h List.not_mem_nil⟩⟩⟩⟩⟩⟩⟩⟩⟩⟩⟩⟩⟩⟩⟩⟩
theorem lw_p16 : lw_okq (⟨"ThreePhases$Assembly", "runOn", "(I)Z"⟩, 7) := ⟨⟨by decide +kernel, by decide +kernel⟩, List.mem_of_getElem? (i := 249) (by decide +kernel), List.mem_of_getElem? (i := 829) (by decide +kernel), List.mem_of_getElem? (i := 830) (by decide +kernel)⟩
theorem lw_p17 : lw_okq (⟨"ThreePhases$Assembly", "checkpoint", "(I)V"⟩, 7) := ⟨⟨by decide +kernel, by decide +kernel⟩, List.mem_of_getElem? (i := 249) (by decide +kernel), List.mem_of_getElem? (i := 845) (by decide +kernel), List.mem_of_getElem? (i := 846) (by decide +kernel)⟩
theorem lw_p18 : lw_okq (⟨"ThreePhases$Assembly", "doubt", "(LThreePhases$Member;)Z"⟩, 7) := ⟨⟨by decide +kernel, by decide +kernel⟩, List.mem_of_getElem? (i := 249) (by decide +kernel), List.mem_of_getElem? (i := 865) (by decide +kernel), List.mem_of_getElem? (i := 866) (by decide +kernel)⟩
theorem lw_p19 : lw_okq (⟨"ThreePhases$Assembly", "makeView", "(I)Z"⟩, 7) := ⟨⟨by decide +kernel, by decide +kernel⟩, List.mem_of_getElem? (i := 249) (by decide +kernel), List.mem_of_getElem? (i := 870) (by decide +kernel), List.mem_of_getElem? (i := 871) (by decide +kernel)⟩
theorem lw_p20 : lw_okq (⟨"ThreePhases$Assembly", "enter", "(I)V"⟩, 7) := ⟨⟨by decide +kernel, by decide +kernel⟩, List.mem_of_getElem? (i := 249) (by decide +kernel), List.mem_of_getElem? (i := 887) (by decide +kernel), List.mem_of_getElem? (i := 888) (by decide +kernel)⟩
theorem lw_p21 : lw_okq (⟨"ThreePhases$Assembly", "enterMade", "(I)Z"⟩, 7) := ⟨⟨by decide +kernel, by decide +kernel⟩, List.mem_of_getElem? (i := 249) (by decide +kernel), List.mem_of_getElem? (i := 892) (by decide +kernel), List.mem_of_getElem? (i := 893) (by decide +kernel)⟩
theorem lw_p22 : lw_okq (⟨"ThreePhases$Assembly", "prepare", "(III)Z"⟩, 7) := ⟨⟨by decide +kernel, by decide +kernel⟩, List.mem_of_getElem? (i := 249) (by decide +kernel), List.mem_of_getElem? (i := 896) (by decide +kernel), List.mem_of_getElem? (i := 897) (by decide +kernel)⟩
theorem lw_p23 : lw_okq (⟨"ThreePhases$Assembly", "commit", "(III)Z"⟩, 7) := ⟨⟨by decide +kernel, by decide +kernel⟩, List.mem_of_getElem? (i := 249) (by decide +kernel), List.mem_of_getElem? (i := 904) (by decide +kernel), List.mem_of_getElem? (i := 905) (by decide +kernel)⟩
theorem lw_p24 : lw_okq (⟨"ThreePhases$Assembly", "mark", "(II)Z"⟩, 7) := ⟨⟨by decide +kernel, by decide +kernel⟩, List.mem_of_getElem? (i := 249) (by decide +kernel), List.mem_of_getElem? (i := 909) (by decide +kernel), List.mem_of_getElem? (i := 910) (by decide +kernel)⟩
theorem lw_p25 : lw_okq (⟨"ThreePhases$Assembly", "fetch", "(II)Z"⟩, 7) := ⟨⟨by decide +kernel, by decide +kernel⟩, List.mem_of_getElem? (i := 249) (by decide +kernel), List.mem_of_getElem? (i := 913) (by decide +kernel), List.mem_of_getElem? (i := 914) (by decide +kernel)⟩
theorem lw_p26 : lw_okq (⟨"ThreePhases", "reaches", "(III)Z"⟩, 10) := ⟨⟨by decide +kernel, by decide +kernel⟩, List.mem_of_getElem? (i := 23) (by decide +kernel), List.mem_of_getElem? (i := 927) (by decide +kernel), List.mem_of_getElem? (i := 928) (by decide +kernel)⟩
theorem lw_p27 : lw_okq (⟨"ThreePhases$Member", "tellPlace", "(II)I"⟩, 18) := ⟨⟨by decide +kernel, by decide +kernel⟩, List.mem_of_getElem? (i := 283) (by decide +kernel), List.mem_of_getElem? (i := 939) (by decide +kernel), List.mem_of_getElem? (i := 940) (by decide +kernel)⟩
theorem lw_p28 : lw_okq (⟨"ThreePhases$Assembly", "runners", "(II)I"⟩, 7) := ⟨⟨by decide +kernel, by decide +kernel⟩, List.mem_of_getElem? (i := 249) (by decide +kernel), List.mem_of_getElem? (i := 970) (by decide +kernel), List.mem_of_getElem? (i := 971) (by decide +kernel)⟩
theorem lw_p29 : lw_okq (⟨"ThreePhases$Timetable", "acceptAll", "(I)V"⟩, 8) := ⟨⟨by decide +kernel, by decide +kernel⟩, List.mem_of_getElem? (i := 412) (by decide +kernel), List.mem_of_getElem? (i := 1039) (by decide +kernel), List.mem_of_getElem? (i := 1040) (by decide +kernel)⟩
theorem lw_p30 : lw_okq (⟨"ThreePhases$Timetable", "prepareAll", "(I)V"⟩, 8) := ⟨⟨by decide +kernel, by decide +kernel⟩, List.mem_of_getElem? (i := 412) (by decide +kernel), List.mem_of_getElem? (i := 1053) (by decide +kernel), List.mem_of_getElem? (i := 1054) (by decide +kernel)⟩
theorem lw_p31 : lw_okq (⟨"ThreePhases$Timetable", "fillRow", "([[III)V"⟩, 8) := ⟨⟨by decide +kernel, by decide +kernel⟩, List.mem_of_getElem? (i := 412) (by decide +kernel), List.mem_of_getElem? (i := 1057) (by decide +kernel), List.mem_of_getElem? (i := 1058) (by decide +kernel)⟩
def lw_privs_2 : List (MethodName × Nat) := [(⟨"ThreePhases$Assembly", "runOn", "(I)Z"⟩, 7), (⟨"ThreePhases$Assembly", "checkpoint", "(I)V"⟩, 7), (⟨"ThreePhases$Assembly", "doubt", "(LThreePhases$Member;)Z"⟩, 7), (⟨"ThreePhases$Assembly", "makeView", "(I)Z"⟩, 7), (⟨"ThreePhases$Assembly", "enter", "(I)V"⟩, 7), (⟨"ThreePhases$Assembly", "enterMade", "(I)Z"⟩, 7), (⟨"ThreePhases$Assembly", "prepare", "(III)Z"⟩, 7), (⟨"ThreePhases$Assembly", "commit", "(III)Z"⟩, 7), (⟨"ThreePhases$Assembly", "mark", "(II)Z"⟩, 7), (⟨"ThreePhases$Assembly", "fetch", "(II)Z"⟩, 7), (⟨"ThreePhases", "reaches", "(III)Z"⟩, 10), (⟨"ThreePhases$Member", "tellPlace", "(II)I"⟩, 18), (⟨"ThreePhases$Assembly", "runners", "(II)I"⟩, 7), (⟨"ThreePhases$Timetable", "acceptAll", "(I)V"⟩, 8), (⟨"ThreePhases$Timetable", "prepareAll", "(I)V"⟩, 8), (⟨"ThreePhases$Timetable", "fillRow", "([[III)V"⟩, 8)]
theorem lw_r2 : ∀ q ∈ lw_privs_2, lw_okq q := List.forall_mem_cons.mpr ⟨lw_p16, List.forall_mem_cons.mpr ⟨lw_p17, List.forall_mem_cons.mpr ⟨lw_p18, List.forall_mem_cons.mpr ⟨lw_p19, List.forall_mem_cons.mpr ⟨lw_p20, List.forall_mem_cons.mpr ⟨lw_p21, List.forall_mem_cons.mpr ⟨lw_p22, List.forall_mem_cons.mpr ⟨lw_p23, List.forall_mem_cons.mpr ⟨lw_p24, List.forall_mem_cons.mpr ⟨lw_p25, List.forall_mem_cons.mpr ⟨lw_p26, List.forall_mem_cons.mpr ⟨lw_p27, List.forall_mem_cons.mpr ⟨lw_p28, List.forall_mem_cons.mpr ⟨lw_p29, List.forall_mem_cons.mpr ⟨lw_p30, List.forall_mem_cons.mpr ⟨lw_p31, fun _ h => absurd h List.not_mem_nil⟩⟩⟩⟩⟩⟩⟩⟩⟩⟩⟩⟩⟩⟩⟩⟩
theorem lw_p32 : lw_okq (⟨"ThreePhases$Timetable", "quorumth", "()I"⟩, 8) := ⟨⟨by decide +kernel, by decide +kernel⟩, List.mem_of_getElem? (i := 412) (by decide +kernel), List.mem_of_getElem? (i := 1061) (by decide +kernel), List.mem_of_getElem? (i := 1062) (by decide +kernel)⟩
theorem lw_p33 : lw_okq (⟨"ThreePhases$Timetable", "least", "(I)I"⟩, 8) := ⟨⟨by decide +kernel, by decide +kernel⟩, List.mem_of_getElem? (i := 412) (by decide +kernel), List.mem_of_getElem? (i := 1066) (by decide +kernel), List.mem_of_getElem? (i := 1067) (by decide +kernel)⟩
theorem lw_p34 : lw_okq (⟨"ThreePhases$Timetable", "runAll", "(I)V"⟩, 8) := ⟨⟨by decide +kernel, by decide +kernel⟩, List.mem_of_getElem? (i := 412) (by decide +kernel), List.mem_of_getElem? (i := 1070) (by decide +kernel), List.mem_of_getElem? (i := 1071) (by decide +kernel)⟩
theorem lw_p35 : lw_okq (⟨"ThreePhases$Timetable", "cutAll", "(I)V"⟩, 8) := ⟨⟨by decide +kernel, by decide +kernel⟩, List.mem_of_getElem? (i := 412) (by decide +kernel), List.mem_of_getElem? (i := 1074) (by decide +kernel), List.mem_of_getElem? (i := 1075) (by decide +kernel)⟩
theorem lw_p36 : lw_okq (⟨"ThreePhases$Timetable", "isCheckpoint", "(I)Z"⟩, 8) := ⟨⟨by decide +kernel, by decide +kernel⟩, List.mem_of_getElem? (i := 412) (by decide +kernel), List.mem_of_getElem? (i := 1078) (by decide +kernel), List.mem_of_getElem? (i := 1079) (by decide +kernel)⟩
theorem lw_p37 : lw_okq (⟨"ThreePhases$Timetable", "sendAll", "(I)V"⟩, 8) := ⟨⟨by decide +kernel, by decide +kernel⟩, List.mem_of_getElem? (i := 412) (by decide +kernel), List.mem_of_getElem? (i := 1082) (by decide +kernel), List.mem_of_getElem? (i := 1083) (by decide +kernel)⟩
theorem lw_p38 : lw_okq (⟨"ThreePhases$Timetable", "send", "(II)V"⟩, 8) := ⟨⟨by decide +kernel, by decide +kernel⟩, List.mem_of_getElem? (i := 412) (by decide +kernel), List.mem_of_getElem? (i := 1086) (by decide +kernel), List.mem_of_getElem? (i := 1087) (by decide +kernel)⟩
theorem lw_p39 : lw_okq (⟨"ThreePhases", "tallies", "(II)Z"⟩, 10) := ⟨⟨by decide +kernel, by decide +kernel⟩, List.mem_of_getElem? (i := 23) (by decide +kernel), List.mem_of_getElem? (i := 1104) (by decide +kernel), List.mem_of_getElem? (i := 1105) (by decide +kernel)⟩
theorem lw_p40 : lw_okq (⟨"ThreePhases$Tally", "hearOne", "(III)V"⟩, 8) := ⟨⟨by decide +kernel, by decide +kernel⟩, List.mem_of_getElem? (i := 449) (by decide +kernel), List.mem_of_getElem? (i := 1115) (by decide +kernel), List.mem_of_getElem? (i := 1116) (by decide +kernel)⟩
theorem lw_p41 : lw_okq (⟨"ThreePhases$Tally", "noteMatch", "(II)V"⟩, 8) := ⟨⟨by decide +kernel, by decide +kernel⟩, List.mem_of_getElem? (i := 449) (by decide +kernel), List.mem_of_getElem? (i := 1119) (by decide +kernel), List.mem_of_getElem? (i := 1120) (by decide +kernel)⟩
theorem lw_p42 : lw_okq (⟨"ThreePhases$Tally", "isSuspect", "(I)Z"⟩, 8) := ⟨⟨by decide +kernel, by decide +kernel⟩, List.mem_of_getElem? (i := 449) (by decide +kernel), List.mem_of_getElem? (i := 1138) (by decide +kernel), List.mem_of_getElem? (i := 1139) (by decide +kernel)⟩
theorem lw_p43 : lw_okq (⟨"ThreePhases$Assembly", "below", "(I)I"⟩, 7) := ⟨⟨by decide +kernel, by decide +kernel⟩, List.mem_of_getElem? (i := 249) (by decide +kernel), List.mem_of_getElem? (i := 1158) (by decide +kernel), List.mem_of_getElem? (i := 1159) (by decide +kernel)⟩
theorem lw_p44 : lw_okq (⟨"ThreePhases$Assembly", "counts", "(IILThreePhases$Merged;)Z"⟩, 7) := ⟨⟨by decide +kernel, by decide +kernel⟩, List.mem_of_getElem? (i := 249) (by decide +kernel), List.mem_of_getElem? (i := 1180) (by decide +kernel), List.mem_of_getElem? (i := 1181) (by decide +kernel)⟩
theorem lw_p45 : lw_okq (⟨"ThreePhases$Assembly", "alikeProofs", "(II)I"⟩, 7) := ⟨⟨by decide +kernel, by decide +kernel⟩, List.mem_of_getElem? (i := 249) (by decide +kernel), List.mem_of_getElem? (i := 1210) (by decide +kernel), List.mem_of_getElem? (i := 1211) (by decide +kernel)⟩
theorem lw_p46 : lw_okq (⟨"ThreePhases", "blindOrders", "(LThreePhases$Council;)I"⟩, 10) := ⟨⟨by decide +kernel, by decide +kernel⟩, List.mem_of_getElem? (i := 23) (by decide +kernel), List.mem_of_getElem? (i := 1261) (by decide +kernel), List.mem_of_getElem? (i := 1262) (by decide +kernel)⟩
theorem lw_p47 : lw_okq (⟨"ThreePhases", "changedNodes", "(LThreePhases$Council;)I"⟩, 10) := ⟨⟨by decide +kernel, by decide +kernel⟩, List.mem_of_getElem? (i := 23) (by decide +kernel), List.mem_of_getElem? (i := 1266) (by decide +kernel), List.mem_of_getElem? (i := 1267) (by decide +kernel)⟩
def lw_privs_3 : List (MethodName × Nat) := [(⟨"ThreePhases$Timetable", "quorumth", "()I"⟩, 8), (⟨"ThreePhases$Timetable", "least", "(I)I"⟩, 8), (⟨"ThreePhases$Timetable", "runAll", "(I)V"⟩, 8), (⟨"ThreePhases$Timetable", "cutAll", "(I)V"⟩, 8), (⟨"ThreePhases$Timetable", "isCheckpoint", "(I)Z"⟩, 8), (⟨"ThreePhases$Timetable", "sendAll", "(I)V"⟩, 8), (⟨"ThreePhases$Timetable", "send", "(II)V"⟩, 8), (⟨"ThreePhases", "tallies", "(II)Z"⟩, 10), (⟨"ThreePhases$Tally", "hearOne", "(III)V"⟩, 8), (⟨"ThreePhases$Tally", "noteMatch", "(II)V"⟩, 8), (⟨"ThreePhases$Tally", "isSuspect", "(I)Z"⟩, 8), (⟨"ThreePhases$Assembly", "below", "(I)I"⟩, 7), (⟨"ThreePhases$Assembly", "counts", "(IILThreePhases$Merged;)Z"⟩, 7), (⟨"ThreePhases$Assembly", "alikeProofs", "(II)I"⟩, 7), (⟨"ThreePhases", "blindOrders", "(LThreePhases$Council;)I"⟩, 10), (⟨"ThreePhases", "changedNodes", "(LThreePhases$Council;)I"⟩, 10)]
theorem lw_r3 : ∀ q ∈ lw_privs_3, lw_okq q := List.forall_mem_cons.mpr ⟨lw_p32, List.forall_mem_cons.mpr ⟨lw_p33, List.forall_mem_cons.mpr ⟨lw_p34, List.forall_mem_cons.mpr ⟨lw_p35, List.forall_mem_cons.mpr ⟨lw_p36, List.forall_mem_cons.mpr ⟨lw_p37, List.forall_mem_cons.mpr ⟨lw_p38, List.forall_mem_cons.mpr ⟨lw_p39, List.forall_mem_cons.mpr ⟨lw_p40, List.forall_mem_cons.mpr ⟨lw_p41, List.forall_mem_cons.mpr ⟨lw_p42, List.forall_mem_cons.mpr ⟨lw_p43, List.forall_mem_cons.mpr ⟨lw_p44, List.forall_mem_cons.mpr ⟨lw_p45, List.forall_mem_cons.mpr ⟨lw_p46, List.forall_mem_cons.mpr ⟨lw_p47, fun _ h => absurd h List.not_mem_nil⟩⟩⟩⟩⟩⟩⟩⟩⟩⟩⟩⟩⟩⟩⟩⟩
theorem lw_p48 : lw_okq (⟨"ThreePhases", "richest", "(LThreePhases$Council;)I"⟩, 10) := ⟨⟨by decide +kernel, by decide +kernel⟩, List.mem_of_getElem? (i := 23) (by decide +kernel), List.mem_of_getElem? (i := 1274) (by decide +kernel), List.mem_of_getElem? (i := 1275) (by decide +kernel)⟩
theorem lw_p49 : lw_okq (⟨"ThreePhasesModel", "isOf", "(II)Z"⟩, 61) := ⟨⟨by decide +kernel, by decide +kernel⟩, List.mem_of_getElem? (i := 1312) (by decide +kernel), List.mem_of_getElem? (i := 1518) (by decide +kernel), List.mem_of_getElem? (i := 1519) (by decide +kernel)⟩
theorem lw_p50 : lw_okq (⟨"ThreePhasesModel", "advance", "()V"⟩, 61) := ⟨⟨by decide +kernel, by decide +kernel⟩, List.mem_of_getElem? (i := 1312) (by decide +kernel), List.mem_of_getElem? (i := 1522) (by decide +kernel), List.mem_of_getElem? (i := 1523) (by decide +kernel)⟩
theorem lw_p51 : lw_okq (⟨"ThreePhasesModel", "byteAt", "(I)I"⟩, 61) := ⟨⟨by decide +kernel, by decide +kernel⟩, List.mem_of_getElem? (i := 1312) (by decide +kernel), List.mem_of_getElem? (i := 1526) (by decide +kernel), List.mem_of_getElem? (i := 1527) (by decide +kernel)⟩
theorem lw_p52 : lw_okq (⟨"ThreePhasesModel", "councilLine", "()V"⟩, 61) := ⟨⟨by decide +kernel, by decide +kernel⟩, List.mem_of_getElem? (i := 1312) (by decide +kernel), List.mem_of_getElem? (i := 1548) (by decide +kernel), List.mem_of_getElem? (i := 1549) (by decide +kernel)⟩
theorem lw_p53 : lw_okq (⟨"ThreePhasesModel", "wordIn", "(II)I"⟩, 61) := ⟨⟨by decide +kernel, by decide +kernel⟩, List.mem_of_getElem? (i := 1312) (by decide +kernel), List.mem_of_getElem? (i := 1552) (by decide +kernel), List.mem_of_getElem? (i := 1553) (by decide +kernel)⟩
theorem lw_p54 : lw_okq (⟨"ThreePhasesModel", "ends", "()V"⟩, 61) := ⟨⟨by decide +kernel, by decide +kernel⟩, List.mem_of_getElem? (i := 1312) (by decide +kernel), List.mem_of_getElem? (i := 1556) (by decide +kernel), List.mem_of_getElem? (i := 1557) (by decide +kernel)⟩
theorem lw_p55 : lw_okq (⟨"ThreePhasesModel", "numbered", "(II)I"⟩, 61) := ⟨⟨by decide +kernel, by decide +kernel⟩, List.mem_of_getElem? (i := 1312) (by decide +kernel), List.mem_of_getElem? (i := 1560) (by decide +kernel), List.mem_of_getElem? (i := 1561) (by decide +kernel)⟩
theorem lw_p56 : lw_okq (⟨"ThreePhasesModel", "also", "(II)V"⟩, 61) := ⟨⟨by decide +kernel, by decide +kernel⟩, List.mem_of_getElem? (i := 1312) (by decide +kernel), List.mem_of_getElem? (i := 1564) (by decide +kernel), List.mem_of_getElem? (i := 1565) (by decide +kernel)⟩
theorem lw_p57 : lw_okq (⟨"ThreePhasesModel", "memberTold", "()I"⟩, 61) := ⟨⟨by decide +kernel, by decide +kernel⟩, List.mem_of_getElem? (i := 1312) (by decide +kernel), List.mem_of_getElem? (i := 1568) (by decide +kernel), List.mem_of_getElem? (i := 1569) (by decide +kernel)⟩
theorem lw_p58 : lw_okq (⟨"ThreePhasesModel", "orderTold", "(I)V"⟩, 61) := ⟨⟨by decide +kernel, by decide +kernel⟩, List.mem_of_getElem? (i := 1312) (by decide +kernel), List.mem_of_getElem? (i := 1572) (by decide +kernel), List.mem_of_getElem? (i := 1573) (by decide +kernel)⟩
theorem lw_p59 : lw_okq (⟨"ThreePhasesModel", "delayTold", "()V"⟩, 61) := ⟨⟨by decide +kernel, by decide +kernel⟩, List.mem_of_getElem? (i := 1312) (by decide +kernel), List.mem_of_getElem? (i := 1576) (by decide +kernel), List.mem_of_getElem? (i := 1577) (by decide +kernel)⟩
theorem lw_p60 : lw_okq (⟨"ThreePhasesModel", "otherTold", "(I)I"⟩, 61) := ⟨⟨by decide +kernel, by decide +kernel⟩, List.mem_of_getElem? (i := 1312) (by decide +kernel), List.mem_of_getElem? (i := 1580) (by decide +kernel), List.mem_of_getElem? (i := 1581) (by decide +kernel)⟩
theorem lw_p61 : lw_okq (⟨"ThreePhasesModel", "endsLine", "()V"⟩, 61) := ⟨⟨by decide +kernel, by decide +kernel⟩, List.mem_of_getElem? (i := 1312) (by decide +kernel), List.mem_of_getElem? (i := 1584) (by decide +kernel), List.mem_of_getElem? (i := 1585) (by decide +kernel)⟩
theorem lw_p62 : lw_okq (⟨"ThreePhasesModel", "runLine", "()V"⟩, 61) := ⟨⟨by decide +kernel, by decide +kernel⟩, List.mem_of_getElem? (i := 1312) (by decide +kernel), List.mem_of_getElem? (i := 1588) (by decide +kernel), List.mem_of_getElem? (i := 1589) (by decide +kernel)⟩
theorem lw_p63 : lw_okq (⟨"ThreePhasesModel", "repliesLine", "()V"⟩, 61) := ⟨⟨by decide +kernel, by decide +kernel⟩, List.mem_of_getElem? (i := 1312) (by decide +kernel), List.mem_of_getElem? (i := 1592) (by decide +kernel), List.mem_of_getElem? (i := 1593) (by decide +kernel)⟩
def lw_privs_4 : List (MethodName × Nat) := [(⟨"ThreePhases", "richest", "(LThreePhases$Council;)I"⟩, 10), (⟨"ThreePhasesModel", "isOf", "(II)Z"⟩, 61), (⟨"ThreePhasesModel", "advance", "()V"⟩, 61), (⟨"ThreePhasesModel", "byteAt", "(I)I"⟩, 61), (⟨"ThreePhasesModel", "councilLine", "()V"⟩, 61), (⟨"ThreePhasesModel", "wordIn", "(II)I"⟩, 61), (⟨"ThreePhasesModel", "ends", "()V"⟩, 61), (⟨"ThreePhasesModel", "numbered", "(II)I"⟩, 61), (⟨"ThreePhasesModel", "also", "(II)V"⟩, 61), (⟨"ThreePhasesModel", "memberTold", "()I"⟩, 61), (⟨"ThreePhasesModel", "orderTold", "(I)V"⟩, 61), (⟨"ThreePhasesModel", "delayTold", "()V"⟩, 61), (⟨"ThreePhasesModel", "otherTold", "(I)I"⟩, 61), (⟨"ThreePhasesModel", "endsLine", "()V"⟩, 61), (⟨"ThreePhasesModel", "runLine", "()V"⟩, 61), (⟨"ThreePhasesModel", "repliesLine", "()V"⟩, 61)]
theorem lw_r4 : ∀ q ∈ lw_privs_4, lw_okq q := List.forall_mem_cons.mpr ⟨lw_p48, List.forall_mem_cons.mpr ⟨lw_p49, List.forall_mem_cons.mpr ⟨lw_p50, List.forall_mem_cons.mpr ⟨lw_p51, List.forall_mem_cons.mpr ⟨lw_p52, List.forall_mem_cons.mpr ⟨lw_p53, List.forall_mem_cons.mpr ⟨lw_p54, List.forall_mem_cons.mpr ⟨lw_p55, List.forall_mem_cons.mpr ⟨lw_p56, List.forall_mem_cons.mpr ⟨lw_p57, List.forall_mem_cons.mpr ⟨lw_p58, List.forall_mem_cons.mpr ⟨lw_p59, List.forall_mem_cons.mpr ⟨lw_p60, List.forall_mem_cons.mpr ⟨lw_p61, List.forall_mem_cons.mpr ⟨lw_p62, List.forall_mem_cons.mpr ⟨lw_p63, fun _ h => absurd h List.not_mem_nil⟩⟩⟩⟩⟩⟩⟩⟩⟩⟩⟩⟩⟩⟩⟩⟩
theorem lw_p64 : lw_okq (⟨"ThreePhasesModel", "isCouncil", "(I)Z"⟩, 61) := ⟨⟨by decide +kernel, by decide +kernel⟩, List.mem_of_getElem? (i := 1312) (by decide +kernel), List.mem_of_getElem? (i := 1610) (by decide +kernel), List.mem_of_getElem? (i := 1611) (by decide +kernel)⟩
theorem lw_p65 : lw_okq (⟨"ThreePhasesModel", "isMember", "(I)Z"⟩, 61) := ⟨⟨by decide +kernel, by decide +kernel⟩, List.mem_of_getElem? (i := 1312) (by decide +kernel), List.mem_of_getElem? (i := 1614) (by decide +kernel), List.mem_of_getElem? (i := 1615) (by decide +kernel)⟩
theorem lw_p66 : lw_okq (⟨"ThreePhasesModel", "delayOf", "(II)I"⟩, 61) := ⟨⟨by decide +kernel, by decide +kernel⟩, List.mem_of_getElem? (i := 1312) (by decide +kernel), List.mem_of_getElem? (i := 1618) (by decide +kernel), List.mem_of_getElem? (i := 1619) (by decide +kernel)⟩
theorem lw_p67 : lw_okq (⟨"ThreePhasesModel", "orderAccount", "(I)I"⟩, 61) := ⟨⟨by decide +kernel, by decide +kernel⟩, List.mem_of_getElem? (i := 1312) (by decide +kernel), List.mem_of_getElem? (i := 1622) (by decide +kernel), List.mem_of_getElem? (i := 1623) (by decide +kernel)⟩
theorem lw_p68 : lw_okq (⟨"ThreePhasesModel", "orderPlus", "(I)I"⟩, 61) := ⟨⟨by decide +kernel, by decide +kernel⟩, List.mem_of_getElem? (i := 1312) (by decide +kernel), List.mem_of_getElem? (i := 1626) (by decide +kernel), List.mem_of_getElem? (i := 1627) (by decide +kernel)⟩
theorem lw_p69 : lw_okq (⟨"ThreePhasesModel", "seeks", "()V"⟩, 61) := ⟨⟨by decide +kernel, by decide +kernel⟩, List.mem_of_getElem? (i := 1312) (by decide +kernel), List.mem_of_getElem? (i := 1641) (by decide +kernel), List.mem_of_getElem? (i := 1642) (by decide +kernel)⟩
theorem lw_p70 : lw_okq (⟨"ThreePhasesModel", "isLiar", "(I)Z"⟩, 61) := ⟨⟨by decide +kernel, by decide +kernel⟩, List.mem_of_getElem? (i := 1312) (by decide +kernel), List.mem_of_getElem? (i := 1649) (by decide +kernel), List.mem_of_getElem? (i := 1650) (by decide +kernel)⟩
theorem lw_p71 : lw_okq (⟨"ThreePhasesModel", "isRun", "(I)Z"⟩, 61) := ⟨⟨by decide +kernel, by decide +kernel⟩, List.mem_of_getElem? (i := 1312) (by decide +kernel), List.mem_of_getElem? (i := 1660) (by decide +kernel), List.mem_of_getElem? (i := 1661) (by decide +kernel)⟩
theorem lw_p72 : lw_okq (⟨"ThreePhasesModel", "goes", "(I)V"⟩, 61) := ⟨⟨by decide +kernel, by decide +kernel⟩, List.mem_of_getElem? (i := 1312) (by decide +kernel), List.mem_of_getElem? (i := 1668) (by decide +kernel), List.mem_of_getElem? (i := 1669) (by decide +kernel)⟩
theorem lw_p73 : lw_okq (⟨"ThreePhasesModel", "begins", "()V"⟩, 61) := ⟨⟨by decide +kernel, by decide +kernel⟩, List.mem_of_getElem? (i := 1312) (by decide +kernel), List.mem_of_getElem? (i := 1672) (by decide +kernel), List.mem_of_getElem? (i := 1673) (by decide +kernel)⟩
theorem lw_p74 : lw_okq (⟨"ThreePhasesModel", "does", "(IIII)Z"⟩, 61) := ⟨⟨by decide +kernel, by decide +kernel⟩, List.mem_of_getElem? (i := 1312) (by decide +kernel), List.mem_of_getElem? (i := 1676) (by decide +kernel), List.mem_of_getElem? (i := 1677) (by decide +kernel)⟩
theorem lw_p75 : lw_okq (⟨"ThreePhasesModel", "proposes", "(III)Z"⟩, 61) := ⟨⟨by decide +kernel, by decide +kernel⟩, List.mem_of_getElem? (i := 1312) (by decide +kernel), List.mem_of_getElem? (i := 1680) (by decide +kernel), List.mem_of_getElem? (i := 1681) (by decide +kernel)⟩
theorem lw_p76 : lw_okq (⟨"ThreePhasesModel", "isWithin", "(II)Z"⟩, 61) := ⟨⟨by decide +kernel, by decide +kernel⟩, List.mem_of_getElem? (i := 1312) (by decide +kernel), List.mem_of_getElem? (i := 1684) (by decide +kernel), List.mem_of_getElem? (i := 1685) (by decide +kernel)⟩
theorem lw_p77 : lw_okq (⟨"ThreePhasesModel", "primaryOf", "(I)I"⟩, 61) := ⟨⟨by decide +kernel, by decide +kernel⟩, List.mem_of_getElem? (i := 1312) (by decide +kernel), List.mem_of_getElem? (i := 1691) (by decide +kernel), List.mem_of_getElem? (i := 1692) (by decide +kernel)⟩
theorem lw_p78 : lw_okq (⟨"ThreePhasesModel", "accepts", "(III)V"⟩, 61) := ⟨⟨by decide +kernel, by decide +kernel⟩, List.mem_of_getElem? (i := 1312) (by decide +kernel), List.mem_of_getElem? (i := 1695) (by decide +kernel), List.mem_of_getElem? (i := 1696) (by decide +kernel)⟩
theorem lw_p79 : lw_okq (⟨"ThreePhasesModel", "settles", "(II)V"⟩, 61) := ⟨⟨by decide +kernel, by decide +kernel⟩, List.mem_of_getElem? (i := 1312) (by decide +kernel), List.mem_of_getElem? (i := 1699) (by decide +kernel), List.mem_of_getElem? (i := 1700) (by decide +kernel)⟩
def lw_privs_5 : List (MethodName × Nat) := [(⟨"ThreePhasesModel", "isCouncil", "(I)Z"⟩, 61), (⟨"ThreePhasesModel", "isMember", "(I)Z"⟩, 61), (⟨"ThreePhasesModel", "delayOf", "(II)I"⟩, 61), (⟨"ThreePhasesModel", "orderAccount", "(I)I"⟩, 61), (⟨"ThreePhasesModel", "orderPlus", "(I)I"⟩, 61), (⟨"ThreePhasesModel", "seeks", "()V"⟩, 61), (⟨"ThreePhasesModel", "isLiar", "(I)Z"⟩, 61), (⟨"ThreePhasesModel", "isRun", "(I)Z"⟩, 61), (⟨"ThreePhasesModel", "goes", "(I)V"⟩, 61), (⟨"ThreePhasesModel", "begins", "()V"⟩, 61), (⟨"ThreePhasesModel", "does", "(IIII)Z"⟩, 61), (⟨"ThreePhasesModel", "proposes", "(III)Z"⟩, 61), (⟨"ThreePhasesModel", "isWithin", "(II)Z"⟩, 61), (⟨"ThreePhasesModel", "primaryOf", "(I)I"⟩, 61), (⟨"ThreePhasesModel", "accepts", "(III)V"⟩, 61), (⟨"ThreePhasesModel", "settles", "(II)V"⟩, 61)]
theorem lw_r5 : ∀ q ∈ lw_privs_5, lw_okq q := List.forall_mem_cons.mpr ⟨lw_p64, List.forall_mem_cons.mpr ⟨lw_p65, List.forall_mem_cons.mpr ⟨lw_p66, List.forall_mem_cons.mpr ⟨lw_p67, List.forall_mem_cons.mpr ⟨lw_p68, List.forall_mem_cons.mpr ⟨lw_p69, List.forall_mem_cons.mpr ⟨lw_p70, List.forall_mem_cons.mpr ⟨lw_p71, List.forall_mem_cons.mpr ⟨lw_p72, List.forall_mem_cons.mpr ⟨lw_p73, List.forall_mem_cons.mpr ⟨lw_p74, List.forall_mem_cons.mpr ⟨lw_p75, List.forall_mem_cons.mpr ⟨lw_p76, List.forall_mem_cons.mpr ⟨lw_p77, List.forall_mem_cons.mpr ⟨lw_p78, List.forall_mem_cons.mpr ⟨lw_p79, fun _ h => absurd h List.not_mem_nil⟩⟩⟩⟩⟩⟩⟩⟩⟩⟩⟩⟩⟩⟩⟩⟩
theorem lw_p80 : lw_okq (⟨"ThreePhasesModel", "isPrepared", "(II)Z"⟩, 61) := ⟨⟨by decide +kernel, by decide +kernel⟩, List.mem_of_getElem? (i := 1312) (by decide +kernel), List.mem_of_getElem? (i := 1703) (by decide +kernel), List.mem_of_getElem? (i := 1704) (by decide +kernel)⟩
theorem lw_p81 : lw_okq (⟨"ThreePhasesModel", "words", "(IIIZ)Z"⟩, 61) := ⟨⟨by decide +kernel, by decide +kernel⟩, List.mem_of_getElem? (i := 1312) (by decide +kernel), List.mem_of_getElem? (i := 1707) (by decide +kernel), List.mem_of_getElem? (i := 1708) (by decide +kernel)⟩
theorem lw_p82 : lw_okq (⟨"ThreePhasesModel", "isWord", "(IIIZ)Z"⟩, 61) := ⟨⟨by decide +kernel, by decide +kernel⟩, List.mem_of_getElem? (i := 1312) (by decide +kernel), List.mem_of_getElem? (i := 1711) (by decide +kernel), List.mem_of_getElem? (i := 1712) (by decide +kernel)⟩
theorem lw_p83 : lw_okq (⟨"ThreePhasesModel", "runsOn", "(I)Z"⟩, 61) := ⟨⟨by decide +kernel, by decide +kernel⟩, List.mem_of_getElem? (i := 1312) (by decide +kernel), List.mem_of_getElem? (i := 1715) (by decide +kernel), List.mem_of_getElem? (i := 1716) (by decide +kernel)⟩
theorem lw_p84 : lw_okq (⟨"ThreePhasesModel", "canRun", "(I)Z"⟩, 61) := ⟨⟨by decide +kernel, by decide +kernel⟩, List.mem_of_getElem? (i := 1312) (by decide +kernel), List.mem_of_getElem? (i := 1719) (by decide +kernel), List.mem_of_getElem? (i := 1720) (by decide +kernel)⟩
theorem lw_p85 : lw_okq (⟨"ThreePhasesModel", "isCommitted", "(II)Z"⟩, 61) := ⟨⟨by decide +kernel, by decide +kernel⟩, List.mem_of_getElem? (i := 1312) (by decide +kernel), List.mem_of_getElem? (i := 1723) (by decide +kernel), List.mem_of_getElem? (i := 1724) (by decide +kernel)⟩
theorem lw_p86 : lw_okq (⟨"ThreePhasesModel", "runsOne", "(I)V"⟩, 61) := ⟨⟨by decide +kernel, by decide +kernel⟩, List.mem_of_getElem? (i := 1312) (by decide +kernel), List.mem_of_getElem? (i := 1727) (by decide +kernel), List.mem_of_getElem? (i := 1728) (by decide +kernel)⟩
theorem lw_p87 : lw_okq (⟨"ThreePhasesModel", "checks", "(I)V"⟩, 61) := ⟨⟨by decide +kernel, by decide +kernel⟩, List.mem_of_getElem? (i := 1312) (by decide +kernel), List.mem_of_getElem? (i := 1731) (by decide +kernel), List.mem_of_getElem? (i := 1732) (by decide +kernel)⟩
theorem lw_p88 : lw_okq (⟨"ThreePhasesModel", "rootOf", "([II)I"⟩, 61) := ⟨⟨by decide +kernel, by decide +kernel⟩, List.mem_of_getElem? (i := 1312) (by decide +kernel), List.mem_of_getElem? (i := 1735) (by decide +kernel), List.mem_of_getElem? (i := 1736) (by decide +kernel)⟩
theorem lw_p89 : lw_okq (⟨"ThreePhasesModel", "counts", "(I)V"⟩, 61) := ⟨⟨by decide +kernel, by decide +kernel⟩, List.mem_of_getElem? (i := 1312) (by decide +kernel), List.mem_of_getElem? (i := 1739) (by decide +kernel), List.mem_of_getElem? (i := 1740) (by decide +kernel)⟩
theorem lw_p90 : lw_okq (⟨"ThreePhasesModel", "cuts", "(II)V"⟩, 61) := ⟨⟨by decide +kernel, by decide +kernel⟩, List.mem_of_getElem? (i := 1312) (by decide +kernel), List.mem_of_getElem? (i := 1743) (by decide +kernel), List.mem_of_getElem? (i := 1744) (by decide +kernel)⟩
theorem lw_p91 : lw_okq (⟨"ThreePhasesModel", "forgets", "(II)V"⟩, 61) := ⟨⟨by decide +kernel, by decide +kernel⟩, List.mem_of_getElem? (i := 1312) (by decide +kernel), List.mem_of_getElem? (i := 1747) (by decide +kernel), List.mem_of_getElem? (i := 1748) (by decide +kernel)⟩
theorem lw_p92 : lw_okq (⟨"ThreePhasesModel", "marks", "(II)Z"⟩, 61) := ⟨⟨by decide +kernel, by decide +kernel⟩, List.mem_of_getElem? (i := 1312) (by decide +kernel), List.mem_of_getElem? (i := 1751) (by decide +kernel), List.mem_of_getElem? (i := 1752) (by decide +kernel)⟩
theorem lw_p93 : lw_okq (⟨"ThreePhasesModel", "fetches", "(II)Z"⟩, 61) := ⟨⟨by decide +kernel, by decide +kernel⟩, List.mem_of_getElem? (i := 1312) (by decide +kernel), List.mem_of_getElem? (i := 1755) (by decide +kernel), List.mem_of_getElem? (i := 1756) (by decide +kernel)⟩
theorem lw_p94 : lw_okq (⟨"ThreePhasesModel", "doubts", "(I)Z"⟩, 61) := ⟨⟨by decide +kernel, by decide +kernel⟩, List.mem_of_getElem? (i := 1312) (by decide +kernel), List.mem_of_getElem? (i := 1759) (by decide +kernel), List.mem_of_getElem? (i := 1760) (by decide +kernel)⟩
theorem lw_p95 : lw_okq (⟨"ThreePhasesModel", "makes", "(I)Z"⟩, 61) := ⟨⟨by decide +kernel, by decide +kernel⟩, List.mem_of_getElem? (i := 1312) (by decide +kernel), List.mem_of_getElem? (i := 1763) (by decide +kernel), List.mem_of_getElem? (i := 1764) (by decide +kernel)⟩
def lw_privs_6 : List (MethodName × Nat) := [(⟨"ThreePhasesModel", "isPrepared", "(II)Z"⟩, 61), (⟨"ThreePhasesModel", "words", "(IIIZ)Z"⟩, 61), (⟨"ThreePhasesModel", "isWord", "(IIIZ)Z"⟩, 61), (⟨"ThreePhasesModel", "runsOn", "(I)Z"⟩, 61), (⟨"ThreePhasesModel", "canRun", "(I)Z"⟩, 61), (⟨"ThreePhasesModel", "isCommitted", "(II)Z"⟩, 61), (⟨"ThreePhasesModel", "runsOne", "(I)V"⟩, 61), (⟨"ThreePhasesModel", "checks", "(I)V"⟩, 61), (⟨"ThreePhasesModel", "rootOf", "([II)I"⟩, 61), (⟨"ThreePhasesModel", "counts", "(I)V"⟩, 61), (⟨"ThreePhasesModel", "cuts", "(II)V"⟩, 61), (⟨"ThreePhasesModel", "forgets", "(II)V"⟩, 61), (⟨"ThreePhasesModel", "marks", "(II)Z"⟩, 61), (⟨"ThreePhasesModel", "fetches", "(II)Z"⟩, 61), (⟨"ThreePhasesModel", "doubts", "(I)Z"⟩, 61), (⟨"ThreePhasesModel", "makes", "(I)Z"⟩, 61)]
theorem lw_r6 : ∀ q ∈ lw_privs_6, lw_okq q := List.forall_mem_cons.mpr ⟨lw_p80, List.forall_mem_cons.mpr ⟨lw_p81, List.forall_mem_cons.mpr ⟨lw_p82, List.forall_mem_cons.mpr ⟨lw_p83, List.forall_mem_cons.mpr ⟨lw_p84, List.forall_mem_cons.mpr ⟨lw_p85, List.forall_mem_cons.mpr ⟨lw_p86, List.forall_mem_cons.mpr ⟨lw_p87, List.forall_mem_cons.mpr ⟨lw_p88, List.forall_mem_cons.mpr ⟨lw_p89, List.forall_mem_cons.mpr ⟨lw_p90, List.forall_mem_cons.mpr ⟨lw_p91, List.forall_mem_cons.mpr ⟨lw_p92, List.forall_mem_cons.mpr ⟨lw_p93, List.forall_mem_cons.mpr ⟨lw_p94, List.forall_mem_cons.mpr ⟨lw_p95, fun _ h => absurd h List.not_mem_nil⟩⟩⟩⟩⟩⟩⟩⟩⟩⟩⟩⟩⟩⟩⟩⟩
theorem lw_p96 : lw_okq (⟨"ThreePhasesModel", "merges", "(I)V"⟩, 61) := ⟨⟨by decide +kernel, by decide +kernel⟩, List.mem_of_getElem? (i := 1312) (by decide +kernel), List.mem_of_getElem? (i := 1767) (by decide +kernel), List.mem_of_getElem? (i := 1768) (by decide +kernel)⟩
theorem lw_p97 : lw_okq (⟨"ThreePhasesModel", "orderBy", "(II)I"⟩, 61) := ⟨⟨by decide +kernel, by decide +kernel⟩, List.mem_of_getElem? (i := 1312) (by decide +kernel), List.mem_of_getElem? (i := 1771) (by decide +kernel), List.mem_of_getElem? (i := 1772) (by decide +kernel)⟩
theorem lw_p98 : lw_okq (⟨"ThreePhasesModel", "entersView", "(I)V"⟩, 61) := ⟨⟨by decide +kernel, by decide +kernel⟩, List.mem_of_getElem? (i := 1312) (by decide +kernel), List.mem_of_getElem? (i := 1775) (by decide +kernel), List.mem_of_getElem? (i := 1776) (by decide +kernel)⟩
theorem lw_p99 : lw_okq (⟨"ThreePhasesModel", "entersAlone", "(I)Z"⟩, 61) := ⟨⟨by decide +kernel, by decide +kernel⟩, List.mem_of_getElem? (i := 1312) (by decide +kernel), List.mem_of_getElem? (i := 1779) (by decide +kernel), List.mem_of_getElem? (i := 1780) (by decide +kernel)⟩
theorem lw_p100 : lw_okq (⟨"ThreePhasesModel", "isState", "(III)Z"⟩, 61) := ⟨⟨by decide +kernel, by decide +kernel⟩, List.mem_of_getElem? (i := 1312) (by decide +kernel), List.mem_of_getElem? (i := 1787) (by decide +kernel), List.mem_of_getElem? (i := 1788) (by decide +kernel)⟩
theorem lw_p101 : lw_okq (⟨"ThreePhasesModel", "nowOf", "(II)I"⟩, 61) := ⟨⟨by decide +kernel, by decide +kernel⟩, List.mem_of_getElem? (i := 1312) (by decide +kernel), List.mem_of_getElem? (i := 1791) (by decide +kernel), List.mem_of_getElem? (i := 1792) (by decide +kernel)⟩
theorem lw_p102 : lw_okq (⟨"ThreePhasesModel", "placeNow", "(III)I"⟩, 61) := ⟨⟨by decide +kernel, by decide +kernel⟩, List.mem_of_getElem? (i := 1312) (by decide +kernel), List.mem_of_getElem? (i := 1795) (by decide +kernel), List.mem_of_getElem? (i := 1796) (by decide +kernel)⟩
theorem lw_p103 : lw_okq (⟨"ThreePhasesModel", "placesBy", "(Z)I"⟩, 61) := ⟨⟨by decide +kernel, by decide +kernel⟩, List.mem_of_getElem? (i := 1312) (by decide +kernel), List.mem_of_getElem? (i := 1807) (by decide +kernel), List.mem_of_getElem? (i := 1808) (by decide +kernel)⟩
theorem lw_p104 : lw_okq (⟨"ThreePhasesModel", "ranSo", "(II)I"⟩, 61) := ⟨⟨by decide +kernel, by decide +kernel⟩, List.mem_of_getElem? (i := 1312) (by decide +kernel), List.mem_of_getElem? (i := 1811) (by decide +kernel), List.mem_of_getElem? (i := 1812) (by decide +kernel)⟩
theorem lw_p105 : lw_okq (⟨"ThreePhasesModel", "ranBy", "(Z)I"⟩, 61) := ⟨⟨by decide +kernel, by decide +kernel⟩, List.mem_of_getElem? (i := 1312) (by decide +kernel), List.mem_of_getElem? (i := 1815) (by decide +kernel), List.mem_of_getElem? (i := 1816) (by decide +kernel)⟩
theorem lw_p106 : lw_okq (⟨"ThreePhasesModel", "honestBy", "(I)I"⟩, 61) := ⟨⟨by decide +kernel, by decide +kernel⟩, List.mem_of_getElem? (i := 1312) (by decide +kernel), List.mem_of_getElem? (i := 1831) (by decide +kernel), List.mem_of_getElem? (i := 1832) (by decide +kernel)⟩
theorem lw_p107 : lw_okq (⟨"ThreePhasesModel", "isFull", "(I)Z"⟩, 61) := ⟨⟨by decide +kernel, by decide +kernel⟩, List.mem_of_getElem? (i := 1312) (by decide +kernel), List.mem_of_getElem? (i := 1835) (by decide +kernel), List.mem_of_getElem? (i := 1836) (by decide +kernel)⟩
theorem lw_p108 : lw_okq (⟨"ThreePhasesModel", "viewsMade", "()I"⟩, 61) := ⟨⟨by decide +kernel, by decide +kernel⟩, List.mem_of_getElem? (i := 1312) (by decide +kernel), List.mem_of_getElem? (i := 1839) (by decide +kernel), List.mem_of_getElem? (i := 1840) (by decide +kernel)⟩
theorem lw_p109 : lw_okq (⟨"ThreePhasesModel", "certainOf", "()I"⟩, 61) := ⟨⟨by decide +kernel, by decide +kernel⟩, List.mem_of_getElem? (i := 1312) (by decide +kernel), List.mem_of_getElem? (i := 1843) (by decide +kernel), List.mem_of_getElem? (i := 1844) (by decide +kernel)⟩
theorem lw_p110 : lw_okq (⟨"ThreePhasesModel", "wordsOf", "()I"⟩, 61) := ⟨⟨by decide +kernel, by decide +kernel⟩, List.mem_of_getElem? (i := 1312) (by decide +kernel), List.mem_of_getElem? (i := 1847) (by decide +kernel), List.mem_of_getElem? (i := 1848) (by decide +kernel)⟩
theorem lw_p111 : lw_okq (⟨"ThreePhasesModel", "plays", "()V"⟩, 61) := ⟨⟨by decide +kernel, by decide +kernel⟩, List.mem_of_getElem? (i := 1312) (by decide +kernel), List.mem_of_getElem? (i := 1855) (by decide +kernel), List.mem_of_getElem? (i := 1856) (by decide +kernel)⟩
def lw_privs_7 : List (MethodName × Nat) := [(⟨"ThreePhasesModel", "merges", "(I)V"⟩, 61), (⟨"ThreePhasesModel", "orderBy", "(II)I"⟩, 61), (⟨"ThreePhasesModel", "entersView", "(I)V"⟩, 61), (⟨"ThreePhasesModel", "entersAlone", "(I)Z"⟩, 61), (⟨"ThreePhasesModel", "isState", "(III)Z"⟩, 61), (⟨"ThreePhasesModel", "nowOf", "(II)I"⟩, 61), (⟨"ThreePhasesModel", "placeNow", "(III)I"⟩, 61), (⟨"ThreePhasesModel", "placesBy", "(Z)I"⟩, 61), (⟨"ThreePhasesModel", "ranSo", "(II)I"⟩, 61), (⟨"ThreePhasesModel", "ranBy", "(Z)I"⟩, 61), (⟨"ThreePhasesModel", "honestBy", "(I)I"⟩, 61), (⟨"ThreePhasesModel", "isFull", "(I)Z"⟩, 61), (⟨"ThreePhasesModel", "viewsMade", "()I"⟩, 61), (⟨"ThreePhasesModel", "certainOf", "()I"⟩, 61), (⟨"ThreePhasesModel", "wordsOf", "()I"⟩, 61), (⟨"ThreePhasesModel", "plays", "()V"⟩, 61)]
theorem lw_r7 : ∀ q ∈ lw_privs_7, lw_okq q := List.forall_mem_cons.mpr ⟨lw_p96, List.forall_mem_cons.mpr ⟨lw_p97, List.forall_mem_cons.mpr ⟨lw_p98, List.forall_mem_cons.mpr ⟨lw_p99, List.forall_mem_cons.mpr ⟨lw_p100, List.forall_mem_cons.mpr ⟨lw_p101, List.forall_mem_cons.mpr ⟨lw_p102, List.forall_mem_cons.mpr ⟨lw_p103, List.forall_mem_cons.mpr ⟨lw_p104, List.forall_mem_cons.mpr ⟨lw_p105, List.forall_mem_cons.mpr ⟨lw_p106, List.forall_mem_cons.mpr ⟨lw_p107, List.forall_mem_cons.mpr ⟨lw_p108, List.forall_mem_cons.mpr ⟨lw_p109, List.forall_mem_cons.mpr ⟨lw_p110, List.forall_mem_cons.mpr ⟨lw_p111, fun _ h => absurd h List.not_mem_nil⟩⟩⟩⟩⟩⟩⟩⟩⟩⟩⟩⟩⟩⟩⟩⟩
theorem lw_p112 : lw_okq (⟨"ThreePhasesModel", "playsPlace", "(I)V"⟩, 61) := ⟨⟨by decide +kernel, by decide +kernel⟩, List.mem_of_getElem? (i := 1312) (by decide +kernel), List.mem_of_getElem? (i := 1860) (by decide +kernel), List.mem_of_getElem? (i := 1861) (by decide +kernel)⟩
theorem lw_p113 : lw_okq (⟨"ThreePhasesModel", "playsAccepts", "(I)V"⟩, 61) := ⟨⟨by decide +kernel, by decide +kernel⟩, List.mem_of_getElem? (i := 1312) (by decide +kernel), List.mem_of_getElem? (i := 1864) (by decide +kernel), List.mem_of_getElem? (i := 1865) (by decide +kernel)⟩
theorem lw_p114 : lw_okq (⟨"ThreePhasesModel", "lowFrom", "(III)I"⟩, 61) := ⟨⟨by decide +kernel, by decide +kernel⟩, List.mem_of_getElem? (i := 1312) (by decide +kernel), List.mem_of_getElem? (i := 1868) (by decide +kernel), List.mem_of_getElem? (i := 1869) (by decide +kernel)⟩
theorem lw_p115 : lw_okq (⟨"ThreePhasesModel", "laysComes", "([III)V"⟩, 61) := ⟨⟨by decide +kernel, by decide +kernel⟩, List.mem_of_getElem? (i := 1312) (by decide +kernel), List.mem_of_getElem? (i := 1878) (by decide +kernel), List.mem_of_getElem? (i := 1879) (by decide +kernel)⟩
theorem lw_p116 : lw_okq (⟨"ThreePhasesModel", "manyCome", "(I)I"⟩, 61) := ⟨⟨by decide +kernel, by decide +kernel⟩, List.mem_of_getElem? (i := 1312) (by decide +kernel), List.mem_of_getElem? (i := 1882) (by decide +kernel), List.mem_of_getElem? (i := 1883) (by decide +kernel)⟩
theorem lw_p117 : lw_okq (⟨"ThreePhasesModel", "sendsAll", "()V"⟩, 61) := ⟨⟨by decide +kernel, by decide +kernel⟩, List.mem_of_getElem? (i := 1312) (by decide +kernel), List.mem_of_getElem? (i := 1893) (by decide +kernel), List.mem_of_getElem? (i := 1894) (by decide +kernel)⟩
theorem lw_p118 : lw_okq (⟨"ThreePhasesModel", "sends", "(II)V"⟩, 61) := ⟨⟨by decide +kernel, by decide +kernel⟩, List.mem_of_getElem? (i := 1312) (by decide +kernel), List.mem_of_getElem? (i := 1897) (by decide +kernel), List.mem_of_getElem? (i := 1898) (by decide +kernel)⟩
theorem lw_p119 : lw_okq (⟨"ThreePhasesModel", "slowestOf", "()I"⟩, 61) := ⟨⟨by decide +kernel, by decide +kernel⟩, List.mem_of_getElem? (i := 1312) (by decide +kernel), List.mem_of_getElem? (i := 1901) (by decide +kernel), List.mem_of_getElem? (i := 1902) (by decide +kernel)⟩
theorem lw_p120 : lw_okq (⟨"ThreePhasesModel", "doneOf", "(I)I"⟩, 61) := ⟨⟨by decide +kernel, by decide +kernel⟩, List.mem_of_getElem? (i := 1312) (by decide +kernel), List.mem_of_getElem? (i := 1905) (by decide +kernel), List.mem_of_getElem? (i := 1906) (by decide +kernel)⟩
theorem lw_p121 : lw_okq (⟨"ThreePhasesModel", "tightOf", "()I"⟩, 61) := ⟨⟨by decide +kernel, by decide +kernel⟩, List.mem_of_getElem? (i := 1312) (by decide +kernel), List.mem_of_getElem? (i := 1909) (by decide +kernel), List.mem_of_getElem? (i := 1910) (by decide +kernel)⟩
theorem lw_p122 : lw_okq (⟨"ThreePhasesModel", "lastDoneBy", "(I)I"⟩, 61) := ⟨⟨by decide +kernel, by decide +kernel⟩, List.mem_of_getElem? (i := 1312) (by decide +kernel), List.mem_of_getElem? (i := 1913) (by decide +kernel), List.mem_of_getElem? (i := 1914) (by decide +kernel)⟩
theorem lw_p123 : lw_okq (⟨"ThreePhasesModel", "spareOf", "()I"⟩, 61) := ⟨⟨by decide +kernel, by decide +kernel⟩, List.mem_of_getElem? (i := 1312) (by decide +kernel), List.mem_of_getElem? (i := 1917) (by decide +kernel), List.mem_of_getElem? (i := 1918) (by decide +kernel)⟩
theorem lw_p124 : lw_okq (⟨"ThreePhasesModel", "laysSheet", "()V"⟩, 61) := ⟨⟨by decide +kernel, by decide +kernel⟩, List.mem_of_getElem? (i := 1312) (by decide +kernel), List.mem_of_getElem? (i := 1925) (by decide +kernel), List.mem_of_getElem? (i := 1926) (by decide +kernel)⟩
theorem lw_p125 : lw_okq (⟨"ThreePhasesModel", "runsSheet", "(I)V"⟩, 61) := ⟨⟨by decide +kernel, by decide +kernel⟩, List.mem_of_getElem? (i := 1312) (by decide +kernel), List.mem_of_getElem? (i := 1929) (by decide +kernel), List.mem_of_getElem? (i := 1930) (by decide +kernel)⟩
theorem lw_p126 : lw_okq (⟨"ThreePhasesModel", "blindOf", "()I"⟩, 61) := ⟨⟨by decide +kernel, by decide +kernel⟩, List.mem_of_getElem? (i := 1312) (by decide +kernel), List.mem_of_getElem? (i := 1937) (by decide +kernel), List.mem_of_getElem? (i := 1938) (by decide +kernel)⟩
theorem lw_p127 : lw_okq (⟨"ThreePhasesModel", "pathsOf", "()I"⟩, 61) := ⟨⟨by decide +kernel, by decide +kernel⟩, List.mem_of_getElem? (i := 1312) (by decide +kernel), List.mem_of_getElem? (i := 1941) (by decide +kernel), List.mem_of_getElem? (i := 1942) (by decide +kernel)⟩
def lw_privs_8 : List (MethodName × Nat) := [(⟨"ThreePhasesModel", "playsPlace", "(I)V"⟩, 61), (⟨"ThreePhasesModel", "playsAccepts", "(I)V"⟩, 61), (⟨"ThreePhasesModel", "lowFrom", "(III)I"⟩, 61), (⟨"ThreePhasesModel", "laysComes", "([III)V"⟩, 61), (⟨"ThreePhasesModel", "manyCome", "(I)I"⟩, 61), (⟨"ThreePhasesModel", "sendsAll", "()V"⟩, 61), (⟨"ThreePhasesModel", "sends", "(II)V"⟩, 61), (⟨"ThreePhasesModel", "slowestOf", "()I"⟩, 61), (⟨"ThreePhasesModel", "doneOf", "(I)I"⟩, 61), (⟨"ThreePhasesModel", "tightOf", "()I"⟩, 61), (⟨"ThreePhasesModel", "lastDoneBy", "(I)I"⟩, 61), (⟨"ThreePhasesModel", "spareOf", "()I"⟩, 61), (⟨"ThreePhasesModel", "laysSheet", "()V"⟩, 61), (⟨"ThreePhasesModel", "runsSheet", "(I)V"⟩, 61), (⟨"ThreePhasesModel", "blindOf", "()I"⟩, 61), (⟨"ThreePhasesModel", "pathsOf", "()I"⟩, 61)]
theorem lw_r8 : ∀ q ∈ lw_privs_8, lw_okq q := List.forall_mem_cons.mpr ⟨lw_p112, List.forall_mem_cons.mpr ⟨lw_p113, List.forall_mem_cons.mpr ⟨lw_p114, List.forall_mem_cons.mpr ⟨lw_p115, List.forall_mem_cons.mpr ⟨lw_p116, List.forall_mem_cons.mpr ⟨lw_p117, List.forall_mem_cons.mpr ⟨lw_p118, List.forall_mem_cons.mpr ⟨lw_p119, List.forall_mem_cons.mpr ⟨lw_p120, List.forall_mem_cons.mpr ⟨lw_p121, List.forall_mem_cons.mpr ⟨lw_p122, List.forall_mem_cons.mpr ⟨lw_p123, List.forall_mem_cons.mpr ⟨lw_p124, List.forall_mem_cons.mpr ⟨lw_p125, List.forall_mem_cons.mpr ⟨lw_p126, List.forall_mem_cons.mpr ⟨lw_p127, fun _ h => absurd h List.not_mem_nil⟩⟩⟩⟩⟩⟩⟩⟩⟩⟩⟩⟩⟩⟩⟩⟩
theorem lw_p128 : lw_okq (⟨"ThreePhasesModel", "isReplies", "(I)Z"⟩, 61) := ⟨⟨by decide +kernel, by decide +kernel⟩, List.mem_of_getElem? (i := 1312) (by decide +kernel), List.mem_of_getElem? (i := 1949) (by decide +kernel), List.mem_of_getElem? (i := 1950) (by decide +kernel)⟩
theorem lw_p129 : lw_okq (⟨"ThreePhasesModel", "come", "(I)V"⟩, 61) := ⟨⟨by decide +kernel, by decide +kernel⟩, List.mem_of_getElem? (i := 1312) (by decide +kernel), List.mem_of_getElem? (i := 1957) (by decide +kernel), List.mem_of_getElem? (i := 1958) (by decide +kernel)⟩
theorem lw_p130 : lw_okq (⟨"ThreePhasesModel", "tell", "(I)I"⟩, 61) := ⟨⟨by decide +kernel, by decide +kernel⟩, List.mem_of_getElem? (i := 1312) (by decide +kernel), List.mem_of_getElem? (i := 1961) (by decide +kernel), List.mem_of_getElem? (i := 1962) (by decide +kernel)⟩
theorem lw_p131 : lw_okq (⟨"ThreePhasesModel", "isOneBut", "(I)Z"⟩, 61) := ⟨⟨by decide +kernel, by decide +kernel⟩, List.mem_of_getElem? (i := 1312) (by decide +kernel), List.mem_of_getElem? (i := 1969) (by decide +kernel), List.mem_of_getElem? (i := 1970) (by decide +kernel)⟩
theorem lw_p132 : lw_okq (⟨"ThreePhasesModel", "draws", "()V"⟩, 61) := ⟨⟨by decide +kernel, by decide +kernel⟩, List.mem_of_getElem? (i := 1312) (by decide +kernel), List.mem_of_getElem? (i := 1985) (by decide +kernel), List.mem_of_getElem? (i := 1986) (by decide +kernel)⟩
theorem lw_p133 : lw_okq (⟨"ThreePhasesModel", "below", "(I)I"⟩, 61) := ⟨⟨by decide +kernel, by decide +kernel⟩, List.mem_of_getElem? (i := 1312) (by decide +kernel), List.mem_of_getElem? (i := 1989) (by decide +kernel), List.mem_of_getElem? (i := 1990) (by decide +kernel)⟩
def lw_privs_9 : List (MethodName × Nat) := [(⟨"ThreePhasesModel", "isReplies", "(I)Z"⟩, 61), (⟨"ThreePhasesModel", "come", "(I)V"⟩, 61), (⟨"ThreePhasesModel", "tell", "(I)I"⟩, 61), (⟨"ThreePhasesModel", "isOneBut", "(I)Z"⟩, 61), (⟨"ThreePhasesModel", "draws", "()V"⟩, 61), (⟨"ThreePhasesModel", "below", "(I)I"⟩, 61)]
theorem lw_r9 : ∀ q ∈ lw_privs_9, lw_okq q := List.forall_mem_cons.mpr ⟨lw_p128, List.forall_mem_cons.mpr ⟨lw_p129, List.forall_mem_cons.mpr ⟨lw_p130, List.forall_mem_cons.mpr ⟨lw_p131, List.forall_mem_cons.mpr ⟨lw_p132, List.forall_mem_cons.mpr ⟨lw_p133, fun _ h => absurd h List.not_mem_nil⟩⟩⟩⟩⟩⟩
def lw_privs : List (MethodName × Nat) := lw_privs_1 ++ (lw_privs_2 ++ (lw_privs_3 ++ (lw_privs_4 ++ (lw_privs_5 ++ (lw_privs_6 ++ (lw_privs_7 ++ (lw_privs_8 ++ (lw_privs_9))))))))
def lw_tbl : List Cond := k2_sels lw_privs ++ tables_1
theorem lw_privs_ok : ∀ q ∈ lw_privs, lw_okq q := by
  show ∀ q ∈ lw_privs_1 ++ (lw_privs_2 ++ (lw_privs_3 ++ (lw_privs_4 ++ (lw_privs_5 ++ (lw_privs_6 ++ (lw_privs_7 ++ (lw_privs_8 ++ (lw_privs_9)))))))), lw_okq q
  exact List.forall_mem_append.mpr ⟨lw_r1, List.forall_mem_append.mpr ⟨lw_r2, List.forall_mem_append.mpr ⟨lw_r3, List.forall_mem_append.mpr ⟨lw_r4, List.forall_mem_append.mpr ⟨lw_r5, List.forall_mem_append.mpr ⟨lw_r6, List.forall_mem_append.mpr ⟨lw_r7, List.forall_mem_append.mpr ⟨lw_r8, lw_r9⟩⟩⟩⟩⟩⟩⟩⟩
end
section
def RX0 : String := "ThreePhases$Assembly"
def TX0 : u_T := fun k => match k with
  | 0 => ("ThreePhases$Assembly", "views", "[LThreePhases$Merged;", true)
  | 1 => ("ThreePhases$Assembly", "council", "LThreePhases$Council;", true)
  | 2 => ("ThreePhases$Assembly", "members", "[LThreePhases$Member;", true)
  | 3 => ("ThreePhases$Assembly", "sums", "LThreePhases$Sums;", true)
  | 4 => ("ThreePhases$Assembly", "seats", "I", false)
  | 5 => ("ThreePhases$Assembly", "quorumSize", "I", false)
  | _ => ("ThreePhases$Assembly", "draws", "I", false)
def tyX0 : Nat → FieldType := fun k => match k with
  | 0 => .array (.object "ThreePhases$Merged")
  | 1 => .object "ThreePhases$Council"
  | 2 => .array (.object "ThreePhases$Member")
  | 3 => .object "ThreePhases$Sums"
  | 4 => .int
  | 5 => .int
  | _ => .int
abbrev wsX00 : List Cond := u_ws RX0 TX0 7
theorem nmX0 : ∀ a, a < 7 → ∀ b, b < 7 → a ≠ b → (TX0 a).2.1 ≠ (TX0 b).2.1 := by decide +kernel
theorem tyX0_ok : ∀ k, k < 7 → parseFieldDescriptor (TX0 k).2.2.1 = some (tyX0 k) := by decide +kernel
def RX1 : String := "ThreePhases$Council"
def TX1 : u_T := fun k => match k with
  | 0 => ("ThreePhases$Council", "faults", "I", false)
  | 1 => ("ThreePhases$Council", "window", "I", false)
  | 2 => ("ThreePhases$Council", "step", "I", false)
  | 3 => ("ThreePhases$Council", "liars", "I", false)
  | 4 => ("ThreePhases$Council", "orders", "I", false)
  | 5 => ("ThreePhases$Council", "accounts", "[I", true)
  | 6 => ("ThreePhases$Council", "orderAccounts", "[I", true)
  | 7 => ("ThreePhases$Council", "orderPlus", "[I", true)
  | _ => ("ThreePhases$Council", "delays", "[[I", true)
def tyX1 : Nat → FieldType := fun k => match k with
  | 0 => .int
  | 1 => .int
  | 2 => .int
  | 3 => .int
  | 4 => .int
  | 5 => .array .int
  | 6 => .array .int
  | 7 => .array .int
  | _ => .array (.array .int)
abbrev wsX10 : List Cond := u_ws RX1 TX1 9
theorem nmX1 : ∀ a, a < 9 → ∀ b, b < 9 → a ≠ b → (TX1 a).2.1 ≠ (TX1 b).2.1 := by decide +kernel
theorem tyX1_ok : ∀ k, k < 9 → parseFieldDescriptor (TX1 k).2.2.1 = some (tyX1 k) := by decide +kernel
def RX2 : String := "ThreePhases$Member"
def TX2 : u_T := fun k => match k with
  | 0 => ("ThreePhases$Member", "view", "I", false)
  | 1 => ("ThreePhases$Member", "active", "Z", false)
  | 2 => ("ThreePhases$Member", "low", "I", false)
  | 3 => ("ThreePhases$Member", "ran", "I", false)
  | 4 => ("ThreePhases$Member", "asked", "I", false)
  | 5 => ("ThreePhases$Member", "checkpoint", "I", false)
  | 6 => ("ThreePhases$Member", "quorumSize", "I", false)
  | 7 => ("ThreePhases$Member", "window", "I", false)
  | 8 => ("ThreePhases$Member", "accounts", "[I", true)
  | 9 => ("ThreePhases$Member", "savedAccounts", "[I", true)
  | 10 => ("ThreePhases$Member", "accepted", "[I", true)
  | 11 => ("ThreePhases$Member", "prepares", "[I", true)
  | 12 => ("ThreePhases$Member", "commits", "[I", true)
  | 13 => ("ThreePhases$Member", "proofViews", "[I", true)
  | 14 => ("ThreePhases$Member", "proofOrders", "[I", true)
  | 15 => ("ThreePhases$Member", "ranOrders", "[I", true)
  | 16 => ("ThreePhases$Member", "votePlaces", "[I", true)
  | _ => ("ThreePhases$Member", "voteRoots", "[I", true)
def tyX2 : Nat → FieldType := fun k => match k with
  | 0 => .int
  | 1 => .boolean
  | 2 => .int
  | 3 => .int
  | 4 => .int
  | 5 => .int
  | 6 => .int
  | 7 => .int
  | 8 => .array .int
  | 9 => .array .int
  | 10 => .array .int
  | 11 => .array .int
  | 12 => .array .int
  | 13 => .array .int
  | 14 => .array .int
  | 15 => .array .int
  | 16 => .array .int
  | _ => .array .int
abbrev wsX20 : List Cond := u_ws RX2 TX2 18
theorem nmX2 : ∀ a, a < 18 → ∀ b, b < 18 → a ≠ b → (TX2 a).2.1 ≠ (TX2 b).2.1 := by decide +kernel
theorem tyX2_ok : ∀ k, k < 18 → parseFieldDescriptor (TX2 k).2.2.1 = some (tyX2 k) := by decide +kernel
def RX3 : String := "ThreePhases$Merged"
def TX3 : u_T := fun k => match k with
  | 0 => ("ThreePhases$Merged", "done", "Z", false)
  | 1 => ("ThreePhases$Merged", "from", "I", false)
  | 2 => ("ThreePhases$Merged", "upto", "I", false)
  | 3 => ("ThreePhases$Merged", "orders", "[I", true)
  | _ => ("ThreePhases$Merged", "proofViews", "[I", true)
def tyX3 : Nat → FieldType := fun k => match k with
  | 0 => .boolean
  | 1 => .int
  | 2 => .int
  | 3 => .array .int
  | _ => .array .int
abbrev wsX30 : List Cond := u_ws RX3 TX3 5
theorem nmX3 : ∀ a, a < 5 → ∀ b, b < 5 → a ≠ b → (TX3 a).2.1 ≠ (TX3 b).2.1 := by decide +kernel
theorem tyX3_ok : ∀ k, k < 5 → parseFieldDescriptor (TX3 k).2.2.1 = some (tyX3 k) := by decide +kernel
def RX4 : String := "ThreePhases$Reader"
def TX4 : u_T := fun k => match k with
  | 0 => ("ThreePhases$Reader", "council", "LThreePhases$Council;", true)
  | 1 => ("ThreePhases$Reader", "run", "LThreePhases$Run;", true)
  | 2 => ("ThreePhases$Reader", "replies", "LThreePhases$Replies;", true)
  | 3 => ("ThreePhases$Reader", "fault", "I", false)
  | 4 => ("ThreePhases$Reader", "faultPlace", "I", false)
  | 5 => ("ThreePhases$Reader", "bytes", "[B", true)
  | 6 => ("ThreePhases$Reader", "length", "I", false)
  | 7 => ("ThreePhases$Reader", "token", "I", false)
  | 8 => ("ThreePhases$Reader", "from", "I", false)
  | 9 => ("ThreePhases$Reader", "to", "I", false)
  | 10 => ("ThreePhases$Reader", "value", "I", false)
  | 11 => ("ThreePhases$Reader", "greatestMember", "I", false)
  | _ => ("ThreePhases$Reader", "numbers", "[I", true)
def tyX4 : Nat → FieldType := fun k => match k with
  | 0 => .object "ThreePhases$Council"
  | 1 => .object "ThreePhases$Run"
  | 2 => .object "ThreePhases$Replies"
  | 3 => .int
  | 4 => .int
  | 5 => .array .byte
  | 6 => .int
  | 7 => .int
  | 8 => .int
  | 9 => .int
  | 10 => .int
  | 11 => .int
  | _ => .array .int
abbrev wsX40 : List Cond := u_ws RX4 TX4 13
theorem nmX4 : ∀ a, a < 13 → ∀ b, b < 13 → a ≠ b → (TX4 a).2.1 ≠ (TX4 b).2.1 := by decide +kernel
theorem tyX4_ok : ∀ k, k < 13 → parseFieldDescriptor (TX4 k).2.2.1 = some (tyX4 k) := by decide +kernel
def RX5 : String := "ThreePhases$Replies"
def TX5 : u_T := fun k => match k with
  | 0 => ("ThreePhases$Replies", "size", "I", false)
  | 1 => ("ThreePhases$Replies", "members", "[I", true)
  | 2 => ("ThreePhases$Replies", "views", "[I", true)
  | _ => ("ThreePhases$Replies", "results", "[I", true)
def tyX5 : Nat → FieldType := fun k => match k with
  | 0 => .int
  | 1 => .array .int
  | 2 => .array .int
  | _ => .array .int
abbrev wsX50 : List Cond := u_ws RX5 TX5 4
theorem nmX5 : ∀ a, a < 4 → ∀ b, b < 4 → a ≠ b → (TX5 a).2.1 ≠ (TX5 b).2.1 := by decide +kernel
theorem tyX5_ok : ∀ k, k < 4 → parseFieldDescriptor (TX5 k).2.2.1 = some (tyX5 k) := by decide +kernel
def RX6 : String := "ThreePhases$Run"
def TX6 : u_T := fun k => match k with
  | 0 => ("ThreePhases$Run", "size", "I", false)
  | 1 => ("ThreePhases$Run", "kinds", "[I", true)
  | 2 => ("ThreePhases$Run", "first", "[I", true)
  | 3 => ("ThreePhases$Run", "second", "[I", true)
  | _ => ("ThreePhases$Run", "third", "[I", true)
def tyX6 : Nat → FieldType := fun k => match k with
  | 0 => .int
  | 1 => .array .int
  | 2 => .array .int
  | 3 => .array .int
  | _ => .array .int
abbrev wsX60 : List Cond := u_ws RX6 TX6 5
theorem nmX6 : ∀ a, a < 5 → ∀ b, b < 5 → a ≠ b → (TX6 a).2.1 ≠ (TX6 b).2.1 := by decide +kernel
theorem tyX6_ok : ∀ k, k < 5 → parseFieldDescriptor (TX6 k).2.2.1 = some (tyX6 k) := by decide +kernel
def RX7 : String := "ThreePhases$Sums"
def TX7 : u_T := fun k => match k with
  | 0 => ("ThreePhases$Sums", "own", "[I", true)
  | 1 => ("ThreePhases$Sums", "other", "[I", true)
  | 2 => ("ThreePhases$Sums", "asked", "I", false)
  | _ => ("ThreePhases$Sums", "taken", "I", false)
def tyX7 : Nat → FieldType := fun k => match k with
  | 0 => .array .int
  | 1 => .array .int
  | 2 => .int
  | _ => .int
abbrev wsX70 : List Cond := u_ws RX7 TX7 4
theorem nmX7 : ∀ a, a < 4 → ∀ b, b < 4 → a ≠ b → (TX7 a).2.1 ≠ (TX7 b).2.1 := by decide +kernel
theorem tyX7_ok : ∀ k, k < 4 → parseFieldDescriptor (TX7 k).2.2.1 = some (tyX7 k) := by decide +kernel
def RX8 : String := "ThreePhases$Tally"
def TX8 : u_T := fun k => match k with
  | 0 => ("ThreePhases$Tally", "matchReply", "I", false)
  | 1 => ("ThreePhases$Tally", "matchResult", "I", false)
  | 2 => ("ThreePhases$Tally", "matchView", "I", false)
  | 3 => ("ThreePhases$Tally", "fickle", "I", false)
  | 4 => ("ThreePhases$Tally", "faults", "I", false)
  | 5 => ("ThreePhases$Tally", "seats", "I", false)
  | 6 => ("ThreePhases$Tally", "views", "[I", true)
  | _ => ("ThreePhases$Tally", "results", "[I", true)
def tyX8 : Nat → FieldType := fun k => match k with
  | 0 => .int
  | 1 => .int
  | 2 => .int
  | 3 => .int
  | 4 => .int
  | 5 => .int
  | 6 => .array .int
  | _ => .array .int
abbrev wsX80 : List Cond := u_ws RX8 TX8 8
theorem nmX8 : ∀ a, a < 8 → ∀ b, b < 8 → a ≠ b → (TX8 a).2.1 ≠ (TX8 b).2.1 := by decide +kernel
theorem tyX8_ok : ∀ k, k < 8 → parseFieldDescriptor (TX8 k).2.2.1 = some (tyX8 k) := by decide +kernel
def RX9 : String := "ThreePhases$Timetable"
def TX9 : u_T := fun k => match k with
  | 0 => ("ThreePhases$Timetable", "ran", "[[I", true)
  | 1 => ("ThreePhases$Timetable", "sent", "I", false)
  | 2 => ("ThreePhases$Timetable", "quiet", "I", false)
  | 3 => ("ThreePhases$Timetable", "accepted", "[[I", true)
  | 4 => ("ThreePhases$Timetable", "prepared", "[[I", true)
  | 5 => ("ThreePhases$Timetable", "cut", "[[I", true)
  | 6 => ("ThreePhases$Timetable", "row", "[I", true)
  | _ => ("ThreePhases$Timetable", "council", "LThreePhases$Council;", true)
def tyX9 : Nat → FieldType := fun k => match k with
  | 0 => .array (.array .int)
  | 1 => .int
  | 2 => .int
  | 3 => .array (.array .int)
  | 4 => .array (.array .int)
  | 5 => .array (.array .int)
  | 6 => .array .int
  | _ => .object "ThreePhases$Council"
abbrev wsX90 : List Cond := u_ws RX9 TX9 8
theorem nmX9 : ∀ a, a < 8 → ∀ b, b < 8 → a ≠ b → (TX9 a).2.1 ≠ (TX9 b).2.1 := by decide +kernel
theorem tyX9_ok : ∀ k, k < 8 → parseFieldDescriptor (TX9 k).2.2.1 = some (tyX9 k) := by decide +kernel
def RX10 : String := "ThreePhases$Told"
def TX10 : u_T := fun k => match k with
  | 0 => ("ThreePhases$Told", "tape", "[B", true)
  | 1 => ("ThreePhases$Told", "length", "I", false)
  | 2 => ("ThreePhases$Told", "fault", "I", false)
  | 3 => ("ThreePhases$Told", "faultPlace", "I", false)
  | 4 => ("ThreePhases$Told", "sizes", "[I", true)
  | 5 => ("ThreePhases$Told", "councils", "[LThreePhases$Council;", true)
  | 6 => ("ThreePhases$Told", "runs", "[LThreePhases$Run;", true)
  | _ => ("ThreePhases$Told", "replies", "[LThreePhases$Replies;", true)
def tyX10 : Nat → FieldType := fun k => match k with
  | 0 => .array .byte
  | 1 => .int
  | 2 => .int
  | 3 => .int
  | 4 => .array .int
  | 5 => .array (.object "ThreePhases$Council")
  | 6 => .array (.object "ThreePhases$Run")
  | _ => .array (.object "ThreePhases$Replies")
abbrev wsX100 : List Cond := u_ws RX10 TX10 8
theorem nmX10 : ∀ a, a < 8 → ∀ b, b < 8 → a ≠ b → (TX10 a).2.1 ≠ (TX10 b).2.1 := by decide +kernel
theorem tyX10_ok : ∀ k, k < 8 → parseFieldDescriptor (TX10 k).2.2.1 = some (tyX10 k) := by decide +kernel
def RX11 : String := "ThreePhases"
def TX11 : u_T := fun k => match k with
  | 0 => ("ThreePhases", "told", "LThreePhases$Told;", true)
  | 1 => ("ThreePhases", "images", "[LThreePhases$Told;", true)
  | 2 => ("ThreePhases", "imaged", "[I", true)
  | 3 => ("ThreePhases", "reader", "LThreePhases$Reader;", true)
  | 4 => ("ThreePhases", "assembly", "LThreePhases$Assembly;", true)
  | 5 => ("ThreePhases", "timetable", "LThreePhases$Timetable;", true)
  | 6 => ("ThreePhases", "tally", "LThreePhases$Tally;", true)
  | 7 => ("ThreePhases", "sums", "LThreePhases$Sums;", true)
  | 8 => ("ThreePhases", "merger", "LThreePhases$Merged;", true)
  | _ => ("ThreePhases", "purse", "[I", true)
def tyX11 : Nat → FieldType := fun k => match k with
  | 0 => .object "ThreePhases$Told"
  | 1 => .array (.object "ThreePhases$Told")
  | 2 => .array .int
  | 3 => .object "ThreePhases$Reader"
  | 4 => .object "ThreePhases$Assembly"
  | 5 => .object "ThreePhases$Timetable"
  | 6 => .object "ThreePhases$Tally"
  | 7 => .object "ThreePhases$Sums"
  | 8 => .object "ThreePhases$Merged"
  | _ => .array .int
abbrev wsX110 : List Cond := u_ws RX11 TX11 10
theorem nmX11 : ∀ a, a < 10 → ∀ b, b < 10 → a ≠ b → (TX11 a).2.1 ≠ (TX11 b).2.1 := by decide +kernel
theorem tyX11_ok : ∀ k, k < 10 → parseFieldDescriptor (TX11 k).2.2.1 = some (tyX11 k) := by decide +kernel
def RX12 : String := "ThreePhasesModel"
def TX12 : u_T := fun k => match k with
  | 0 => ("ThreePhasesModel", "all", "[I", true)
  | 1 => ("ThreePhasesModel", "has", "[Z", true)
  | 2 => ("ThreePhasesModel", "size", "I", false)
  | 3 => ("ThreePhasesModel", "next", "I", false)
  | 4 => ("ThreePhasesModel", "where", "I", false)
  | 5 => ("ThreePhasesModel", "token", "I", false)
  | 6 => ("ThreePhasesModel", "number", "I", false)
  | 7 => ("ThreePhasesModel", "word", "I", false)
  | 8 => ("ThreePhasesModel", "wrong", "Z", false)
  | 9 => ("ThreePhasesModel", "farMember", "I", false)
  | 10 => ("ThreePhasesModel", "read", "[I", true)
  | 11 => ("ThreePhasesModel", "c0", "I", false)
  | 12 => ("ThreePhasesModel", "faults", "I", false)
  | 13 => ("ThreePhasesModel", "members", "I", false)
  | 14 => ("ThreePhasesModel", "quorum", "I", false)
  | 15 => ("ThreePhasesModel", "window", "I", false)
  | 16 => ("ThreePhasesModel", "step", "I", false)
  | 17 => ("ThreePhasesModel", "liars", "I", false)
  | 18 => ("ThreePhasesModel", "orders", "I", false)
  | 19 => ("ThreePhasesModel", "sums", "[I", true)
  | 20 => ("ThreePhasesModel", "otherSums", "[I", true)
  | 21 => ("ThreePhasesModel", "askedFor", "I", false)
  | 22 => ("ThreePhasesModel", "takenSet", "I", false)
  | 23 => ("ThreePhasesModel", "view", "[I", true)
  | 24 => ("ThreePhasesModel", "active", "[Z", true)
  | 25 => ("ThreePhasesModel", "low", "[I", true)
  | 26 => ("ThreePhasesModel", "ran", "[I", true)
  | 27 => ("ThreePhasesModel", "asked", "[I", true)
  | 28 => ("ThreePhasesModel", "mark", "[I", true)
  | 29 => ("ThreePhasesModel", "accounts", "[I", true)
  | 30 => ("ThreePhasesModel", "markAccounts", "[I", true)
  | 31 => ("ThreePhasesModel", "accepted", "[I", true)
  | 32 => ("ThreePhasesModel", "prepares", "[I", true)
  | 33 => ("ThreePhasesModel", "commits", "[I", true)
  | 34 => ("ThreePhasesModel", "proofView", "[I", true)
  | 35 => ("ThreePhasesModel", "proofOrder", "[I", true)
  | 36 => ("ThreePhasesModel", "ranOrder", "[I", true)
  | 37 => ("ThreePhasesModel", "votePlace", "[I", true)
  | 38 => ("ThreePhasesModel", "voteRoot", "[I", true)
  | 39 => ("ThreePhasesModel", "made", "[Z", true)
  | 40 => ("ThreePhasesModel", "from", "[I", true)
  | 41 => ("ThreePhasesModel", "upto", "[I", true)
  | 42 => ("ThreePhasesModel", "madeOrder", "[I", true)
  | 43 => ("ThreePhasesModel", "done", "I", false)
  | 44 => ("ThreePhasesModel", "mergedFrom", "I", false)
  | 45 => ("ThreePhasesModel", "mergedUpto", "I", false)
  | 46 => ("ThreePhasesModel", "mergedOrder", "[I", true)
  | 47 => ("ThreePhasesModel", "d0", "I", false)
  | 48 => ("ThreePhasesModel", "whenAccepted", "[I", true)
  | 49 => ("ThreePhasesModel", "whenPrepared", "[I", true)
  | 50 => ("ThreePhasesModel", "whenRan", "[I", true)
  | 51 => ("ThreePhasesModel", "whenLow", "[I", true)
  | 52 => ("ThreePhasesModel", "comes", "[I", true)
  | 53 => ("ThreePhasesModel", "sentMany", "I", false)
  | 54 => ("ThreePhasesModel", "lastComes", "I", false)
  | 55 => ("ThreePhasesModel", "sheet", "[I", true)
  | 56 => ("ThreePhasesModel", "r0", "I", false)
  | 57 => ("ThreePhasesModel", "lastResult", "[I", true)
  | 58 => ("ThreePhasesModel", "lastView", "[I", true)
  | 59 => ("ThreePhasesModel", "fickle", "I", false)
  | _ => ("ThreePhasesModel", "x0", "I", false)
def tyX12 : Nat → FieldType := fun k => match k with
  | 0 => .array .int
  | 1 => .array .boolean
  | 2 => .int
  | 3 => .int
  | 4 => .int
  | 5 => .int
  | 6 => .int
  | 7 => .int
  | 8 => .boolean
  | 9 => .int
  | 10 => .array .int
  | 11 => .int
  | 12 => .int
  | 13 => .int
  | 14 => .int
  | 15 => .int
  | 16 => .int
  | 17 => .int
  | 18 => .int
  | 19 => .array .int
  | 20 => .array .int
  | 21 => .int
  | 22 => .int
  | 23 => .array .int
  | 24 => .array .boolean
  | 25 => .array .int
  | 26 => .array .int
  | 27 => .array .int
  | 28 => .array .int
  | 29 => .array .int
  | 30 => .array .int
  | 31 => .array .int
  | 32 => .array .int
  | 33 => .array .int
  | 34 => .array .int
  | 35 => .array .int
  | 36 => .array .int
  | 37 => .array .int
  | 38 => .array .int
  | 39 => .array .boolean
  | 40 => .array .int
  | 41 => .array .int
  | 42 => .array .int
  | 43 => .int
  | 44 => .int
  | 45 => .int
  | 46 => .array .int
  | 47 => .int
  | 48 => .array .int
  | 49 => .array .int
  | 50 => .array .int
  | 51 => .array .int
  | 52 => .array .int
  | 53 => .int
  | 54 => .int
  | 55 => .array .int
  | 56 => .int
  | 57 => .array .int
  | 58 => .array .int
  | 59 => .int
  | _ => .int
abbrev wsX120 : List Cond := u_ws RX12 TX12 61
theorem nmX12 : ∀ a, a < 61 → ∀ b, b < 61 → a ≠ b → (TX12 a).2.1 ≠ (TX12 b).2.1 := by decide +kernel
theorem tyX12_ok : ∀ k, k < 61 → parseFieldDescriptor (TX12 k).2.2.1 = some (tyX12 k) := by decide +kernel
end
section
/-! the interpreter's methods: (name, code, answer's type, (locals, own class, frames, words, arguments, kind), (places of its words), table) -/
abbrev XI : Type := Nat × Instr × Nat
abbrev XM : Type := MethodName × ByteArray × Option FieldType × (Nat × Nat × Nat × Nat × Nat × Nat) × (Nat × Nat × Nat × Nat) × List XI
def xmY (m : XM) : MethodName := m.1
def xmC (m : XM) : ByteArray := m.2.1
def xmRet (m : XM) : Option FieldType := m.2.2.1
def xmL (m : XM) : Nat := m.2.2.2.1.1
def xmOwn (m : XM) : Nat := m.2.2.2.1.2.1
def xmFr (m : XM) : Nat := m.2.2.2.1.2.2.1
def xmLo (m : XM) : Nat := m.2.2.2.1.2.2.2.1
def xmN (m : XM) : Nat := m.2.2.2.1.2.2.2.2.1
def xmK (m : XM) : Nat := m.2.2.2.1.2.2.2.2.2
def xmW (m : XM) : Nat × Nat × Nat × Nat := m.2.2.2.2.1
def xmT (m : XM) : List XI := m.2.2.2.2.2
def xmAt (m : XM) (pc : Nat) : Option (Instr × Nat) := (xmT m).lookup pc
def t_Co_new : List XI := [(0, .aload_n 0, 1), (1, .invokespecial 3, 3), (4, .aload_n 0, 1), (5, .iconst 1, 1), (6, .putfield 9, 3), (9, .aload_n 0, 1), (10, .iconst 4, 1), (11, .putfield 15, 3), (14, .aload_n 0, 1), (15, .iconst 2, 1), (16, .putfield 18, 3), (19, .aload_n 0, 1), (20, .bipush 8, 2), (22, .newarray .int, 2), (24, .putfield 21, 3), (27, .aload_n 0, 1), (28, .bipush 10, 2), (30, .newarray .int, 2), (32, .putfield 25, 3), (35, .aload_n 0, 1), (36, .bipush 10, 2), (38, .newarray .int, 2), (40, .putfield 28, 3), (43, .aload_n 0, 1), (44, .bipush 7, 2), (46, .bipush 7, 2), (48, .multianewarray 31 2, 4), (52, .putfield 33, 3), (55, .return_, 1)]
set_option maxRecDepth 100000 in
theorem tk_Co_new : ∀ e ∈ t_Co_new, decode prog_3_method_1_code e.1 = .ok e.2 := by decide +kernel
def t_Re_new : List XI := [(0, .aload_n 0, 1), (1, .invokespecial 3, 3), (4, .aload_n 0, 1), (5, .new 9, 3), (8, .dup, 1), (9, .invokespecial 11, 3), (12, .putfield 12, 3), (15, .aload_n 0, 1), (16, .new 18, 3), (19, .dup, 1), (20, .invokespecial 20, 3), (23, .putfield 21, 3), (26, .aload_n 0, 1), (27, .new 25, 3), (30, .dup, 1), (31, .invokespecial 27, 3), (34, .putfield 28, 3), (37, .aload_n 0, 1), (38, .iconst (-1), 1), (39, .putfield 32, 3), (42, .aload_n 0, 1), (43, .sipush 600, 3), (46, .newarray .byte, 2), (48, .putfield 36, 3), (51, .aload_n 0, 1), (52, .iconst 3, 1), (53, .newarray .int, 2), (55, .putfield 40, 3), (58, .return_, 1)]
set_option maxRecDepth 100000 in
theorem tk_Re_new : ∀ e ∈ t_Re_new, decode prog_6_method_1_code e.1 = .ok e.2 := by decide +kernel
def t_As_new : List XI := [(0, .aload_n 0, 1), (1, .invokespecial 3, 3), (4, .aload_n 0, 1), (5, .bipush 10, 2), (7, .anewarray 9, 3), (10, .putfield 11, 3), (13, .aload_n 0, 1), (14, .new 17, 3), (17, .dup, 1), (18, .invokespecial 19, 3), (21, .putfield 20, 3), (24, .aload_n 0, 1), (25, .bipush 7, 2), (27, .anewarray 24, 3), (30, .putfield 26, 3), (33, .aload_n 0, 1), (34, .new 30, 3), (37, .dup, 1), (38, .invokespecial 32, 3), (41, .putfield 33, 3), (44, .aload_n 0, 1), (45, .iconst 1, 1), (46, .putfield 37, 3), (49, .aload_n 0, 1), (50, .iconst 1, 1), (51, .putfield 41, 3), (54, .iconst 0, 1), (55, .istore_n 1, 1), (56, .iload_n 1, 1), (57, .bipush 7, 2), (59, .if_icmp .ge 22, 3), (62, .aload_n 0, 1), (63, .getfield 26, 3), (66, .iload_n 1, 1), (67, .new 24, 3), (70, .dup, 1), (71, .invokespecial 44, 3), (74, .aastore, 1), (75, .iinc 1 1, 3), (78, .goto (-22), 3), (81, .iconst 0, 1), (82, .istore_n 1, 1), (83, .iload_n 1, 1), (84, .bipush 9, 2), (86, .if_icmp .gt 22, 3), (89, .aload_n 0, 1), (90, .getfield 11, 3), (93, .iload_n 1, 1), (94, .new 9, 3), (97, .dup, 1), (98, .invokespecial 45, 3), (101, .aastore, 1), (102, .iinc 1 1, 3), (105, .goto (-22), 3), (108, .return_, 1)]
set_option maxRecDepth 100000 in
theorem tk_As_new : ∀ e ∈ t_As_new, decode prog_2_method_1_code e.1 = .ok e.2 := by decide +kernel
def t_Me_new : List XI := [(0, .aload_n 0, 1), (1, .invokespecial 3, 3), (4, .aload_n 0, 1), (5, .bipush 8, 2), (7, .newarray .int, 2), (9, .putfield 9, 3), (12, .aload_n 0, 1), (13, .bipush 8, 2), (15, .newarray .int, 2), (17, .putfield 15, 3), (20, .aload_n 0, 1), (21, .bipush 13, 2), (23, .newarray .int, 2), (25, .putfield 18, 3), (28, .aload_n 0, 1), (29, .bipush 13, 2), (31, .newarray .int, 2), (33, .putfield 21, 3), (36, .aload_n 0, 1), (37, .bipush 13, 2), (39, .newarray .int, 2), (41, .putfield 24, 3), (44, .aload_n 0, 1), (45, .bipush 13, 2), (47, .newarray .int, 2), (49, .putfield 27, 3), (52, .aload_n 0, 1), (53, .bipush 13, 2), (55, .newarray .int, 2), (57, .putfield 30, 3), (60, .aload_n 0, 1), (61, .bipush 13, 2), (63, .newarray .int, 2), (65, .putfield 33, 3), (68, .aload_n 0, 1), (69, .bipush 7, 2), (71, .newarray .int, 2), (73, .putfield 36, 3), (76, .aload_n 0, 1), (77, .bipush 7, 2), (79, .newarray .int, 2), (81, .putfield 39, 3), (84, .return_, 1)]
set_option maxRecDepth 100000 in
theorem tk_Me_new : ∀ e ∈ t_Me_new, decode prog_4_method_1_code e.1 = .ok e.2 := by decide +kernel
def t_Mg_new : List XI := [(0, .aload_n 0, 1), (1, .invokespecial 3, 3), (4, .aload_n 0, 1), (5, .bipush 13, 2), (7, .newarray .int, 2), (9, .putfield 9, 3), (12, .aload_n 0, 1), (13, .bipush 13, 2), (15, .newarray .int, 2), (17, .putfield 15, 3), (20, .return_, 1)]
set_option maxRecDepth 100000 in
theorem tk_Mg_new : ∀ e ∈ t_Mg_new, decode prog_5_method_1_code e.1 = .ok e.2 := by decide +kernel
def t_Re_read : List XI := [(0, .aload_n 1, 1), (1, .iconst 0, 1), (2, .aload_n 0, 1), (3, .getfield 36, 3), (6, .iconst 0, 1), (7, .sipush 600, 3), (10, .invokestatic 44, 3), (13, .aload_n 0, 1), (14, .iload_n 2, 1), (15, .sipush 600, 3), (18, .invokestatic 50, 3), (21, .putfield 56, 3), (24, .aload_n 0, 1), (25, .iconst 0, 1), (26, .putfield 59, 3), (29, .aload_n 0, 1), (30, .iconst (-1), 1), (31, .putfield 32, 3), (34, .aload_n 0, 1), (35, .iconst (-1), 1), (36, .putfield 62, 3), (39, .aload_n 0, 1), (40, .getfield 12, 3), (43, .invokevirtual 65, 3), (46, .aload_n 0, 1), (47, .getfield 21, 3), (50, .iconst 0, 1), (51, .putfield 68, 3), (54, .aload_n 0, 1), (55, .getfield 28, 3), (58, .iconst 0, 1), (59, .putfield 71, 3), (62, .aload_n 0, 1), (63, .iconst 0, 1), (64, .putfield 72, 3), (67, .aload_n 0, 1), (68, .invokevirtual 75, 3), (71, .iconst 0, 1), (72, .istore 4, 2), (74, .iload 4, 2), (76, .sipush 600, 3), (79, .if_icmp .ge 38, 3), (82, .aload_n 0, 1), (83, .getfield 78, 3), (86, .ifCond .eq 31, 3), (89, .aload_n 0, 1), (90, .iload_n 3, 1), (91, .invokevirtual 81, 3), (94, .ifCond .ne 17, 3), (97, .aload_n 0, 1), (98, .iconst 1, 1), (99, .putfield 59, 3), (102, .aload_n 0, 1), (103, .aload_n 0, 1), (104, .getfield 85, 3), (107, .putfield 32, 3), (110, .return_, 1), (111, .iinc 4 1, 3), (114, .goto (-40), 3), (117, .aload_n 0, 1), (118, .getfield 62, 3), (121, .aload_n 0, 1), (122, .getfield 12, 3), (125, .invokevirtual 88, 3), (128, .if_icmp .lt 12, 3), (131, .aload_n 0, 1), (132, .iconst 4, 1), (133, .aload_n 0, 1), (134, .getfield 56, 3), (137, .invokevirtual 92, 3), (140, .return_, 1)]
set_option maxRecDepth 100000 in
theorem tk_Re_read : ∀ e ∈ t_Re_read, decode prog_6_method_2_code e.1 = .ok e.2 := by decide +kernel
def t_Co_clear : List XI := [(0, .aload_n 0, 1), (1, .iconst 1, 1), (2, .putfield 9, 3), (5, .aload_n 0, 1), (6, .iconst 4, 1), (7, .putfield 15, 3), (10, .aload_n 0, 1), (11, .iconst 2, 1), (12, .putfield 18, 3), (15, .aload_n 0, 1), (16, .iconst 0, 1), (17, .putfield 36, 3), (20, .aload_n 0, 1), (21, .iconst 0, 1), (22, .putfield 39, 3), (25, .aload_n 0, 1), (26, .getfield 21, 3), (29, .iconst 0, 1), (30, .invokestatic 42, 3), (33, .iconst 0, 1), (34, .istore_n 1, 1), (35, .iload_n 1, 1), (36, .bipush 7, 2), (38, .if_icmp .ge 19, 3), (41, .aload_n 0, 1), (42, .getfield 33, 3), (45, .iload_n 1, 1), (46, .aaload, 1), (47, .iconst 1, 1), (48, .invokestatic 42, 3), (51, .iinc 1 1, 3), (54, .goto (-19), 3), (57, .return_, 1)]
set_option maxRecDepth 100000 in
theorem tk_Co_clear : ∀ e ∈ t_Co_clear, decode prog_3_method_2_code e.1 = .ok e.2 := by decide +kernel
def t_Re_next : List XI := [(0, .aload_n 0, 1), (1, .getfield 72, 3), (4, .istore_n 1, 1), (5, .iload_n 1, 1), (6, .aload_n 0, 1), (7, .getfield 56, 3), (10, .if_icmp .ge 31, 3), (13, .aload_n 0, 1), (14, .getfield 36, 3), (17, .iload_n 1, 1), (18, .baload, 1), (19, .bipush 32, 2), (21, .if_icmp .eq 14, 3), (24, .aload_n 0, 1), (25, .getfield 36, 3), (28, .iload_n 1, 1), (29, .baload, 1), (30, .bipush 10, 2), (32, .if_icmp .ne 9, 3), (35, .iinc 1 1, 3), (38, .goto (-33), 3), (41, .aload_n 0, 1), (42, .iload_n 1, 1), (43, .putfield 85, 3), (46, .aload_n 0, 1), (47, .iload_n 1, 1), (48, .putfield 72, 3), (51, .iload_n 1, 1), (52, .aload_n 0, 1), (53, .getfield 56, 3), (56, .if_icmp .lt 11, 3), (59, .aload_n 0, 1), (60, .iconst 0, 1), (61, .putfield 78, 3), (64, .goto 68, 3), (67, .aload_n 0, 1), (68, .getfield 36, 3), (71, .iload_n 1, 1), (72, .baload, 1), (73, .invokestatic 216, 3), (76, .ifCond .eq 10, 3), (79, .aload_n 0, 1), (80, .invokevirtual 220, 3), (83, .goto 49, 3), (86, .aload_n 0, 1), (87, .getfield 36, 3), (90, .iload_n 1, 1), (91, .baload, 1), (92, .invokestatic 223, 3), (95, .ifCond .eq 10, 3), (98, .aload_n 0, 1), (99, .invokevirtual 226, 3), (102, .goto 30, 3), (105, .aload_n 0, 1), (106, .aload_n 0, 1), (107, .getfield 36, 3), (110, .iload_n 1, 1), (111, .baload, 1), (112, .bipush 59, 2), (114, .if_icmp .ne 7, 3), (117, .iconst 3, 1), (118, .goto 4, 3), (121, .iconst 4, 1), (122, .putfield 78, 3), (125, .aload_n 0, 1), (126, .iload_n 1, 1), (127, .iconst 1, 1), (128, .iadd, 1), (129, .putfield 72, 3), (132, .return_, 1)]
set_option maxRecDepth 100000 in
theorem tk_Re_next : ∀ e ∈ t_Re_next, decode prog_6_method_12_code e.1 = .ok e.2 := by decide +kernel
def t_Re_isLetter : List XI := [(0, .iload_n 0, 1), (1, .bipush 97, 2), (3, .if_icmp .lt 13, 3), (6, .iload_n 0, 1), (7, .bipush 122, 2), (9, .if_icmp .gt 7, 3), (12, .iconst 1, 1), (13, .goto 4, 3), (16, .iconst 0, 1), (17, .ireturn, 1)]
set_option maxRecDepth 100000 in
theorem tk_Re_isLetter : ∀ e ∈ t_Re_isLetter, decode prog_6_method_15_code e.1 = .ok e.2 := by decide +kernel
def t_Re_readWord : List XI := [(0, .aload_n 0, 1), (1, .getfield 72, 3), (4, .aload_n 0, 1), (5, .getfield 56, 3), (8, .if_icmp .ge 31, 3), (11, .aload_n 0, 1), (12, .getfield 36, 3), (15, .aload_n 0, 1), (16, .getfield 72, 3), (19, .baload, 1), (20, .invokestatic 216, 3), (23, .ifCond .eq 16, 3), (26, .aload_n 0, 1), (27, .dup, 1), (28, .getfield 72, 3), (31, .iconst 1, 1), (32, .iadd, 1), (33, .putfield 72, 3), (36, .goto (-36), 3), (39, .aload_n 0, 1), (40, .iconst 1, 1), (41, .putfield 78, 3), (44, .return_, 1)]
set_option maxRecDepth 100000 in
theorem tk_Re_readWord : ∀ e ∈ t_Re_readWord, decode prog_6_method_13_code e.1 = .ok e.2 := by decide +kernel
def t_Re_isDigit : List XI := [(0, .iload_n 0, 1), (1, .bipush 48, 2), (3, .if_icmp .lt 13, 3), (6, .iload_n 0, 1), (7, .bipush 57, 2), (9, .if_icmp .gt 7, 3), (12, .iconst 1, 1), (13, .goto 4, 3), (16, .iconst 0, 1), (17, .ireturn, 1)]
set_option maxRecDepth 100000 in
theorem tk_Re_isDigit : ∀ e ∈ t_Re_isDigit, decode prog_6_method_16_code e.1 = .ok e.2 := by decide +kernel
def t_Re_readNumber : List XI := [(0, .aload_n 0, 1), (1, .iconst 0, 1), (2, .putfield 112, 3), (5, .aload_n 0, 1), (6, .getfield 72, 3), (9, .aload_n 0, 1), (10, .getfield 56, 3), (13, .if_icmp .ge 59, 3), (16, .aload_n 0, 1), (17, .getfield 36, 3), (20, .aload_n 0, 1), (21, .getfield 72, 3), (24, .baload, 1), (25, .invokestatic 223, 3), (28, .ifCond .eq 44, 3), (31, .aload_n 0, 1), (32, .aload_n 0, 1), (33, .getfield 112, 3), (36, .bipush 10, 2), (38, .imul, 1), (39, .aload_n 0, 1), (40, .getfield 36, 3), (43, .aload_n 0, 1), (44, .getfield 72, 3), (47, .baload, 1), (48, .iadd, 1), (49, .bipush 48, 2), (51, .isub, 1), (52, .sipush 1000, 3), (55, .irem, 1), (56, .putfield 112, 3), (59, .aload_n 0, 1), (60, .dup, 1), (61, .getfield 72, 3), (64, .iconst 1, 1), (65, .iadd, 1), (66, .putfield 72, 3), (69, .goto (-64), 3), (72, .aload_n 0, 1), (73, .aload_n 0, 1), (74, .getfield 72, 3), (77, .aload_n 0, 1), (78, .getfield 85, 3), (81, .isub, 1), (82, .iconst 2, 1), (83, .if_icmp .le 7, 3), (86, .iconst 4, 1), (87, .goto 4, 3), (90, .iconst 2, 1), (91, .putfield 78, 3), (94, .return_, 1)]
set_option maxRecDepth 100000 in
theorem tk_Re_readNumber : ∀ e ∈ t_Re_readNumber, decode prog_6_method_14_code e.1 = .ok e.2 := by decide +kernel
def t_Re_readLine : List XI := [(0, .aload_n 0, 1), (1, .iload_n 1, 1), (2, .invokevirtual 96, 3), (5, .istore_n 2, 1), (6, .iload_n 2, 1), (7, .iconst (-1), 1), (8, .if_icmp .ne 5, 3), (11, .iconst 0, 1), (12, .ireturn, 1), (13, .aload_n 0, 1), (14, .iload_n 2, 1), (15, .invokevirtual 100, 3), (18, .ifCond .eq 12, 3), (21, .aload_n 0, 1), (22, .iconst 3, 1), (23, .aload_n 0, 1), (24, .getfield 85, 3), (27, .invokevirtual 92, 3), (30, .aload_n 0, 1), (31, .invokevirtual 75, 3), (34, .aload_n 0, 1), (35, .getfield 40, 3), (38, .iconst (-1), 1), (39, .invokestatic 103, 3), (42, .iconst 0, 1), (43, .istore_n 3, 1), (44, .iload_n 3, 1), (45, .getstatic 109, 3), (48, .iload_n 2, 1), (49, .iaload, 1), (50, .if_icmp .ge 51, 3), (53, .aload_n 0, 1), (54, .getfield 78, 3), (57, .iconst 2, 1), (58, .if_icmp .eq 5, 3), (61, .iconst 0, 1), (62, .ireturn, 1), (63, .aload_n 0, 1), (64, .getfield 40, 3), (67, .iload_n 3, 1), (68, .aload_n 0, 1), (69, .getfield 112, 3), (72, .iastore, 1), (73, .aload_n 0, 1), (74, .iload_n 2, 1), (75, .iload_n 3, 1), (76, .invokevirtual 115, 3), (79, .ifCond .ne 12, 3), (82, .aload_n 0, 1), (83, .iconst 2, 1), (84, .aload_n 0, 1), (85, .getfield 85, 3), (88, .invokevirtual 92, 3), (91, .aload_n 0, 1), (92, .invokevirtual 75, 3), (95, .iinc 3 1, 3), (98, .goto (-54), 3), (101, .aload_n 0, 1), (102, .getfield 78, 3), (105, .iconst 3, 1), (106, .if_icmp .eq 5, 3), (109, .iconst 0, 1), (110, .ireturn, 1), (111, .aload_n 0, 1), (112, .getfield 59, 3), (115, .ifCond .ne 8, 3), (118, .aload_n 0, 1), (119, .iload_n 2, 1), (120, .invokevirtual 119, 3), (123, .aload_n 0, 1), (124, .invokevirtual 75, 3), (127, .iconst 1, 1), (128, .ireturn, 1)]
set_option maxRecDepth 100000 in
theorem tk_Re_readLine : ∀ e ∈ t_Re_readLine, decode prog_6_method_4_code e.1 = .ok e.2 := by decide +kernel
def t_Re_lineOf : List XI := [(0, .aload_n 0, 1), (1, .getfield 78, 3), (4, .iconst 1, 1), (5, .if_icmp .ne 48, 3), (8, .iload_n 1, 1), (9, .ifCond .lt 44, 3), (12, .iload_n 1, 1), (13, .iconst 3, 1), (14, .if_icmp .ge 39, 3), (17, .getstatic 123, 3), (20, .iload_n 1, 1), (21, .iaload, 1), (22, .istore_n 2, 1), (23, .iload_n 2, 1), (24, .getstatic 123, 3), (27, .iload_n 1, 1), (28, .iconst 1, 1), (29, .iadd, 1), (30, .iaload, 1), (31, .if_icmp .ge 22, 3), (34, .aload_n 0, 1), (35, .iload_n 2, 1), (36, .invokestatic 126, 3), (39, .invokevirtual 130, 3), (42, .ifCond .eq 5, 3), (45, .iload_n 2, 1), (46, .ireturn, 1), (47, .iinc 2 1, 3), (50, .goto (-27), 3), (53, .iconst (-1), 1), (54, .ireturn, 1)]
set_option maxRecDepth 100000 in
theorem tk_Re_lineOf : ∀ e ∈ t_Re_lineOf, decode prog_6_method_5_code e.1 = .ok e.2 := by decide +kernel
def t_Re_wordOf : List XI := [(0, .iload_n 0, 1), (1, .tableswitch 127 0 15 #[79, 82, 85, 88, 91, 94, 97, 100, 103, 106, 109, 112, 115, 118, 121, 124], 79), (80, .ldc 134, 2), (82, .areturn, 1), (83, .ldc 136, 2), (85, .areturn, 1), (86, .ldc 138, 2), (88, .areturn, 1), (89, .ldc 140, 2), (91, .areturn, 1), (92, .ldc 142, 2), (94, .areturn, 1), (95, .ldc 144, 2), (97, .areturn, 1), (98, .ldc 146, 2), (100, .areturn, 1), (101, .ldc 148, 2), (103, .areturn, 1), (104, .ldc 150, 2), (106, .areturn, 1), (107, .ldc 152, 2), (109, .areturn, 1), (110, .ldc 154, 2), (112, .areturn, 1), (113, .ldc 155, 2), (115, .areturn, 1), (116, .ldc 157, 2), (118, .areturn, 1), (119, .ldc 159, 2), (121, .areturn, 1), (122, .ldc 161, 2), (124, .areturn, 1), (125, .ldc 163, 2), (127, .areturn, 1), (128, .ldc 165, 2), (130, .areturn, 1)]
set_option maxRecDepth 100000 in
theorem tk_Re_wordOf : ∀ e ∈ t_Re_wordOf, decode prog_6_method_6_code e.1 = .ok e.2 := by decide +kernel
def t_Re_isWord : List XI := [(0, .aload_n 1, 1), (1, .invokevirtual 167, 3), (4, .aload_n 0, 1), (5, .getfield 72, 3), (8, .aload_n 0, 1), (9, .getfield 85, 3), (12, .isub, 1), (13, .if_icmp .eq 5, 3), (16, .iconst 0, 1), (17, .ireturn, 1), (18, .iconst 0, 1), (19, .istore_n 2, 1), (20, .iload_n 2, 1), (21, .aload_n 1, 1), (22, .invokevirtual 167, 3), (25, .if_icmp .ge 30, 3), (28, .aload_n 0, 1), (29, .getfield 36, 3), (32, .aload_n 0, 1), (33, .getfield 85, 3), (36, .iload_n 2, 1), (37, .iadd, 1), (38, .baload, 1), (39, .aload_n 1, 1), (40, .iload_n 2, 1), (41, .invokevirtual 171, 3), (44, .if_icmp .eq 5, 3), (47, .iconst 0, 1), (48, .ireturn, 1), (49, .iinc 2 1, 3), (52, .goto (-32), 3), (55, .iconst 1, 1), (56, .ireturn, 1)]
set_option maxRecDepth 100000 in
theorem tk_Re_isWord : ∀ e ∈ t_Re_isWord, decode prog_6_method_7_code e.1 = .ok e.2 := by decide +kernel
def t_Re_isFull : List XI := [(0, .iload_n 1, 1), (1, .iconst 5, 1), (2, .if_icmp .ne 21, 3), (5, .aload_n 0, 1), (6, .getfield 12, 3), (9, .getfield 175, 3), (12, .bipush 10, 2), (14, .if_icmp .ne 7, 3), (17, .iconst 1, 1), (18, .goto 4, 3), (21, .iconst 0, 1), (22, .ireturn, 1), (23, .iload_n 1, 1), (24, .bipush 16, 2), (26, .if_icmp .ne 21, 3), (29, .aload_n 0, 1), (30, .getfield 28, 3), (33, .getfield 71, 3), (36, .bipush 12, 2), (38, .if_icmp .ne 7, 3), (41, .iconst 1, 1), (42, .goto 4, 3), (45, .iconst 0, 1), (46, .ireturn, 1), (47, .iload_n 1, 1), (48, .bipush 7, 2), (50, .if_icmp .lt 19, 3), (53, .aload_n 0, 1), (54, .getfield 21, 3), (57, .getfield 68, 3), (60, .bipush 40, 2), (62, .if_icmp .ne 7, 3), (65, .iconst 1, 1), (66, .goto 4, 3), (69, .iconst 0, 1), (70, .ireturn, 1)]
set_option maxRecDepth 100000 in
theorem tk_Re_isFull : ∀ e ∈ t_Re_isFull, decode prog_6_method_8_code e.1 = .ok e.2 := by decide +kernel
def t_Re_note : List XI := [(0, .aload_n 0, 1), (1, .getfield 59, 3), (4, .ifCond .ne 13, 3), (7, .aload_n 0, 1), (8, .iload_n 1, 1), (9, .putfield 59, 3), (12, .aload_n 0, 1), (13, .iload_n 2, 1), (14, .putfield 32, 3), (17, .return_, 1)]
set_option maxRecDepth 100000 in
theorem tk_Re_note : ∀ e ∈ t_Re_note, decode prog_6_method_3_code e.1 = .ok e.2 := by decide +kernel
def t_Re_mayBe : List XI := [(0, .aload_n 0, 1), (1, .getfield 40, 3), (4, .iload_n 2, 1), (5, .iaload, 1), (6, .istore_n 3, 1), (7, .iload_n 3, 1), (8, .getstatic 178, 3), (11, .iconst 3, 1), (12, .iload_n 1, 1), (13, .imul, 1), (14, .iload_n 2, 1), (15, .iadd, 1), (16, .iaload, 1), (17, .if_icmp .lt 16, 3), (20, .iload_n 3, 1), (21, .getstatic 181, 3), (24, .iconst 3, 1), (25, .iload_n 1, 1), (26, .imul, 1), (27, .iload_n 2, 1), (28, .iadd, 1), (29, .iaload, 1), (30, .if_icmp .le 5, 3), (33, .iconst 0, 1), (34, .ireturn, 1), (35, .iload_n 2, 1), (36, .iconst 1, 1), (37, .if_icmp .ne 20, 3), (40, .iload_n 1, 1), (41, .invokestatic 184, 3), (44, .ifCond .eq 13, 3), (47, .iload_n 3, 1), (48, .aload_n 0, 1), (49, .getfield 40, 3), (52, .iconst 0, 1), (53, .iaload, 1), (54, .if_icmp .eq 7, 3), (57, .iconst 1, 1), (58, .goto 4, 3), (61, .iconst 0, 1), (62, .ireturn, 1)]
set_option maxRecDepth 100000 in
theorem tk_Re_mayBe : ∀ e ∈ t_Re_mayBe, decode prog_6_method_9_code e.1 = .ok e.2 := by decide +kernel
def t_Re_tellsTwoMembers : List XI := [(0, .iload_n 0, 1), (1, .tableswitch 45 6 12 #[43, 45, 43, 43, 45, 43, 43], 43), (44, .iconst 1, 1), (45, .ireturn, 1), (46, .iconst 0, 1), (47, .ireturn, 1)]
set_option maxRecDepth 100000 in
theorem tk_Re_tellsTwoMembers : ∀ e ∈ t_Re_tellsTwoMembers, decode prog_6_method_10_code e.1 = .ok e.2 := by decide +kernel
def t_Re_keep : List XI := [(0, .aload_n 0, 1), (1, .getfield 40, 3), (4, .iconst 0, 1), (5, .iaload, 1), (6, .istore_n 2, 1), (7, .aload_n 0, 1), (8, .getfield 40, 3), (11, .iconst 1, 1), (12, .iaload, 1), (13, .istore_n 3, 1), (14, .aload_n 0, 1), (15, .getfield 40, 3), (18, .iconst 2, 1), (19, .iaload, 1), (20, .istore 4, 2), (22, .iload_n 1, 1), (23, .bipush 16, 2), (25, .if_icmp .ne 15, 3), (28, .aload_n 0, 1), (29, .getfield 28, 3), (32, .iload_n 2, 1), (33, .iload_n 3, 1), (34, .iload 4, 2), (36, .invokevirtual 187, 3), (39, .return_, 1), (40, .iload_n 1, 1), (41, .tableswitch 176 0 6 #[43, 54, 65, 76, 106, 119, 131], 43), (84, .aload_n 0, 1), (85, .getfield 12, 3), (88, .iload_n 2, 1), (89, .putfield 191, 3), (92, .goto 140, 3), (95, .aload_n 0, 1), (96, .getfield 12, 3), (99, .iload_n 2, 1), (100, .putfield 193, 3), (103, .goto 129, 3), (106, .aload_n 0, 1), (107, .getfield 12, 3), (110, .iload_n 2, 1), (111, .putfield 195, 3), (114, .goto 118, 3), (117, .aload_n 0, 1), (118, .getfield 12, 3), (121, .dup, 1), (122, .getfield 197, 3), (125, .iconst 1, 1), (126, .iload_n 2, 1), (127, .ishl, 1), (128, .ior, 1), (129, .putfield 197, 3), (132, .aload_n 0, 1), (133, .aload_n 0, 1), (134, .getfield 62, 3), (137, .iload_n 2, 1), (138, .invokestatic 200, 3), (141, .putfield 62, 3), (144, .goto 88, 3), (147, .aload_n 0, 1), (148, .getfield 12, 3), (151, .getfield 203, 3), (154, .iload_n 2, 1), (155, .iload_n 3, 1), (156, .iastore, 1), (157, .goto 75, 3), (160, .aload_n 0, 1), (161, .getfield 12, 3), (164, .iload_n 2, 1), (165, .iload_n 3, 1), (166, .invokevirtual 206, 3), (169, .goto 63, 3), (172, .aload_n 0, 1), (173, .getfield 12, 3), (176, .getfield 209, 3), (179, .iload_n 2, 1), (180, .aaload, 1), (181, .iload_n 3, 1), (182, .iload 4, 2), (184, .iastore, 1), (185, .aload_n 0, 1), (186, .getfield 12, 3), (189, .getfield 209, 3), (192, .iload_n 3, 1), (193, .aaload, 1), (194, .iload_n 2, 1), (195, .iload 4, 2), (197, .iastore, 1), (198, .aload_n 0, 1), (199, .aload_n 0, 1), (200, .getfield 62, 3), (203, .iload_n 2, 1), (204, .iload_n 3, 1), (205, .invokestatic 200, 3), (208, .invokestatic 200, 3), (211, .putfield 62, 3), (214, .goto 18, 3), (217, .aload_n 0, 1), (218, .getfield 21, 3), (221, .iload_n 1, 1), (222, .bipush 7, 2), (224, .isub, 1), (225, .iload_n 2, 1), (226, .iload_n 3, 1), (227, .iload 4, 2), (229, .invokevirtual 213, 3), (232, .return_, 1)]
set_option maxRecDepth 100000 in
theorem tk_Re_keep : ∀ e ∈ t_Re_keep, decode prog_6_method_11_code e.1 = .ok e.2 := by decide +kernel
def t_Co_addOrder : List XI := [(0, .aload_n 0, 1), (1, .getfield 39, 3), (4, .bipush 10, 2), (6, .if_icmp .ge 33, 3), (9, .aload_n 0, 1), (10, .getfield 25, 3), (13, .aload_n 0, 1), (14, .getfield 39, 3), (17, .iload_n 1, 1), (18, .iastore, 1), (19, .aload_n 0, 1), (20, .getfield 28, 3), (23, .aload_n 0, 1), (24, .getfield 39, 3), (27, .iload_n 2, 1), (28, .iastore, 1), (29, .aload_n 0, 1), (30, .dup, 1), (31, .getfield 39, 3), (34, .iconst 1, 1), (35, .iadd, 1), (36, .putfield 39, 3), (39, .return_, 1)]
set_option maxRecDepth 100000 in
theorem tk_Co_addOrder : ∀ e ∈ t_Co_addOrder, decode prog_3_method_4_code e.1 = .ok e.2 := by decide +kernel
def t_Co_members : List XI := [(0, .iconst 3, 1), (1, .aload_n 0, 1), (2, .getfield 9, 3), (5, .imul, 1), (6, .iconst 1, 1), (7, .iadd, 1), (8, .ireturn, 1)]
set_option maxRecDepth 100000 in
theorem tk_Co_members : ∀ e ∈ t_Co_members, decode prog_3_method_5_code e.1 = .ok e.2 := by decide +kernel
def t_Co_take : List XI := [(0, .aload_n 0, 1), (1, .aload_n 1, 1), (2, .getfield 9, 3), (5, .putfield 9, 3), (8, .aload_n 0, 1), (9, .aload_n 1, 1), (10, .getfield 15, 3), (13, .putfield 15, 3), (16, .aload_n 0, 1), (17, .aload_n 1, 1), (18, .getfield 18, 3), (21, .putfield 18, 3), (24, .aload_n 0, 1), (25, .aload_n 1, 1), (26, .getfield 36, 3), (29, .putfield 36, 3), (32, .aload_n 0, 1), (33, .aload_n 1, 1), (34, .getfield 39, 3), (37, .putfield 39, 3), (40, .aload_n 1, 1), (41, .getfield 21, 3), (44, .aload_n 0, 1), (45, .getfield 21, 3), (48, .invokestatic 48, 3), (51, .aload_n 1, 1), (52, .getfield 25, 3), (55, .iconst 0, 1), (56, .aload_n 0, 1), (57, .getfield 25, 3), (60, .iconst 0, 1), (61, .bipush 10, 2), (63, .invokestatic 52, 3), (66, .aload_n 1, 1), (67, .getfield 28, 3), (70, .iconst 0, 1), (71, .aload_n 0, 1), (72, .getfield 28, 3), (75, .iconst 0, 1), (76, .bipush 10, 2), (78, .invokestatic 52, 3), (81, .iconst 0, 1), (82, .istore_n 2, 1), (83, .iload_n 2, 1), (84, .bipush 7, 2), (86, .if_icmp .ge 28, 3), (89, .aload_n 1, 1), (90, .getfield 33, 3), (93, .iload_n 2, 1), (94, .aaload, 1), (95, .iconst 0, 1), (96, .aload_n 0, 1), (97, .getfield 33, 3), (100, .iload_n 2, 1), (101, .aaload, 1), (102, .iconst 0, 1), (103, .bipush 7, 2), (105, .invokestatic 52, 3), (108, .iinc 2 1, 3), (111, .goto (-28), 3), (114, .return_, 1)]
set_option maxRecDepth 100000 in
theorem tk_Co_take : ∀ e ∈ t_Co_take, decode prog_3_method_3_code e.1 = .ok e.2 := by decide +kernel
def t_Co_detail : List XI := [(0, .iload_n 1, 1), (1, .bipush 10, 2), (3, .if_icmp .lt 19, 3), (6, .iload_n 1, 1), (7, .bipush 18, 2), (9, .if_icmp .ge 13, 3), (12, .aload_n 0, 1), (13, .getfield 21, 3), (16, .iload_n 1, 1), (17, .bipush 10, 2), (19, .isub, 1), (20, .iaload, 1), (21, .ireturn, 1), (22, .iload_n 1, 1), (23, .bipush 20, 2), (25, .if_icmp .lt 24, 3), (28, .iload_n 1, 1), (29, .bipush 20, 2), (31, .aload_n 0, 1), (32, .getfield 39, 3), (35, .iadd, 1), (36, .if_icmp .ge 13, 3), (39, .aload_n 0, 1), (40, .getfield 25, 3), (43, .iload_n 1, 1), (44, .bipush 20, 2), (46, .isub, 1), (47, .iaload, 1), (48, .ireturn, 1), (49, .iload_n 1, 1), (50, .bipush 30, 2), (52, .if_icmp .lt 24, 3), (55, .iload_n 1, 1), (56, .bipush 30, 2), (58, .aload_n 0, 1), (59, .getfield 39, 3), (62, .iadd, 1), (63, .if_icmp .ge 13, 3), (66, .aload_n 0, 1), (67, .getfield 28, 3), (70, .iload_n 1, 1), (71, .bipush 30, 2), (73, .isub, 1), (74, .iaload, 1), (75, .ireturn, 1), (76, .iload_n 1, 1), (77, .bipush 100, 2), (79, .if_icmp .lt 10, 3), (82, .iload_n 1, 1), (83, .sipush 200, 3), (86, .if_icmp .lt 5, 3), (89, .iconst (-1), 1), (90, .ireturn, 1), (91, .iload_n 1, 1), (92, .bipush 100, 2), (94, .isub, 1), (95, .bipush 10, 2), (97, .idiv, 1), (98, .istore_n 2, 1), (99, .iload_n 1, 1), (100, .bipush 100, 2), (102, .isub, 1), (103, .bipush 10, 2), (105, .irem, 1), (106, .istore_n 3, 1), (107, .iload_n 2, 1), (108, .iload_n 3, 1), (109, .if_icmp .eq 30, 3), (112, .aload_n 0, 1), (113, .iload_n 2, 1), (114, .invokevirtual 62, 3), (117, .ifCond .eq 22, 3), (120, .aload_n 0, 1), (121, .iload_n 3, 1), (122, .invokevirtual 62, 3), (125, .ifCond .eq 14, 3), (128, .aload_n 0, 1), (129, .getfield 33, 3), (132, .iload_n 2, 1), (133, .aaload, 1), (134, .iload_n 3, 1), (135, .iaload, 1), (136, .goto 4, 3), (139, .iconst (-1), 1), (140, .ireturn, 1)]
set_option maxRecDepth 100000 in
theorem tk_Co_detail : ∀ e ∈ t_Co_detail, decode prog_3_method_10_code e.1 = .ok e.2 := by decide +kernel
def t_Co_has : List XI := [(0, .iload_n 1, 1), (1, .ifCond .lt 15, 3), (4, .iload_n 1, 1), (5, .aload_n 0, 1), (6, .invokevirtual 58, 3), (9, .if_icmp .ge 7, 3), (12, .iconst 1, 1), (13, .goto 4, 3), (16, .iconst 0, 1), (17, .ireturn, 1)]
set_option maxRecDepth 100000 in
theorem tk_Co_has : ∀ e ∈ t_Co_has, decode prog_3_method_7_code e.1 = .ok e.2 := by decide +kernel
def t_As_follow : List XI := [(0, .aload_n 0, 1), (1, .aload_n 1, 1), (2, .invokevirtual 64, 3), (5, .iconst 0, 1), (6, .istore 4, 2), (8, .iload 4, 2), (10, .iload_n 3, 1), (11, .if_icmp .ge 56, 3), (14, .iload 4, 2), (16, .aload_n 2, 1), (17, .getfield 65, 3), (20, .if_icmp .ge 47, 3), (23, .aload_n 0, 1), (24, .aload_n 2, 1), (25, .getfield 70, 3), (28, .iload 4, 2), (30, .iaload, 1), (31, .aload_n 2, 1), (32, .getfield 74, 3), (35, .iload 4, 2), (37, .iaload, 1), (38, .aload_n 2, 1), (39, .getfield 77, 3), (42, .iload 4, 2), (44, .iaload, 1), (45, .aload_n 2, 1), (46, .getfield 80, 3), (49, .iload 4, 2), (51, .iaload, 1), (52, .invokevirtual 83, 3), (55, .ifCond .ne 6, 3), (58, .iload 4, 2), (60, .ireturn, 1), (61, .iinc 4 1, 3), (64, .goto (-56), 3), (67, .iload_n 3, 1), (68, .aload_n 2, 1), (69, .getfield 65, 3), (72, .invokestatic 87, 3), (75, .ireturn, 1)]
set_option maxRecDepth 100000 in
theorem tk_As_follow : ∀ e ∈ t_As_follow, decode prog_2_method_5_code e.1 = .ok e.2 := by decide +kernel
def t_As_begin : List XI := [(0, .aload_n 0, 1), (1, .getfield 20, 3), (4, .aload_n 1, 1), (5, .invokevirtual 46, 3), (8, .aload_n 0, 1), (9, .aload_n 0, 1), (10, .getfield 20, 3), (13, .invokevirtual 50, 3), (16, .putfield 37, 3), (19, .aload_n 0, 1), (20, .aload_n 0, 1), (21, .getfield 20, 3), (24, .invokevirtual 53, 3), (27, .putfield 41, 3), (30, .iconst 0, 1), (31, .istore_n 2, 1), (32, .iload_n 2, 1), (33, .bipush 7, 2), (35, .if_icmp .ge 22, 3), (38, .aload_n 0, 1), (39, .getfield 26, 3), (42, .iload_n 2, 1), (43, .aaload, 1), (44, .aload_n 0, 1), (45, .getfield 20, 3), (48, .invokevirtual 55, 3), (51, .iinc 2 1, 3), (54, .goto (-22), 3), (57, .iconst 0, 1), (58, .istore_n 2, 1), (59, .iload_n 2, 1), (60, .bipush 9, 2), (62, .if_icmp .gt 18, 3), (65, .aload_n 0, 1), (66, .getfield 11, 3), (69, .iload_n 2, 1), (70, .aaload, 1), (71, .invokevirtual 58, 3), (74, .iinc 2 1, 3), (77, .goto (-18), 3), (80, .return_, 1)]
set_option maxRecDepth 100000 in
theorem tk_As_begin : ∀ e ∈ t_As_begin, decode prog_2_method_2_code e.1 = .ok e.2 := by decide +kernel
def t_Co_quorumSize : List XI := [(0, .iconst 2, 1), (1, .aload_n 0, 1), (2, .getfield 9, 3), (5, .imul, 1), (6, .iconst 1, 1), (7, .iadd, 1), (8, .ireturn, 1)]
set_option maxRecDepth 100000 in
theorem tk_Co_quorumSize : ∀ e ∈ t_Co_quorumSize, decode prog_3_method_6_code e.1 = .ok e.2 := by decide +kernel
def t_Me_begin : List XI := [(0, .aload_n 0, 1), (1, .iconst 0, 1), (2, .putfield 42, 3), (5, .aload_n 0, 1), (6, .iconst 1, 1), (7, .putfield 46, 3), (10, .aload_n 0, 1), (11, .iconst 0, 1), (12, .putfield 50, 3), (15, .aload_n 0, 1), (16, .iconst 0, 1), (17, .putfield 53, 3), (20, .aload_n 0, 1), (21, .iconst 0, 1), (22, .putfield 56, 3), (25, .aload_n 0, 1), (26, .iconst (-1), 1), (27, .putfield 59, 3), (30, .aload_n 0, 1), (31, .aload_n 1, 1), (32, .invokevirtual 62, 3), (35, .putfield 68, 3), (38, .aload_n 0, 1), (39, .aload_n 1, 1), (40, .getfield 70, 3), (43, .putfield 73, 3), (46, .aload_n 1, 1), (47, .getfield 74, 3), (50, .aload_n 0, 1), (51, .getfield 9, 3), (54, .invokestatic 75, 3), (57, .aload_n 0, 1), (58, .bipush 12, 2), (60, .invokevirtual 79, 3), (63, .aload_n 0, 1), (64, .getfield 27, 3), (67, .iconst (-1), 1), (68, .invokestatic 83, 3), (71, .aload_n 0, 1), (72, .getfield 30, 3), (75, .iconst (-1), 1), (76, .invokestatic 83, 3), (79, .aload_n 0, 1), (80, .getfield 33, 3), (83, .iconst (-1), 1), (84, .invokestatic 83, 3), (87, .aload_n 0, 1), (88, .getfield 36, 3), (91, .iconst (-1), 1), (92, .invokestatic 83, 3), (95, .aload_n 0, 1), (96, .getfield 39, 3), (99, .iconst (-1), 1), (100, .invokestatic 83, 3), (103, .return_, 1)]
set_option maxRecDepth 100000 in
theorem tk_Me_begin : ∀ e ∈ t_Me_begin, decode prog_4_method_2_code e.1 = .ok e.2 := by decide +kernel
def t_Me_forgetAccepted : List XI := [(0, .iconst 1, 1), (1, .istore_n 2, 1), (2, .iload_n 2, 1), (3, .iload_n 1, 1), (4, .if_icmp .gt 36, 3), (7, .iload_n 2, 1), (8, .bipush 12, 2), (10, .if_icmp .gt 30, 3), (13, .aload_n 0, 1), (14, .getfield 18, 3), (17, .iload_n 2, 1), (18, .iconst (-1), 1), (19, .iastore, 1), (20, .aload_n 0, 1), (21, .getfield 21, 3), (24, .iload_n 2, 1), (25, .iconst 0, 1), (26, .iastore, 1), (27, .aload_n 0, 1), (28, .getfield 24, 3), (31, .iload_n 2, 1), (32, .iconst 0, 1), (33, .iastore, 1), (34, .iinc 2 1, 3), (37, .goto (-35), 3), (40, .return_, 1)]
set_option maxRecDepth 100000 in
theorem tk_Me_forgetAccepted : ∀ e ∈ t_Me_forgetAccepted, decode prog_4_method_3_code e.1 = .ok e.2 := by decide +kernel
def t_Mg_clear : List XI := [(0, .aload_n 0, 1), (1, .iconst 0, 1), (2, .putfield 18, 3), (5, .aload_n 0, 1), (6, .iconst 0, 1), (7, .putfield 22, 3), (10, .aload_n 0, 1), (11, .iconst 0, 1), (12, .putfield 26, 3), (15, .aload_n 0, 1), (16, .getfield 9, 3), (19, .bipush 10, 2), (21, .invokestatic 29, 3), (24, .aload_n 0, 1), (25, .getfield 15, 3), (28, .iconst (-1), 1), (29, .invokestatic 29, 3), (32, .return_, 1)]
set_option maxRecDepth 100000 in
theorem tk_Mg_clear : ∀ e ∈ t_Mg_clear, decode prog_5_method_2_code e.1 = .ok e.2 := by decide +kernel
def t_As_act : List XI := [(0, .aload_n 0, 1), (1, .iload_n 2, 1), (2, .invokevirtual 104, 3), (5, .ifCond .ne 5, 3), (8, .iconst 0, 1), (9, .ireturn, 1), (10, .iload_n 1, 1), (11, .tableswitch 87 0 8 #[49, 87, 87, 58, 87, 87, 64, 75, 81], 49), (60, .aload_n 0, 1), (61, .iload_n 2, 1), (62, .iload_n 3, 1), (63, .iload 4, 2), (65, .invokevirtual 108, 3), (68, .ireturn, 1), (69, .aload_n 0, 1), (70, .iload_n 2, 1), (71, .invokevirtual 112, 3), (74, .ireturn, 1), (75, .aload_n 0, 1), (76, .aload_n 0, 1), (77, .getfield 26, 3), (80, .iload_n 2, 1), (81, .aaload, 1), (82, .invokevirtual 115, 3), (85, .ireturn, 1), (86, .aload_n 0, 1), (87, .iload_n 2, 1), (88, .invokevirtual 119, 3), (91, .ireturn, 1), (92, .aload_n 0, 1), (93, .iload_n 2, 1), (94, .invokevirtual 122, 3), (97, .ireturn, 1), (98, .iload_n 2, 1), (99, .iload_n 3, 1), (100, .if_icmp .eq 11, 3), (103, .aload_n 0, 1), (104, .iload_n 3, 1), (105, .invokevirtual 125, 3), (108, .ifCond .ne 5, 3), (111, .iconst 0, 1), (112, .ireturn, 1), (113, .iload_n 1, 1), (114, .tableswitch 66 1 5 #[34, 43, 66, 52, 59], 34), (148, .aload_n 0, 1), (149, .iload_n 2, 1), (150, .iload_n 3, 1), (151, .iload 4, 2), (153, .invokevirtual 128, 3), (156, .ireturn, 1), (157, .aload_n 0, 1), (158, .iload_n 2, 1), (159, .iload_n 3, 1), (160, .iload 4, 2), (162, .invokevirtual 131, 3), (165, .ireturn, 1), (166, .aload_n 0, 1), (167, .iload_n 2, 1), (168, .iload_n 3, 1), (169, .invokevirtual 134, 3), (172, .ireturn, 1), (173, .aload_n 0, 1), (174, .iload_n 2, 1), (175, .iload_n 3, 1), (176, .invokevirtual 138, 3), (179, .ireturn, 1), (180, .iconst 0, 1), (181, .ireturn, 1)]
set_option maxRecDepth 100000 in
theorem tk_As_act : ∀ e ∈ t_As_act, decode prog_2_method_9_code e.1 = .ok e.2 := by decide +kernel
def t_As_isSeat : List XI := [(0, .iload_n 1, 1), (1, .ifCond .lt 15, 3), (4, .iload_n 1, 1), (5, .aload_n 0, 1), (6, .getfield 37, 3), (9, .if_icmp .ge 7, 3), (12, .iconst 1, 1), (13, .goto 4, 3), (16, .iconst 0, 1), (17, .ireturn, 1)]
set_option maxRecDepth 100000 in
theorem tk_As_isSeat : ∀ e ∈ t_As_isSeat, decode prog_2_method_3_code e.1 = .ok e.2 := by decide +kernel
def t_As_propose : List XI := [(0, .aload_n 0, 1), (1, .getfield 26, 3), (4, .iload_n 1, 1), (5, .aaload, 1), (6, .astore 4, 2), (8, .aload_n 0, 1), (9, .iload_n 1, 1), (10, .invokevirtual 125, 3), (13, .ifCond .eq 26, 3), (16, .aload 4, 2), (18, .getfield 141, 3), (21, .ifCond .eq 18, 3), (24, .iload_n 3, 1), (25, .ifCond .lt 14, 3), (28, .iload_n 3, 1), (29, .aload_n 0, 1), (30, .getfield 20, 3), (33, .getfield 145, 3), (36, .if_icmp .lt 5, 3), (39, .iconst 0, 1), (40, .ireturn, 1), (41, .aload 4, 2), (43, .iload_n 2, 1), (44, .invokevirtual 148, 3), (47, .ifCond .eq 12, 3), (50, .aload 4, 2), (52, .iload_n 2, 1), (53, .invokevirtual 151, 3), (56, .ifCond .eq 5, 3), (59, .iconst 0, 1), (60, .ireturn, 1), (61, .aload_n 0, 1), (62, .aload 4, 2), (64, .getfield 154, 3), (67, .invokevirtual 157, 3), (70, .istore 5, 2), (72, .aload_n 0, 1), (73, .getfield 26, 3), (76, .iload 5, 2), (78, .aaload, 1), (79, .astore 6, 2), (81, .iload 5, 2), (83, .iload_n 1, 1), (84, .if_icmp .eq 46, 3), (87, .aload_n 0, 1), (88, .iload 5, 2), (90, .invokevirtual 125, 3), (93, .ifCond .eq 37, 3), (96, .aload 6, 2), (98, .getfield 141, 3), (101, .ifCond .eq 27, 3), (104, .aload 6, 2), (106, .getfield 154, 3), (109, .aload 4, 2), (111, .getfield 154, 3), (114, .if_icmp .ne 14, 3), (117, .aload 6, 2), (119, .getfield 160, 3), (122, .iload_n 2, 1), (123, .iaload, 1), (124, .iload_n 3, 1), (125, .if_icmp .eq 5, 3), (128, .iconst 0, 1), (129, .ireturn, 1), (130, .aload 4, 2), (132, .iload_n 2, 1), (133, .iload_n 3, 1), (134, .invokevirtual 163, 3), (137, .aload 4, 2), (139, .iload_n 2, 1), (140, .iconst 1, 1), (141, .iload_n 1, 1), (142, .ishl, 1), (143, .iconst 1, 1), (144, .iload 5, 2), (146, .ishl, 1), (147, .ior, 1), (148, .iload_n 1, 1), (149, .invokevirtual 167, 3), (152, .iconst 1, 1), (153, .ireturn, 1)]
set_option maxRecDepth 100000 in
theorem tk_As_propose : ∀ e ∈ t_As_propose, decode prog_2_method_11_code e.1 = .ok e.2 := by decide +kernel
def t_As_isHonest : List XI := [(0, .iload_n 1, 1), (1, .ifCond .lt 29, 3), (4, .iload_n 1, 1), (5, .aload_n 0, 1), (6, .getfield 37, 3), (9, .if_icmp .ge 21, 3), (12, .aload_n 0, 1), (13, .getfield 20, 3), (16, .getfield 61, 3), (19, .iload_n 1, 1), (20, .ishr, 1), (21, .iconst 1, 1), (22, .iand, 1), (23, .ifCond .ne 7, 3), (26, .iconst 1, 1), (27, .goto 4, 3), (30, .iconst 0, 1), (31, .ireturn, 1)]
set_option maxRecDepth 100000 in
theorem tk_As_isHonest : ∀ e ∈ t_As_isHonest, decode prog_2_method_4_code e.1 = .ok e.2 := by decide +kernel
def t_Me_isWithin : List XI := [(0, .iload_n 1, 1), (1, .invokestatic 89, 3), (4, .ifCond .eq 28, 3), (7, .iload_n 1, 1), (8, .aload_n 0, 1), (9, .getfield 50, 3), (12, .if_icmp .le 20, 3), (15, .iload_n 1, 1), (16, .aload_n 0, 1), (17, .getfield 50, 3), (20, .aload_n 0, 1), (21, .getfield 73, 3), (24, .iadd, 1), (25, .if_icmp .gt 7, 3), (28, .iconst 1, 1), (29, .goto 4, 3), (32, .iconst 0, 1), (33, .ireturn, 1)]
set_option maxRecDepth 100000 in
theorem tk_Me_isWithin : ∀ e ∈ t_Me_isWithin, decode prog_4_method_5_code e.1 = .ok e.2 := by decide +kernel
def t_Me_hasAccepted : List XI := [(0, .iload_n 1, 1), (1, .iconst 1, 1), (2, .if_icmp .lt 23, 3), (5, .iload_n 1, 1), (6, .bipush 12, 2), (8, .if_icmp .gt 17, 3), (11, .aload_n 0, 1), (12, .getfield 18, 3), (15, .iload_n 1, 1), (16, .iaload, 1), (17, .iconst (-1), 1), (18, .if_icmp .eq 7, 3), (21, .iconst 1, 1), (22, .goto 4, 3), (25, .iconst 0, 1), (26, .ireturn, 1)]
set_option maxRecDepth 100000 in
theorem tk_Me_hasAccepted : ∀ e ∈ t_Me_hasAccepted, decode prog_4_method_6_code e.1 = .ok e.2 := by decide +kernel
def t_As_primaryOf : List XI := [(0, .aload_n 0, 1), (1, .getfield 37, 3), (4, .ifCond .le 12, 3), (7, .iload_n 1, 1), (8, .aload_n 0, 1), (9, .getfield 37, 3), (12, .irem, 1), (13, .goto 4, 3), (16, .iconst 0, 1), (17, .ireturn, 1)]
set_option maxRecDepth 100000 in
theorem tk_As_primaryOf : ∀ e ∈ t_As_primaryOf, decode prog_2_method_10_code e.1 = .ok e.2 := by decide +kernel
def t_Me_accept : List XI := [(0, .iload_n 1, 1), (1, .invokestatic 89, 3), (4, .ifCond .eq 24, 3), (7, .aload_n 0, 1), (8, .getfield 18, 3), (11, .iload_n 1, 1), (12, .iload_n 2, 1), (13, .iastore, 1), (14, .aload_n 0, 1), (15, .getfield 21, 3), (18, .iload_n 1, 1), (19, .iconst 0, 1), (20, .iastore, 1), (21, .aload_n 0, 1), (22, .getfield 24, 3), (25, .iload_n 1, 1), (26, .iconst 0, 1), (27, .iastore, 1), (28, .return_, 1)]
set_option maxRecDepth 100000 in
theorem tk_Me_accept : ∀ e ∈ t_Me_accept, decode prog_4_method_7_code e.1 = .ok e.2 := by decide +kernel
def t_Me_addPrepares : List XI := [(0, .aload_n 0, 1), (1, .iload_n 1, 1), (2, .invokevirtual 93, 3), (5, .ifCond .ne 4, 3), (8, .return_, 1), (9, .aload_n 0, 1), (10, .getfield 21, 3), (13, .iload_n 1, 1), (14, .dup2, 1), (15, .iaload, 1), (16, .iload_n 2, 1), (17, .ior, 1), (18, .iastore, 1), (19, .aload_n 0, 1), (20, .getfield 21, 3), (23, .iload_n 1, 1), (24, .iaload, 1), (25, .invokestatic 96, 3), (28, .aload_n 0, 1), (29, .getfield 68, 3), (32, .if_icmp .lt 37, 3), (35, .aload_n 0, 1), (36, .getfield 27, 3), (39, .iload_n 1, 1), (40, .aload_n 0, 1), (41, .getfield 42, 3), (44, .iastore, 1), (45, .aload_n 0, 1), (46, .getfield 30, 3), (49, .iload_n 1, 1), (50, .aload_n 0, 1), (51, .getfield 18, 3), (54, .iload_n 1, 1), (55, .iaload, 1), (56, .iastore, 1), (57, .aload_n 0, 1), (58, .getfield 24, 3), (61, .iload_n 1, 1), (62, .dup2, 1), (63, .iaload, 1), (64, .iconst 1, 1), (65, .iload_n 3, 1), (66, .ishl, 1), (67, .ior, 1), (68, .iastore, 1), (69, .return_, 1)]
set_option maxRecDepth 100000 in
theorem tk_Me_addPrepares : ∀ e ∈ t_Me_addPrepares, decode prog_4_method_10_code e.1 = .ok e.2 := by decide +kernel
def t_As_runOn : List XI := [(0, .aload_n 0, 1), (1, .getfield 26, 3), (4, .iload_n 1, 1), (5, .aaload, 1), (6, .astore_n 2, 1), (7, .aload_n 0, 1), (8, .iload_n 1, 1), (9, .invokevirtual 125, 3), (12, .ifCond .eq 16, 3), (15, .aload_n 2, 1), (16, .aload_n 2, 1), (17, .getfield 187, 3), (20, .iconst 1, 1), (21, .iadd, 1), (22, .invokevirtual 190, 3), (25, .ifCond .ne 5, 3), (28, .iconst 0, 1), (29, .ireturn, 1), (30, .aload_n 2, 1), (31, .getfield 187, 3), (34, .iconst 1, 1), (35, .iadd, 1), (36, .istore_n 3, 1), (37, .iload_n 3, 1), (38, .bipush 12, 2), (40, .if_icmp .gt 82, 3), (43, .aload_n 2, 1), (44, .iload_n 3, 1), (45, .invokevirtual 190, 3), (48, .ifCond .eq 74, 3), (51, .aload_n 2, 1), (52, .getfield 160, 3), (55, .iload_n 3, 1), (56, .iaload, 1), (57, .istore 4, 2), (59, .aload_n 0, 1), (60, .getfield 20, 3), (63, .iload 4, 2), (65, .aload_n 2, 1), (66, .getfield 193, 3), (69, .invokevirtual 196, 3), (72, .aload_n 2, 1), (73, .getfield 200, 3), (76, .iload_n 3, 1), (77, .iload 4, 2), (79, .iastore, 1), (80, .aload_n 2, 1), (81, .iload_n 3, 1), (82, .putfield 187, 3), (85, .aload_n 0, 1), (86, .getfield 20, 3), (89, .getfield 203, 3), (92, .ifCond .le 24, 3), (95, .iload_n 3, 1), (96, .aload_n 0, 1), (97, .getfield 20, 3), (100, .getfield 203, 3), (103, .irem, 1), (104, .ifCond .ne 12, 3), (107, .aload_n 0, 1), (108, .iload_n 1, 1), (109, .invokevirtual 206, 3), (112, .aload_n 2, 1), (113, .invokevirtual 210, 3), (116, .iinc 3 1, 3), (119, .goto (-82), 3), (122, .iconst 1, 1), (123, .ireturn, 1)]
set_option maxRecDepth 100000 in
theorem tk_As_runOn : ∀ e ∈ t_As_runOn, decode prog_2_method_14_code e.1 = .ok e.2 := by decide +kernel
def t_Me_isCommitted : List XI := [(0, .aload_n 0, 1), (1, .iload_n 1, 1), (2, .invokevirtual 102, 3), (5, .ifCond .eq 23, 3), (8, .aload_n 0, 1), (9, .getfield 24, 3), (12, .iload_n 1, 1), (13, .iaload, 1), (14, .invokestatic 96, 3), (17, .aload_n 0, 1), (18, .getfield 68, 3), (21, .if_icmp .lt 7, 3), (24, .iconst 1, 1), (25, .goto 4, 3), (28, .iconst 0, 1), (29, .ireturn, 1)]
set_option maxRecDepth 100000 in
theorem tk_Me_isCommitted : ∀ e ∈ t_Me_isCommitted, decode prog_4_method_9_code e.1 = .ok e.2 := by decide +kernel
def t_Me_isPrepared : List XI := [(0, .aload_n 0, 1), (1, .iload_n 1, 1), (2, .invokevirtual 93, 3), (5, .ifCond .eq 23, 3), (8, .aload_n 0, 1), (9, .getfield 21, 3), (12, .iload_n 1, 1), (13, .iaload, 1), (14, .invokestatic 96, 3), (17, .aload_n 0, 1), (18, .getfield 68, 3), (21, .if_icmp .lt 7, 3), (24, .iconst 1, 1), (25, .goto 4, 3), (28, .iconst 0, 1), (29, .ireturn, 1)]
set_option maxRecDepth 100000 in
theorem tk_Me_isPrepared : ∀ e ∈ t_Me_isPrepared, decode prog_4_method_8_code e.1 = .ok e.2 := by decide +kernel
def t_Co_runOrder : List XI := [(0, .iload_n 1, 1), (1, .ifCond .lt 40, 3), (4, .iload_n 1, 1), (5, .aload_n 0, 1), (6, .getfield 39, 3), (9, .if_icmp .ge 32, 3), (12, .iload_n 1, 1), (13, .bipush 10, 2), (15, .if_icmp .ge 26, 3), (18, .aload_n 0, 1), (19, .getfield 25, 3), (22, .iload_n 1, 1), (23, .iaload, 1), (24, .istore_n 3, 1), (25, .aload_n 2, 1), (26, .iload_n 3, 1), (27, .aload_n 2, 1), (28, .iload_n 3, 1), (29, .iaload, 1), (30, .aload_n 0, 1), (31, .getfield 28, 3), (34, .iload_n 1, 1), (35, .iaload, 1), (36, .iadd, 1), (37, .bipush 100, 2), (39, .irem, 1), (40, .iastore, 1), (41, .return_, 1)]
set_option maxRecDepth 100000 in
theorem tk_Co_runOrder : ∀ e ∈ t_Co_runOrder, decode prog_3_method_13_code e.1 = .ok e.2 := by decide +kernel
def t_As_checkpoint : List XI := [(0, .aload_n 0, 1), (1, .getfield 26, 3), (4, .iload_n 1, 1), (5, .aaload, 1), (6, .astore_n 2, 1), (7, .aload_n 2, 1), (8, .aload_n 2, 1), (9, .getfield 187, 3), (12, .putfield 213, 3), (15, .aload_n 2, 1), (16, .getfield 193, 3), (19, .aload_n 2, 1), (20, .getfield 215, 3), (23, .invokestatic 218, 3), (26, .aload_n 2, 1), (27, .getfield 222, 3), (30, .iload_n 1, 1), (31, .aload_n 2, 1), (32, .getfield 213, 3), (35, .iastore, 1), (36, .aload_n 2, 1), (37, .getfield 225, 3), (40, .iload_n 1, 1), (41, .aload_n 0, 1), (42, .getfield 33, 3), (45, .aload_n 2, 1), (46, .getfield 215, 3), (49, .invokevirtual 228, 3), (52, .iastore, 1), (53, .return_, 1)]
set_option maxRecDepth 100000 in
theorem tk_As_checkpoint : ∀ e ∈ t_As_checkpoint, decode prog_2_method_15_code e.1 = .ok e.2 := by decide +kernel
def t_Me_countVotes : List XI := [(0, .iconst 0, 1), (1, .istore_n 1, 1), (2, .iload_n 1, 1), (3, .bipush 7, 2), (5, .if_icmp .ge 105, 3), (8, .iconst 0, 1), (9, .istore_n 2, 1), (10, .iconst 0, 1), (11, .istore_n 3, 1), (12, .iload_n 3, 1), (13, .bipush 7, 2), (15, .if_icmp .ge 42, 3), (18, .aload_n 0, 1), (19, .getfield 36, 3), (22, .iload_n 3, 1), (23, .iaload, 1), (24, .aload_n 0, 1), (25, .getfield 36, 3), (28, .iload_n 1, 1), (29, .iaload, 1), (30, .if_icmp .ne 21, 3), (33, .aload_n 0, 1), (34, .getfield 39, 3), (37, .iload_n 3, 1), (38, .iaload, 1), (39, .aload_n 0, 1), (40, .getfield 39, 3), (43, .iload_n 1, 1), (44, .iaload, 1), (45, .if_icmp .ne 6, 3), (48, .iinc 2 1, 3), (51, .iinc 3 1, 3), (54, .goto (-42), 3), (57, .aload_n 0, 1), (58, .getfield 36, 3), (61, .iload_n 1, 1), (62, .iaload, 1), (63, .aload_n 0, 1), (64, .getfield 50, 3), (67, .if_icmp .le 37, 3), (70, .iload_n 2, 1), (71, .aload_n 0, 1), (72, .getfield 68, 3), (75, .if_icmp .lt 29, 3), (78, .aload_n 0, 1), (79, .aload_n 0, 1), (80, .getfield 36, 3), (83, .iload_n 1, 1), (84, .iaload, 1), (85, .putfield 50, 3), (88, .aload_n 0, 1), (89, .aload_n 0, 1), (90, .getfield 50, 3), (93, .invokevirtual 79, 3), (96, .aload_n 0, 1), (97, .aload_n 0, 1), (98, .getfield 50, 3), (101, .invokevirtual 105, 3), (104, .iinc 1 1, 3), (107, .goto (-105), 3), (110, .return_, 1)]
set_option maxRecDepth 100000 in
theorem tk_Me_countVotes : ∀ e ∈ t_Me_countVotes, decode prog_4_method_12_code e.1 = .ok e.2 := by decide +kernel
def t_Me_forgetProofs : List XI := [(0, .iconst 1, 1), (1, .istore_n 2, 1), (2, .iload_n 2, 1), (3, .iload_n 1, 1), (4, .if_icmp .gt 29, 3), (7, .iload_n 2, 1), (8, .bipush 12, 2), (10, .if_icmp .gt 23, 3), (13, .aload_n 0, 1), (14, .getfield 27, 3), (17, .iload_n 2, 1), (18, .iconst (-1), 1), (19, .iastore, 1), (20, .aload_n 0, 1), (21, .getfield 30, 3), (24, .iload_n 2, 1), (25, .iconst (-1), 1), (26, .iastore, 1), (27, .iinc 2 1, 3), (30, .goto (-28), 3), (33, .return_, 1)]
set_option maxRecDepth 100000 in
theorem tk_Me_forgetProofs : ∀ e ∈ t_Me_forgetProofs, decode prog_4_method_4_code e.1 = .ok e.2 := by decide +kernel
def t_As_doubt : List XI := [(0, .aload_n 1, 1), (1, .getfield 154, 3), (4, .bipush 9, 2), (6, .if_icmp .lt 5, 3), (9, .iconst 0, 1), (10, .ireturn, 1), (11, .aload_n 1, 1), (12, .dup, 1), (13, .getfield 154, 3), (16, .iconst 1, 1), (17, .iadd, 1), (18, .putfield 154, 3), (21, .aload_n 1, 1), (22, .iconst 0, 1), (23, .putfield 141, 3), (26, .aload_n 1, 1), (27, .bipush 12, 2), (29, .invokevirtual 241, 3), (32, .iconst 1, 1), (33, .ireturn, 1)]
set_option maxRecDepth 100000 in
theorem tk_As_doubt : ∀ e ∈ t_As_doubt, decode prog_2_method_18_code e.1 = .ok e.2 := by decide +kernel
def t_As_makeView : List XI := [(0, .aload_n 0, 1), (1, .getfield 26, 3), (4, .iload_n 1, 1), (5, .aaload, 1), (6, .getfield 154, 3), (9, .istore_n 2, 1), (10, .aload_n 0, 1), (11, .getfield 26, 3), (14, .iload_n 1, 1), (15, .aaload, 1), (16, .getfield 141, 3), (19, .ifCond .ne 24, 3), (22, .aload_n 0, 1), (23, .iload_n 2, 1), (24, .invokevirtual 157, 3), (27, .iload_n 1, 1), (28, .if_icmp .ne 15, 3), (31, .aload_n 0, 1), (32, .getfield 11, 3), (35, .iload_n 2, 1), (36, .aaload, 1), (37, .getfield 244, 3), (40, .ifCond .eq 5, 3), (43, .iconst 0, 1), (44, .ireturn, 1), (45, .iconst 0, 1), (46, .istore_n 3, 1), (47, .iconst 0, 1), (48, .istore 4, 2), (50, .iload 4, 2), (52, .aload_n 0, 1), (53, .getfield 37, 3), (56, .if_icmp .ge 43, 3), (59, .aload_n 0, 1), (60, .getfield 26, 3), (63, .iload 4, 2), (65, .aaload, 1), (66, .getfield 141, 3), (69, .ifCond .ne 24, 3), (72, .aload_n 0, 1), (73, .getfield 26, 3), (76, .iload 4, 2), (78, .aaload, 1), (79, .getfield 154, 3), (82, .iload_n 2, 1), (83, .if_icmp .ne 10, 3), (86, .iload_n 3, 1), (87, .iconst 1, 1), (88, .iload 4, 2), (90, .ishl, 1), (91, .ior, 1), (92, .istore_n 3, 1), (93, .iinc 4 1, 3), (96, .goto (-46), 3), (99, .iload_n 3, 1), (100, .invokestatic 247, 3), (103, .aload_n 0, 1), (104, .getfield 41, 3), (107, .if_icmp .ge 5, 3), (110, .iconst 0, 1), (111, .ireturn, 1), (112, .aload_n 0, 1), (113, .iload_n 3, 1), (114, .aload_n 0, 1), (115, .getfield 11, 3), (118, .iload_n 2, 1), (119, .aaload, 1), (120, .invokevirtual 252, 3), (123, .aload_n 0, 1), (124, .getfield 11, 3), (127, .iload_n 2, 1), (128, .aaload, 1), (129, .iconst 1, 1), (130, .putfield 244, 3), (133, .iconst 0, 1), (134, .istore 4, 2), (136, .iload 4, 2), (138, .aload_n 0, 1), (139, .getfield 37, 3), (142, .if_icmp .ge 24, 3), (145, .iload_n 3, 1), (146, .iload 4, 2), (148, .invokestatic 174, 3), (151, .ifCond .eq 9, 3), (154, .aload_n 0, 1), (155, .iload 4, 2), (157, .invokevirtual 256, 3), (160, .iinc 4 1, 3), (163, .goto (-27), 3), (166, .iconst 1, 1), (167, .ireturn, 1)]
set_option maxRecDepth 100000 in
theorem tk_As_makeView : ∀ e ∈ t_As_makeView, decode prog_2_method_19_code e.1 = .ok e.2 := by decide +kernel
def t_As_merge : List XI := [(0, .aload_n 2, 1), (1, .invokevirtual 58, 3), (4, .iconst 0, 1), (5, .istore_n 3, 1), (6, .iload_n 3, 1), (7, .aload_n 0, 1), (8, .getfield 37, 3), (11, .if_icmp .ge 35, 3), (14, .iload_n 1, 1), (15, .iload_n 3, 1), (16, .invokestatic 174, 3), (19, .ifCond .eq 21, 3), (22, .aload_n 0, 1), (23, .iload_n 3, 1), (24, .invokevirtual 125, 3), (27, .ifCond .eq 13, 3), (30, .aload_n 2, 1), (31, .aload_n 0, 1), (32, .getfield 26, 3), (35, .iload_n 3, 1), (36, .aaload, 1), (37, .invokevirtual 270, 3), (40, .iinc 3 1, 3), (43, .goto (-37), 3), (46, .return_, 1)]
set_option maxRecDepth 100000 in
theorem tk_As_merge : ∀ e ∈ t_As_merge, decode prog_2_method_22_code e.1 = .ok e.2 := by decide +kernel
def t_Mg_add : List XI := [(0, .aload_n 0, 1), (1, .aload_n 0, 1), (2, .getfield 22, 3), (5, .aload_n 1, 1), (6, .getfield 35, 3), (9, .invokestatic 40, 3), (12, .putfield 22, 3), (15, .aload_n 0, 1), (16, .aload_n 0, 1), (17, .getfield 26, 3), (20, .aload_n 0, 1), (21, .getfield 22, 3), (24, .invokestatic 40, 3), (27, .putfield 26, 3), (30, .iconst 1, 1), (31, .istore_n 2, 1), (32, .iload_n 2, 1), (33, .bipush 12, 2), (35, .if_icmp .gt 90, 3), (38, .aload_n 1, 1), (39, .getfield 46, 3), (42, .iload_n 2, 1), (43, .iaload, 1), (44, .istore_n 3, 1), (45, .aload_n 1, 1), (46, .getfield 47, 3), (49, .iload_n 2, 1), (50, .iaload, 1), (51, .istore 4, 2), (53, .iload_n 3, 1), (54, .iconst (-1), 1), (55, .if_icmp .ne 6, 3), (58, .goto 61, 3), (61, .aload_n 0, 1), (62, .aload_n 0, 1), (63, .getfield 26, 3), (66, .iload_n 2, 1), (67, .invokestatic 40, 3), (70, .putfield 26, 3), (73, .iload_n 3, 1), (74, .aload_n 0, 1), (75, .getfield 15, 3), (78, .iload_n 2, 1), (79, .iaload, 1), (80, .if_icmp .gt 24, 3), (83, .iload_n 3, 1), (84, .aload_n 0, 1), (85, .getfield 15, 3), (88, .iload_n 2, 1), (89, .iaload, 1), (90, .if_icmp .ne 29, 3), (93, .iload 4, 2), (95, .aload_n 0, 1), (96, .getfield 9, 3), (99, .iload_n 2, 1), (100, .iaload, 1), (101, .if_icmp .ge 18, 3), (104, .aload_n 0, 1), (105, .getfield 15, 3), (108, .iload_n 2, 1), (109, .iload_n 3, 1), (110, .iastore, 1), (111, .aload_n 0, 1), (112, .getfield 9, 3), (115, .iload_n 2, 1), (116, .iload 4, 2), (118, .iastore, 1), (119, .iinc 2 1, 3), (122, .goto (-90), 3), (125, .return_, 1)]
set_option maxRecDepth 100000 in
theorem tk_Mg_add : ∀ e ∈ t_Mg_add, decode prog_5_method_3_code e.1 = .ok e.2 := by decide +kernel
def t_As_enter : List XI := [(0, .aload_n 0, 1), (1, .getfield 26, 3), (4, .iload_n 1, 1), (5, .aaload, 1), (6, .astore_n 2, 1), (7, .aload_n 0, 1), (8, .getfield 11, 3), (11, .aload_n 2, 1), (12, .getfield 154, 3), (15, .aaload, 1), (16, .astore_n 3, 1), (17, .aload_n 2, 1), (18, .iconst 1, 1), (19, .putfield 141, 3), (22, .aload_n 2, 1), (23, .getfield 232, 3), (26, .aload_n 3, 1), (27, .getfield 259, 3), (30, .if_icmp .ge 19, 3), (33, .aload_n 2, 1), (34, .aload_n 3, 1), (35, .getfield 259, 3), (38, .putfield 232, 3), (41, .aload_n 2, 1), (42, .aload_n 2, 1), (43, .getfield 232, 3), (46, .invokevirtual 262, 3), (49, .aload_n 0, 1), (50, .iload_n 1, 1), (51, .invokevirtual 125, 3), (54, .ifCond .ne 4, 3), (57, .return_, 1), (58, .iconst 1, 1), (59, .iload_n 1, 1), (60, .ishl, 1), (61, .iconst 1, 1), (62, .aload_n 0, 1), (63, .aload_n 2, 1), (64, .getfield 154, 3), (67, .invokevirtual 157, 3), (70, .ishl, 1), (71, .ior, 1), (72, .istore 4, 2), (74, .aload_n 3, 1), (75, .getfield 259, 3), (78, .iconst 1, 1), (79, .iadd, 1), (80, .istore 5, 2), (82, .iload 5, 2), (84, .aload_n 3, 1), (85, .getfield 265, 3), (88, .if_icmp .gt 47, 3), (91, .iload 5, 2), (93, .bipush 12, 2), (95, .if_icmp .gt 40, 3), (98, .aload_n 2, 1), (99, .iload 5, 2), (101, .invokevirtual 148, 3), (104, .ifCond .eq 25, 3), (107, .aload_n 2, 1), (108, .iload 5, 2), (110, .aload_n 3, 1), (111, .getfield 268, 3), (114, .iload 5, 2), (116, .iaload, 1), (117, .invokevirtual 163, 3), (120, .aload_n 2, 1), (121, .iload 5, 2), (123, .iload 4, 2), (125, .iload_n 1, 1), (126, .invokevirtual 167, 3), (129, .iinc 5 1, 3), (132, .goto (-50), 3), (135, .return_, 1)]
set_option maxRecDepth 100000 in
theorem tk_As_enter : ∀ e ∈ t_As_enter, decode prog_2_method_21_code e.1 = .ok e.2 := by decide +kernel
def t_As_enterMade : List XI := [(0, .aload_n 0, 1), (1, .getfield 26, 3), (4, .iload_n 1, 1), (5, .aaload, 1), (6, .getfield 141, 3), (9, .ifCond .ne 23, 3), (12, .aload_n 0, 1), (13, .getfield 11, 3), (16, .aload_n 0, 1), (17, .getfield 26, 3), (20, .iload_n 1, 1), (21, .aaload, 1), (22, .getfield 154, 3), (25, .aaload, 1), (26, .getfield 244, 3), (29, .ifCond .ne 5, 3), (32, .iconst 0, 1), (33, .ireturn, 1), (34, .aload_n 0, 1), (35, .iload_n 1, 1), (36, .invokevirtual 256, 3), (39, .iconst 1, 1), (40, .ireturn, 1)]
set_option maxRecDepth 100000 in
theorem tk_As_enterMade : ∀ e ∈ t_As_enterMade, decode prog_2_method_20_code e.1 = .ok e.2 := by decide +kernel
def t_As_prepare : List XI := [(0, .aload_n 0, 1), (1, .getfield 26, 3), (4, .iload_n 2, 1), (5, .aaload, 1), (6, .astore 4, 2), (8, .aload 4, 2), (10, .getfield 141, 3), (13, .ifCond .eq 26, 3), (16, .aload 4, 2), (18, .iload_n 3, 1), (19, .invokevirtual 151, 3), (22, .ifCond .eq 17, 3), (25, .aload 4, 2), (27, .getfield 171, 3), (30, .iload_n 3, 1), (31, .iaload, 1), (32, .iload_n 1, 1), (33, .invokestatic 174, 3), (36, .ifCond .eq 5, 3), (39, .iconst 0, 1), (40, .ireturn, 1), (41, .aload_n 0, 1), (42, .iload_n 1, 1), (43, .invokevirtual 125, 3), (46, .ifCond .eq 20, 3), (49, .aload_n 0, 1), (50, .getfield 26, 3), (53, .iload_n 1, 1), (54, .aaload, 1), (55, .aload 4, 2), (57, .iload_n 3, 1), (58, .invokevirtual 177, 3), (61, .ifCond .ne 5, 3), (64, .iconst 0, 1), (65, .ireturn, 1), (66, .aload 4, 2), (68, .iload_n 3, 1), (69, .iconst 1, 1), (70, .iload_n 1, 1), (71, .ishl, 1), (72, .iload_n 2, 1), (73, .invokevirtual 167, 3), (76, .iconst 1, 1), (77, .ireturn, 1)]
set_option maxRecDepth 100000 in
theorem tk_As_prepare : ∀ e ∈ t_As_prepare, decode prog_2_method_12_code e.1 = .ok e.2 := by decide +kernel
def t_Me_sharesAt : List XI := [(0, .aload_n 0, 1), (1, .getfield 46, 3), (4, .ifCond .eq 41, 3), (7, .aload_n 0, 1), (8, .getfield 42, 3), (11, .aload_n 1, 1), (12, .getfield 42, 3), (15, .if_icmp .ne 30, 3), (18, .aload_n 0, 1), (19, .iload_n 2, 1), (20, .invokevirtual 93, 3), (23, .ifCond .eq 22, 3), (26, .aload_n 0, 1), (27, .getfield 18, 3), (30, .iload_n 2, 1), (31, .iaload, 1), (32, .aload_n 1, 1), (33, .getfield 18, 3), (36, .iload_n 2, 1), (37, .iaload, 1), (38, .if_icmp .ne 7, 3), (41, .iconst 1, 1), (42, .goto 4, 3), (45, .iconst 0, 1), (46, .ireturn, 1)]
set_option maxRecDepth 100000 in
theorem tk_Me_sharesAt : ∀ e ∈ t_Me_sharesAt, decode prog_4_method_11_code e.1 = .ok e.2 := by decide +kernel
def t_As_commit : List XI := [(0, .aload_n 0, 1), (1, .getfield 26, 3), (4, .iload_n 2, 1), (5, .aaload, 1), (6, .astore 4, 2), (8, .aload 4, 2), (10, .getfield 141, 3), (13, .ifCond .eq 26, 3), (16, .aload 4, 2), (18, .iload_n 3, 1), (19, .invokevirtual 151, 3), (22, .ifCond .eq 17, 3), (25, .aload 4, 2), (27, .getfield 181, 3), (30, .iload_n 3, 1), (31, .iaload, 1), (32, .iload_n 1, 1), (33, .invokestatic 174, 3), (36, .ifCond .eq 5, 3), (39, .iconst 0, 1), (40, .ireturn, 1), (41, .aload_n 0, 1), (42, .getfield 26, 3), (45, .iload_n 1, 1), (46, .aaload, 1), (47, .astore 5, 2), (49, .aload_n 0, 1), (50, .iload_n 1, 1), (51, .invokevirtual 125, 3), (54, .ifCond .eq 25, 3), (57, .aload 5, 2), (59, .aload 4, 2), (61, .iload_n 3, 1), (62, .invokevirtual 177, 3), (65, .ifCond .eq 12, 3), (68, .aload 5, 2), (70, .iload_n 3, 1), (71, .invokevirtual 184, 3), (74, .ifCond .ne 5, 3), (77, .iconst 0, 1), (78, .ireturn, 1), (79, .aload 4, 2), (81, .getfield 181, 3), (84, .iload_n 3, 1), (85, .dup2, 1), (86, .iaload, 1), (87, .iconst 1, 1), (88, .iload_n 1, 1), (89, .ishl, 1), (90, .ior, 1), (91, .iastore, 1), (92, .iconst 1, 1), (93, .ireturn, 1)]
set_option maxRecDepth 100000 in
theorem tk_As_commit : ∀ e ∈ t_As_commit, decode prog_2_method_13_code e.1 = .ok e.2 := by decide +kernel
def t_As_mark : List XI := [(0, .aload_n 0, 1), (1, .getfield 26, 3), (4, .iload_n 2, 1), (5, .aaload, 1), (6, .astore_n 3, 1), (7, .aload_n 0, 1), (8, .iload_n 1, 1), (9, .invokevirtual 125, 3), (12, .ifCond .eq 12, 3), (15, .aload_n 0, 1), (16, .getfield 26, 3), (19, .iload_n 1, 1), (20, .aaload, 1), (21, .goto 4, 3), (24, .aload_n 3, 1), (25, .astore 4, 2), (27, .aload 4, 2), (29, .getfield 213, 3), (32, .aload_n 3, 1), (33, .getfield 232, 3), (36, .if_icmp .gt 5, 3), (39, .iconst 0, 1), (40, .ireturn, 1), (41, .aload_n 0, 1), (42, .getfield 33, 3), (45, .aload 4, 2), (47, .getfield 215, 3), (50, .invokevirtual 228, 3), (53, .istore 5, 2), (55, .aload_n 3, 1), (56, .getfield 222, 3), (59, .iload_n 1, 1), (60, .iaload, 1), (61, .aload 4, 2), (63, .getfield 213, 3), (66, .if_icmp .ne 16, 3), (69, .aload_n 3, 1), (70, .getfield 225, 3), (73, .iload_n 1, 1), (74, .iaload, 1), (75, .iload 5, 2), (77, .if_icmp .ne 5, 3), (80, .iconst 0, 1), (81, .ireturn, 1), (82, .aload_n 3, 1), (83, .getfield 222, 3), (86, .iload_n 1, 1), (87, .aload 4, 2), (89, .getfield 213, 3), (92, .iastore, 1), (93, .aload_n 3, 1), (94, .getfield 225, 3), (97, .iload_n 1, 1), (98, .iload 5, 2), (100, .iastore, 1), (101, .aload_n 3, 1), (102, .invokevirtual 210, 3), (105, .iconst 1, 1), (106, .ireturn, 1)]
set_option maxRecDepth 100000 in
theorem tk_As_mark : ∀ e ∈ t_As_mark, decode prog_2_method_16_code e.1 = .ok e.2 := by decide +kernel
def t_As_fetch : List XI := [(0, .aload_n 0, 1), (1, .getfield 26, 3), (4, .iload_n 1, 1), (5, .aaload, 1), (6, .astore_n 3, 1), (7, .aload_n 0, 1), (8, .getfield 26, 3), (11, .iload_n 2, 1), (12, .aaload, 1), (13, .astore 4, 2), (15, .aload_n 0, 1), (16, .iload_n 1, 1), (17, .invokevirtual 125, 3), (20, .ifCond .eq 26, 3), (23, .aload_n 3, 1), (24, .getfield 187, 3), (27, .aload_n 3, 1), (28, .getfield 232, 3), (31, .if_icmp .ge 15, 3), (34, .aload 4, 2), (36, .getfield 213, 3), (39, .aload_n 3, 1), (40, .getfield 232, 3), (43, .if_icmp .eq 5, 3), (46, .iconst 0, 1), (47, .ireturn, 1), (48, .aload_n 0, 1), (49, .getfield 33, 3), (52, .aload_n 3, 1), (53, .getfield 193, 3), (56, .aload 4, 2), (58, .getfield 215, 3), (61, .invokevirtual 235, 3), (64, .aload_n 3, 1), (65, .dup, 1), (66, .getfield 237, 3), (69, .aload_n 0, 1), (70, .getfield 33, 3), (73, .getfield 240, 3), (76, .iadd, 1), (77, .putfield 237, 3), (80, .aload_n 3, 1), (81, .aload_n 3, 1), (82, .getfield 232, 3), (85, .putfield 187, 3), (88, .aload_n 0, 1), (89, .iload_n 1, 1), (90, .invokevirtual 206, 3), (93, .iconst 1, 1), (94, .ireturn, 1)]
set_option maxRecDepth 100000 in
theorem tk_As_fetch : ∀ e ∈ t_As_fetch, decode prog_2_method_17_code e.1 = .ok e.2 := by decide +kernel
def t_As_tell : List XI := [(0, .aload_n 0, 1), (1, .iload_n 1, 1), (2, .invokevirtual 104, 3), (5, .ifCond .ne 6, 3), (8, .bipush (-2), 2), (10, .ireturn, 1), (11, .iload_n 2, 1), (12, .iconst 4, 1), (13, .if_icmp .ne 22, 3), (16, .aload_n 0, 1), (17, .getfield 33, 3), (20, .aload_n 0, 1), (21, .getfield 26, 3), (24, .iload_n 1, 1), (25, .aaload, 1), (26, .getfield 193, 3), (29, .invokevirtual 228, 3), (32, .goto 13, 3), (35, .aload_n 0, 1), (36, .getfield 26, 3), (39, .iload_n 1, 1), (40, .aaload, 1), (41, .iload_n 2, 1), (42, .invokevirtual 274, 3), (45, .ireturn, 1)]
set_option maxRecDepth 100000 in
theorem tk_As_tell : ∀ e ∈ t_As_tell, decode prog_2_method_23_code e.1 = .ok e.2 := by decide +kernel
def t_Me_tell : List XI := [(0, .iload_n 1, 1), (1, .tableswitch 81 0 6 #[43, 48, 61, 66, 81, 71, 76], 43), (44, .aload_n 0, 1), (45, .getfield 42, 3), (48, .ireturn, 1), (49, .aload_n 0, 1), (50, .getfield 46, 3), (53, .ifCond .eq 7, 3), (56, .iconst 1, 1), (57, .goto 4, 3), (60, .iconst 0, 1), (61, .ireturn, 1), (62, .aload_n 0, 1), (63, .getfield 50, 3), (66, .ireturn, 1), (67, .aload_n 0, 1), (68, .getfield 53, 3), (71, .ireturn, 1), (72, .aload_n 0, 1), (73, .getfield 56, 3), (76, .ireturn, 1), (77, .aload_n 0, 1), (78, .getfield 59, 3), (81, .ireturn, 1), (82, .iload_n 1, 1), (83, .bipush 10, 2), (85, .if_icmp .lt 19, 3), (88, .iload_n 1, 1), (89, .bipush 18, 2), (91, .if_icmp .ge 13, 3), (94, .aload_n 0, 1), (95, .getfield 9, 3), (98, .iload_n 1, 1), (99, .bipush 10, 2), (101, .isub, 1), (102, .iaload, 1), (103, .ireturn, 1), (104, .iload_n 1, 1), (105, .bipush 100, 2), (107, .idiv, 1), (108, .istore_n 2, 1), (109, .iload_n 1, 1), (110, .bipush 100, 2), (112, .if_icmp .lt 22, 3), (115, .iload_n 2, 1), (116, .invokestatic 89, 3), (119, .ifCond .eq 15, 3), (122, .aload_n 0, 1), (123, .iload_n 2, 1), (124, .iload_n 1, 1), (125, .bipush 100, 2), (127, .irem, 1), (128, .invokevirtual 108, 3), (131, .goto 5, 3), (134, .bipush (-2), 2), (136, .ireturn, 1)]
set_option maxRecDepth 100000 in
theorem tk_Me_tell : ∀ e ∈ t_Me_tell, decode prog_4_method_13_code e.1 = .ok e.2 := by decide +kernel
def t_Me_tellPlace : List XI := [(0, .iload_n 2, 1), (1, .tableswitch 117 0 7 #[47, 54, 61, 68, 82, 96, 103, 110], 47), (48, .aload_n 0, 1), (49, .getfield 18, 3), (52, .iload_n 1, 1), (53, .iaload, 1), (54, .ireturn, 1), (55, .aload_n 0, 1), (56, .getfield 21, 3), (59, .iload_n 1, 1), (60, .iaload, 1), (61, .ireturn, 1), (62, .aload_n 0, 1), (63, .getfield 24, 3), (66, .iload_n 1, 1), (67, .iaload, 1), (68, .ireturn, 1), (69, .aload_n 0, 1), (70, .iload_n 1, 1), (71, .invokevirtual 102, 3), (74, .ifCond .eq 7, 3), (77, .iconst 1, 1), (78, .goto 4, 3), (81, .iconst 0, 1), (82, .ireturn, 1), (83, .aload_n 0, 1), (84, .iload_n 1, 1), (85, .invokevirtual 112, 3), (88, .ifCond .eq 7, 3), (91, .iconst 1, 1), (92, .goto 4, 3), (95, .iconst 0, 1), (96, .ireturn, 1), (97, .aload_n 0, 1), (98, .getfield 27, 3), (101, .iload_n 1, 1), (102, .iaload, 1), (103, .ireturn, 1), (104, .aload_n 0, 1), (105, .getfield 30, 3), (108, .iload_n 1, 1), (109, .iaload, 1), (110, .ireturn, 1), (111, .aload_n 0, 1), (112, .getfield 33, 3), (115, .iload_n 1, 1), (116, .iaload, 1), (117, .ireturn, 1), (118, .bipush (-2), 2), (120, .ireturn, 1)]
set_option maxRecDepth 100000 in
theorem tk_Me_tellPlace : ∀ e ∈ t_Me_tellPlace, decode prog_4_method_14_code e.1 = .ok e.2 := by decide +kernel
def t_Mg_isPlaceOf : List XI := [(0, .iload_n 0, 1), (1, .bipush 10, 2), (3, .if_icmp .le 13, 3), (6, .iload_n 0, 1), (7, .bipush 22, 2), (9, .if_icmp .gt 7, 3), (12, .iconst 1, 1), (13, .goto 4, 3), (16, .iconst 0, 1), (17, .ireturn, 1)]
set_option maxRecDepth 100000 in
theorem tk_Mg_isPlaceOf : ∀ e ∈ t_Mg_isPlaceOf, decode prog_5_method_5_code e.1 = .ok e.2 := by decide +kernel
def t_Mg_tell : List XI := [(0, .iload_n 1, 1), (1, .ifCond .ne 8, 3), (4, .aload_n 0, 1), (5, .getfield 22, 3), (8, .ireturn, 1), (9, .iload_n 1, 1), (10, .iconst 1, 1), (11, .if_icmp .ne 8, 3), (14, .aload_n 0, 1), (15, .getfield 26, 3), (18, .ireturn, 1), (19, .iload_n 1, 1), (20, .invokestatic 54, 3), (23, .ifCond .eq 14, 3), (26, .aload_n 0, 1), (27, .iload_n 1, 1), (28, .bipush 10, 2), (30, .isub, 1), (31, .invokevirtual 57, 3), (34, .goto 5, 3), (37, .bipush (-2), 2), (39, .ireturn, 1)]
set_option maxRecDepth 100000 in
theorem tk_Mg_tell : ∀ e ∈ t_Mg_tell, decode prog_5_method_6_code e.1 = .ok e.2 := by decide +kernel
def t_Mg_orderAt : List XI := [(0, .iload_n 1, 1), (1, .invokestatic 50, 3), (4, .ifCond .eq 28, 3), (7, .iload_n 1, 1), (8, .aload_n 0, 1), (9, .getfield 22, 3), (12, .if_icmp .le 20, 3), (15, .iload_n 1, 1), (16, .aload_n 0, 1), (17, .getfield 26, 3), (20, .if_icmp .gt 12, 3), (23, .aload_n 0, 1), (24, .getfield 9, 3), (27, .iload_n 1, 1), (28, .iaload, 1), (29, .goto 4, 3), (32, .iconst (-1), 1), (33, .ireturn, 1)]
set_option maxRecDepth 100000 in
theorem tk_Mg_orderAt : ∀ e ∈ t_Mg_orderAt, decode prog_5_method_4_code e.1 = .ok e.2 := by decide +kernel
def t_As_unlikePlaces : List XI := [(0, .iconst 0, 1), (1, .istore_n 1, 1), (2, .iconst 1, 1), (3, .istore_n 2, 1), (4, .iload_n 2, 1), (5, .bipush 12, 2), (7, .if_icmp .gt 51, 3), (10, .iconst 0, 1), (11, .istore_n 3, 1), (12, .iconst 0, 1), (13, .istore 4, 2), (15, .iload 4, 2), (17, .bipush 10, 2), (19, .if_icmp .gt 22, 3), (22, .aload_n 0, 1), (23, .iload_n 2, 1), (24, .iload 4, 2), (26, .invokevirtual 277, 3), (29, .ifCond .le 6, 3), (32, .iinc 3 1, 3), (35, .iinc 4 1, 3), (38, .goto (-23), 3), (41, .iload_n 3, 1), (42, .iconst 1, 1), (43, .if_icmp .le 9, 3), (46, .iload_n 1, 1), (47, .iconst 1, 1), (48, .iload_n 2, 1), (49, .ishl, 1), (50, .ior, 1), (51, .istore_n 1, 1), (52, .iinc 2 1, 3), (55, .goto (-51), 3), (58, .iload_n 1, 1), (59, .ireturn, 1)]
set_option maxRecDepth 100000 in
theorem tk_As_unlikePlaces : ∀ e ∈ t_As_unlikePlaces, decode prog_2_method_25_code e.1 = .ok e.2 := by decide +kernel
def t_As_runners : List XI := [(0, .iconst 0, 1), (1, .istore_n 3, 1), (2, .iconst 0, 1), (3, .istore 4, 2), (5, .iload 4, 2), (7, .aload_n 0, 1), (8, .getfield 37, 3), (11, .if_icmp .ge 37, 3), (14, .aload_n 0, 1), (15, .iload 4, 2), (17, .invokevirtual 125, 3), (20, .ifCond .eq 22, 3), (23, .aload_n 0, 1), (24, .getfield 26, 3), (27, .iload 4, 2), (29, .aaload, 1), (30, .getfield 200, 3), (33, .iload_n 1, 1), (34, .iaload, 1), (35, .iload_n 2, 1), (36, .if_icmp .ne 6, 3), (39, .iinc 3 1, 3), (42, .iinc 4 1, 3), (45, .goto (-40), 3), (48, .iload_n 3, 1), (49, .ireturn, 1)]
set_option maxRecDepth 100000 in
theorem tk_As_runners : ∀ e ∈ t_As_runners, decode prog_2_method_24_code e.1 = .ok e.2 := by decide +kernel
def t_As_alikePlaces : List XI := [(0, .iconst 0, 1), (1, .istore_n 1, 1), (2, .iconst 1, 1), (3, .istore_n 2, 1), (4, .iload_n 2, 1), (5, .bipush 12, 2), (7, .if_icmp .gt 45, 3), (10, .iconst 0, 1), (11, .istore_n 3, 1), (12, .iload_n 3, 1), (13, .bipush 10, 2), (15, .if_icmp .gt 31, 3), (18, .aload_n 0, 1), (19, .iload_n 2, 1), (20, .iload_n 3, 1), (21, .invokevirtual 277, 3), (24, .aload_n 0, 1), (25, .getfield 20, 3), (28, .getfield 280, 3), (31, .if_icmp .le 9, 3), (34, .iload_n 1, 1), (35, .iconst 1, 1), (36, .iload_n 2, 1), (37, .ishl, 1), (38, .ior, 1), (39, .istore_n 1, 1), (40, .iinc 3 1, 3), (43, .goto (-31), 3), (46, .iinc 2 1, 3), (49, .goto (-45), 3), (52, .iload_n 1, 1), (53, .ireturn, 1)]
set_option maxRecDepth 100000 in
theorem tk_As_alikePlaces : ∀ e ∈ t_As_alikePlaces, decode prog_2_method_26_code e.1 = .ok e.2 := by decide +kernel
def t_As_greatestRan : List XI := [(0, .iconst 0, 1), (1, .istore_n 1, 1), (2, .iconst 0, 1), (3, .istore_n 2, 1), (4, .iload_n 2, 1), (5, .aload_n 0, 1), (6, .getfield 37, 3), (9, .if_icmp .ge 31, 3), (12, .aload_n 0, 1), (13, .iload_n 2, 1), (14, .invokevirtual 125, 3), (17, .ifCond .eq 17, 3), (20, .iload_n 1, 1), (21, .aload_n 0, 1), (22, .getfield 26, 3), (25, .iload_n 2, 1), (26, .aaload, 1), (27, .getfield 187, 3), (30, .invokestatic 283, 3), (33, .istore_n 1, 1), (34, .iinc 2 1, 3), (37, .goto (-33), 3), (40, .iload_n 1, 1), (41, .ireturn, 1)]
set_option maxRecDepth 100000 in
theorem tk_As_greatestRan : ∀ e ∈ t_As_greatestRan, decode prog_2_method_27_code e.1 = .ok e.2 := by decide +kernel
def t_As_leastRan : List XI := [(0, .bipush 13, 2), (2, .istore_n 1, 1), (3, .iconst 0, 1), (4, .istore_n 2, 1), (5, .iload_n 2, 1), (6, .aload_n 0, 1), (7, .getfield 37, 3), (10, .if_icmp .ge 31, 3), (13, .aload_n 0, 1), (14, .iload_n 2, 1), (15, .invokevirtual 125, 3), (18, .ifCond .eq 17, 3), (21, .iload_n 1, 1), (22, .aload_n 0, 1), (23, .getfield 26, 3), (26, .iload_n 2, 1), (27, .aaload, 1), (28, .getfield 187, 3), (31, .invokestatic 87, 3), (34, .istore_n 1, 1), (35, .iinc 2 1, 3), (38, .goto (-33), 3), (41, .iload_n 1, 1), (42, .bipush 12, 2), (44, .if_icmp .le 7, 3), (47, .iconst 0, 1), (48, .goto 4, 3), (51, .iload_n 1, 1), (52, .ireturn, 1)]
set_option maxRecDepth 100000 in
theorem tk_As_leastRan : ∀ e ∈ t_As_leastRan, decode prog_2_method_28_code e.1 = .ok e.2 := by decide +kernel
def t_Co_quorums : List XI := [(0, .iconst 0, 1), (1, .istore_n 1, 1), (2, .iconst 0, 1), (3, .istore_n 2, 1), (4, .iload_n 2, 1), (5, .iconst 1, 1), (6, .aload_n 0, 1), (7, .invokevirtual 58, 3), (10, .ishl, 1), (11, .if_icmp .ge 20, 3), (14, .aload_n 0, 1), (15, .iload_n 2, 1), (16, .invokevirtual 79, 3), (19, .ifCond .eq 6, 3), (22, .iinc 1 1, 3), (25, .iinc 2 1, 3), (28, .goto (-24), 3), (31, .iload_n 1, 1), (32, .ireturn, 1)]
set_option maxRecDepth 100000 in
theorem tk_Co_quorums : ∀ e ∈ t_Co_quorums, decode prog_3_method_11_code e.1 = .ok e.2 := by decide +kernel
def t_Co_isQuorumSet : List XI := [(0, .iload_n 1, 1), (1, .invokestatic 70, 3), (4, .aload_n 0, 1), (5, .invokevirtual 76, 3), (8, .if_icmp .ne 7, 3), (11, .iconst 1, 1), (12, .goto 4, 3), (15, .iconst 0, 1), (16, .ireturn, 1)]
set_option maxRecDepth 100000 in
theorem tk_Co_isQuorumSet : ∀ e ∈ t_Co_isQuorumSet, decode prog_3_method_9_code e.1 = .ok e.2 := by decide +kernel
def t_Co_clashes : List XI := [(0, .iconst 0, 1), (1, .istore_n 1, 1), (2, .iconst 0, 1), (3, .istore_n 2, 1), (4, .iload_n 2, 1), (5, .iconst 1, 1), (6, .aload_n 0, 1), (7, .invokevirtual 58, 3), (10, .ishl, 1), (11, .if_icmp .ge 54, 3), (14, .iconst 0, 1), (15, .istore_n 3, 1), (16, .iload_n 3, 1), (17, .iload_n 2, 1), (18, .if_icmp .ge 41, 3), (21, .aload_n 0, 1), (22, .iload_n 2, 1), (23, .invokevirtual 79, 3), (26, .ifCond .eq 33, 3), (29, .aload_n 0, 1), (30, .iload_n 3, 1), (31, .invokevirtual 79, 3), (34, .ifCond .eq 19, 3), (37, .iload_n 2, 1), (38, .iload_n 3, 1), (39, .iand, 1), (40, .aload_n 0, 1), (41, .getfield 36, 3), (44, .iconst (-1), 1), (45, .ixor, 1), (46, .iand, 1), (47, .ifCond .ne 6, 3), (50, .iinc 1 1, 3), (53, .iinc 3 1, 3), (56, .goto (-40), 3), (59, .iinc 2 1, 3), (62, .goto (-58), 3), (65, .iload_n 1, 1), (66, .ireturn, 1)]
set_option maxRecDepth 100000 in
theorem tk_Co_clashes : ∀ e ∈ t_Co_clashes, decode prog_3_method_12_code e.1 = .ok e.2 := by decide +kernel
def t_Co_isHonest : List XI := [(0, .aload_n 0, 1), (1, .iload_n 1, 1), (2, .invokevirtual 62, 3), (5, .ifCond .eq 18, 3), (8, .aload_n 0, 1), (9, .getfield 36, 3), (12, .iload_n 1, 1), (13, .invokestatic 66, 3), (16, .ifCond .ne 7, 3), (19, .iconst 1, 1), (20, .goto 4, 3), (23, .iconst 0, 1), (24, .ireturn, 1)]
set_option maxRecDepth 100000 in
theorem tk_Co_isHonest : ∀ e ∈ t_Co_isHonest, decode prog_3_method_8_code e.1 = .ok e.2 := by decide +kernel
def t_As_draw : List XI := [(0, .aload_n 0, 1), (1, .aload_n 1, 1), (2, .invokevirtual 64, 3), (5, .aload_n 0, 1), (6, .iload_n 2, 1), (7, .putfield 93, 3), (10, .iconst 0, 1), (11, .istore 4, 2), (13, .iload 4, 2), (15, .iload_n 3, 1), (16, .if_icmp .ge 136, 3), (19, .iload 4, 2), (21, .sipush 200, 3), (24, .if_icmp .ge 128, 3), (27, .aload_n 0, 1), (28, .bipush 10, 2), (30, .invokevirtual 96, 3), (33, .istore 5, 2), (35, .aload_n 0, 1), (36, .aload_n 0, 1), (37, .getfield 37, 3), (40, .invokevirtual 96, 3), (43, .istore 6, 2), (45, .aload_n 0, 1), (46, .getfield 37, 3), (49, .iconst 1, 1), (50, .if_icmp .le 26, 3), (53, .iload 6, 2), (55, .iconst 1, 1), (56, .iadd, 1), (57, .aload_n 0, 1), (58, .aload_n 0, 1), (59, .getfield 37, 3), (62, .iconst 1, 1), (63, .isub, 1), (64, .invokevirtual 96, 3), (67, .iadd, 1), (68, .aload_n 0, 1), (69, .getfield 37, 3), (72, .irem, 1), (73, .goto 4, 3), (76, .iconst 0, 1), (77, .istore 7, 2), (79, .iconst 1, 1), (80, .aload_n 0, 1), (81, .bipush 12, 2), (83, .invokevirtual 96, 3), (86, .iadd, 1), (87, .istore 8, 2), (89, .iload 5, 2), (91, .iconst 2, 1), (92, .if_icmp .ge 22, 3), (95, .aload_n 0, 1), (96, .iconst 0, 1), (97, .iload 6, 2), (99, .iload 8, 2), (101, .aload_n 0, 1), (102, .bipush 10, 2), (104, .invokevirtual 96, 3), (107, .invokevirtual 83, 3), (110, .pop, 1), (111, .goto 35, 3), (114, .aload_n 0, 1), (115, .iload 5, 2), (117, .iload 5, 2), (119, .bipush 8, 2), (121, .if_icmp .ne 11, 3), (124, .aload_n 0, 1), (125, .iconst 4, 1), (126, .invokevirtual 96, 3), (129, .goto 4, 3), (132, .iconst 0, 1), (133, .invokestatic 100, 3), (136, .iload 6, 2), (138, .iload 7, 2), (140, .iload 8, 2), (142, .invokevirtual 83, 3), (145, .pop, 1), (146, .iinc 4 1, 3), (149, .goto (-136), 3), (152, .return_, 1)]
set_option maxRecDepth 100000 in
theorem tk_As_draw : ∀ e ∈ t_As_draw, decode prog_2_method_6_code e.1 = .ok e.2 := by decide +kernel
def t_As_below : List XI := [(0, .aload_n 0, 1), (1, .aload_n 0, 1), (2, .getfield 93, 3), (5, .ldc 103, 2), (7, .imul, 1), (8, .sipush 12345, 3), (11, .iadd, 1), (12, .putfield 93, 3), (15, .iload_n 1, 1), (16, .ifCond .le 15, 3), (19, .aload_n 0, 1), (20, .getfield 93, 3), (23, .bipush 16, 2), (25, .iushr, 1), (26, .iload_n 1, 1), (27, .irem, 1), (28, .goto 4, 3), (31, .iconst 0, 1), (32, .ireturn, 1)]
set_option maxRecDepth 100000 in
theorem tk_As_below : ∀ e ∈ t_As_below, decode prog_2_method_7_code e.1 = .ok e.2 := by decide +kernel
def t_As_drawnKind : List XI := [(0, .iload_n 0, 1), (1, .tableswitch 58 2 9 #[47, 47, 49, 49, 51, 53, 58, 55], 47), (48, .iconst 1, 1), (49, .ireturn, 1), (50, .iconst 2, 1), (51, .ireturn, 1), (52, .iconst 3, 1), (53, .ireturn, 1), (54, .iconst 4, 1), (55, .ireturn, 1), (56, .bipush 8, 2), (58, .ireturn, 1), (59, .iload_n 1, 1), (60, .ifCond .ne 5, 3), (63, .iconst 5, 1), (64, .ireturn, 1), (65, .iload_n 1, 1), (66, .iconst 1, 1), (67, .if_icmp .ne 8, 3), (70, .bipush 6, 2), (72, .goto 5, 3), (75, .bipush 7, 2), (77, .ireturn, 1)]
set_option maxRecDepth 100000 in
theorem tk_As_drawnKind : ∀ e ∈ t_As_drawnKind, decode prog_2_method_8_code e.1 = .ok e.2 := by decide +kernel
def t_As_lostAt : List XI := [(0, .iconst 0, 1), (1, .istore_n 3, 1), (2, .iconst 0, 1), (3, .istore 4, 2), (5, .iload 4, 2), (7, .iconst 1, 1), (8, .aload_n 0, 1), (9, .getfield 37, 3), (12, .ishl, 1), (13, .if_icmp .ge 48, 3), (16, .aload_n 0, 1), (17, .iload 4, 2), (19, .iload_n 1, 1), (20, .aload_n 2, 1), (21, .invokevirtual 289, 3), (24, .ifCond .eq 31, 3), (27, .aload_n 2, 1), (28, .iload_n 1, 1), (29, .invokevirtual 293, 3), (32, .istore 5, 2), (34, .iload_n 3, 1), (35, .iload 5, 2), (37, .iconst (-1), 1), (38, .if_icmp .eq 10, 3), (41, .iload 5, 2), (43, .bipush 10, 2), (45, .if_icmp .ne 7, 3), (48, .iconst 1, 1), (49, .goto 4, 3), (52, .iconst 0, 1), (53, .iadd, 1), (54, .istore_n 3, 1), (55, .iinc 4 1, 3), (58, .goto (-53), 3), (61, .iload_n 3, 1), (62, .ireturn, 1)]
set_option maxRecDepth 100000 in
theorem tk_As_lostAt : ∀ e ∈ t_As_lostAt, decode prog_2_method_31_code e.1 = .ok e.2 := by decide +kernel
def t_As_counts : List XI := [(0, .aload_n 0, 1), (1, .getfield 20, 3), (4, .iload_n 1, 1), (5, .invokevirtual 286, 3), (8, .ifCond .eq 17, 3), (11, .iload_n 1, 1), (12, .aload_n 0, 1), (13, .getfield 20, 3), (16, .getfield 61, 3), (19, .iconst (-1), 1), (20, .ixor, 1), (21, .iand, 1), (22, .ifCond .ne 5, 3), (25, .iconst 0, 1), (26, .ireturn, 1), (27, .aload_n 0, 1), (28, .iload_n 1, 1), (29, .aload_n 3, 1), (30, .invokevirtual 252, 3), (33, .aload_n 3, 1), (34, .getfield 259, 3), (37, .iload_n 2, 1), (38, .if_icmp .ge 7, 3), (41, .iconst 1, 1), (42, .goto 4, 3), (45, .iconst 0, 1), (46, .ireturn, 1)]
set_option maxRecDepth 100000 in
theorem tk_As_counts : ∀ e ∈ t_As_counts, decode prog_2_method_29_code e.1 = .ok e.2 := by decide +kernel
def t_As_sureAt : List XI := [(0, .bipush (-2), 2), (2, .istore_n 3, 1), (3, .iconst 0, 1), (4, .istore 4, 2), (6, .iload 4, 2), (8, .iconst 1, 1), (9, .aload_n 0, 1), (10, .getfield 37, 3), (13, .ishl, 1), (14, .if_icmp .ge 53, 3), (17, .aload_n 0, 1), (18, .iload 4, 2), (20, .iload_n 1, 1), (21, .aload_n 2, 1), (22, .invokevirtual 289, 3), (25, .ifCond .ne 6, 3), (28, .goto 33, 3), (31, .aload_n 2, 1), (32, .iload_n 1, 1), (33, .invokevirtual 293, 3), (36, .istore 5, 2), (38, .iload 5, 2), (40, .iconst (-1), 1), (41, .if_icmp .eq 15, 3), (44, .iload_n 3, 1), (45, .bipush (-2), 2), (47, .if_icmp .eq 11, 3), (50, .iload_n 3, 1), (51, .iload 5, 2), (53, .if_icmp .eq 5, 3), (56, .iconst (-1), 1), (57, .ireturn, 1), (58, .iload 5, 2), (60, .istore_n 3, 1), (61, .iinc 4 1, 3), (64, .goto (-58), 3), (67, .iload_n 3, 1), (68, .bipush (-2), 2), (70, .if_icmp .ne 7, 3), (73, .iconst (-1), 1), (74, .goto 4, 3), (77, .iload_n 3, 1), (78, .ireturn, 1)]
set_option maxRecDepth 100000 in
theorem tk_As_sureAt : ∀ e ∈ t_As_sureAt, decode prog_2_method_30_code e.1 = .ok e.2 := by decide +kernel
def t_As_behindOnes : List XI := [(0, .iconst 0, 1), (1, .istore_n 1, 1), (2, .iconst 0, 1), (3, .istore_n 2, 1), (4, .iload_n 2, 1), (5, .aload_n 0, 1), (6, .getfield 37, 3), (9, .if_icmp .ge 44, 3), (12, .aload_n 0, 1), (13, .iload_n 2, 1), (14, .invokevirtual 125, 3), (17, .ifCond .eq 30, 3), (20, .aload_n 0, 1), (21, .getfield 26, 3), (24, .iload_n 2, 1), (25, .aaload, 1), (26, .getfield 187, 3), (29, .aload_n 0, 1), (30, .getfield 26, 3), (33, .iload_n 2, 1), (34, .aaload, 1), (35, .getfield 232, 3), (38, .if_icmp .ge 9, 3), (41, .iload_n 1, 1), (42, .iconst 1, 1), (43, .iload_n 2, 1), (44, .ishl, 1), (45, .ior, 1), (46, .istore_n 1, 1), (47, .iinc 2 1, 3), (50, .goto (-46), 3), (53, .iload_n 1, 1), (54, .ireturn, 1)]
set_option maxRecDepth 100000 in
theorem tk_As_behindOnes : ∀ e ∈ t_As_behindOnes, decode prog_2_method_32_code e.1 = .ok e.2 := by decide +kernel
def t_As_stuckOnes : List XI := [(0, .iconst 0, 1), (1, .istore_n 1, 1), (2, .iconst 0, 1), (3, .istore_n 2, 1), (4, .iload_n 2, 1), (5, .aload_n 0, 1), (6, .getfield 37, 3), (9, .if_icmp .ge 35, 3), (12, .aload_n 0, 1), (13, .iload_n 2, 1), (14, .invokevirtual 125, 3), (17, .ifCond .eq 21, 3), (20, .aload_n 0, 1), (21, .getfield 26, 3), (24, .iload_n 2, 1), (25, .aaload, 1), (26, .getfield 141, 3), (29, .ifCond .ne 9, 3), (32, .iload_n 1, 1), (33, .iconst 1, 1), (34, .iload_n 2, 1), (35, .ishl, 1), (36, .ior, 1), (37, .istore_n 1, 1), (38, .iinc 2 1, 3), (41, .goto (-37), 3), (44, .iload_n 1, 1), (45, .ireturn, 1)]
set_option maxRecDepth 100000 in
theorem tk_As_stuckOnes : ∀ e ∈ t_As_stuckOnes, decode prog_2_method_33_code e.1 = .ok e.2 := by decide +kernel
def t_As_madeViews : List XI := [(0, .iconst 0, 1), (1, .istore_n 1, 1), (2, .iconst 1, 1), (3, .istore_n 2, 1), (4, .iload_n 2, 1), (5, .bipush 9, 2), (7, .if_icmp .gt 27, 3), (10, .aload_n 0, 1), (11, .getfield 11, 3), (14, .iload_n 2, 1), (15, .aaload, 1), (16, .getfield 244, 3), (19, .ifCond .eq 9, 3), (22, .iload_n 1, 1), (23, .iconst 1, 1), (24, .iload_n 2, 1), (25, .ishl, 1), (26, .ior, 1), (27, .istore_n 1, 1), (28, .iinc 2 1, 3), (31, .goto (-27), 3), (34, .iload_n 1, 1), (35, .ireturn, 1)]
set_option maxRecDepth 100000 in
theorem tk_As_madeViews : ∀ e ∈ t_As_madeViews, decode prog_2_method_34_code e.1 = .ok e.2 := by decide +kernel
def t_As_certainPlaces : List XI := [(0, .iconst 0, 1), (1, .istore_n 1, 1), (2, .iconst 1, 1), (3, .istore_n 2, 1), (4, .iload_n 2, 1), (5, .bipush 12, 2), (7, .if_icmp .gt 47, 3), (10, .iconst 0, 1), (11, .istore_n 3, 1), (12, .iload_n 3, 1), (13, .aload_n 0, 1), (14, .getfield 37, 3), (17, .if_icmp .ge 31, 3), (20, .aload_n 0, 1), (21, .iload_n 3, 1), (22, .iload_n 2, 1), (23, .invokevirtual 296, 3), (26, .aload_n 0, 1), (27, .getfield 20, 3), (30, .getfield 280, 3), (33, .if_icmp .le 9, 3), (36, .iload_n 1, 1), (37, .iconst 1, 1), (38, .iload_n 2, 1), (39, .ishl, 1), (40, .ior, 1), (41, .istore_n 1, 1), (42, .iinc 3 1, 3), (45, .goto (-33), 3), (48, .iinc 2 1, 3), (51, .goto (-47), 3), (54, .iload_n 1, 1), (55, .ireturn, 1)]
set_option maxRecDepth 100000 in
theorem tk_As_certainPlaces : ∀ e ∈ t_As_certainPlaces, decode prog_2_method_35_code e.1 = .ok e.2 := by decide +kernel
def t_As_alikeProofs : List XI := [(0, .aload_n 0, 1), (1, .getfield 26, 3), (4, .iload_n 1, 1), (5, .aaload, 1), (6, .astore_n 3, 1), (7, .aload_n 0, 1), (8, .iload_n 1, 1), (9, .invokevirtual 125, 3), (12, .ifCond .eq 13, 3), (15, .aload_n 3, 1), (16, .getfield 299, 3), (19, .iload_n 2, 1), (20, .iaload, 1), (21, .iconst (-1), 1), (22, .if_icmp .ne 5, 3), (25, .iconst 0, 1), (26, .ireturn, 1), (27, .iconst 0, 1), (28, .istore 4, 2), (30, .iconst 0, 1), (31, .istore 5, 2), (33, .iload 5, 2), (35, .aload_n 0, 1), (36, .getfield 37, 3), (39, .if_icmp .ge 62, 3), (42, .aload_n 0, 1), (43, .getfield 26, 3), (46, .iload 5, 2), (48, .aaload, 1), (49, .astore 6, 2), (51, .aload_n 0, 1), (52, .iload 5, 2), (54, .invokevirtual 125, 3), (57, .ifCond .eq 38, 3), (60, .aload 6, 2), (62, .getfield 299, 3), (65, .iload_n 2, 1), (66, .iaload, 1), (67, .aload_n 3, 1), (68, .getfield 299, 3), (71, .iload_n 2, 1), (72, .iaload, 1), (73, .if_icmp .ne 22, 3), (76, .aload 6, 2), (78, .getfield 302, 3), (81, .iload_n 2, 1), (82, .iaload, 1), (83, .aload_n 3, 1), (84, .getfield 302, 3), (87, .iload_n 2, 1), (88, .iaload, 1), (89, .if_icmp .ne 6, 3), (92, .iinc 4 1, 3), (95, .iinc 5 1, 3), (98, .goto (-65), 3), (101, .iload 4, 2), (103, .ireturn, 1)]
set_option maxRecDepth 100000 in
theorem tk_As_alikeProofs : ∀ e ∈ t_As_alikeProofs, decode prog_2_method_36_code e.1 = .ok e.2 := by decide +kernel
def t_As_words : List XI := [(0, .iconst 0, 1), (1, .istore_n 1, 1), (2, .iconst 0, 1), (3, .istore_n 2, 1), (4, .iload_n 2, 1), (5, .aload_n 0, 1), (6, .getfield 37, 3), (9, .if_icmp .ge 65, 3), (12, .iconst 1, 1), (13, .istore_n 3, 1), (14, .iload_n 3, 1), (15, .bipush 12, 2), (17, .if_icmp .gt 51, 3), (20, .aload_n 0, 1), (21, .iload_n 2, 1), (22, .invokevirtual 125, 3), (25, .ifCond .eq 43, 3), (28, .iload_n 1, 1), (29, .aload_n 0, 1), (30, .getfield 26, 3), (33, .iload_n 2, 1), (34, .aaload, 1), (35, .getfield 171, 3), (38, .iload_n 3, 1), (39, .iaload, 1), (40, .invokestatic 247, 3), (43, .iadd, 1), (44, .istore_n 1, 1), (45, .iload_n 1, 1), (46, .aload_n 0, 1), (47, .getfield 26, 3), (50, .iload_n 2, 1), (51, .aaload, 1), (52, .getfield 181, 3), (55, .iload_n 3, 1), (56, .iaload, 1), (57, .invokestatic 247, 3), (60, .iadd, 1), (61, .istore_n 1, 1), (62, .iinc 3 1, 3), (65, .goto (-51), 3), (68, .iinc 2 1, 3), (71, .goto (-67), 3), (74, .iload_n 1, 1), (75, .ireturn, 1)]
set_option maxRecDepth 100000 in
theorem tk_As_words : ∀ e ∈ t_As_words, decode prog_2_method_37_code e.1 = .ok e.2 := by decide +kernel
def t_As_fullOnes : List XI := [(0, .iconst 0, 1), (1, .istore_n 1, 1), (2, .iconst 0, 1), (3, .istore_n 2, 1), (4, .iload_n 2, 1), (5, .aload_n 0, 1), (6, .getfield 37, 3), (9, .if_icmp .ge 35, 3), (12, .aload_n 0, 1), (13, .iload_n 2, 1), (14, .invokevirtual 125, 3), (17, .ifCond .eq 21, 3), (20, .aload_n 0, 1), (21, .getfield 26, 3), (24, .iload_n 2, 1), (25, .aaload, 1), (26, .invokestatic 305, 3), (29, .ifCond .eq 9, 3), (32, .iload_n 1, 1), (33, .iconst 1, 1), (34, .iload_n 2, 1), (35, .ishl, 1), (36, .ior, 1), (37, .istore_n 1, 1), (38, .iinc 2 1, 3), (41, .goto (-37), 3), (44, .iload_n 1, 1), (45, .ireturn, 1)]
set_option maxRecDepth 100000 in
theorem tk_As_fullOnes : ∀ e ∈ t_As_fullOnes, decode prog_2_method_38_code e.1 = .ok e.2 := by decide +kernel
def t_As_isFull : List XI := [(0, .aload_n 0, 1), (1, .getfield 232, 3), (4, .iconst 1, 1), (5, .iadd, 1), (6, .istore_n 1, 1), (7, .iload_n 1, 1), (8, .bipush 12, 2), (10, .if_icmp .gt 27, 3), (13, .aload_n 0, 1), (14, .iload_n 1, 1), (15, .invokevirtual 148, 3), (18, .ifCond .eq 19, 3), (21, .aload_n 0, 1), (22, .iload_n 1, 1), (23, .invokevirtual 151, 3), (26, .ifCond .ne 5, 3), (29, .iconst 0, 1), (30, .ireturn, 1), (31, .iinc 1 1, 3), (34, .goto (-27), 3), (37, .iconst 1, 1), (38, .ireturn, 1)]
set_option maxRecDepth 100000 in
theorem tk_As_isFull : ∀ e ∈ t_As_isFull, decode prog_2_method_39_code e.1 = .ok e.2 := by decide +kernel
def t_Co_runFirst : List XI := [(0, .aload_n 0, 1), (1, .getfield 21, 3), (4, .aload_n 2, 1), (5, .invokestatic 48, 3), (8, .iconst 0, 1), (9, .istore_n 3, 1), (10, .iload_n 3, 1), (11, .iload_n 1, 1), (12, .if_icmp .ge 23, 3), (15, .iload_n 3, 1), (16, .aload_n 0, 1), (17, .getfield 39, 3), (20, .if_icmp .ge 15, 3), (23, .aload_n 0, 1), (24, .iload_n 3, 1), (25, .aload_n 2, 1), (26, .invokevirtual 82, 3), (29, .iinc 3 1, 3), (32, .goto (-22), 3), (35, .return_, 1)]
set_option maxRecDepth 100000 in
theorem tk_Co_runFirst : ∀ e ∈ t_Co_runFirst, decode prog_3_method_14_code e.1 = .ok e.2 := by decide +kernel
end
section
/-! code tables (printed by wip/whole/gen2.py out of the claim) -/
def t_TP_new : List XI := [(0, .aload_n 0, 1), (1, .invokespecial 1, 3), (4, .aload_n 0, 1), (5, .new 7, 3), (8, .dup, 1), (9, .invokespecial 9, 3), (12, .putfield 10, 3), (15, .aload_n 0, 1), (16, .iconst 3, 1), (17, .anewarray 7, 3), (20, .putfield 16, 3), (23, .aload_n 0, 1), (24, .iconst 3, 1), (25, .newarray .int, 2), (27, .putfield 20, 3), (30, .aload_n 0, 1), (31, .new 24, 3), (34, .dup, 1), (35, .invokespecial 26, 3), (38, .putfield 27, 3), (41, .aload_n 0, 1), (42, .new 31, 3), (45, .dup, 1), (46, .invokespecial 33, 3), (49, .putfield 34, 3), (52, .aload_n 0, 1), (53, .new 38, 3), (56, .dup, 1), (57, .invokespecial 40, 3), (60, .putfield 41, 3), (63, .aload_n 0, 1), (64, .new 45, 3), (67, .dup, 1), (68, .invokespecial 47, 3), (71, .putfield 48, 3), (74, .aload_n 0, 1), (75, .new 52, 3), (78, .dup, 1), (79, .invokespecial 54, 3), (82, .putfield 55, 3), (85, .aload_n 0, 1), (86, .new 59, 3), (89, .dup, 1), (90, .invokespecial 61, 3), (93, .putfield 62, 3), (96, .aload_n 0, 1), (97, .bipush 8, 2), (99, .newarray .int, 2), (101, .putfield 66, 3), (104, .iconst 0, 1), (105, .istore_n 1, 1), (106, .iload_n 1, 1), (107, .iconst 3, 1), (108, .if_icmp .ge 22, 3), (111, .aload_n 0, 1), (112, .getfield 16, 3), (115, .iload_n 1, 1), (116, .new 7, 3), (119, .dup, 1), (120, .invokespecial 9, 3), (123, .aastore, 1), (124, .iinc 1 1, 3), (127, .goto (-21), 3), (130, .return_, 1)]
set_option maxRecDepth 100000 in
theorem tk_TP_new : ∀ e ∈ t_TP_new, decode prog_1_method_1_code e.1 = .ok e.2 := by decide +kernel
def t_To_new : List XI := [(0, .aload_n 0, 1), (1, .invokespecial 3, 3), (4, .aload_n 0, 1), (5, .sipush 600, 3), (8, .newarray .byte, 2), (10, .putfield 9, 3), (13, .aload_n 0, 1), (14, .iconst (-1), 1), (15, .putfield 15, 3), (18, .aload_n 0, 1), (19, .iconst 3, 1), (20, .newarray .int, 2), (22, .putfield 19, 3), (25, .aload_n 0, 1), (26, .iconst 2, 1), (27, .anewarray 23, 3), (30, .putfield 25, 3), (33, .aload_n 0, 1), (34, .iconst 2, 1), (35, .anewarray 29, 3), (38, .putfield 31, 3), (41, .aload_n 0, 1), (42, .iconst 2, 1), (43, .anewarray 35, 3), (46, .putfield 37, 3), (49, .iconst 0, 1), (50, .istore_n 1, 1), (51, .iload_n 1, 1), (52, .iconst 2, 1), (53, .if_icmp .ge 48, 3), (56, .aload_n 0, 1), (57, .getfield 25, 3), (60, .iload_n 1, 1), (61, .new 23, 3), (64, .dup, 1), (65, .invokespecial 41, 3), (68, .aastore, 1), (69, .aload_n 0, 1), (70, .getfield 31, 3), (73, .iload_n 1, 1), (74, .new 29, 3), (77, .dup, 1), (78, .invokespecial 42, 3), (81, .aastore, 1), (82, .aload_n 0, 1), (83, .getfield 37, 3), (86, .iload_n 1, 1), (87, .new 35, 3), (90, .dup, 1), (91, .invokespecial 43, 3), (94, .aastore, 1), (95, .iinc 1 1, 3), (98, .goto (-47), 3), (101, .return_, 1)]
set_option maxRecDepth 100000 in
theorem tk_To_new : ∀ e ∈ t_To_new, decode prog_12_method_1_code e.1 = .ok e.2 := by decide +kernel
def t_Ru_new : List XI := [(0, .aload_n 0, 1), (1, .invokespecial 3, 3), (4, .aload_n 0, 1), (5, .bipush 40, 2), (7, .newarray .int, 2), (9, .putfield 9, 3), (12, .aload_n 0, 1), (13, .bipush 40, 2), (15, .newarray .int, 2), (17, .putfield 15, 3), (20, .aload_n 0, 1), (21, .bipush 40, 2), (23, .newarray .int, 2), (25, .putfield 18, 3), (28, .aload_n 0, 1), (29, .bipush 40, 2), (31, .newarray .int, 2), (33, .putfield 21, 3), (36, .return_, 1)]
set_option maxRecDepth 100000 in
theorem tk_Ru_new : ∀ e ∈ t_Ru_new, decode prog_8_method_1_code e.1 = .ok e.2 := by decide +kernel
def t_Rp_new : List XI := [(0, .aload_n 0, 1), (1, .invokespecial 3, 3), (4, .aload_n 0, 1), (5, .bipush 12, 2), (7, .newarray .int, 2), (9, .putfield 9, 3), (12, .aload_n 0, 1), (13, .bipush 12, 2), (15, .newarray .int, 2), (17, .putfield 15, 3), (20, .aload_n 0, 1), (21, .bipush 12, 2), (23, .newarray .int, 2), (25, .putfield 18, 3), (28, .return_, 1)]
set_option maxRecDepth 100000 in
theorem tk_Rp_new : ∀ e ∈ t_Rp_new, decode prog_7_method_1_code e.1 = .ok e.2 := by decide +kernel
def t_Su_new : List XI := [(0, .aload_n 0, 1), (1, .invokespecial 3, 3), (4, .aload_n 0, 1), (5, .bipush 16, 2), (7, .newarray .int, 2), (9, .putfield 9, 3), (12, .aload_n 0, 1), (13, .bipush 16, 2), (15, .newarray .int, 2), (17, .putfield 15, 3), (20, .return_, 1)]
set_option maxRecDepth 100000 in
theorem tk_Su_new : ∀ e ∈ t_Su_new, decode prog_9_method_1_code e.1 = .ok e.2 := by decide +kernel
def t_Tt_new : List XI := [(0, .aload_n 0, 1), (1, .invokespecial 3, 3), (4, .aload_n 0, 1), (5, .bipush 7, 2), (7, .bipush 11, 2), (9, .multianewarray 9 2, 4), (13, .putfield 11, 3), (16, .aload_n 0, 1), (17, .bipush 7, 2), (19, .bipush 11, 2), (21, .multianewarray 9 2, 4), (25, .putfield 16, 3), (28, .aload_n 0, 1), (29, .bipush 7, 2), (31, .bipush 11, 2), (33, .multianewarray 9 2, 4), (37, .putfield 19, 3), (40, .aload_n 0, 1), (41, .bipush 7, 2), (43, .bipush 11, 2), (45, .multianewarray 9 2, 4), (49, .putfield 22, 3), (52, .aload_n 0, 1), (53, .bipush 7, 2), (55, .newarray .int, 2), (57, .putfield 25, 3), (60, .aload_n 0, 1), (61, .new 29, 3), (64, .dup, 1), (65, .invokespecial 31, 3), (68, .putfield 32, 3), (71, .return_, 1)]
set_option maxRecDepth 100000 in
theorem tk_Tt_new : ∀ e ∈ t_Tt_new, decode prog_11_method_1_code e.1 = .ok e.2 := by decide +kernel
def t_Ta_new : List XI := [(0, .aload_n 0, 1), (1, .invokespecial 3, 3), (4, .aload_n 0, 1), (5, .bipush 7, 2), (7, .newarray .int, 2), (9, .putfield 9, 3), (12, .aload_n 0, 1), (13, .bipush 7, 2), (15, .newarray .int, 2), (17, .putfield 15, 3), (20, .return_, 1)]
set_option maxRecDepth 100000 in
theorem tk_Ta_new : ∀ e ∈ t_Ta_new, decode prog_10_method_1_code e.1 = .ok e.2 := by decide +kernel
def t_TP_feed : List XI := [(0, .aload_n 0, 1), (1, .getfield 10, 3), (4, .getfield 69, 3), (7, .bipush 20, 2), (9, .iadd, 1), (10, .sipush 600, 3), (13, .if_icmp .le 5, 3), (16, .iconst (-1), 1), (17, .ireturn, 1), (18, .aload_n 0, 1), (19, .getfield 10, 3), (22, .iload_n 1, 1), (23, .invokevirtual 73, 3), (26, .aload_n 0, 1), (27, .getfield 10, 3), (30, .iload_n 2, 1), (31, .invokevirtual 73, 3), (34, .aload_n 0, 1), (35, .getfield 10, 3), (38, .iload_n 3, 1), (39, .invokevirtual 73, 3), (42, .aload_n 0, 1), (43, .getfield 10, 3), (46, .iload 4, 2), (48, .invokevirtual 73, 3), (51, .aload_n 0, 1), (52, .getfield 10, 3), (55, .iload 5, 2), (57, .invokevirtual 73, 3), (60, .aload_n 0, 1), (61, .getfield 10, 3), (64, .getfield 69, 3), (67, .ireturn, 1)]
set_option maxRecDepth 100000 in
theorem tk_TP_feed : ∀ e ∈ t_TP_feed, decode prog_1_method_2_code e.1 = .ok e.2 := by decide +kernel
def t_To_write : List XI := [(0, .bipush 24, 2), (2, .istore_n 2, 1), (3, .iload_n 2, 1), (4, .ifCond .lt 42, 3), (7, .aload_n 0, 1), (8, .getfield 44, 3), (11, .sipush 600, 3), (14, .if_icmp .ge 32, 3), (17, .aload_n 0, 1), (18, .getfield 9, 3), (21, .aload_n 0, 1), (22, .getfield 44, 3), (25, .iload_n 1, 1), (26, .iload_n 2, 1), (27, .ishr, 1), (28, .i2b, 1), (29, .bastore, 1), (30, .aload_n 0, 1), (31, .dup, 1), (32, .getfield 44, 3), (35, .iconst 1, 1), (36, .iadd, 1), (37, .putfield 44, 3), (40, .iinc 2 (-8), 3), (43, .goto (-40), 3), (46, .return_, 1)]
set_option maxRecDepth 100000 in
theorem tk_To_write : ∀ e ∈ t_To_write, decode prog_12_method_2_code e.1 = .ok e.2 := by decide +kernel
def t_TP_end : List XI := [(0, .iload_n 1, 1), (1, .ifCond .lt 14, 3), (4, .iload_n 1, 1), (5, .aload_n 0, 1), (6, .getfield 10, 3), (9, .getfield 69, 3), (12, .if_icmp .le 5, 3), (15, .iconst (-1), 1), (16, .ireturn, 1), (17, .aload_n 0, 1), (18, .getfield 10, 3), (21, .iload_n 1, 1), (22, .putfield 69, 3), (25, .iload_n 1, 1), (26, .ireturn, 1)]
set_option maxRecDepth 100000 in
theorem tk_TP_end : ∀ e ∈ t_TP_end, decode prog_1_method_3_code e.1 = .ok e.2 := by decide +kernel
def t_TP_text : List XI := [(0, .aload_n 0, 1), (1, .getfield 10, 3), (4, .getfield 69, 3), (7, .istore_n 3, 1), (8, .aload_n 0, 1), (9, .getfield 10, 3), (12, .iconst 0, 1), (13, .putfield 69, 3), (16, .aload_n 0, 1), (17, .getfield 10, 3), (20, .iconst 0, 1), (21, .putfield 77, 3), (24, .aload_n 0, 1), (25, .getfield 10, 3), (28, .iconst (-1), 1), (29, .putfield 80, 3), (32, .iload_n 1, 1), (33, .ifCond .lt 8, 3), (36, .iload_n 1, 1), (37, .iconst 3, 1), (38, .if_icmp .lt 6, 3), (41, .bipush (-2), 2), (43, .ireturn, 1), (44, .iload_n 2, 1), (45, .iconst (-1), 1), (46, .if_icmp .ne 15, 3), (49, .aload_n 0, 1), (50, .getfield 10, 3), (53, .getfield 83, 3), (56, .iload_n 1, 1), (57, .iaload, 1), (58, .goto 4, 3), (61, .iload_n 2, 1), (62, .istore 4, 2), (64, .iload 4, 2), (66, .ifCond .lt 26, 3), (69, .iload 4, 2), (71, .iconst 2, 1), (72, .if_icmp .ge 20, 3), (75, .iload_n 2, 1), (76, .iconst (-1), 1), (77, .if_icmp .eq 18, 3), (80, .aload_n 0, 1), (81, .getfield 10, 3), (84, .iload_n 1, 1), (85, .iload_n 2, 1), (86, .invokevirtual 86, 3), (89, .ifCond .ne 6, 3), (92, .bipush (-2), 2), (94, .ireturn, 1), (95, .aload_n 0, 1), (96, .getfield 27, 3), (99, .aload_n 0, 1), (100, .getfield 10, 3), (103, .getfield 90, 3), (106, .iload_n 3, 1), (107, .iload_n 1, 1), (108, .invokevirtual 94, 3), (111, .aload_n 0, 1), (112, .getfield 10, 3), (115, .aload_n 0, 1), (116, .getfield 27, 3), (119, .getfield 98, 3), (122, .putfield 77, 3), (125, .aload_n 0, 1), (126, .getfield 10, 3), (129, .aload_n 0, 1), (130, .getfield 27, 3), (133, .getfield 99, 3), (136, .putfield 80, 3), (139, .aload_n 0, 1), (140, .getfield 27, 3), (143, .getfield 98, 3), (146, .ifCond .eq 5, 3), (149, .iconst (-1), 1), (150, .ireturn, 1), (151, .aload_n 0, 1), (152, .getfield 10, 3), (155, .iload_n 1, 1), (156, .iload 4, 2), (158, .aload_n 0, 1), (159, .getfield 27, 3), (162, .invokevirtual 100, 3), (165, .iload 4, 2), (167, .ireturn, 1)]
set_option maxRecDepth 100000 in
theorem tk_TP_text : ∀ e ∈ t_TP_text, decode prog_1_method_4_code e.1 = .ok e.2 := by decide +kernel
def t_To_has : List XI := [(0, .iload_n 1, 1), (1, .ifCond .lt 31, 3), (4, .iload_n 1, 1), (5, .iconst 3, 1), (6, .if_icmp .ge 26, 3), (9, .iload_n 2, 1), (10, .ifCond .lt 22, 3), (13, .iload_n 2, 1), (14, .iconst 2, 1), (15, .if_icmp .ge 17, 3), (18, .iload_n 2, 1), (19, .aload_n 0, 1), (20, .getfield 19, 3), (23, .iload_n 1, 1), (24, .iaload, 1), (25, .if_icmp .ge 7, 3), (28, .iconst 1, 1), (29, .goto 4, 3), (32, .iconst 0, 1), (33, .ireturn, 1)]
set_option maxRecDepth 100000 in
theorem tk_To_has : ∀ e ∈ t_To_has, decode prog_12_method_3_code e.1 = .ok e.2 := by decide +kernel
def t_Rp_add : List XI := [(0, .aload_n 0, 1), (1, .getfield 21, 3), (4, .bipush 12, 2), (6, .if_icmp .ge 43, 3), (9, .aload_n 0, 1), (10, .getfield 9, 3), (13, .aload_n 0, 1), (14, .getfield 21, 3), (17, .iload_n 1, 1), (18, .iastore, 1), (19, .aload_n 0, 1), (20, .getfield 15, 3), (23, .aload_n 0, 1), (24, .getfield 21, 3), (27, .iload_n 2, 1), (28, .iastore, 1), (29, .aload_n 0, 1), (30, .getfield 18, 3), (33, .aload_n 0, 1), (34, .getfield 21, 3), (37, .iload_n 3, 1), (38, .iastore, 1), (39, .aload_n 0, 1), (40, .dup, 1), (41, .getfield 21, 3), (44, .iconst 1, 1), (45, .iadd, 1), (46, .putfield 21, 3), (49, .return_, 1)]
set_option maxRecDepth 100000 in
theorem tk_Rp_add : ∀ e ∈ t_Rp_add, decode prog_7_method_3_code e.1 = .ok e.2 := by decide +kernel
def t_Ru_add : List XI := [(0, .aload_n 0, 1), (1, .getfield 24, 3), (4, .bipush 40, 2), (6, .if_icmp .ge 54, 3), (9, .aload_n 0, 1), (10, .getfield 9, 3), (13, .aload_n 0, 1), (14, .getfield 24, 3), (17, .iload_n 1, 1), (18, .iastore, 1), (19, .aload_n 0, 1), (20, .getfield 15, 3), (23, .aload_n 0, 1), (24, .getfield 24, 3), (27, .iload_n 2, 1), (28, .iastore, 1), (29, .aload_n 0, 1), (30, .getfield 18, 3), (33, .aload_n 0, 1), (34, .getfield 24, 3), (37, .iload_n 3, 1), (38, .iastore, 1), (39, .aload_n 0, 1), (40, .getfield 21, 3), (43, .aload_n 0, 1), (44, .getfield 24, 3), (47, .iload 4, 2), (49, .iastore, 1), (50, .aload_n 0, 1), (51, .dup, 1), (52, .getfield 24, 3), (55, .iconst 1, 1), (56, .iadd, 1), (57, .putfield 24, 3), (60, .return_, 1)]
set_option maxRecDepth 100000 in
theorem tk_Ru_add : ∀ e ∈ t_Ru_add, decode prog_8_method_3_code e.1 = .ok e.2 := by decide +kernel
def t_To_put : List XI := [(0, .iload_n 1, 1), (1, .ifCond .lt 17, 3), (4, .iload_n 1, 1), (5, .iconst 3, 1), (6, .if_icmp .ge 12, 3), (9, .iload_n 2, 1), (10, .ifCond .lt 8, 3), (13, .iload_n 2, 1), (14, .iconst 2, 1), (15, .if_icmp .lt 4, 3), (18, .return_, 1), (19, .iload_n 1, 1), (20, .ifCond .ne 19, 3), (23, .aload_n 0, 1), (24, .getfield 25, 3), (27, .iload_n 2, 1), (28, .aaload, 1), (29, .aload_n 3, 1), (30, .getfield 47, 3), (33, .invokevirtual 53, 3), (36, .goto 37, 3), (39, .iload_n 1, 1), (40, .iconst 1, 1), (41, .if_icmp .ne 19, 3), (44, .aload_n 0, 1), (45, .getfield 31, 3), (48, .iload_n 2, 1), (49, .aaload, 1), (50, .aload_n 3, 1), (51, .getfield 57, 3), (54, .invokevirtual 61, 3), (57, .goto 16, 3), (60, .aload_n 0, 1), (61, .getfield 37, 3), (64, .iload_n 2, 1), (65, .aaload, 1), (66, .aload_n 3, 1), (67, .getfield 64, 3), (70, .invokevirtual 67, 3), (73, .iload_n 2, 1), (74, .aload_n 0, 1), (75, .getfield 19, 3), (78, .iload_n 1, 1), (79, .iaload, 1), (80, .if_icmp .ne 13, 3), (83, .aload_n 0, 1), (84, .getfield 19, 3), (87, .iload_n 1, 1), (88, .dup2, 1), (89, .iaload, 1), (90, .iconst 1, 1), (91, .iadd, 1), (92, .iastore, 1), (93, .return_, 1)]
set_option maxRecDepth 100000 in
theorem tk_To_put : ∀ e ∈ t_To_put, decode prog_12_method_4_code e.1 = .ok e.2 := by decide +kernel
def t_TP_copyAccounts : List XI := [(0, .aload_n 0, 1), (1, .iconst 0, 1), (2, .aload_n 1, 1), (3, .iconst 0, 1), (4, .bipush 8, 2), (6, .invokestatic 365, 3), (9, .return_, 1)]
set_option maxRecDepth 100000 in
theorem tk_TP_copyAccounts : ∀ e ∈ t_TP_copyAccounts, decode prog_1_method_38_code e.1 = .ok e.2 := by decide +kernel
def t_Ru_take : List XI := [(0, .aload_n 0, 1), (1, .aload_n 1, 1), (2, .getfield 24, 3), (5, .putfield 24, 3), (8, .aload_n 1, 1), (9, .getfield 9, 3), (12, .iconst 0, 1), (13, .aload_n 0, 1), (14, .getfield 9, 3), (17, .iconst 0, 1), (18, .bipush 40, 2), (20, .invokestatic 28, 3), (23, .aload_n 1, 1), (24, .getfield 15, 3), (27, .iconst 0, 1), (28, .aload_n 0, 1), (29, .getfield 15, 3), (32, .iconst 0, 1), (33, .bipush 40, 2), (35, .invokestatic 28, 3), (38, .aload_n 1, 1), (39, .getfield 18, 3), (42, .iconst 0, 1), (43, .aload_n 0, 1), (44, .getfield 18, 3), (47, .iconst 0, 1), (48, .bipush 40, 2), (50, .invokestatic 28, 3), (53, .aload_n 1, 1), (54, .getfield 21, 3), (57, .iconst 0, 1), (58, .aload_n 0, 1), (59, .getfield 21, 3), (62, .iconst 0, 1), (63, .bipush 40, 2), (65, .invokestatic 28, 3), (68, .return_, 1)]
set_option maxRecDepth 100000 in
theorem tk_Ru_take : ∀ e ∈ t_Ru_take, decode prog_8_method_2_code e.1 = .ok e.2 := by decide +kernel
def t_Rp_take : List XI := [(0, .aload_n 0, 1), (1, .aload_n 1, 1), (2, .getfield 21, 3), (5, .putfield 21, 3), (8, .aload_n 1, 1), (9, .getfield 9, 3), (12, .iconst 0, 1), (13, .aload_n 0, 1), (14, .getfield 9, 3), (17, .iconst 0, 1), (18, .bipush 12, 2), (20, .invokestatic 25, 3), (23, .aload_n 1, 1), (24, .getfield 15, 3), (27, .iconst 0, 1), (28, .aload_n 0, 1), (29, .getfield 15, 3), (32, .iconst 0, 1), (33, .bipush 12, 2), (35, .invokestatic 25, 3), (38, .aload_n 1, 1), (39, .getfield 18, 3), (42, .iconst 0, 1), (43, .aload_n 0, 1), (44, .getfield 18, 3), (47, .iconst 0, 1), (48, .bipush 12, 2), (50, .invokestatic 25, 3), (53, .return_, 1)]
set_option maxRecDepth 100000 in
theorem tk_Rp_take : ∀ e ∈ t_Rp_take, decode prog_7_method_2_code e.1 = .ok e.2 := by decide +kernel
def t_TP_fault : List XI := [(0, .iload_n 1, 1), (1, .ifCond .ne 11, 3), (4, .aload_n 0, 1), (5, .getfield 10, 3), (8, .getfield 77, 3), (11, .ireturn, 1), (12, .iload_n 1, 1), (13, .iconst 1, 1), (14, .if_icmp .ne 13, 3), (17, .aload_n 0, 1), (18, .getfield 10, 3), (21, .getfield 80, 3), (24, .goto 4, 3), (27, .iconst (-1), 1), (28, .ireturn, 1)]
set_option maxRecDepth 100000 in
theorem tk_TP_fault : ∀ e ∈ t_TP_fault, decode prog_1_method_5_code e.1 = .ok e.2 := by decide +kernel
def t_TP_council : List XI := [(0, .aload_n 0, 1), (1, .getfield 10, 3), (4, .iconst 0, 1), (5, .iload_n 1, 1), (6, .invokevirtual 86, 3), (9, .ifCond .ne 5, 3), (12, .iconst (-1), 1), (13, .ireturn, 1), (14, .aload_n 0, 1), (15, .getfield 10, 3), (18, .getfield 104, 3), (21, .iload_n 1, 1), (22, .aaload, 1), (23, .astore_n 3, 1), (24, .iload_n 2, 1), (25, .tableswitch 60 0 4 #[35, 40, 45, 50, 55], 35), (60, .aload_n 3, 1), (61, .getfield 108, 3), (64, .ireturn, 1), (65, .aload_n 3, 1), (66, .getfield 113, 3), (69, .ireturn, 1), (70, .aload_n 3, 1), (71, .getfield 116, 3), (74, .ireturn, 1), (75, .aload_n 3, 1), (76, .getfield 119, 3), (79, .ireturn, 1), (80, .aload_n 3, 1), (81, .getfield 122, 3), (84, .ireturn, 1), (85, .aload_n 3, 1), (86, .iload_n 2, 1), (87, .invokevirtual 125, 3), (90, .ireturn, 1)]
set_option maxRecDepth 100000 in
theorem tk_TP_council : ∀ e ∈ t_TP_council, decode prog_1_method_6_code e.1 = .ok e.2 := by decide +kernel
def t_TP_deed : List XI := [(0, .aload_n 0, 1), (1, .getfield 10, 3), (4, .iconst 1, 1), (5, .iload_n 1, 1), (6, .invokevirtual 86, 3), (9, .ifCond .ne 6, 3), (12, .bipush (-2), 2), (14, .ireturn, 1), (15, .aload_n 0, 1), (16, .getfield 10, 3), (19, .getfield 129, 3), (22, .iload_n 1, 1), (23, .aaload, 1), (24, .astore 4, 2), (26, .iload_n 2, 1), (27, .iconst (-1), 1), (28, .if_icmp .ne 18, 3), (31, .iload_n 3, 1), (32, .ifCond .ne 11, 3), (35, .aload 4, 2), (37, .getfield 133, 3), (40, .goto 5, 3), (43, .bipush (-2), 2), (45, .ireturn, 1), (46, .aload 4, 2), (48, .iload_n 2, 1), (49, .iload_n 3, 1), (50, .invokevirtual 138, 3), (53, .ireturn, 1)]
set_option maxRecDepth 100000 in
theorem tk_TP_deed : ∀ e ∈ t_TP_deed, decode prog_1_method_7_code e.1 = .ok e.2 := by decide +kernel
def t_Ru_tell : List XI := [(0, .iload_n 1, 1), (1, .ifCond .lt 11, 3), (4, .iload_n 1, 1), (5, .aload_n 0, 1), (6, .getfield 24, 3), (9, .if_icmp .lt 6, 3), (12, .bipush (-2), 2), (14, .ireturn, 1), (15, .iload_n 2, 1), (16, .tableswitch 60 0 3 #[32, 39, 46, 53], 32), (48, .aload_n 0, 1), (49, .getfield 9, 3), (52, .iload_n 1, 1), (53, .iaload, 1), (54, .ireturn, 1), (55, .aload_n 0, 1), (56, .getfield 15, 3), (59, .iload_n 1, 1), (60, .iaload, 1), (61, .ireturn, 1), (62, .aload_n 0, 1), (63, .getfield 18, 3), (66, .iload_n 1, 1), (67, .iaload, 1), (68, .ireturn, 1), (69, .aload_n 0, 1), (70, .getfield 21, 3), (73, .iload_n 1, 1), (74, .iaload, 1), (75, .ireturn, 1), (76, .bipush (-2), 2), (78, .ireturn, 1)]
set_option maxRecDepth 100000 in
theorem tk_Ru_tell : ∀ e ∈ t_Ru_tell, decode prog_8_method_4_code e.1 = .ok e.2 := by decide +kernel
def t_TP_stop : List XI := [(0, .aload_n 0, 1), (1, .getfield 10, 3), (4, .iconst 0, 1), (5, .iload_n 1, 1), (6, .invokevirtual 86, 3), (9, .ifCond .eq 15, 3), (12, .aload_n 0, 1), (13, .getfield 10, 3), (16, .iconst 1, 1), (17, .iload_n 2, 1), (18, .invokevirtual 86, 3), (21, .ifCond .ne 5, 3), (24, .iconst (-1), 1), (25, .ireturn, 1), (26, .aload_n 0, 1), (27, .getfield 34, 3), (30, .aload_n 0, 1), (31, .getfield 10, 3), (34, .getfield 104, 3), (37, .iload_n 1, 1), (38, .aaload, 1), (39, .aload_n 0, 1), (40, .getfield 10, 3), (43, .getfield 129, 3), (46, .iload_n 2, 1), (47, .aaload, 1), (48, .bipush 40, 2), (50, .invokevirtual 142, 3), (53, .ireturn, 1)]
set_option maxRecDepth 100000 in
theorem tk_TP_stop : ∀ e ∈ t_TP_stop, decode prog_1_method_8_code e.1 = .ok e.2 := by decide +kernel
def t_TP_isPlace : List XI := [(0, .iload_n 0, 1), (1, .iconst 1, 1), (2, .if_icmp .lt 13, 3), (5, .iload_n 0, 1), (6, .bipush 12, 2), (8, .if_icmp .gt 7, 3), (11, .iconst 1, 1), (12, .goto 4, 3), (15, .iconst 0, 1), (16, .ireturn, 1)]
set_option maxRecDepth 100000 in
theorem tk_TP_isPlace : ∀ e ∈ t_TP_isPlace, decode prog_1_method_36_code e.1 = .ok e.2 := by decide +kernel
def t_Su_rootOf : List XI := [(0, .aload_n 1, 1), (1, .aload_n 0, 1), (2, .getfield 9, 3), (5, .invokestatic 18, 3), (8, .aload_n 0, 1), (9, .getfield 9, 3), (12, .iconst 1, 1), (13, .iaload, 1), (14, .ireturn, 1)]
set_option maxRecDepth 100000 in
theorem tk_Su_rootOf : ∀ e ∈ t_Su_rootOf, decode prog_9_method_3_code e.1 = .ok e.2 := by decide +kernel
def t_Su_build : List XI := [(0, .iconst 0, 1), (1, .istore_n 2, 1), (2, .iload_n 2, 1), (3, .bipush 8, 2), (5, .if_icmp .ge 18, 3), (8, .aload_n 1, 1), (9, .bipush 8, 2), (11, .iload_n 2, 1), (12, .iadd, 1), (13, .aload_n 0, 1), (14, .iload_n 2, 1), (15, .iaload, 1), (16, .iastore, 1), (17, .iinc 2 1, 3), (20, .goto (-18), 3), (23, .bipush 7, 2), (25, .istore_n 2, 1), (26, .iload_n 2, 1), (27, .iconst 1, 1), (28, .if_icmp .lt 38, 3), (31, .aload_n 1, 1), (32, .iload_n 2, 1), (33, .bipush 31, 2), (35, .aload_n 1, 1), (36, .iconst 2, 1), (37, .iload_n 2, 1), (38, .imul, 1), (39, .iaload, 1), (40, .imul, 1), (41, .bipush 17, 2), (43, .aload_n 1, 1), (44, .iconst 2, 1), (45, .iload_n 2, 1), (46, .imul, 1), (47, .iconst 1, 1), (48, .iadd, 1), (49, .iaload, 1), (50, .imul, 1), (51, .iadd, 1), (52, .bipush 7, 2), (54, .iadd, 1), (55, .sipush 9973, 3), (58, .irem, 1), (59, .iastore, 1), (60, .iinc 2 (-1), 3), (63, .goto (-37), 3), (66, .return_, 1)]
set_option maxRecDepth 100000 in
theorem tk_Su_build : ∀ e ∈ t_Su_build, decode prog_9_method_2_code e.1 = .ok e.2 := by decide +kernel
def t_TP_hasBit : List XI := [(0, .iload_n 0, 1), (1, .iload_n 1, 1), (2, .ishr, 1), (3, .iconst 1, 1), (4, .iand, 1), (5, .ifCond .eq 7, 3), (8, .iconst 1, 1), (9, .goto 4, 3), (12, .iconst 0, 1), (13, .ireturn, 1)]
set_option maxRecDepth 100000 in
theorem tk_TP_hasBit : ∀ e ∈ t_TP_hasBit, decode prog_1_method_37_code e.1 = .ok e.2 := by decide +kernel
def t_Su_fetch : List XI := [(0, .aload_n 1, 1), (1, .aload_n 0, 1), (2, .getfield 9, 3), (5, .invokestatic 18, 3), (8, .aload_n 2, 1), (9, .aload_n 0, 1), (10, .getfield 15, 3), (13, .invokestatic 18, 3), (16, .aload_n 0, 1), (17, .iconst 0, 1), (18, .putfield 22, 3), (21, .aload_n 0, 1), (22, .iconst 0, 1), (23, .putfield 26, 3), (26, .iconst 2, 1), (27, .istore_n 3, 1), (28, .iconst 1, 1), (29, .istore 4, 2), (31, .iload 4, 2), (33, .bipush 16, 2), (35, .if_icmp .ge 100, 3), (38, .iload_n 3, 1), (39, .iload 4, 2), (41, .invokestatic 29, 3), (44, .ifCond .ne 6, 3), (47, .goto 82, 3), (50, .aload_n 0, 1), (51, .dup, 1), (52, .getfield 22, 3), (55, .iconst 1, 1), (56, .iadd, 1), (57, .putfield 22, 3), (60, .aload_n 0, 1), (61, .getfield 9, 3), (64, .iload 4, 2), (66, .iaload, 1), (67, .aload_n 0, 1), (68, .getfield 15, 3), (71, .iload 4, 2), (73, .iaload, 1), (74, .if_icmp .ne 6, 3), (77, .goto 52, 3), (80, .iload 4, 2), (82, .bipush 8, 2), (84, .if_icmp .ge 15, 3), (87, .iload_n 3, 1), (88, .iconst 3, 1), (89, .iconst 2, 1), (90, .iload 4, 2), (92, .imul, 1), (93, .ishl, 1), (94, .ior, 1), (95, .istore_n 3, 1), (96, .goto 33, 3), (99, .aload_n 0, 1), (100, .dup, 1), (101, .getfield 26, 3), (104, .iconst 1, 1), (105, .iload 4, 2), (107, .bipush 8, 2), (109, .isub, 1), (110, .ishl, 1), (111, .ior, 1), (112, .putfield 26, 3), (115, .aload_n 1, 1), (116, .iload 4, 2), (118, .bipush 8, 2), (120, .isub, 1), (121, .aload_n 2, 1), (122, .iload 4, 2), (124, .bipush 8, 2), (126, .isub, 1), (127, .iaload, 1), (128, .iastore, 1), (129, .iinc 4 1, 3), (132, .goto (-101), 3), (135, .return_, 1)]
set_option maxRecDepth 100000 in
theorem tk_Su_fetch : ∀ e ∈ t_Su_fetch, decode prog_9_method_5_code e.1 = .ok e.2 := by decide +kernel
def t_TP_state : List XI := [(0, .aload_n 0, 1), (1, .iload_n 1, 1), (2, .iload_n 2, 1), (3, .iload_n 3, 1), (4, .invokevirtual 146, 3), (7, .ifCond .ne 6, 3), (10, .bipush (-2), 2), (12, .ireturn, 1), (13, .aload_n 0, 1), (14, .getfield 34, 3), (17, .iload 4, 2), (19, .iload 5, 2), (21, .invokevirtual 150, 3), (24, .ireturn, 1)]
set_option maxRecDepth 100000 in
theorem tk_TP_state : ∀ e ∈ t_TP_state, decode prog_1_method_9_code e.1 = .ok e.2 := by decide +kernel
def t_TP_reaches : List XI := [(0, .aload_n 0, 1), (1, .getfield 10, 3), (4, .iconst 0, 1), (5, .iload_n 1, 1), (6, .invokevirtual 86, 3), (9, .ifCond .eq 15, 3), (12, .aload_n 0, 1), (13, .getfield 10, 3), (16, .iconst 1, 1), (17, .iload_n 2, 1), (18, .invokevirtual 86, 3), (21, .ifCond .ne 5, 3), (24, .iconst 0, 1), (25, .ireturn, 1), (26, .iload_n 3, 1), (27, .ifCond .lt 37, 3), (30, .aload_n 0, 1), (31, .getfield 34, 3), (34, .aload_n 0, 1), (35, .getfield 10, 3), (38, .getfield 104, 3), (41, .iload_n 1, 1), (42, .aaload, 1), (43, .aload_n 0, 1), (44, .getfield 10, 3), (47, .getfield 129, 3), (50, .iload_n 2, 1), (51, .aaload, 1), (52, .iload_n 3, 1), (53, .invokevirtual 142, 3), (56, .iload_n 3, 1), (57, .if_icmp .ne 7, 3), (60, .iconst 1, 1), (61, .goto 4, 3), (64, .iconst 0, 1), (65, .ireturn, 1)]
set_option maxRecDepth 100000 in
theorem tk_TP_reaches : ∀ e ∈ t_TP_reaches, decode prog_1_method_31_code e.1 = .ok e.2 := by decide +kernel
def t_TP_made : List XI := [(0, .iload 4, 2), (2, .iconst 1, 1), (3, .if_icmp .lt 20, 3), (6, .iload 4, 2), (8, .bipush 9, 2), (10, .if_icmp .gt 13, 3), (13, .aload_n 0, 1), (14, .iload_n 1, 1), (15, .iload_n 2, 1), (16, .iload_n 3, 1), (17, .invokevirtual 146, 3), (20, .ifCond .ne 6, 3), (23, .bipush (-2), 2), (25, .ireturn, 1), (26, .aload_n 0, 1), (27, .getfield 34, 3), (30, .getfield 151, 3), (33, .iload 4, 2), (35, .aaload, 1), (36, .astore 6, 2), (38, .iload 5, 2), (40, .ifCond .ne 17, 3), (43, .aload 6, 2), (45, .getfield 155, 3), (48, .ifCond .eq 7, 3), (51, .iconst 1, 1), (52, .goto 4, 3), (55, .iconst 0, 1), (56, .ireturn, 1), (57, .iload 5, 2), (59, .iconst 1, 1), (60, .if_icmp .eq 9, 3), (63, .iload 5, 2), (65, .iconst 2, 1), (66, .if_icmp .ne 10, 3), (69, .iload 5, 2), (71, .iconst 1, 1), (72, .isub, 1), (73, .goto 5, 3), (76, .iload 5, 2), (78, .istore 7, 2), (80, .iload 7, 2), (82, .iload 5, 2), (84, .if_icmp .ne 11, 3), (87, .iload 5, 2), (89, .invokestatic 159, 3), (92, .ifCond .eq 23, 3), (95, .aload 6, 2), (97, .getfield 155, 3), (100, .ifCond .eq 13, 3), (103, .aload 6, 2), (105, .iload 7, 2), (107, .invokevirtual 163, 3), (110, .goto 4, 3), (113, .iconst (-1), 1), (114, .ireturn, 1), (115, .bipush (-2), 2), (117, .ireturn, 1)]
set_option maxRecDepth 100000 in
theorem tk_TP_made : ∀ e ∈ t_TP_made, decode prog_1_method_10_code e.1 = .ok e.2 := by decide +kernel
def t_TP_unlike : List XI := [(0, .aload_n 0, 1), (1, .iload_n 1, 1), (2, .iload_n 2, 1), (3, .invokevirtual 165, 3), (6, .iconst (-1), 1), (7, .if_icmp .ne 6, 3), (10, .bipush (-2), 2), (12, .ireturn, 1), (13, .iload_n 3, 1), (14, .tableswitch 62 0 3 #[30, 38, 46, 54], 30), (44, .aload_n 0, 1), (45, .getfield 34, 3), (48, .invokevirtual 168, 3), (51, .ireturn, 1), (52, .aload_n 0, 1), (53, .getfield 34, 3), (56, .invokevirtual 172, 3), (59, .ireturn, 1), (60, .aload_n 0, 1), (61, .getfield 34, 3), (64, .invokevirtual 175, 3), (67, .ireturn, 1), (68, .aload_n 0, 1), (69, .getfield 34, 3), (72, .invokevirtual 178, 3), (75, .ireturn, 1), (76, .bipush (-2), 2), (78, .ireturn, 1)]
set_option maxRecDepth 100000 in
theorem tk_TP_unlike : ∀ e ∈ t_TP_unlike, decode prog_1_method_11_code e.1 = .ok e.2 := by decide +kernel
def t_TP_quorum : List XI := [(0, .aload_n 0, 1), (1, .getfield 10, 3), (4, .iconst 0, 1), (5, .iload_n 1, 1), (6, .invokevirtual 86, 3), (9, .ifCond .ne 6, 3), (12, .bipush (-2), 2), (14, .ireturn, 1), (15, .aload_n 0, 1), (16, .getfield 10, 3), (19, .getfield 104, 3), (22, .iload_n 1, 1), (23, .aaload, 1), (24, .astore_n 3, 1), (25, .iload_n 2, 1), (26, .tableswitch 58 0 3 #[30, 35, 40, 45], 30), (56, .aload_n 3, 1), (57, .invokevirtual 181, 3), (60, .ireturn, 1), (61, .aload_n 3, 1), (62, .invokevirtual 184, 3), (65, .ireturn, 1), (66, .aload_n 3, 1), (67, .invokevirtual 187, 3), (70, .ireturn, 1), (71, .aload_n 3, 1), (72, .invokevirtual 190, 3), (75, .aload_n 3, 1), (76, .getfield 119, 3), (79, .invokestatic 193, 3), (82, .isub, 1), (83, .ireturn, 1), (84, .bipush (-2), 2), (86, .ireturn, 1)]
set_option maxRecDepth 100000 in
theorem tk_TP_quorum : ∀ e ∈ t_TP_quorum, decode prog_1_method_12_code e.1 = .ok e.2 := by decide +kernel
def t_TP_tree : List XI := [(0, .aload_n 0, 1), (1, .getfield 10, 3), (4, .iconst 0, 1), (5, .iload_n 1, 1), (6, .invokevirtual 86, 3), (9, .ifCond .eq 14, 3), (12, .iload_n 2, 1), (13, .iconst 1, 1), (14, .if_icmp .lt 9, 3), (17, .iload_n 2, 1), (18, .bipush 16, 2), (20, .if_icmp .lt 5, 3), (23, .iconst (-1), 1), (24, .ireturn, 1), (25, .aload_n 0, 1), (26, .getfield 10, 3), (29, .getfield 104, 3), (32, .iload_n 1, 1), (33, .aaload, 1), (34, .getfield 198, 3), (37, .aload_n 0, 1), (38, .getfield 55, 3), (41, .getfield 201, 3), (44, .invokestatic 204, 3), (47, .aload_n 0, 1), (48, .getfield 55, 3), (51, .getfield 201, 3), (54, .iload_n 2, 1), (55, .iaload, 1), (56, .ireturn, 1)]
set_option maxRecDepth 100000 in
theorem tk_TP_tree : ∀ e ∈ t_TP_tree, decode prog_1_method_13_code e.1 = .ok e.2 := by decide +kernel
def t_TP_differ : List XI := [(0, .aload_n 0, 1), (1, .getfield 10, 3), (4, .iconst 0, 1), (5, .iload_n 1, 1), (6, .invokevirtual 86, 3), (9, .ifCond .eq 15, 3), (12, .aload_n 0, 1), (13, .getfield 10, 3), (16, .iconst 0, 1), (17, .iload_n 2, 1), (18, .invokevirtual 86, 3), (21, .ifCond .ne 5, 3), (24, .iconst (-1), 1), (25, .ireturn, 1), (26, .aload_n 0, 1), (27, .getfield 10, 3), (30, .getfield 104, 3), (33, .iload_n 1, 1), (34, .aaload, 1), (35, .getfield 198, 3), (38, .aload_n 0, 1), (39, .getfield 66, 3), (42, .invokestatic 208, 3), (45, .aload_n 0, 1), (46, .getfield 55, 3), (49, .aload_n 0, 1), (50, .getfield 66, 3), (53, .aload_n 0, 1), (54, .getfield 10, 3), (57, .getfield 104, 3), (60, .iload_n 2, 1), (61, .aaload, 1), (62, .getfield 198, 3), (65, .invokevirtual 211, 3), (68, .iload_n 3, 1), (69, .tableswitch 71 0 2 #[27, 35, 43], 27), (96, .aload_n 0, 1), (97, .getfield 55, 3), (100, .getfield 214, 3), (103, .ireturn, 1), (104, .aload_n 0, 1), (105, .getfield 55, 3), (108, .getfield 217, 3), (111, .ireturn, 1), (112, .aload_n 0, 1), (113, .getfield 66, 3), (116, .aload_n 0, 1), (117, .getfield 10, 3), (120, .getfield 104, 3), (123, .iload_n 2, 1), (124, .aaload, 1), (125, .getfield 198, 3), (128, .invokestatic 220, 3), (131, .ifCond .eq 7, 3), (134, .iconst 1, 1), (135, .goto 4, 3), (138, .iconst 0, 1), (139, .ireturn, 1), (140, .iconst (-1), 1), (141, .ireturn, 1)]
set_option maxRecDepth 100000 in
theorem tk_TP_differ : ∀ e ∈ t_TP_differ, decode prog_1_method_14_code e.1 = .ok e.2 := by decide +kernel
def t_TP_sameAccounts : List XI := [(0, .iconst 0, 1), (1, .istore_n 2, 1), (2, .iload_n 2, 1), (3, .bipush 8, 2), (5, .if_icmp .ge 20, 3), (8, .aload_n 0, 1), (9, .iload_n 2, 1), (10, .iaload, 1), (11, .aload_n 1, 1), (12, .iload_n 2, 1), (13, .iaload, 1), (14, .if_icmp .eq 5, 3), (17, .iconst 0, 1), (18, .ireturn, 1), (19, .iinc 2 1, 3), (22, .goto (-20), 3), (25, .iconst 1, 1), (26, .ireturn, 1)]
set_option maxRecDepth 100000 in
theorem tk_TP_sameAccounts : ∀ e ∈ t_TP_sameAccounts, decode prog_1_method_39_code e.1 = .ok e.2 := by decide +kernel
def t_TP_play : List XI := [(0, .aload_n 0, 1), (1, .getfield 10, 3), (4, .iconst 0, 1), (5, .iload_n 1, 1), (6, .invokevirtual 86, 3), (9, .ifCond .eq 14, 3), (12, .iload_n 3, 1), (13, .iconst 1, 1), (14, .if_icmp .lt 9, 3), (17, .iload_n 3, 1), (18, .bipush 10, 2), (20, .if_icmp .le 5, 3), (23, .iconst (-1), 1), (24, .ireturn, 1), (25, .aload_n 0, 1), (26, .getfield 10, 3), (29, .getfield 104, 3), (32, .iload_n 1, 1), (33, .aaload, 1), (34, .astore 5, 2), (36, .aload 5, 2), (38, .iload_n 2, 1), (39, .invokevirtual 224, 3), (42, .ifCond .ne 5, 3), (45, .iconst (-1), 1), (46, .ireturn, 1), (47, .aload_n 0, 1), (48, .getfield 41, 3), (51, .aload 5, 2), (53, .aload 5, 2), (55, .getfield 113, 3), (58, .aload 5, 2), (60, .getfield 119, 3), (63, .invokevirtual 226, 3), (66, .iload 4, 2), (68, .ifCond .eq 15, 3), (71, .aload_n 0, 1), (72, .getfield 41, 3), (75, .iload_n 2, 1), (76, .iload_n 3, 1), (77, .invokevirtual 230, 3), (80, .goto 14, 3), (83, .aload_n 0, 1), (84, .getfield 41, 3), (87, .getfield 233, 3), (90, .iload_n 2, 1), (91, .aaload, 1), (92, .iload_n 3, 1), (93, .iaload, 1), (94, .istore 6, 2), (96, .iload 6, 2), (98, .ldc 237, 2), (100, .if_icmp .ne 7, 3), (103, .iconst (-1), 1), (104, .goto 5, 3), (107, .iload 6, 2), (109, .ireturn, 1)]
set_option maxRecDepth 100000 in
theorem tk_TP_play : ∀ e ∈ t_TP_play, decode prog_1_method_15_code e.1 = .ok e.2 := by decide +kernel
def t_Tt_plan : List XI := [(0, .aload_n 0, 1), (1, .getfield 32, 3), (4, .aload_n 1, 1), (5, .invokevirtual 36, 3), (8, .aload_n 0, 1), (9, .getfield 32, 3), (12, .iload_n 2, 1), (13, .putfield 40, 3), (16, .aload_n 0, 1), (17, .getfield 32, 3), (20, .iload_n 3, 1), (21, .putfield 44, 3), (24, .aload_n 0, 1), (25, .iconst 0, 1), (26, .putfield 47, 3), (29, .aload_n 0, 1), (30, .iconst (-1), 1), (31, .putfield 50, 3), (34, .iconst 0, 1), (35, .istore 4, 2), (37, .iload 4, 2), (39, .bipush 7, 2), (41, .if_icmp .ge 77, 3), (44, .aload_n 0, 1), (45, .getfield 11, 3), (48, .iload 4, 2), (50, .aaload, 1), (51, .ldc 53, 2), (53, .invokestatic 54, 3), (56, .aload_n 0, 1), (57, .getfield 16, 3), (60, .iload 4, 2), (62, .aaload, 1), (63, .ldc 53, 2), (65, .invokestatic 54, 3), (68, .aload_n 0, 1), (69, .getfield 19, 3), (72, .iload 4, 2), (74, .aaload, 1), (75, .ldc 53, 2), (77, .invokestatic 54, 3), (80, .aload_n 0, 1), (81, .getfield 22, 3), (84, .iload 4, 2), (86, .aaload, 1), (87, .ldc 53, 2), (89, .invokestatic 54, 3), (92, .aload_n 0, 1), (93, .getfield 11, 3), (96, .iload 4, 2), (98, .aaload, 1), (99, .iconst 0, 1), (100, .iconst 0, 1), (101, .iastore, 1), (102, .aload_n 0, 1), (103, .getfield 16, 3), (106, .iload 4, 2), (108, .aaload, 1), (109, .iconst 0, 1), (110, .iconst 0, 1), (111, .iastore, 1), (112, .iinc 4 1, 3), (115, .goto (-78), 3), (118, .aload_n 0, 1), (119, .getfield 32, 3), (122, .iconst 0, 1), (123, .invokevirtual 60, 3), (126, .ifCond .ne 4, 3), (129, .return_, 1), (130, .iconst 1, 1), (131, .istore 4, 2), (133, .iload 4, 2), (135, .aload_n 0, 1), (136, .getfield 32, 3), (139, .getfield 64, 3), (142, .if_icmp .gt 46, 3), (145, .iload 4, 2), (147, .bipush 10, 2), (149, .if_icmp .gt 39, 3), (152, .aload_n 0, 1), (153, .iload 4, 2), (155, .invokevirtual 67, 3), (158, .aload_n 0, 1), (159, .iload 4, 2), (161, .invokevirtual 71, 3), (164, .aload_n 0, 1), (165, .iload 4, 2), (167, .invokevirtual 74, 3), (170, .aload_n 0, 1), (171, .iload 4, 2), (173, .invokevirtual 77, 3), (176, .aload_n 0, 1), (177, .iload 4, 2), (179, .invokevirtual 80, 3), (182, .iinc 4 1, 3), (185, .goto (-52), 3), (188, .return_, 1)]
set_option maxRecDepth 100000 in
theorem tk_Tt_plan : ∀ e ∈ t_Tt_plan, decode prog_11_method_2_code e.1 = .ok e.2 := by decide +kernel
def t_Tt_acceptAll : List XI := [(0, .iload_n 1, 1), (1, .iconst 1, 1), (2, .isub, 1), (3, .aload_n 0, 1), (4, .getfield 16, 3), (7, .iconst 0, 1), (8, .aaload, 1), (9, .iload_n 1, 1), (10, .iconst 1, 1), (11, .isub, 1), (12, .iaload, 1), (13, .invokestatic 83, 3), (16, .istore_n 2, 1), (17, .aload_n 0, 1), (18, .getfield 16, 3), (21, .iconst 0, 1), (22, .aaload, 1), (23, .iload_n 1, 1), (24, .iload_n 2, 1), (25, .aload_n 0, 1), (26, .iconst 0, 1), (27, .iload_n 1, 1), (28, .aload_n 0, 1), (29, .getfield 32, 3), (32, .getfield 40, 3), (35, .isub, 1), (36, .invokevirtual 89, 3), (39, .invokestatic 83, 3), (42, .invokestatic 92, 3), (45, .iastore, 1), (46, .iconst 1, 1), (47, .istore_n 3, 1), (48, .iload_n 3, 1), (49, .aload_n 0, 1), (50, .getfield 32, 3), (53, .invokevirtual 96, 3), (56, .if_icmp .ge 72, 3), (59, .aload_n 0, 1), (60, .getfield 32, 3), (63, .iload_n 3, 1), (64, .invokevirtual 60, 3), (67, .ifCond .eq 55, 3), (70, .aload_n 0, 1), (71, .getfield 16, 3), (74, .iconst 0, 1), (75, .aaload, 1), (76, .iload_n 1, 1), (77, .iaload, 1), (78, .aload_n 0, 1), (79, .getfield 32, 3), (82, .getfield 100, 3), (85, .iconst 0, 1), (86, .aaload, 1), (87, .iload_n 3, 1), (88, .iaload, 1), (89, .iadd, 1), (90, .istore 4, 2), (92, .aload_n 0, 1), (93, .getfield 16, 3), (96, .iload_n 3, 1), (97, .aaload, 1), (98, .iload_n 1, 1), (99, .iload 4, 2), (101, .aload_n 0, 1), (102, .iload_n 3, 1), (103, .iload_n 1, 1), (104, .aload_n 0, 1), (105, .getfield 32, 3), (108, .getfield 40, 3), (111, .isub, 1), (112, .invokevirtual 89, 3), (115, .invokestatic 83, 3), (118, .invokestatic 92, 3), (121, .iastore, 1), (122, .iinc 3 1, 3), (125, .goto (-77), 3), (128, .return_, 1)]
set_option maxRecDepth 100000 in
theorem tk_Tt_acceptAll : ∀ e ∈ t_Tt_acceptAll, decode prog_11_method_4_code e.1 = .ok e.2 := by decide +kernel
def t_Tt_lowAt : List XI := [(0, .iload_n 2, 1), (1, .ifCond .gt 5, 3), (4, .iconst 0, 1), (5, .ireturn, 1), (6, .ldc 53, 2), (8, .istore_n 3, 1), (9, .iload_n 2, 1), (10, .istore 4, 2), (12, .iload 4, 2), (14, .bipush 10, 2), (16, .if_icmp .gt 33, 3), (19, .iload_n 1, 1), (20, .ifCond .lt 29, 3), (23, .iload_n 1, 1), (24, .bipush 7, 2), (26, .if_icmp .ge 23, 3), (29, .iload_n 3, 1), (30, .aload_n 0, 1), (31, .getfield 22, 3), (34, .iload_n 1, 1), (35, .aaload, 1), (36, .iload 4, 2), (38, .iaload, 1), (39, .invokestatic 122, 3), (42, .istore_n 3, 1), (43, .iinc 4 1, 3), (46, .goto (-34), 3), (49, .iload_n 3, 1), (50, .ireturn, 1)]
set_option maxRecDepth 100000 in
theorem tk_Tt_lowAt : ∀ e ∈ t_Tt_lowAt, decode prog_11_method_12_code e.1 = .ok e.2 := by decide +kernel
def t_Tt_bounded : List XI := [(0, .iload_n 0, 1), (1, .sipush 400, 3), (4, .if_icmp .le 8, 3), (7, .ldc 53, 2), (9, .goto 4, 3), (12, .iload_n 0, 1), (13, .ireturn, 1)]
set_option maxRecDepth 100000 in
theorem tk_Tt_bounded : ∀ e ∈ t_Tt_bounded, decode prog_11_method_3_code e.1 = .ok e.2 := by decide +kernel
def t_Tt_prepareAll : List XI := [(0, .iconst 0, 1), (1, .istore_n 2, 1), (2, .iload_n 2, 1), (3, .aload_n 0, 1), (4, .getfield 32, 3), (7, .invokevirtual 96, 3), (10, .if_icmp .ge 56, 3), (13, .aload_n 0, 1), (14, .aload_n 0, 1), (15, .getfield 16, 3), (18, .iload_n 2, 1), (19, .iload_n 1, 1), (20, .invokevirtual 103, 3), (23, .aload_n 0, 1), (24, .getfield 32, 3), (27, .iload_n 2, 1), (28, .invokevirtual 60, 3), (31, .ifCond .eq 29, 3), (34, .aload_n 0, 1), (35, .getfield 19, 3), (38, .iload_n 2, 1), (39, .aaload, 1), (40, .iload_n 1, 1), (41, .aload_n 0, 1), (42, .getfield 16, 3), (45, .iload_n 2, 1), (46, .aaload, 1), (47, .iload_n 1, 1), (48, .iaload, 1), (49, .aload_n 0, 1), (50, .invokevirtual 107, 3), (53, .invokestatic 83, 3), (56, .invokestatic 92, 3), (59, .iastore, 1), (60, .iinc 2 1, 3), (63, .goto (-61), 3), (66, .return_, 1)]
set_option maxRecDepth 100000 in
theorem tk_Tt_prepareAll : ∀ e ∈ t_Tt_prepareAll, decode prog_11_method_5_code e.1 = .ok e.2 := by decide +kernel
def t_Tt_fillRow : List XI := [(0, .aload_n 0, 1), (1, .getfield 25, 3), (4, .ldc 53, 2), (6, .invokestatic 54, 3), (9, .iconst 0, 1), (10, .istore 4, 2), (12, .iload 4, 2), (14, .aload_n 0, 1), (15, .getfield 32, 3), (18, .invokevirtual 96, 3), (21, .if_icmp .ge 45, 3), (24, .aload_n 0, 1), (25, .getfield 25, 3), (28, .iload 4, 2), (30, .aload_n 1, 1), (31, .iload 4, 2), (33, .aaload, 1), (34, .iload_n 3, 1), (35, .iaload, 1), (36, .iload 4, 2), (38, .iload_n 2, 1), (39, .if_icmp .ne 7, 3), (42, .iconst 0, 1), (43, .goto 15, 3), (46, .aload_n 0, 1), (47, .getfield 32, 3), (50, .getfield 100, 3), (53, .iload 4, 2), (55, .aaload, 1), (56, .iload_n 2, 1), (57, .iaload, 1), (58, .iadd, 1), (59, .iastore, 1), (60, .iinc 4 1, 3), (63, .goto (-51), 3), (66, .return_, 1)]
set_option maxRecDepth 100000 in
theorem tk_Tt_fillRow : ∀ e ∈ t_Tt_fillRow, decode prog_11_method_9_code e.1 = .ok e.2 := by decide +kernel
def t_Tt_quorumth : List XI := [(0, .aload_n 0, 1), (1, .aload_n 0, 1), (2, .getfield 32, 3), (5, .invokevirtual 116, 3), (8, .invokevirtual 119, 3), (11, .ireturn, 1)]
set_option maxRecDepth 100000 in
theorem tk_Tt_quorumth : ∀ e ∈ t_Tt_quorumth, decode prog_11_method_10_code e.1 = .ok e.2 := by decide +kernel
def t_Tt_least : List XI := [(0, .ldc 53, 2), (2, .istore_n 2, 1), (3, .iconst 0, 1), (4, .istore_n 3, 1), (5, .iload_n 3, 1), (6, .bipush 7, 2), (8, .if_icmp .ge 64, 3), (11, .iconst 0, 1), (12, .istore 4, 2), (14, .iconst 0, 1), (15, .istore 5, 2), (17, .iload 5, 2), (19, .bipush 7, 2), (21, .if_icmp .ge 28, 3), (24, .aload_n 0, 1), (25, .getfield 25, 3), (28, .iload 5, 2), (30, .iaload, 1), (31, .aload_n 0, 1), (32, .getfield 25, 3), (35, .iload_n 3, 1), (36, .iaload, 1), (37, .if_icmp .gt 6, 3), (40, .iinc 4 1, 3), (43, .iinc 5 1, 3), (46, .goto (-29), 3), (49, .iload 4, 2), (51, .iload_n 1, 1), (52, .if_icmp .lt 14, 3), (55, .iload_n 2, 1), (56, .aload_n 0, 1), (57, .getfield 25, 3), (60, .iload_n 3, 1), (61, .iaload, 1), (62, .invokestatic 122, 3), (65, .istore_n 2, 1), (66, .iinc 3 1, 3), (69, .goto (-64), 3), (72, .iload_n 2, 1), (73, .ireturn, 1)]
set_option maxRecDepth 100000 in
theorem tk_Tt_least : ∀ e ∈ t_Tt_least, decode prog_11_method_11_code e.1 = .ok e.2 := by decide +kernel
def t_Tt_runAll : List XI := [(0, .iconst 0, 1), (1, .istore_n 2, 1), (2, .iload_n 2, 1), (3, .aload_n 0, 1), (4, .getfield 32, 3), (7, .invokevirtual 96, 3), (10, .if_icmp .ge 71, 3), (13, .aload_n 0, 1), (14, .aload_n 0, 1), (15, .getfield 19, 3), (18, .iload_n 2, 1), (19, .iload_n 1, 1), (20, .invokevirtual 103, 3), (23, .aload_n 0, 1), (24, .getfield 32, 3), (27, .iload_n 2, 1), (28, .invokevirtual 60, 3), (31, .ifCond .eq 44, 3), (34, .aload_n 0, 1), (35, .getfield 19, 3), (38, .iload_n 2, 1), (39, .aaload, 1), (40, .iload_n 1, 1), (41, .iaload, 1), (42, .aload_n 0, 1), (43, .invokevirtual 107, 3), (46, .invokestatic 83, 3), (49, .istore_n 3, 1), (50, .aload_n 0, 1), (51, .getfield 11, 3), (54, .iload_n 2, 1), (55, .aaload, 1), (56, .iload_n 1, 1), (57, .iload_n 3, 1), (58, .aload_n 0, 1), (59, .getfield 11, 3), (62, .iload_n 2, 1), (63, .aaload, 1), (64, .iload_n 1, 1), (65, .iconst 1, 1), (66, .isub, 1), (67, .iaload, 1), (68, .invokestatic 83, 3), (71, .invokestatic 92, 3), (74, .iastore, 1), (75, .iinc 2 1, 3), (78, .goto (-76), 3), (81, .return_, 1)]
set_option maxRecDepth 100000 in
theorem tk_Tt_runAll : ∀ e ∈ t_Tt_runAll, decode prog_11_method_6_code e.1 = .ok e.2 := by decide +kernel
def t_Tt_cutAll : List XI := [(0, .iconst 0, 1), (1, .istore_n 2, 1), (2, .iload_n 2, 1), (3, .aload_n 0, 1), (4, .getfield 32, 3), (7, .invokevirtual 96, 3), (10, .if_icmp .ge 64, 3), (13, .aload_n 0, 1), (14, .iload_n 1, 1), (15, .invokevirtual 113, 3), (18, .ifCond .eq 56, 3), (21, .aload_n 0, 1), (22, .aload_n 0, 1), (23, .getfield 11, 3), (26, .iload_n 2, 1), (27, .iload_n 1, 1), (28, .invokevirtual 103, 3), (31, .aload_n 0, 1), (32, .getfield 32, 3), (35, .iload_n 2, 1), (36, .invokevirtual 60, 3), (39, .ifCond .eq 29, 3), (42, .aload_n 0, 1), (43, .getfield 22, 3), (46, .iload_n 2, 1), (47, .aaload, 1), (48, .iload_n 1, 1), (49, .aload_n 0, 1), (50, .getfield 11, 3), (53, .iload_n 2, 1), (54, .aaload, 1), (55, .iload_n 1, 1), (56, .iaload, 1), (57, .aload_n 0, 1), (58, .invokevirtual 107, 3), (61, .invokestatic 83, 3), (64, .invokestatic 92, 3), (67, .iastore, 1), (68, .iinc 2 1, 3), (71, .goto (-69), 3), (74, .return_, 1)]
set_option maxRecDepth 100000 in
theorem tk_Tt_cutAll : ∀ e ∈ t_Tt_cutAll, decode prog_11_method_8_code e.1 = .ok e.2 := by decide +kernel
def t_Tt_isCheckpoint : List XI := [(0, .aload_n 0, 1), (1, .getfield 32, 3), (4, .getfield 110, 3), (7, .ifCond .le 19, 3), (10, .iload_n 1, 1), (11, .aload_n 0, 1), (12, .getfield 32, 3), (15, .getfield 110, 3), (18, .irem, 1), (19, .ifCond .ne 7, 3), (22, .iconst 1, 1), (23, .goto 4, 3), (26, .iconst 0, 1), (27, .ireturn, 1)]
set_option maxRecDepth 100000 in
theorem tk_Tt_isCheckpoint : ∀ e ∈ t_Tt_isCheckpoint, decode prog_11_method_7_code e.1 = .ok e.2 := by decide +kernel
def t_Tt_sendAll : List XI := [(0, .iconst 0, 1), (1, .istore_n 2, 1), (2, .iload_n 2, 1), (3, .aload_n 0, 1), (4, .getfield 32, 3), (7, .invokevirtual 96, 3), (10, .if_icmp .ge 56, 3), (13, .aload_n 0, 1), (14, .iload_n 2, 1), (15, .aload_n 0, 1), (16, .getfield 16, 3), (19, .iload_n 2, 1), (20, .aaload, 1), (21, .iload_n 1, 1), (22, .iaload, 1), (23, .invokevirtual 125, 3), (26, .aload_n 0, 1), (27, .iload_n 2, 1), (28, .aload_n 0, 1), (29, .getfield 19, 3), (32, .iload_n 2, 1), (33, .aaload, 1), (34, .iload_n 1, 1), (35, .iaload, 1), (36, .invokevirtual 125, 3), (39, .aload_n 0, 1), (40, .iload_n 1, 1), (41, .invokevirtual 113, 3), (44, .ifCond .eq 16, 3), (47, .aload_n 0, 1), (48, .iload_n 2, 1), (49, .aload_n 0, 1), (50, .getfield 11, 3), (53, .iload_n 2, 1), (54, .aaload, 1), (55, .iload_n 1, 1), (56, .iaload, 1), (57, .invokevirtual 125, 3), (60, .iinc 2 1, 3), (63, .goto (-61), 3), (66, .return_, 1)]
set_option maxRecDepth 100000 in
theorem tk_Tt_sendAll : ∀ e ∈ t_Tt_sendAll, decode prog_11_method_13_code e.1 = .ok e.2 := by decide +kernel
def t_Tt_send : List XI := [(0, .iconst 0, 1), (1, .istore_n 3, 1), (2, .iload_n 3, 1), (3, .aload_n 0, 1), (4, .getfield 32, 3), (7, .invokevirtual 96, 3), (10, .if_icmp .ge 81, 3), (13, .iload_n 2, 1), (14, .sipush 400, 3), (17, .if_icmp .gt 74, 3), (20, .iload_n 3, 1), (21, .iload_n 1, 1), (22, .if_icmp .eq 63, 3), (25, .aload_n 0, 1), (26, .getfield 32, 3), (29, .iload_n 3, 1), (30, .invokevirtual 60, 3), (33, .ifCond .ne 6, 3), (36, .goto 49, 3), (39, .aload_n 0, 1), (40, .dup, 1), (41, .getfield 47, 3), (44, .iconst 1, 1), (45, .iadd, 1), (46, .putfield 47, 3), (49, .iload_n 2, 1), (50, .aload_n 0, 1), (51, .getfield 32, 3), (54, .getfield 100, 3), (57, .iload_n 1, 1), (58, .aaload, 1), (59, .iload_n 3, 1), (60, .iaload, 1), (61, .iadd, 1), (62, .istore 4, 2), (64, .iload 4, 2), (66, .sipush 400, 3), (69, .if_icmp .gt 16, 3), (72, .aload_n 0, 1), (73, .aload_n 0, 1), (74, .getfield 50, 3), (77, .iload 4, 2), (79, .invokestatic 83, 3), (82, .putfield 50, 3), (85, .iinc 3 1, 3), (88, .goto (-86), 3), (91, .return_, 1)]
set_option maxRecDepth 100000 in
theorem tk_Tt_send : ∀ e ∈ t_Tt_send, decode prog_11_method_14_code e.1 = .ok e.2 := by decide +kernel
def t_TP_reply : List XI := [(0, .aload_n 0, 1), (1, .getfield 10, 3), (4, .iconst 2, 1), (5, .iload_n 1, 1), (6, .invokevirtual 86, 3), (9, .ifCond .ne 6, 3), (12, .bipush (-2), 2), (14, .ireturn, 1), (15, .aload_n 0, 1), (16, .getfield 10, 3), (19, .getfield 238, 3), (22, .iload_n 1, 1), (23, .aaload, 1), (24, .astore 4, 2), (26, .iload_n 2, 1), (27, .iconst (-1), 1), (28, .if_icmp .ne 18, 3), (31, .iload_n 3, 1), (32, .ifCond .ne 11, 3), (35, .aload 4, 2), (37, .getfield 242, 3), (40, .goto 5, 3), (43, .bipush (-2), 2), (45, .ireturn, 1), (46, .aload 4, 2), (48, .iload_n 2, 1), (49, .iload_n 3, 1), (50, .invokevirtual 245, 3), (53, .ireturn, 1)]
set_option maxRecDepth 100000 in
theorem tk_TP_reply : ∀ e ∈ t_TP_reply, decode prog_1_method_16_code e.1 = .ok e.2 := by decide +kernel
def t_Rp_tell : List XI := [(0, .iload_n 1, 1), (1, .ifCond .lt 11, 3), (4, .iload_n 1, 1), (5, .aload_n 0, 1), (6, .getfield 21, 3), (9, .if_icmp .lt 6, 3), (12, .bipush (-2), 2), (14, .ireturn, 1), (15, .iload_n 2, 1), (16, .tableswitch 49 0 2 #[28, 35, 42], 28), (44, .aload_n 0, 1), (45, .getfield 9, 3), (48, .iload_n 1, 1), (49, .iaload, 1), (50, .ireturn, 1), (51, .aload_n 0, 1), (52, .getfield 15, 3), (55, .iload_n 1, 1), (56, .iaload, 1), (57, .ireturn, 1), (58, .aload_n 0, 1), (59, .getfield 18, 3), (62, .iload_n 1, 1), (63, .iaload, 1), (64, .ireturn, 1), (65, .bipush (-2), 2), (67, .ireturn, 1)]
set_option maxRecDepth 100000 in
theorem tk_Rp_tell : ∀ e ∈ t_Rp_tell, decode prog_7_method_4_code e.1 = .ok e.2 := by decide +kernel
def t_TP_match : List XI := [(0, .aload_n 0, 1), (1, .iload_n 1, 1), (2, .iload_n 2, 1), (3, .invokevirtual 246, 3), (6, .ifCond .ne 5, 3), (9, .iconst (-1), 1), (10, .ireturn, 1), (11, .iload_n 3, 1), (12, .tableswitch 52 0 2 #[28, 36, 44], 28), (40, .aload_n 0, 1), (41, .getfield 48, 3), (44, .getfield 249, 3), (47, .ireturn, 1), (48, .aload_n 0, 1), (49, .getfield 48, 3), (52, .getfield 252, 3), (55, .ireturn, 1), (56, .aload_n 0, 1), (57, .getfield 48, 3), (60, .getfield 255, 3), (63, .ireturn, 1), (64, .iconst (-1), 1), (65, .ireturn, 1)]
set_option maxRecDepth 100000 in
theorem tk_TP_match : ∀ e ∈ t_TP_match, decode prog_1_method_17_code e.1 = .ok e.2 := by decide +kernel
def t_TP_tallies : List XI := [(0, .aload_n 0, 1), (1, .getfield 10, 3), (4, .iconst 0, 1), (5, .iload_n 1, 1), (6, .invokevirtual 86, 3), (9, .ifCond .eq 15, 3), (12, .aload_n 0, 1), (13, .getfield 10, 3), (16, .iconst 2, 1), (17, .iload_n 2, 1), (18, .invokevirtual 86, 3), (21, .ifCond .ne 5, 3), (24, .iconst 0, 1), (25, .ireturn, 1), (26, .aload_n 0, 1), (27, .getfield 48, 3), (30, .aload_n 0, 1), (31, .getfield 10, 3), (34, .getfield 104, 3), (37, .iload_n 1, 1), (38, .aaload, 1), (39, .aload_n 0, 1), (40, .getfield 10, 3), (43, .getfield 238, 3), (46, .iload_n 2, 1), (47, .aaload, 1), (48, .invokevirtual 354, 3), (51, .iconst 1, 1), (52, .ireturn, 1)]
set_option maxRecDepth 100000 in
theorem tk_TP_tallies : ∀ e ∈ t_TP_tallies, decode prog_1_method_32_code e.1 = .ok e.2 := by decide +kernel
def t_Ta_hear : List XI := [(0, .aload_n 0, 1), (1, .iconst (-1), 1), (2, .putfield 18, 3), (5, .aload_n 0, 1), (6, .iconst (-1), 1), (7, .putfield 22, 3), (10, .aload_n 0, 1), (11, .iconst (-1), 1), (12, .putfield 25, 3), (15, .aload_n 0, 1), (16, .iconst 0, 1), (17, .putfield 28, 3), (20, .aload_n 0, 1), (21, .aload_n 1, 1), (22, .getfield 31, 3), (25, .putfield 36, 3), (28, .aload_n 0, 1), (29, .aload_n 1, 1), (30, .invokevirtual 37, 3), (33, .putfield 41, 3), (36, .aload_n 0, 1), (37, .getfield 9, 3), (40, .iconst (-1), 1), (41, .invokestatic 44, 3), (44, .aload_n 0, 1), (45, .getfield 15, 3), (48, .iconst (-1), 1), (49, .invokestatic 44, 3), (52, .iconst 0, 1), (53, .istore_n 3, 1), (54, .iload_n 3, 1), (55, .aload_n 2, 1), (56, .getfield 50, 3), (59, .if_icmp .ge 55, 3), (62, .aload_n 2, 1), (63, .getfield 55, 3), (66, .iload_n 3, 1), (67, .iaload, 1), (68, .istore 4, 2), (70, .aload_n 1, 1), (71, .iload 4, 2), (73, .invokevirtual 57, 3), (76, .ifCond .eq 32, 3), (79, .aload_n 0, 1), (80, .iload 4, 2), (82, .aload_n 2, 1), (83, .getfield 61, 3), (86, .iload_n 3, 1), (87, .iaload, 1), (88, .aload_n 2, 1), (89, .getfield 62, 3), (92, .iload_n 3, 1), (93, .iaload, 1), (94, .invokevirtual 63, 3), (97, .aload_n 0, 1), (98, .iload_n 3, 1), (99, .aload_n 2, 1), (100, .getfield 62, 3), (103, .iload_n 3, 1), (104, .iaload, 1), (105, .invokevirtual 67, 3), (108, .iinc 3 1, 3), (111, .goto (-57), 3), (114, .return_, 1)]
set_option maxRecDepth 100000 in
theorem tk_Ta_hear : ∀ e ∈ t_Ta_hear, decode prog_10_method_2_code e.1 = .ok e.2 := by decide +kernel
def t_Ta_hearOne : List XI := [(0, .aload_n 0, 1), (1, .getfield 15, 3), (4, .iload_n 1, 1), (5, .iaload, 1), (6, .iconst (-1), 1), (7, .if_icmp .eq 25, 3), (10, .aload_n 0, 1), (11, .getfield 15, 3), (14, .iload_n 1, 1), (15, .iaload, 1), (16, .iload_n 3, 1), (17, .if_icmp .eq 15, 3), (20, .aload_n 0, 1), (21, .dup, 1), (22, .getfield 28, 3), (25, .iconst 1, 1), (26, .iload_n 1, 1), (27, .ishl, 1), (28, .ior, 1), (29, .putfield 28, 3), (32, .aload_n 0, 1), (33, .getfield 9, 3), (36, .iload_n 1, 1), (37, .iload_n 2, 1), (38, .iastore, 1), (39, .aload_n 0, 1), (40, .getfield 15, 3), (43, .iload_n 1, 1), (44, .iload_n 3, 1), (45, .iastore, 1), (46, .return_, 1)]
set_option maxRecDepth 100000 in
theorem tk_Ta_hearOne : ∀ e ∈ t_Ta_hearOne, decode prog_10_method_3_code e.1 = .ok e.2 := by decide +kernel
def t_Ta_noteMatch : List XI := [(0, .aload_n 0, 1), (1, .iload_n 2, 1), (2, .invokevirtual 71, 3), (5, .istore_n 3, 1), (6, .aload_n 0, 1), (7, .getfield 18, 3), (10, .iconst (-1), 1), (11, .if_icmp .ne 14, 3), (14, .iload_n 3, 1), (15, .invokestatic 75, 3), (18, .aload_n 0, 1), (19, .getfield 36, 3), (22, .if_icmp .gt 4, 3), (25, .return_, 1), (26, .aload_n 0, 1), (27, .iload_n 1, 1), (28, .putfield 18, 3), (31, .aload_n 0, 1), (32, .iload_n 2, 1), (33, .putfield 22, 3), (36, .iconst 0, 1), (37, .istore 4, 2), (39, .iload 4, 2), (41, .aload_n 0, 1), (42, .getfield 41, 3), (45, .if_icmp .ge 36, 3), (48, .iload_n 3, 1), (49, .iload 4, 2), (51, .invokestatic 80, 3), (54, .ifCond .eq 21, 3), (57, .aload_n 0, 1), (58, .aload_n 0, 1), (59, .getfield 25, 3), (62, .aload_n 0, 1), (63, .getfield 9, 3), (66, .iload 4, 2), (68, .iaload, 1), (69, .invokestatic 84, 3), (72, .putfield 25, 3), (75, .iinc 4 1, 3), (78, .goto (-39), 3), (81, .return_, 1)]
set_option maxRecDepth 100000 in
theorem tk_Ta_noteMatch : ∀ e ∈ t_Ta_noteMatch, decode prog_10_method_4_code e.1 = .ok e.2 := by decide +kernel
def t_Ta_voicesOf : List XI := [(0, .iconst 0, 1), (1, .istore_n 2, 1), (2, .iconst 0, 1), (3, .istore_n 3, 1), (4, .iload_n 3, 1), (5, .aload_n 0, 1), (6, .getfield 41, 3), (9, .if_icmp .ge 25, 3), (12, .aload_n 0, 1), (13, .getfield 15, 3), (16, .iload_n 3, 1), (17, .iaload, 1), (18, .iload_n 1, 1), (19, .if_icmp .ne 9, 3), (22, .iload_n 2, 1), (23, .iconst 1, 1), (24, .iload_n 3, 1), (25, .ishl, 1), (26, .ior, 1), (27, .istore_n 2, 1), (28, .iinc 3 1, 3), (31, .goto (-27), 3), (34, .iload_n 2, 1), (35, .ireturn, 1)]
set_option maxRecDepth 100000 in
theorem tk_Ta_voicesOf : ∀ e ∈ t_Ta_voicesOf, decode prog_10_method_5_code e.1 = .ok e.2 := by decide +kernel
def t_TP_suspects : List XI := [(0, .aload_n 0, 1), (1, .iload_n 1, 1), (2, .iload_n 2, 1), (3, .invokevirtual 246, 3), (6, .ifCond .ne 6, 3), (9, .bipush (-2), 2), (11, .ireturn, 1), (12, .iload_n 3, 1), (13, .ifCond .ne 11, 3), (16, .aload_n 0, 1), (17, .getfield 48, 3), (20, .invokevirtual 258, 3), (23, .ireturn, 1), (24, .iload_n 3, 1), (25, .iconst 1, 1), (26, .if_icmp .ne 11, 3), (29, .aload_n 0, 1), (30, .getfield 48, 3), (33, .invokevirtual 261, 3), (36, .ireturn, 1), (37, .iload_n 3, 1), (38, .bipush 10, 2), (40, .if_icmp .lt 17, 3), (43, .aload_n 0, 1), (44, .getfield 48, 3), (47, .iload_n 3, 1), (48, .bipush 10, 2), (50, .isub, 1), (51, .invokevirtual 264, 3), (54, .goto 5, 3), (57, .bipush (-2), 2), (59, .ireturn, 1)]
set_option maxRecDepth 100000 in
theorem tk_TP_suspects : ∀ e ∈ t_TP_suspects, decode prog_1_method_18_code e.1 = .ok e.2 := by decide +kernel
def t_Ta_suspectSets : List XI := [(0, .iconst 0, 1), (1, .istore_n 1, 1), (2, .iconst 0, 1), (3, .istore_n 2, 1), (4, .iload_n 2, 1), (5, .iconst 1, 1), (6, .aload_n 0, 1), (7, .getfield 41, 3), (10, .ishl, 1), (11, .if_icmp .ge 20, 3), (14, .aload_n 0, 1), (15, .iload_n 2, 1), (16, .invokevirtual 90, 3), (19, .ifCond .eq 6, 3), (22, .iinc 1 1, 3), (25, .iinc 2 1, 3), (28, .goto (-24), 3), (31, .iload_n 1, 1), (32, .ireturn, 1)]
set_option maxRecDepth 100000 in
theorem tk_Ta_suspectSets : ∀ e ∈ t_Ta_suspectSets, decode prog_10_method_7_code e.1 = .ok e.2 := by decide +kernel
def t_Ta_isSuspect : List XI := [(0, .iload_n 1, 1), (1, .invokestatic 75, 3), (4, .aload_n 0, 1), (5, .getfield 36, 3), (8, .if_icmp .le 5, 3), (11, .iconst 0, 1), (12, .ireturn, 1), (13, .iconst (-1), 1), (14, .istore_n 2, 1), (15, .iconst 0, 1), (16, .istore_n 3, 1), (17, .iload_n 3, 1), (18, .aload_n 0, 1), (19, .getfield 41, 3), (22, .if_icmp .ge 54, 3), (25, .iload_n 1, 1), (26, .iload_n 3, 1), (27, .invokestatic 80, 3), (30, .ifCond .ne 40, 3), (33, .aload_n 0, 1), (34, .getfield 15, 3), (37, .iload_n 3, 1), (38, .iaload, 1), (39, .iconst (-1), 1), (40, .if_icmp .ne 6, 3), (43, .goto 27, 3), (46, .iload_n 2, 1), (47, .iconst (-1), 1), (48, .if_icmp .eq 15, 3), (51, .iload_n 2, 1), (52, .aload_n 0, 1), (53, .getfield 15, 3), (56, .iload_n 3, 1), (57, .iaload, 1), (58, .if_icmp .eq 5, 3), (61, .iconst 0, 1), (62, .ireturn, 1), (63, .aload_n 0, 1), (64, .getfield 15, 3), (67, .iload_n 3, 1), (68, .iaload, 1), (69, .istore_n 2, 1), (70, .iinc 3 1, 3), (73, .goto (-56), 3), (76, .iconst 1, 1), (77, .ireturn, 1)]
set_option maxRecDepth 100000 in
theorem tk_Ta_isSuspect : ∀ e ∈ t_Ta_isSuspect, decode prog_10_method_6_code e.1 = .ok e.2 := by decide +kernel
def t_Ta_suspectsInAll : List XI := [(0, .iconst (-1), 1), (1, .istore_n 1, 1), (2, .iconst 0, 1), (3, .istore_n 2, 1), (4, .iload_n 2, 1), (5, .iconst 1, 1), (6, .aload_n 0, 1), (7, .getfield 41, 3), (10, .ishl, 1), (11, .if_icmp .ge 21, 3), (14, .aload_n 0, 1), (15, .iload_n 2, 1), (16, .invokevirtual 90, 3), (19, .ifCond .eq 7, 3), (22, .iload_n 1, 1), (23, .iload_n 2, 1), (24, .iand, 1), (25, .istore_n 1, 1), (26, .iinc 2 1, 3), (29, .goto (-25), 3), (32, .iload_n 1, 1), (33, .iconst (-1), 1), (34, .if_icmp .ne 7, 3), (37, .iconst 0, 1), (38, .goto 4, 3), (41, .iload_n 1, 1), (42, .ireturn, 1)]
set_option maxRecDepth 100000 in
theorem tk_Ta_suspectsInAll : ∀ e ∈ t_Ta_suspectsInAll, decode prog_10_method_8_code e.1 = .ok e.2 := by decide +kernel
def t_Ta_suspectSet : List XI := [(0, .iconst 0, 1), (1, .istore_n 2, 1), (2, .iconst 0, 1), (3, .istore_n 3, 1), (4, .iload_n 3, 1), (5, .iconst 1, 1), (6, .aload_n 0, 1), (7, .getfield 41, 3), (10, .ishl, 1), (11, .if_icmp .ge 30, 3), (14, .aload_n 0, 1), (15, .iload_n 3, 1), (16, .invokevirtual 90, 3), (19, .ifCond .ne 6, 3), (22, .goto 13, 3), (25, .iload_n 2, 1), (26, .iload_n 1, 1), (27, .if_icmp .ne 5, 3), (30, .iload_n 3, 1), (31, .ireturn, 1), (32, .iinc 2 1, 3), (35, .iinc 3 1, 3), (38, .goto (-34), 3), (41, .bipush (-2), 2), (43, .ireturn, 1)]
set_option maxRecDepth 100000 in
theorem tk_Ta_suspectSet : ∀ e ∈ t_Ta_suspectSet, decode prog_10_method_9_code e.1 = .ok e.2 := by decide +kernel
def t_TP_drawn : List XI := [(0, .aload_n 0, 1), (1, .getfield 10, 3), (4, .iconst 0, 1), (5, .iload_n 1, 1), (6, .invokevirtual 86, 3), (9, .ifCond .eq 14, 3), (12, .iload_n 3, 1), (13, .ifCond .lt 10, 3), (16, .iload_n 3, 1), (17, .sipush 200, 3), (20, .if_icmp .le 6, 3), (23, .bipush (-2), 2), (25, .ireturn, 1), (26, .aload_n 0, 1), (27, .getfield 34, 3), (30, .aload_n 0, 1), (31, .getfield 10, 3), (34, .getfield 104, 3), (37, .iload_n 1, 1), (38, .aaload, 1), (39, .iload_n 2, 1), (40, .iload_n 3, 1), (41, .invokevirtual 267, 3), (44, .aload_n 0, 1), (45, .getfield 34, 3), (48, .iload 4, 2), (50, .iload 5, 2), (52, .invokevirtual 150, 3), (55, .ireturn, 1)]
set_option maxRecDepth 100000 in
theorem tk_TP_drawn : ∀ e ∈ t_TP_drawn, decode prog_1_method_19_code e.1 = .ok e.2 := by decide +kernel
def t_TP_merged : List XI := [(0, .aload_n 0, 1), (1, .iload_n 1, 1), (2, .iload_n 2, 1), (3, .iload_n 3, 1), (4, .invokevirtual 146, 3), (7, .ifCond .eq 8, 3), (10, .iload 4, 2), (12, .ifCond .gt 6, 3), (15, .bipush (-2), 2), (17, .ireturn, 1), (18, .iload 4, 2), (20, .iconst 1, 1), (21, .aload_n 0, 1), (22, .getfield 10, 3), (25, .getfield 104, 3), (28, .iload_n 1, 1), (29, .aaload, 1), (30, .invokevirtual 190, 3), (33, .ishl, 1), (34, .if_icmp .lt 6, 3), (37, .bipush (-2), 2), (39, .ireturn, 1), (40, .aload_n 0, 1), (41, .getfield 34, 3), (44, .iload 4, 2), (46, .aload_n 0, 1), (47, .getfield 62, 3), (50, .invokevirtual 270, 3), (53, .aload_n 0, 1), (54, .getfield 62, 3), (57, .iload 5, 2), (59, .invokevirtual 163, 3), (62, .ireturn, 1)]
set_option maxRecDepth 100000 in
theorem tk_TP_merged : ∀ e ∈ t_TP_merged, decode prog_1_method_20_code e.1 = .ok e.2 := by decide +kernel
def t_TP_sure : List XI := [(0, .iload 4, 2), (2, .invokestatic 274, 3), (5, .ifCond .eq 13, 3), (8, .aload_n 0, 1), (9, .iload_n 1, 1), (10, .iload_n 2, 1), (11, .iload_n 3, 1), (12, .invokevirtual 146, 3), (15, .ifCond .ne 6, 3), (18, .bipush (-2), 2), (20, .ireturn, 1), (21, .iload 5, 2), (23, .ifCond .eq 19, 3), (26, .aload_n 0, 1), (27, .getfield 34, 3), (30, .iload 4, 2), (32, .aload_n 0, 1), (33, .getfield 62, 3), (36, .invokevirtual 277, 3), (39, .goto 16, 3), (42, .aload_n 0, 1), (43, .getfield 34, 3), (46, .iload 4, 2), (48, .aload_n 0, 1), (49, .getfield 62, 3), (52, .invokevirtual 281, 3), (55, .ireturn, 1)]
set_option maxRecDepth 100000 in
theorem tk_TP_sure : ∀ e ∈ t_TP_sure, decode prog_1_method_21_code e.1 = .ok e.2 := by decide +kernel
def t_TP_after : List XI := [(0, .aload_n 0, 1), (1, .iload_n 1, 1), (2, .iload_n 2, 1), (3, .invokevirtual 165, 3), (6, .iconst (-1), 1), (7, .if_icmp .ne 6, 3), (10, .bipush (-2), 2), (12, .ireturn, 1), (13, .iload_n 3, 1), (14, .tableswitch 86 0 5 #[38, 46, 54, 62, 70, 78], 38), (52, .aload_n 0, 1), (53, .getfield 34, 3), (56, .invokevirtual 284, 3), (59, .ireturn, 1), (60, .aload_n 0, 1), (61, .getfield 34, 3), (64, .invokevirtual 287, 3), (67, .ireturn, 1), (68, .aload_n 0, 1), (69, .getfield 34, 3), (72, .invokevirtual 290, 3), (75, .ireturn, 1), (76, .aload_n 0, 1), (77, .getfield 34, 3), (80, .invokevirtual 293, 3), (83, .ireturn, 1), (84, .aload_n 0, 1), (85, .getfield 34, 3), (88, .invokevirtual 296, 3), (91, .ireturn, 1), (92, .aload_n 0, 1), (93, .getfield 34, 3), (96, .invokevirtual 299, 3), (99, .ireturn, 1), (100, .bipush (-2), 2), (102, .ireturn, 1)]
set_option maxRecDepth 100000 in
theorem tk_TP_after : ∀ e ∈ t_TP_after, decode prog_1_method_22_code e.1 = .ok e.2 := by decide +kernel
def t_TP_pace : List XI := [(0, .aload_n 0, 1), (1, .getfield 10, 3), (4, .iconst 0, 1), (5, .iload_n 1, 1), (6, .invokevirtual 86, 3), (9, .ifCond .ne 6, 3), (12, .bipush (-2), 2), (14, .ireturn, 1), (15, .aload_n 0, 1), (16, .getfield 10, 3), (19, .getfield 104, 3), (22, .iload_n 1, 1), (23, .aaload, 1), (24, .astore_n 3, 1), (25, .iload_n 2, 1), (26, .iconst 3, 1), (27, .if_icmp .ne 12, 3), (30, .aload_n 0, 1), (31, .getfield 41, 3), (34, .aload_n 3, 1), (35, .invokevirtual 302, 3), (38, .ireturn, 1), (39, .iload_n 2, 1), (40, .iconst 4, 1), (41, .if_icmp .ne 12, 3), (44, .aload_n 0, 1), (45, .getfield 41, 3), (48, .aload_n 3, 1), (49, .invokevirtual 306, 3), (52, .ireturn, 1), (53, .aload_n 0, 1), (54, .getfield 41, 3), (57, .aload_n 3, 1), (58, .aload_n 3, 1), (59, .getfield 113, 3), (62, .aload_n 3, 1), (63, .getfield 119, 3), (66, .invokevirtual 226, 3), (69, .iload_n 2, 1), (70, .tableswitch 50 0 2 #[26, 34, 42], 26), (96, .aload_n 0, 1), (97, .getfield 41, 3), (100, .getfield 309, 3), (103, .ireturn, 1), (104, .aload_n 0, 1), (105, .getfield 41, 3), (108, .getfield 312, 3), (111, .ireturn, 1), (112, .aload_n 0, 1), (113, .getfield 41, 3), (116, .invokevirtual 315, 3), (119, .ireturn, 1), (120, .iload_n 2, 1), (121, .bipush 11, 2), (123, .if_icmp .lt 9, 3), (126, .iload_n 2, 1), (127, .bipush 20, 2), (129, .if_icmp .le 6, 3), (132, .bipush (-2), 2), (134, .ireturn, 1), (135, .aload_n 0, 1), (136, .getfield 41, 3), (139, .iload_n 2, 1), (140, .bipush 10, 2), (142, .isub, 1), (143, .invokevirtual 318, 3), (146, .istore 4, 2), (148, .iload 4, 2), (150, .ldc 237, 2), (152, .if_icmp .ne 7, 3), (155, .iconst (-1), 1), (156, .goto 5, 3), (159, .iload 4, 2), (161, .ireturn, 1)]
set_option maxRecDepth 100000 in
theorem tk_TP_pace : ∀ e ∈ t_TP_pace, decode prog_1_method_23_code e.1 = .ok e.2 := by decide +kernel
def t_Tt_tightest : List XI := [(0, .aload_n 0, 1), (1, .aload_n 1, 1), (2, .bipush 9, 2), (4, .aload_n 1, 1), (5, .getfield 44, 3), (8, .invokevirtual 135, 3), (11, .aload_n 0, 1), (12, .aload_n 1, 1), (13, .getfield 64, 3), (16, .invokevirtual 132, 3), (19, .istore_n 2, 1), (20, .aload_n 1, 1), (21, .getfield 64, 3), (24, .ifCond .eq 9, 3), (27, .iload_n 2, 1), (28, .ldc 53, 2), (30, .if_icmp .ne 5, 3), (33, .iconst (-1), 1), (34, .ireturn, 1), (35, .iconst 1, 1), (36, .istore_n 3, 1), (37, .iload_n 3, 1), (38, .bipush 9, 2), (40, .if_icmp .ge 33, 3), (43, .aload_n 0, 1), (44, .aload_n 1, 1), (45, .iload_n 3, 1), (46, .aload_n 1, 1), (47, .getfield 44, 3), (50, .invokevirtual 135, 3), (53, .aload_n 0, 1), (54, .aload_n 1, 1), (55, .getfield 64, 3), (58, .invokevirtual 132, 3), (61, .iload_n 2, 1), (62, .if_icmp .ne 5, 3), (65, .iload_n 3, 1), (66, .ireturn, 1), (67, .iinc 3 1, 3), (70, .goto (-33), 3), (73, .bipush 9, 2), (75, .ireturn, 1)]
set_option maxRecDepth 100000 in
theorem tk_Tt_tightest : ∀ e ∈ t_Tt_tightest, decode prog_11_method_17_code e.1 = .ok e.2 := by decide +kernel
def t_Tt_doneAt : List XI := [(0, .aload_n 0, 1), (1, .getfield 25, 3), (4, .ldc 53, 2), (6, .invokestatic 54, 3), (9, .iconst 0, 1), (10, .istore_n 2, 1), (11, .iload_n 2, 1), (12, .bipush 7, 2), (14, .if_icmp .ge 34, 3), (17, .iload_n 1, 1), (18, .iconst 1, 1), (19, .if_icmp .lt 29, 3), (22, .iload_n 1, 1), (23, .bipush 10, 2), (25, .if_icmp .gt 23, 3), (28, .aload_n 0, 1), (29, .getfield 25, 3), (32, .iload_n 2, 1), (33, .aload_n 0, 1), (34, .getfield 11, 3), (37, .iload_n 2, 1), (38, .aaload, 1), (39, .iload_n 1, 1), (40, .iaload, 1), (41, .iastore, 1), (42, .iinc 2 1, 3), (45, .goto (-34), 3), (48, .aload_n 0, 1), (49, .aload_n 0, 1), (50, .getfield 32, 3), (53, .getfield 129, 3), (56, .iconst 1, 1), (57, .iadd, 1), (58, .invokevirtual 119, 3), (61, .ireturn, 1)]
set_option maxRecDepth 100000 in
theorem tk_Tt_doneAt : ∀ e ∈ t_Tt_doneAt, decode prog_11_method_15_code e.1 = .ok e.2 := by decide +kernel
def t_Tt_spareOnes : List XI := [(0, .iconst 0, 1), (1, .istore_n 2, 1), (2, .iconst 0, 1), (3, .istore_n 3, 1), (4, .iload_n 3, 1), (5, .aload_n 1, 1), (6, .invokevirtual 96, 3), (9, .if_icmp .ge 52, 3), (12, .aload_n 1, 1), (13, .getfield 64, 3), (16, .ifCond .le 45, 3), (19, .aload_n 0, 1), (20, .aload_n 1, 1), (21, .aload_n 1, 1), (22, .getfield 40, 3), (25, .aload_n 1, 1), (26, .getfield 44, 3), (29, .iconst 1, 1), (30, .iload_n 3, 1), (31, .ishl, 1), (32, .ior, 1), (33, .invokevirtual 135, 3), (36, .aload_n 0, 1), (37, .aload_n 1, 1), (38, .getfield 64, 3), (41, .invokevirtual 132, 3), (44, .ldc 53, 2), (46, .if_icmp .eq 9, 3), (49, .iload_n 2, 1), (50, .iconst 1, 1), (51, .iload_n 3, 1), (52, .ishl, 1), (53, .ior, 1), (54, .istore_n 2, 1), (55, .iinc 3 1, 3), (58, .goto (-54), 3), (61, .iload_n 2, 1), (62, .ireturn, 1)]
set_option maxRecDepth 100000 in
theorem tk_Tt_spareOnes : ∀ e ∈ t_Tt_spareOnes, decode prog_11_method_18_code e.1 = .ok e.2 := by decide +kernel
def t_Tt_slowest : List XI := [(0, .iconst (-1), 1), (1, .istore_n 1, 1), (2, .iconst (-1), 1), (3, .istore_n 2, 1), (4, .iconst 1, 1), (5, .istore_n 3, 1), (6, .iload_n 3, 1), (7, .aload_n 0, 1), (8, .getfield 32, 3), (11, .getfield 64, 3), (14, .if_icmp .gt 50, 3), (17, .iload_n 3, 1), (18, .bipush 10, 2), (20, .if_icmp .gt 44, 3), (23, .aload_n 0, 1), (24, .iload_n 3, 1), (25, .invokevirtual 132, 3), (28, .istore 4, 2), (30, .iload 4, 2), (32, .ldc 53, 2), (34, .if_icmp .ne 5, 3), (37, .iconst (-1), 1), (38, .ireturn, 1), (39, .iload 4, 2), (41, .iload_n 3, 1), (42, .iconst 1, 1), (43, .isub, 1), (44, .isub, 1), (45, .iload_n 2, 1), (46, .if_icmp .le 12, 3), (49, .iload 4, 2), (51, .iload_n 3, 1), (52, .iconst 1, 1), (53, .isub, 1), (54, .isub, 1), (55, .istore_n 2, 1), (56, .iload_n 3, 1), (57, .istore_n 1, 1), (58, .iinc 3 1, 3), (61, .goto (-55), 3), (64, .iload_n 1, 1), (65, .ireturn, 1)]
set_option maxRecDepth 100000 in
theorem tk_Tt_slowest : ∀ e ∈ t_Tt_slowest, decode prog_11_method_16_code e.1 = .ok e.2 := by decide +kernel
def t_TP_behind : List XI := [(0, .aload_n 0, 1), (1, .getfield 10, 3), (4, .iconst 0, 1), (5, .iload_n 1, 1), (6, .invokevirtual 86, 3), (9, .ifCond .ne 5, 3), (12, .iconst (-1), 1), (13, .ireturn, 1), (14, .aload_n 0, 1), (15, .getfield 10, 3), (18, .getfield 104, 3), (21, .iload_n 1, 1), (22, .aaload, 1), (23, .astore 4, 2), (25, .iload_n 2, 1), (26, .ifCond .lt 12, 3), (29, .iload_n 2, 1), (30, .aload 4, 2), (32, .getfield 122, 3), (35, .if_icmp .le 5, 3), (38, .iconst (-1), 1), (39, .ireturn, 1), (40, .aload 4, 2), (42, .iload_n 2, 1), (43, .aload_n 0, 1), (44, .getfield 66, 3), (47, .invokevirtual 321, 3), (50, .iload_n 3, 1), (51, .ifCond .ne 15, 3), (54, .aload_n 0, 1), (55, .getfield 55, 3), (58, .aload_n 0, 1), (59, .getfield 66, 3), (62, .invokevirtual 325, 3), (65, .ireturn, 1), (66, .iload_n 3, 1), (67, .bipush 10, 2), (69, .if_icmp .lt 21, 3), (72, .iload_n 3, 1), (73, .bipush 18, 2), (75, .if_icmp .ge 15, 3), (78, .aload_n 0, 1), (79, .getfield 66, 3), (82, .iload_n 3, 1), (83, .bipush 10, 2), (85, .isub, 1), (86, .iaload, 1), (87, .goto 4, 3), (90, .iconst (-1), 1), (91, .ireturn, 1)]
set_option maxRecDepth 100000 in
theorem tk_TP_behind : ∀ e ∈ t_TP_behind, decode prog_1_method_24_code e.1 = .ok e.2 := by decide +kernel
def t_TP_blind : List XI := [(0, .aload_n 0, 1), (1, .getfield 10, 3), (4, .iconst 0, 1), (5, .iload_n 1, 1), (6, .invokevirtual 86, 3), (9, .ifCond .ne 6, 3), (12, .bipush (-2), 2), (14, .ireturn, 1), (15, .aload_n 0, 1), (16, .getfield 10, 3), (19, .getfield 104, 3), (22, .iload_n 1, 1), (23, .aaload, 1), (24, .astore_n 3, 1), (25, .iload_n 2, 1), (26, .tableswitch 44 0 2 #[26, 32, 38], 26), (52, .aload_n 0, 1), (53, .aload_n 3, 1), (54, .invokevirtual 329, 3), (57, .ireturn, 1), (58, .aload_n 0, 1), (59, .aload_n 3, 1), (60, .invokevirtual 332, 3), (63, .ireturn, 1), (64, .aload_n 0, 1), (65, .aload_n 3, 1), (66, .invokevirtual 335, 3), (69, .ireturn, 1), (70, .bipush (-2), 2), (72, .ireturn, 1)]
set_option maxRecDepth 100000 in
theorem tk_TP_blind : ∀ e ∈ t_TP_blind, decode prog_1_method_25_code e.1 = .ok e.2 := by decide +kernel
def t_TP_blindOrders : List XI := [(0, .aload_n 0, 1), (1, .getfield 55, 3), (4, .aload_n 1, 1), (5, .getfield 198, 3), (8, .invokevirtual 325, 3), (11, .istore_n 2, 1), (12, .iconst 0, 1), (13, .istore_n 3, 1), (14, .iconst 0, 1), (15, .istore 4, 2), (17, .iload 4, 2), (19, .aload_n 1, 1), (20, .getfield 122, 3), (23, .if_icmp .ge 52, 3), (26, .aload_n 1, 1), (27, .getfield 198, 3), (30, .aload_n 0, 1), (31, .getfield 66, 3), (34, .invokestatic 208, 3), (37, .aload_n 1, 1), (38, .iload 4, 2), (40, .aload_n 0, 1), (41, .getfield 66, 3), (44, .invokevirtual 358, 3), (47, .aload_n 0, 1), (48, .getfield 55, 3), (51, .aload_n 0, 1), (52, .getfield 66, 3), (55, .invokevirtual 325, 3), (58, .iload_n 2, 1), (59, .if_icmp .ne 10, 3), (62, .iload_n 3, 1), (63, .iconst 1, 1), (64, .iload 4, 2), (66, .ishl, 1), (67, .ior, 1), (68, .istore_n 3, 1), (69, .iinc 4 1, 3), (72, .goto (-55), 3), (75, .iload_n 3, 1), (76, .ireturn, 1)]
set_option maxRecDepth 100000 in
theorem tk_TP_blindOrders : ∀ e ∈ t_TP_blindOrders, decode prog_1_method_33_code e.1 = .ok e.2 := by decide +kernel
def t_TP_changedNodes : List XI := [(0, .aload_n 1, 1), (1, .aload_n 1, 1), (2, .getfield 122, 3), (5, .aload_n 0, 1), (6, .getfield 66, 3), (9, .invokevirtual 321, 3), (12, .aload_n 0, 1), (13, .getfield 55, 3), (16, .aload_n 1, 1), (17, .getfield 198, 3), (20, .aload_n 0, 1), (21, .getfield 66, 3), (24, .invokevirtual 361, 3), (27, .ireturn, 1)]
set_option maxRecDepth 100000 in
theorem tk_TP_changedNodes : ∀ e ∈ t_TP_changedNodes, decode prog_1_method_34_code e.1 = .ok e.2 := by decide +kernel
def t_Su_unlikeNodes : List XI := [(0, .aload_n 1, 1), (1, .aload_n 0, 1), (2, .getfield 9, 3), (5, .invokestatic 18, 3), (8, .aload_n 2, 1), (9, .aload_n 0, 1), (10, .getfield 15, 3), (13, .invokestatic 18, 3), (16, .iconst 0, 1), (17, .istore_n 3, 1), (18, .iconst 1, 1), (19, .istore 4, 2), (21, .iload 4, 2), (23, .bipush 16, 2), (25, .if_icmp .ge 29, 3), (28, .aload_n 0, 1), (29, .getfield 9, 3), (32, .iload 4, 2), (34, .iaload, 1), (35, .aload_n 0, 1), (36, .getfield 15, 3), (39, .iload 4, 2), (41, .iaload, 1), (42, .if_icmp .eq 6, 3), (45, .iinc 3 1, 3), (48, .iinc 4 1, 3), (51, .goto (-30), 3), (54, .iload_n 3, 1), (55, .ireturn, 1)]
set_option maxRecDepth 100000 in
theorem tk_Su_unlikeNodes : ∀ e ∈ t_Su_unlikeNodes, decode prog_9_method_4_code e.1 = .ok e.2 := by decide +kernel
def t_TP_richest : List XI := [(0, .aload_n 1, 1), (1, .aload_n 1, 1), (2, .getfield 122, 3), (5, .aload_n 0, 1), (6, .getfield 66, 3), (9, .invokevirtual 321, 3), (12, .iconst 0, 1), (13, .istore_n 2, 1), (14, .iconst 1, 1), (15, .istore_n 3, 1), (16, .iload_n 3, 1), (17, .bipush 8, 2), (19, .if_icmp .ge 26, 3), (22, .aload_n 0, 1), (23, .getfield 66, 3), (26, .iload_n 3, 1), (27, .iaload, 1), (28, .aload_n 0, 1), (29, .getfield 66, 3), (32, .iload_n 2, 1), (33, .iaload, 1), (34, .if_icmp .le 5, 3), (37, .iload_n 3, 1), (38, .istore_n 2, 1), (39, .iinc 3 1, 3), (42, .goto (-26), 3), (45, .iload_n 2, 1), (46, .ireturn, 1)]
set_option maxRecDepth 100000 in
theorem tk_TP_richest : ∀ e ∈ t_TP_richest, decode prog_1_method_35_code e.1 = .ok e.2 := by decide +kernel
def t_TP_voices : List XI := [(0, .iload_n 3, 1), (1, .ifCond .lt 18, 3), (4, .iload_n 3, 1), (5, .bipush 100, 2), (7, .if_icmp .ge 12, 3), (10, .aload_n 0, 1), (11, .iload_n 1, 1), (12, .iload_n 2, 1), (13, .invokevirtual 246, 3), (16, .ifCond .ne 5, 3), (19, .iconst (-1), 1), (20, .ireturn, 1), (21, .aload_n 0, 1), (22, .getfield 48, 3), (25, .iload_n 3, 1), (26, .invokevirtual 338, 3), (29, .ireturn, 1)]
set_option maxRecDepth 100000 in
theorem tk_TP_voices : ∀ e ∈ t_TP_voices, decode prog_1_method_26_code e.1 = .ok e.2 := by decide +kernel
def t_TP_lack : List XI := [(0, .aload_n 0, 1), (1, .iload_n 1, 1), (2, .iload_n 2, 1), (3, .invokevirtual 246, 3), (6, .ifCond .ne 6, 3), (9, .bipush (-2), 2), (11, .ireturn, 1), (12, .iload_n 3, 1), (13, .tableswitch 51 0 2 #[27, 35, 43], 27), (40, .aload_n 0, 1), (41, .getfield 48, 3), (44, .invokevirtual 341, 3), (47, .ireturn, 1), (48, .aload_n 0, 1), (49, .getfield 48, 3), (52, .invokevirtual 344, 3), (55, .ireturn, 1), (56, .aload_n 0, 1), (57, .getfield 48, 3), (60, .getfield 347, 3), (63, .ireturn, 1), (64, .bipush (-2), 2), (66, .ireturn, 1)]
set_option maxRecDepth 100000 in
theorem tk_TP_lack : ∀ e ∈ t_TP_lack, decode prog_1_method_27_code e.1 = .ok e.2 := by decide +kernel
def t_Ta_lacking : List XI := [(0, .iconst 0, 1), (1, .istore_n 1, 1), (2, .iconst 0, 1), (3, .istore_n 2, 1), (4, .iload_n 2, 1), (5, .aload_n 0, 1), (6, .getfield 41, 3), (9, .if_icmp .ge 37, 3), (12, .aload_n 0, 1), (13, .getfield 15, 3), (16, .iload_n 2, 1), (17, .iaload, 1), (18, .iconst (-1), 1), (19, .if_icmp .eq 21, 3), (22, .iload_n 1, 1), (23, .aload_n 0, 1), (24, .aload_n 0, 1), (25, .getfield 15, 3), (28, .iload_n 2, 1), (29, .iaload, 1), (30, .invokevirtual 71, 3), (33, .invokestatic 75, 3), (36, .invokestatic 84, 3), (39, .istore_n 1, 1), (40, .iinc 2 1, 3), (43, .goto (-39), 3), (46, .iconst 0, 1), (47, .aload_n 0, 1), (48, .getfield 36, 3), (51, .iconst 1, 1), (52, .iadd, 1), (53, .iload_n 1, 1), (54, .isub, 1), (55, .invokestatic 84, 3), (58, .ireturn, 1)]
set_option maxRecDepth 100000 in
theorem tk_Ta_lacking : ∀ e ∈ t_Ta_lacking, decode prog_10_method_10_code e.1 = .ok e.2 := by decide +kernel
def t_Ta_unlikeResults : List XI := [(0, .iconst 0, 1), (1, .istore_n 1, 1), (2, .iconst 0, 1), (3, .istore_n 2, 1), (4, .iload_n 2, 1), (5, .aload_n 0, 1), (6, .getfield 41, 3), (9, .if_icmp .ge 41, 3), (12, .aload_n 0, 1), (13, .getfield 15, 3), (16, .iload_n 2, 1), (17, .iaload, 1), (18, .iconst (-1), 1), (19, .if_icmp .eq 25, 3), (22, .aload_n 0, 1), (23, .aload_n 0, 1), (24, .getfield 15, 3), (27, .iload_n 2, 1), (28, .iaload, 1), (29, .invokevirtual 71, 3), (32, .iconst 1, 1), (33, .iload_n 2, 1), (34, .ishl, 1), (35, .iconst 1, 1), (36, .isub, 1), (37, .iand, 1), (38, .ifCond .ne 6, 3), (41, .iinc 1 1, 3), (44, .iinc 2 1, 3), (47, .goto (-43), 3), (50, .iload_n 1, 1), (51, .ireturn, 1)]
set_option maxRecDepth 100000 in
theorem tk_Ta_unlikeResults : ∀ e ∈ t_Ta_unlikeResults, decode prog_10_method_11_code e.1 = .ok e.2 := by decide +kernel
def t_TP_count : List XI := [(0, .iload_n 1, 1), (1, .ifCond .lt 8, 3), (4, .iload_n 1, 1), (5, .iconst 3, 1), (6, .if_icmp .lt 8, 3), (9, .bipush (-2), 2), (11, .goto 12, 3), (14, .aload_n 0, 1), (15, .getfield 10, 3), (18, .getfield 83, 3), (21, .iload_n 1, 1), (22, .iaload, 1), (23, .ireturn, 1)]
set_option maxRecDepth 100000 in
theorem tk_TP_count : ∀ e ∈ t_TP_count, decode prog_1_method_28_code e.1 = .ok e.2 := by decide +kernel
def t_TP_image : List XI := [(0, .iload_n 1, 1), (1, .ifCond .lt 8, 3), (4, .iload_n 1, 1), (5, .iconst 3, 1), (6, .if_icmp .lt 5, 3), (9, .iconst 0, 1), (10, .ireturn, 1), (11, .aload_n 0, 1), (12, .getfield 16, 3), (15, .iload_n 1, 1), (16, .aaload, 1), (17, .aload_n 0, 1), (18, .getfield 10, 3), (21, .invokevirtual 350, 3), (24, .aload_n 0, 1), (25, .getfield 20, 3), (28, .iload_n 1, 1), (29, .iconst 1, 1), (30, .iastore, 1), (31, .iconst 1, 1), (32, .ireturn, 1)]
set_option maxRecDepth 100000 in
theorem tk_TP_image : ∀ e ∈ t_TP_image, decode prog_1_method_29_code e.1 = .ok e.2 := by decide +kernel
def t_To_take : List XI := [(0, .aload_n 1, 1), (1, .getfield 9, 3), (4, .iconst 0, 1), (5, .aload_n 0, 1), (6, .getfield 9, 3), (9, .iconst 0, 1), (10, .sipush 600, 3), (13, .invokestatic 70, 3), (16, .aload_n 0, 1), (17, .aload_n 1, 1), (18, .getfield 44, 3), (21, .putfield 44, 3), (24, .aload_n 0, 1), (25, .aload_n 1, 1), (26, .getfield 76, 3), (29, .putfield 76, 3), (32, .aload_n 0, 1), (33, .aload_n 1, 1), (34, .getfield 15, 3), (37, .putfield 15, 3), (40, .aload_n 1, 1), (41, .getfield 19, 3), (44, .iconst 0, 1), (45, .aload_n 0, 1), (46, .getfield 19, 3), (49, .iconst 0, 1), (50, .iconst 3, 1), (51, .invokestatic 70, 3), (54, .iconst 0, 1), (55, .istore_n 2, 1), (56, .iload_n 2, 1), (57, .iconst 2, 1), (58, .if_icmp .ge 54, 3), (61, .aload_n 0, 1), (62, .getfield 25, 3), (65, .iload_n 2, 1), (66, .aaload, 1), (67, .aload_n 1, 1), (68, .getfield 25, 3), (71, .iload_n 2, 1), (72, .aaload, 1), (73, .invokevirtual 53, 3), (76, .aload_n 0, 1), (77, .getfield 31, 3), (80, .iload_n 2, 1), (81, .aaload, 1), (82, .aload_n 1, 1), (83, .getfield 31, 3), (86, .iload_n 2, 1), (87, .aaload, 1), (88, .invokevirtual 61, 3), (91, .aload_n 0, 1), (92, .getfield 37, 3), (95, .iload_n 2, 1), (96, .aaload, 1), (97, .aload_n 1, 1), (98, .getfield 37, 3), (101, .iload_n 2, 1), (102, .aaload, 1), (103, .invokevirtual 67, 3), (106, .iinc 2 1, 3), (109, .goto (-53), 3), (112, .return_, 1)]
set_option maxRecDepth 100000 in
theorem tk_To_take : ∀ e ∈ t_To_take, decode prog_12_method_5_code e.1 = .ok e.2 := by decide +kernel
def t_TP_again : List XI := [(0, .iload_n 1, 1), (1, .ifCond .lt 17, 3), (4, .iload_n 1, 1), (5, .iconst 3, 1), (6, .if_icmp .ge 12, 3), (9, .aload_n 0, 1), (10, .getfield 20, 3), (13, .iload_n 1, 1), (14, .iaload, 1), (15, .ifCond .ne 5, 3), (18, .iconst 0, 1), (19, .ireturn, 1), (20, .aload_n 0, 1), (21, .getfield 10, 3), (24, .aload_n 0, 1), (25, .getfield 16, 3), (28, .iload_n 1, 1), (29, .aaload, 1), (30, .invokevirtual 350, 3), (33, .iconst 1, 1), (34, .ireturn, 1)]
set_option maxRecDepth 100000 in
theorem tk_TP_again : ∀ e ∈ t_TP_again, decode prog_1_method_30_code e.1 = .ok e.2 := by decide +kernel
end
section
/-! code tables (printed by wip/whole/gen2.py out of the claim) -/
def t_Mo_new : List XI := [(0, .aload_n 0, 1), (1, .invokespecial 1, 3), (4, .aload_n 0, 1), (5, .sipush 4680, 3), (8, .newarray .int, 2), (10, .putfield 7, 3), (13, .aload_n 0, 1), (14, .iconst 3, 1), (15, .newarray .boolean, 2), (17, .putfield 13, 3), (20, .aload_n 0, 1), (21, .sipush 161, 3), (24, .newarray .int, 2), (26, .putfield 17, 3), (29, .aload_n 0, 1), (30, .bipush 16, 2), (32, .newarray .int, 2), (34, .putfield 20, 3), (37, .aload_n 0, 1), (38, .bipush 16, 2), (40, .newarray .int, 2), (42, .putfield 23, 3), (45, .aload_n 0, 1), (46, .bipush 7, 2), (48, .newarray .int, 2), (50, .putfield 26, 3), (53, .aload_n 0, 1), (54, .bipush 7, 2), (56, .newarray .boolean, 2), (58, .putfield 29, 3), (61, .aload_n 0, 1), (62, .bipush 7, 2), (64, .newarray .int, 2), (66, .putfield 32, 3), (69, .aload_n 0, 1), (70, .bipush 7, 2), (72, .newarray .int, 2), (74, .putfield 35, 3), (77, .aload_n 0, 1), (78, .bipush 7, 2), (80, .newarray .int, 2), (82, .putfield 38, 3), (85, .aload_n 0, 1), (86, .bipush 7, 2), (88, .newarray .int, 2), (90, .putfield 41, 3), (93, .aload_n 0, 1), (94, .bipush 56, 2), (96, .newarray .int, 2), (98, .putfield 44, 3), (101, .aload_n 0, 1), (102, .bipush 56, 2), (104, .newarray .int, 2), (106, .putfield 47, 3), (109, .aload_n 0, 1), (110, .bipush 91, 2), (112, .newarray .int, 2), (114, .putfield 50, 3), (117, .aload_n 0, 1), (118, .bipush 91, 2), (120, .newarray .int, 2), (122, .putfield 53, 3), (125, .aload_n 0, 1), (126, .bipush 91, 2), (128, .newarray .int, 2), (130, .putfield 56, 3), (133, .aload_n 0, 1), (134, .bipush 91, 2), (136, .newarray .int, 2), (138, .putfield 59, 3), (141, .aload_n 0, 1), (142, .bipush 91, 2), (144, .newarray .int, 2), (146, .putfield 62, 3), (149, .aload_n 0, 1), (150, .bipush 91, 2), (152, .newarray .int, 2), (154, .putfield 65, 3), (157, .aload_n 0, 1), (158, .bipush 49, 2), (160, .newarray .int, 2), (162, .putfield 68, 3), (165, .aload_n 0, 1), (166, .bipush 49, 2), (168, .newarray .int, 2), (170, .putfield 71, 3), (173, .aload_n 0, 1), (174, .bipush 10, 2), (176, .newarray .boolean, 2), (178, .putfield 74, 3), (181, .aload_n 0, 1), (182, .bipush 10, 2), (184, .newarray .int, 2), (186, .putfield 77, 3), (189, .aload_n 0, 1), (190, .bipush 10, 2), (192, .newarray .int, 2), (194, .putfield 80, 3), (197, .aload_n 0, 1), (198, .sipush 130, 3), (201, .newarray .int, 2), (203, .putfield 83, 3), (206, .aload_n 0, 1), (207, .bipush 13, 2), (209, .newarray .int, 2), (211, .putfield 86, 3), (214, .aload_n 0, 1), (215, .bipush 91, 2), (217, .newarray .int, 2), (219, .putfield 89, 3), (222, .aload_n 0, 1), (223, .bipush 91, 2), (225, .newarray .int, 2), (227, .putfield 92, 3), (230, .aload_n 0, 1), (231, .bipush 91, 2), (233, .newarray .int, 2), (235, .putfield 95, 3), (238, .aload_n 0, 1), (239, .bipush 91, 2), (241, .newarray .int, 2), (243, .putfield 98, 3), (246, .aload_n 0, 1), (247, .bipush 7, 2), (249, .newarray .int, 2), (251, .putfield 101, 3), (254, .aload_n 0, 1), (255, .bipush 8, 2), (257, .newarray .int, 2), (259, .putfield 104, 3), (262, .aload_n 0, 1), (263, .bipush 7, 2), (265, .newarray .int, 2), (267, .putfield 107, 3), (270, .aload_n 0, 1), (271, .bipush 7, 2), (273, .newarray .int, 2), (275, .putfield 110, 3), (278, .aload_n 0, 1), (279, .getfield 7, 3), (282, .bipush 6, 2), (284, .iconst (-1), 1), (285, .iastore, 1), (286, .return_, 1)]
set_option maxRecDepth 100000 in
theorem tk_Mo_new : ∀ e ∈ t_Mo_new, decode prog_14_method_1_code e.1 = .ok e.2 := by decide +kernel
def t_Mo_feed : List XI := [(0, .aload_n 0, 1), (1, .getfield 7, 3), (4, .iconst 4, 1), (5, .iaload, 1), (6, .bipush 20, 2), (8, .iadd, 1), (9, .sipush 600, 3), (12, .if_icmp .le 5, 3), (15, .iconst (-1), 1), (16, .ireturn, 1), (17, .iconst 0, 1), (18, .istore 6, 2), (20, .iload 6, 2), (22, .bipush 20, 2), (24, .if_icmp .ge 98, 3), (27, .iload 6, 2), (29, .iconst 4, 1), (30, .if_icmp .ge 7, 3), (33, .iload_n 1, 1), (34, .goto 39, 3), (37, .iload 6, 2), (39, .bipush 8, 2), (41, .if_icmp .ge 7, 3), (44, .iload_n 2, 1), (45, .goto 28, 3), (48, .iload 6, 2), (50, .bipush 12, 2), (52, .if_icmp .ge 7, 3), (55, .iload_n 3, 1), (56, .goto 17, 3), (59, .iload 6, 2), (61, .bipush 16, 2), (63, .if_icmp .ge 8, 3), (66, .iload 4, 2), (68, .goto 5, 3), (71, .iload 5, 2), (73, .istore 7, 2), (75, .aload_n 0, 1), (76, .getfield 7, 3), (79, .bipush 10, 2), (81, .aload_n 0, 1), (82, .getfield 7, 3), (85, .iconst 4, 1), (86, .iaload, 1), (87, .iadd, 1), (88, .iload 7, 2), (90, .bipush 24, 2), (92, .bipush 8, 2), (94, .iload 6, 2), (96, .iconst 4, 1), (97, .irem, 1), (98, .imul, 1), (99, .isub, 1), (100, .ishr, 1), (101, .sipush 255, 3), (104, .iand, 1), (105, .iastore, 1), (106, .aload_n 0, 1), (107, .getfield 7, 3), (110, .iconst 4, 1), (111, .dup2, 1), (112, .iaload, 1), (113, .iconst 1, 1), (114, .iadd, 1), (115, .iastore, 1), (116, .iinc 6 1, 3), (119, .goto (-99), 3), (122, .aload_n 0, 1), (123, .getfield 7, 3), (126, .iconst 4, 1), (127, .iaload, 1), (128, .ireturn, 1)]
set_option maxRecDepth 100000 in
theorem tk_Mo_feed : ∀ e ∈ t_Mo_feed, decode prog_14_method_3_code e.1 = .ok e.2 := by decide +kernel
def t_Mo_end : List XI := [(0, .iload_n 1, 1), (1, .ifCond .lt 13, 3), (4, .iload_n 1, 1), (5, .aload_n 0, 1), (6, .getfield 7, 3), (9, .iconst 4, 1), (10, .iaload, 1), (11, .if_icmp .le 5, 3), (14, .iconst (-1), 1), (15, .ireturn, 1), (16, .aload_n 0, 1), (17, .getfield 7, 3), (20, .iconst 4, 1), (21, .iload_n 1, 1), (22, .iastore, 1), (23, .iload_n 1, 1), (24, .ireturn, 1)]
set_option maxRecDepth 100000 in
theorem tk_Mo_end : ∀ e ∈ t_Mo_end, decode prog_14_method_4_code e.1 = .ok e.2 := by decide +kernel
def t_Mo_text : List XI := [(0, .aload_n 0, 1), (1, .aload_n 0, 1), (2, .getfield 7, 3), (5, .iconst 4, 1), (6, .iaload, 1), (7, .putfield 113, 3), (10, .aload_n 0, 1), (11, .getfield 7, 3), (14, .iconst 4, 1), (15, .iconst 0, 1), (16, .iastore, 1), (17, .aload_n 0, 1), (18, .getfield 7, 3), (21, .iconst 5, 1), (22, .iconst 0, 1), (23, .iastore, 1), (24, .aload_n 0, 1), (25, .getfield 7, 3), (28, .bipush 6, 2), (30, .iconst (-1), 1), (31, .iastore, 1), (32, .iload_n 1, 1), (33, .iconst 0, 1), (34, .iconst 2, 1), (35, .invokestatic 168, 3), (38, .ifCond .eq 30, 3), (41, .iload_n 2, 1), (42, .iconst (-1), 1), (43, .if_icmp .ne 16, 3), (46, .aload_n 0, 1), (47, .getfield 7, 3), (50, .iload_n 1, 1), (51, .iaload, 1), (52, .iconst 2, 1), (53, .if_icmp .lt 18, 3), (56, .goto 12, 3), (59, .aload_n 0, 1), (60, .iload_n 1, 1), (61, .iload_n 2, 1), (62, .invokevirtual 206, 3), (65, .ifCond .ne 6, 3), (68, .bipush (-2), 2), (70, .ireturn, 1), (71, .aload_n 0, 1), (72, .iconst 0, 1), (73, .putfield 127, 3), (76, .aload_n 0, 1), (77, .iconst 0, 1), (78, .putfield 161, 3), (81, .aload_n 0, 1), (82, .iconst (-1), 1), (83, .putfield 183, 3), (86, .iconst 0, 1), (87, .istore_n 3, 1), (88, .iload_n 3, 1), (89, .sipush 161, 3), (92, .if_icmp .ge 16, 3), (95, .aload_n 0, 1), (96, .getfield 17, 3), (99, .iload_n 3, 1), (100, .iconst 0, 1), (101, .iastore, 1), (102, .iinc 3 1, 3), (105, .goto (-17), 3), (108, .iload_n 1, 1), (109, .ifCond .ne 48, 3), (112, .aload_n 0, 1), (113, .getfield 17, 3), (116, .iconst 0, 1), (117, .iconst 1, 1), (118, .iastore, 1), (119, .aload_n 0, 1), (120, .getfield 17, 3), (123, .iconst 1, 1), (124, .iconst 4, 1), (125, .iastore, 1), (126, .aload_n 0, 1), (127, .getfield 17, 3), (130, .iconst 2, 1), (131, .iconst 2, 1), (132, .iastore, 1), (133, .iconst 0, 1), (134, .istore_n 3, 1), (135, .iload_n 3, 1), (136, .bipush 49, 2), (138, .if_icmp .ge 19, 3), (141, .aload_n 0, 1), (142, .getfield 17, 3), (145, .bipush 33, 2), (147, .iload_n 3, 1), (148, .iadd, 1), (149, .iconst 1, 1), (150, .iastore, 1), (151, .iinc 3 1, 3), (154, .goto (-19), 3), (157, .aload_n 0, 1), (158, .invokevirtual 176, 3), (161, .aload_n 0, 1), (162, .getfield 161, 3), (165, .ifCond .ne 60, 3), (168, .aload_n 0, 1), (169, .getfield 137, 3), (172, .ifCond .eq 53, 3), (175, .iload_n 1, 1), (176, .lookupswitch 42 #[(0, 28), (1, 35)], 28), (204, .aload_n 0, 1), (205, .invokevirtual 210, 3), (208, .goto (-47), 3), (211, .aload_n 0, 1), (212, .invokevirtual 213, 3), (215, .goto (-54), 3), (218, .aload_n 0, 1), (219, .invokevirtual 216, 3), (222, .goto (-61), 3), (225, .iload_n 1, 1), (226, .ifCond .ne 36, 3), (229, .aload_n 0, 1), (230, .getfield 7, 3), (233, .iconst 5, 1), (234, .iaload, 1), (235, .ifCond .ne 27, 3), (238, .aload_n 0, 1), (239, .getfield 183, 3), (242, .iconst 3, 1), (243, .aload_n 0, 1), (244, .getfield 17, 3), (247, .iconst 0, 1), (248, .iaload, 1), (249, .imul, 1), (250, .if_icmp .le 12, 3), (253, .aload_n 0, 1), (254, .iconst 4, 1), (255, .aload_n 0, 1), (256, .getfield 134, 3), (259, .invokevirtual 172, 3), (262, .aload_n 0, 1), (263, .getfield 7, 3), (266, .iconst 5, 1), (267, .iaload, 1), (268, .ifCond .eq 5, 3), (271, .iconst (-1), 1), (272, .ireturn, 1), (273, .iload_n 2, 1), (274, .iconst (-1), 1), (275, .if_icmp .ne 12, 3), (278, .aload_n 0, 1), (279, .getfield 7, 3), (282, .iload_n 1, 1), (283, .iaload, 1), (284, .goto 4, 3), (287, .iload_n 2, 1), (288, .istore_n 3, 1), (289, .iload_n 2, 1), (290, .iconst (-1), 1), (291, .if_icmp .ne 13, 3), (294, .aload_n 0, 1), (295, .getfield 7, 3), (298, .iload_n 1, 1), (299, .dup2, 1), (300, .iaload, 1), (301, .iconst 1, 1), (302, .iadd, 1), (303, .iastore, 1), (304, .iconst 0, 1), (305, .istore 4, 2), (307, .iload 4, 2), (309, .iload_n 1, 1), (310, .invokestatic 219, 3), (313, .if_icmp .ge 29, 3), (316, .aload_n 0, 1), (317, .getfield 7, 3), (320, .iload_n 1, 1), (321, .iload_n 3, 1), (322, .invokestatic 222, 3), (325, .iload 4, 2), (327, .iadd, 1), (328, .aload_n 0, 1), (329, .getfield 17, 3), (332, .iload 4, 2), (334, .iaload, 1), (335, .iastore, 1), (336, .iinc 4 1, 3), (339, .goto (-32), 3), (342, .iload_n 3, 1), (343, .ireturn, 1)]
set_option maxRecDepth 100000 in
theorem tk_Mo_text : ∀ e ∈ t_Mo_text, decode prog_14_method_27_code e.1 = .ok e.2 := by decide +kernel
def t_Mo_isIn : List XI := [(0, .iload_n 0, 1), (1, .iload_n 1, 1), (2, .if_icmp .lt 12, 3), (5, .iload_n 0, 1), (6, .iload_n 2, 1), (7, .if_icmp .gt 7, 3), (10, .iconst 1, 1), (11, .goto 4, 3), (14, .iconst 0, 1), (15, .ireturn, 1)]
set_option maxRecDepth 100000 in
theorem tk_Mo_isIn : ∀ e ∈ t_Mo_isIn, decode prog_14_method_2_code e.1 = .ok e.2 := by decide +kernel
def t_Mo_isOf : List XI := [(0, .iload_n 2, 1), (1, .iconst 0, 1), (2, .aload_n 0, 1), (3, .getfield 7, 3), (6, .iload_n 1, 1), (7, .iaload, 1), (8, .iconst 1, 1), (9, .isub, 1), (10, .invokestatic 168, 3), (13, .ireturn, 1)]
set_option maxRecDepth 100000 in
theorem tk_Mo_isOf : ∀ e ∈ t_Mo_isOf, decode prog_14_method_26_code e.1 = .ok e.2 := by decide +kernel
def t_Mo_advance : List XI := [(0, .aload_n 0, 1), (1, .aload_n 0, 1), (2, .getfield 127, 3), (5, .invokevirtual 130, 3), (8, .bipush 10, 2), (10, .if_icmp .eq 16, 3), (13, .aload_n 0, 1), (14, .aload_n 0, 1), (15, .getfield 127, 3), (18, .invokevirtual 130, 3), (21, .bipush 32, 2), (23, .if_icmp .ne 16, 3), (26, .aload_n 0, 1), (27, .dup, 1), (28, .getfield 127, 3), (31, .iconst 1, 1), (32, .iadd, 1), (33, .putfield 127, 3), (36, .goto (-36), 3), (39, .aload_n 0, 1), (40, .aload_n 0, 1), (41, .getfield 127, 3), (44, .putfield 134, 3), (47, .aload_n 0, 1), (48, .aload_n 0, 1), (49, .getfield 127, 3), (52, .invokevirtual 130, 3), (55, .istore_n 1, 1), (56, .iload_n 1, 1), (57, .ifCond .ge 11, 3), (60, .aload_n 0, 1), (61, .iconst 0, 1), (62, .putfield 137, 3), (65, .goto 246, 3), (68, .iload_n 1, 1), (69, .invokestatic 140, 3), (72, .ifCond .eq 114, 3), (75, .lconst 0, 1), (76, .lstore_n 2, 1), (77, .aload_n 0, 1), (78, .aload_n 0, 1), (79, .getfield 127, 3), (82, .invokevirtual 130, 3), (85, .invokestatic 140, 3), (88, .ifCond .eq 50, 3), (91, .aload_n 0, 1), (92, .getfield 127, 3), (95, .aload_n 0, 1), (96, .getfield 134, 3), (99, .isub, 1), (100, .bipush 8, 2), (102, .if_icmp .ge 23, 3), (105, .ldc2_w 144, 3), (108, .lload_n 2, 1), (109, .lmul, 1), (110, .aload_n 0, 1), (111, .aload_n 0, 1), (112, .getfield 127, 3), (115, .invokevirtual 130, 3), (118, .i2l, 1), (119, .ladd, 1), (120, .ldc2_w 146, 3), (123, .lsub, 1), (124, .lstore_n 2, 1), (125, .aload_n 0, 1), (126, .dup, 1), (127, .getfield 127, 3), (130, .iconst 1, 1), (131, .iadd, 1), (132, .putfield 127, 3), (135, .goto (-58), 3), (138, .aload_n 0, 1), (139, .aload_n 0, 1), (140, .getfield 127, 3), (143, .aload_n 0, 1), (144, .getfield 134, 3), (147, .isub, 1), (148, .bipush 8, 2), (150, .if_icmp .le 8, 3), (153, .bipush 99, 2), (155, .goto 7, 3), (158, .lload_n 2, 1), (159, .invokestatic 148, 3), (162, .putfield 152, 3), (165, .aload_n 0, 1), (166, .aload_n 0, 1), (167, .getfield 152, 3), (170, .bipush 99, 2), (172, .if_icmp .ne 7, 3), (175, .iconst 4, 1), (176, .goto 4, 3), (179, .iconst 3, 1), (180, .putfield 137, 3), (183, .goto 128, 3), (186, .iload_n 1, 1), (187, .invokestatic 155, 3), (190, .ifCond .eq 96, 3), (193, .aload_n 0, 1), (194, .iconst 0, 1), (195, .putfield 158, 3), (198, .aload_n 0, 1), (199, .aload_n 0, 1), (200, .getfield 127, 3), (203, .invokevirtual 130, 3), (206, .invokestatic 155, 3), (209, .ifCond .eq 52, 3), (212, .aload_n 0, 1), (213, .getfield 127, 3), (216, .aload_n 0, 1), (217, .getfield 134, 3), (220, .isub, 1), (221, .iconst 2, 1), (222, .if_icmp .ge 26, 3), (225, .aload_n 0, 1), (226, .bipush 10, 2), (228, .aload_n 0, 1), (229, .getfield 158, 3), (232, .imul, 1), (233, .aload_n 0, 1), (234, .aload_n 0, 1), (235, .getfield 127, 3), (238, .invokevirtual 130, 3), (241, .iadd, 1), (242, .bipush 48, 2), (244, .isub, 1), (245, .putfield 158, 3), (248, .aload_n 0, 1), (249, .dup, 1), (250, .getfield 127, 3), (253, .iconst 1, 1), (254, .iadd, 1), (255, .putfield 127, 3), (258, .goto (-60), 3), (261, .aload_n 0, 1), (262, .aload_n 0, 1), (263, .getfield 127, 3), (266, .aload_n 0, 1), (267, .getfield 134, 3), (270, .isub, 1), (271, .iconst 2, 1), (272, .if_icmp .le 7, 3), (275, .iconst 4, 1), (276, .goto 4, 3), (279, .iconst 1, 1), (280, .putfield 137, 3), (283, .goto 28, 3), (286, .aload_n 0, 1), (287, .dup, 1), (288, .getfield 127, 3), (291, .iconst 1, 1), (292, .iadd, 1), (293, .putfield 127, 3), (296, .aload_n 0, 1), (297, .iload_n 1, 1), (298, .bipush 59, 2), (300, .if_icmp .ne 7, 3), (303, .iconst 2, 1), (304, .goto 4, 3), (307, .iconst 4, 1), (308, .putfield 137, 3), (311, .return_, 1)]
set_option maxRecDepth 100000 in
theorem tk_Mo_advance : ∀ e ∈ t_Mo_advance, decode prog_14_method_11_code e.1 = .ok e.2 := by decide +kernel
def t_Mo_byteAt : List XI := [(0, .iload_n 1, 1), (1, .aload_n 0, 1), (2, .getfield 113, 3), (5, .if_icmp .ge 15, 3), (8, .aload_n 0, 1), (9, .getfield 7, 3), (12, .bipush 10, 2), (14, .iload_n 1, 1), (15, .iadd, 1), (16, .iaload, 1), (17, .goto 4, 3), (20, .iconst (-1), 1), (21, .ireturn, 1)]
set_option maxRecDepth 100000 in
theorem tk_Mo_byteAt : ∀ e ∈ t_Mo_byteAt, decode prog_14_method_5_code e.1 = .ok e.2 := by decide +kernel
def t_Mo_isLetter : List XI := [(0, .iload_n 0, 1), (1, .bipush 97, 2), (3, .if_icmp .lt 13, 3), (6, .iload_n 0, 1), (7, .bipush 122, 2), (9, .if_icmp .gt 7, 3), (12, .iconst 1, 1), (13, .goto 4, 3), (16, .iconst 0, 1), (17, .ireturn, 1)]
set_option maxRecDepth 100000 in
theorem tk_Mo_isLetter : ∀ e ∈ t_Mo_isLetter, decode prog_14_method_6_code e.1 = .ok e.2 := by decide +kernel
def t_Mo_wordOf : List XI := [(0, .lload_n 0, 1), (1, .iconst 0, 1), (2, .iconst 0, 1), (3, .bipush 6, 2), (5, .iconst 1, 1), (6, .bipush 21, 2), (8, .bipush 12, 2), (10, .bipush 20, 2), (12, .bipush 19, 2), (14, .invokestatic 123, 3), (17, .lcmp, 1), (18, .ifCond .ne 5, 3), (21, .iconst 1, 1), (22, .ireturn, 1), (23, .lload_n 0, 1), (24, .iconst 0, 1), (25, .iconst 0, 1), (26, .bipush 23, 2), (28, .bipush 9, 2), (30, .bipush 14, 2), (32, .iconst 4, 1), (33, .bipush 15, 2), (35, .bipush 23, 2), (37, .invokestatic 123, 3), (40, .lcmp, 1), (41, .ifCond .ne 5, 3), (44, .iconst 2, 1), (45, .ireturn, 1), (46, .lload_n 0, 1), (47, .bipush 19, 2), (49, .bipush 20, 2), (51, .iconst 5, 1), (52, .bipush 16, 2), (54, .invokestatic 117, 3), (57, .lcmp, 1), (58, .ifCond .ne 5, 3), (61, .iconst 3, 1), (62, .ireturn, 1), (63, .lload_n 0, 1), (64, .bipush 12, 2), (66, .bipush 9, 2), (68, .iconst 1, 1), (69, .bipush 18, 2), (71, .invokestatic 117, 3), (74, .lcmp, 1), (75, .ifCond .ne 5, 3), (78, .iconst 4, 1), (79, .ireturn, 1), (80, .lload_n 0, 1), (81, .iconst 0, 1), (82, .iconst 1, 1), (83, .iconst 3, 1), (84, .iconst 3, 1), (85, .bipush 15, 2), (87, .bipush 21, 2), (89, .bipush 14, 2), (91, .bipush 20, 2), (93, .invokestatic 123, 3), (96, .lcmp, 1), (97, .ifCond .ne 5, 3), (100, .iconst 5, 1), (101, .ireturn, 1), (102, .lload_n 0, 1), (103, .iconst 0, 1), (104, .iconst 0, 1), (105, .iconst 0, 1), (106, .bipush 15, 2), (108, .bipush 18, 2), (110, .iconst 4, 1), (111, .iconst 5, 1), (112, .bipush 18, 2), (114, .invokestatic 123, 3), (117, .lcmp, 1), (118, .ifCond .ne 6, 3), (121, .bipush 6, 2), (123, .ireturn, 1), (124, .lload_n 0, 1), (125, .iconst 0, 1), (126, .iconst 0, 1), (127, .iconst 0, 1), (128, .iconst 4, 1), (129, .iconst 5, 1), (130, .bipush 12, 2), (132, .iconst 1, 1), (133, .bipush 25, 2), (135, .invokestatic 123, 3), (138, .lcmp, 1), (139, .ifCond .ne 6, 3), (142, .bipush 7, 2), (144, .ireturn, 1), (145, .lload_n 0, 1), (146, .iconst 0, 1), (147, .bipush 16, 2), (149, .bipush 18, 2), (151, .bipush 15, 2), (153, .bipush 16, 2), (155, .bipush 15, 2), (157, .bipush 19, 2), (159, .iconst 5, 1), (160, .invokestatic 123, 3), (163, .lcmp, 1), (164, .ifCond .ne 6, 3), (167, .bipush 8, 2), (169, .ireturn, 1), (170, .lload_n 0, 1), (171, .iconst 0, 1), (172, .bipush 16, 2), (174, .bipush 18, 2), (176, .iconst 5, 1), (177, .bipush 16, 2), (179, .iconst 1, 1), (180, .bipush 18, 2), (182, .iconst 5, 1), (183, .invokestatic 123, 3), (186, .lcmp, 1), (187, .ifCond .ne 6, 3), (190, .bipush 9, 2), (192, .ireturn, 1), (193, .lload_n 0, 1), (194, .iconst 0, 1), (195, .iconst 0, 1), (196, .iconst 3, 1), (197, .bipush 15, 2), (199, .bipush 13, 2), (201, .bipush 13, 2), (203, .bipush 9, 2), (205, .bipush 20, 2), (207, .invokestatic 123, 3), (210, .lcmp, 1), (211, .ifCond .ne 6, 3), (214, .bipush 10, 2), (216, .ireturn, 1), (217, .lload_n 0, 1), (218, .iconst 0, 1), (219, .bipush 18, 2), (221, .bipush 21, 2), (223, .bipush 14, 2), (225, .invokestatic 117, 3), (228, .lcmp, 1), (229, .ifCond .ne 6, 3), (232, .bipush 11, 2), (234, .ireturn, 1), (235, .lload_n 0, 1), (236, .bipush 13, 2), (238, .iconst 1, 1), (239, .bipush 18, 2), (241, .bipush 11, 2), (243, .invokestatic 117, 3), (246, .lcmp, 1), (247, .ifCond .ne 6, 3), (250, .bipush 12, 2), (252, .ireturn, 1), (253, .lload_n 0, 1), (254, .iconst 0, 1), (255, .iconst 0, 1), (256, .iconst 0, 1), (257, .bipush 6, 2), (259, .iconst 5, 1), (260, .bipush 20, 2), (262, .iconst 3, 1), (263, .bipush 8, 2), (265, .invokestatic 123, 3), (268, .lcmp, 1), (269, .ifCond .ne 6, 3), (272, .bipush 13, 2), (274, .ireturn, 1), (275, .lload_n 0, 1), (276, .iconst 0, 1), (277, .iconst 0, 1), (278, .iconst 0, 1), (279, .iconst 4, 1), (280, .bipush 15, 2), (282, .bipush 21, 2), (284, .iconst 2, 1), (285, .bipush 20, 2), (287, .invokestatic 123, 3), (290, .lcmp, 1), (291, .ifCond .ne 6, 3), (294, .bipush 14, 2), (296, .ireturn, 1), (297, .lload_n 0, 1), (298, .bipush 22, 2), (300, .bipush 9, 2), (302, .iconst 5, 1), (303, .bipush 23, 2), (305, .invokestatic 117, 3), (308, .lcmp, 1), (309, .ifCond .ne 6, 3), (312, .bipush 15, 2), (314, .ireturn, 1), (315, .lload_n 0, 1), (316, .iconst 0, 1), (317, .iconst 0, 1), (318, .iconst 0, 1), (319, .iconst 5, 1), (320, .bipush 14, 2), (322, .bipush 20, 2), (324, .iconst 5, 1), (325, .bipush 18, 2), (327, .invokestatic 123, 3), (330, .lcmp, 1), (331, .ifCond .ne 6, 3), (334, .bipush 16, 2), (336, .ireturn, 1), (337, .lload_n 0, 1), (338, .iconst 0, 1), (339, .iconst 0, 1), (340, .iconst 0, 1), (341, .bipush 18, 2), (343, .iconst 5, 1), (344, .bipush 16, 2), (346, .bipush 12, 2), (348, .bipush 25, 2), (350, .invokestatic 123, 3), (353, .lcmp, 1), (354, .ifCond .ne 8, 3), (357, .bipush 17, 2), (359, .goto 5, 3), (362, .bipush 99, 2), (364, .ireturn, 1)]
set_option maxRecDepth 100000 in
theorem tk_Mo_wordOf : ∀ e ∈ t_Mo_wordOf, decode prog_14_method_10_code e.1 = .ok e.2 := by decide +kernel
def t_Mo_eight : List XI := [(0, .iload_n 0, 1), (1, .iload_n 1, 1), (2, .iload_n 2, 1), (3, .iload_n 3, 1), (4, .invokestatic 117, 3), (7, .ldc2_w 121, 3), (10, .lmul, 1), (11, .iload 4, 2), (13, .iload 5, 2), (15, .iload 6, 2), (17, .iload 7, 2), (19, .invokestatic 117, 3), (22, .ladd, 1), (23, .lreturn, 1)]
set_option maxRecDepth 100000 in
theorem tk_Mo_eight : ∀ e ∈ t_Mo_eight, decode prog_14_method_9_code e.1 = .ok e.2 := by decide +kernel
def t_Mo_four : List XI := [(0, .iload_n 0, 1), (1, .bipush 32, 2), (3, .imul, 1), (4, .iload_n 1, 1), (5, .iadd, 1), (6, .bipush 32, 2), (8, .imul, 1), (9, .iload_n 2, 1), (10, .iadd, 1), (11, .bipush 32, 2), (13, .imul, 1), (14, .iload_n 3, 1), (15, .iadd, 1), (16, .i2l, 1), (17, .lreturn, 1)]
set_option maxRecDepth 100000 in
theorem tk_Mo_four : ∀ e ∈ t_Mo_four, decode prog_14_method_8_code e.1 = .ok e.2 := by decide +kernel
def t_Mo_isDigit : List XI := [(0, .iload_n 0, 1), (1, .bipush 48, 2), (3, .if_icmp .lt 13, 3), (6, .iload_n 0, 1), (7, .bipush 57, 2), (9, .if_icmp .gt 7, 3), (12, .iconst 1, 1), (13, .goto 4, 3), (16, .iconst 0, 1), (17, .ireturn, 1)]
set_option maxRecDepth 100000 in
theorem tk_Mo_isDigit : ∀ e ∈ t_Mo_isDigit, decode prog_14_method_7_code e.1 = .ok e.2 := by decide +kernel
def t_Mo_councilLine : List XI := [(0, .aload_n 0, 1), (1, .getfield 134, 3), (4, .istore_n 1, 1), (5, .aload_n 0, 1), (6, .iconst 1, 1), (7, .bipush 7, 2), (9, .invokevirtual 193, 3), (12, .istore_n 2, 1), (13, .aload_n 0, 1), (14, .getfield 161, 3), (17, .ifCond .eq 7, 3), (20, .iconst 0, 1), (21, .goto 4, 3), (24, .iload_n 2, 1), (25, .tableswitch 148 1 7 #[43, 58, 74, 89, 107, 133, 141], 43), (68, .aload_n 0, 1), (69, .getfield 17, 3), (72, .iconst 0, 1), (73, .aload_n 0, 1), (74, .iconst 0, 1), (75, .iconst 2, 1), (76, .invokevirtual 179, 3), (79, .iastore, 1), (80, .goto 93, 3), (83, .aload_n 0, 1), (84, .getfield 17, 3), (87, .iconst 1, 1), (88, .aload_n 0, 1), (89, .iconst 1, 1), (90, .bipush 9, 2), (92, .invokevirtual 179, 3), (95, .iastore, 1), (96, .goto 77, 3), (99, .aload_n 0, 1), (100, .getfield 17, 3), (103, .iconst 2, 1), (104, .aload_n 0, 1), (105, .iconst 1, 1), (106, .iconst 4, 1), (107, .invokevirtual 179, 3), (110, .iastore, 1), (111, .goto 62, 3), (114, .aload_n 0, 1), (115, .getfield 17, 3), (118, .iconst 3, 1), (119, .dup2, 1), (120, .iaload, 1), (121, .iconst 1, 1), (122, .aload_n 0, 1), (123, .invokevirtual 186, 3), (126, .ishl, 1), (127, .ior, 1), (128, .iastore, 1), (129, .goto 44, 3), (132, .aload_n 0, 1), (133, .iconst 0, 1), (134, .bipush 7, 2), (136, .invokevirtual 179, 3), (139, .istore_n 3, 1), (140, .aload_n 0, 1), (141, .getfield 17, 3), (144, .iconst 5, 1), (145, .iload_n 3, 1), (146, .iadd, 1), (147, .aload_n 0, 1), (148, .iconst 0, 1), (149, .bipush 99, 2), (151, .invokevirtual 179, 3), (154, .iastore, 1), (155, .goto 18, 3), (158, .aload_n 0, 1), (159, .iload_n 1, 1), (160, .invokevirtual 196, 3), (163, .goto 10, 3), (166, .aload_n 0, 1), (167, .invokevirtual 200, 3), (170, .goto 3, 3), (173, .aload_n 0, 1), (174, .invokevirtual 203, 3), (177, .return_, 1)]
set_option maxRecDepth 100000 in
theorem tk_Mo_councilLine : ∀ e ∈ t_Mo_councilLine, decode prog_14_method_21_code e.1 = .ok e.2 := by decide +kernel
def t_Mo_wordIn : List XI := [(0, .aload_n 0, 1), (1, .getfield 161, 3), (4, .ifCond .ne 23, 3), (7, .aload_n 0, 1), (8, .getfield 137, 3), (11, .iconst 3, 1), (12, .if_icmp .ne 15, 3), (15, .aload_n 0, 1), (16, .getfield 152, 3), (19, .iload_n 1, 1), (20, .iload_n 2, 1), (21, .invokestatic 168, 3), (24, .ifCond .ne 9, 3), (27, .aload_n 0, 1), (28, .invokevirtual 165, 3), (31, .iconst 0, 1), (32, .ireturn, 1), (33, .aload_n 0, 1), (34, .getfield 152, 3), (37, .istore_n 3, 1), (38, .aload_n 0, 1), (39, .invokevirtual 176, 3), (42, .iload_n 3, 1), (43, .ireturn, 1)]
set_option maxRecDepth 100000 in
theorem tk_Mo_wordIn : ∀ e ∈ t_Mo_wordIn, decode prog_14_method_15_code e.1 = .ok e.2 := by decide +kernel
def t_Mo_ends : List XI := [(0, .aload_n 0, 1), (1, .getfield 161, 3), (4, .ifCond .eq 4, 3), (7, .return_, 1), (8, .aload_n 0, 1), (9, .iconst 1, 1), (10, .putfield 161, 3), (13, .aload_n 0, 1), (14, .getfield 7, 3), (17, .iconst 5, 1), (18, .iconst 1, 1), (19, .iastore, 1), (20, .aload_n 0, 1), (21, .getfield 7, 3), (24, .bipush 6, 2), (26, .aload_n 0, 1), (27, .getfield 134, 3), (30, .iastore, 1), (31, .return_, 1)]
set_option maxRecDepth 100000 in
theorem tk_Mo_ends : ∀ e ∈ t_Mo_ends, decode prog_14_method_12_code e.1 = .ok e.2 := by decide +kernel
def t_Mo_numbered : List XI := [(0, .aload_n 0, 1), (1, .getfield 161, 3), (4, .ifCond .ne 11, 3), (7, .aload_n 0, 1), (8, .getfield 137, 3), (11, .iconst 1, 1), (12, .if_icmp .eq 9, 3), (15, .aload_n 0, 1), (16, .invokevirtual 165, 3), (19, .iload_n 1, 1), (20, .ireturn, 1), (21, .aload_n 0, 1), (22, .getfield 158, 3), (25, .istore_n 3, 1), (26, .iload_n 3, 1), (27, .iload_n 1, 1), (28, .iload_n 2, 1), (29, .invokestatic 168, 3), (32, .ifCond .ne 12, 3), (35, .aload_n 0, 1), (36, .iconst 2, 1), (37, .aload_n 0, 1), (38, .getfield 134, 3), (41, .invokevirtual 172, 3), (44, .aload_n 0, 1), (45, .invokevirtual 176, 3), (48, .iload_n 3, 1), (49, .iload_n 1, 1), (50, .iload_n 2, 1), (51, .invokestatic 168, 3), (54, .ifCond .eq 7, 3), (57, .iload_n 3, 1), (58, .goto 4, 3), (61, .iload_n 1, 1), (62, .ireturn, 1)]
set_option maxRecDepth 100000 in
theorem tk_Mo_numbered : ∀ e ∈ t_Mo_numbered, decode prog_14_method_14_code e.1 = .ok e.2 := by decide +kernel
def t_Mo_also : List XI := [(0, .aload_n 0, 1), (1, .getfield 161, 3), (4, .ifCond .ne 44, 3), (7, .aload_n 0, 1), (8, .getfield 7, 3), (11, .iconst 5, 1), (12, .iaload, 1), (13, .ifCond .eq 36, 3), (16, .aload_n 0, 1), (17, .getfield 7, 3), (20, .bipush 6, 2), (22, .iaload, 1), (23, .iload_n 2, 1), (24, .if_icmp .lt 24, 3), (27, .aload_n 0, 1), (28, .getfield 7, 3), (31, .bipush 6, 2), (33, .iaload, 1), (34, .iload_n 2, 1), (35, .if_icmp .ne 14, 3), (38, .aload_n 0, 1), (39, .getfield 7, 3), (42, .iconst 5, 1), (43, .iaload, 1), (44, .iload_n 1, 1), (45, .if_icmp .gt 4, 3), (48, .return_, 1), (49, .aload_n 0, 1), (50, .getfield 7, 3), (53, .iconst 5, 1), (54, .iload_n 1, 1), (55, .iastore, 1), (56, .aload_n 0, 1), (57, .getfield 7, 3), (60, .bipush 6, 2), (62, .iload_n 2, 1), (63, .iastore, 1), (64, .return_, 1)]
set_option maxRecDepth 100000 in
theorem tk_Mo_also : ∀ e ∈ t_Mo_also, decode prog_14_method_13_code e.1 = .ok e.2 := by decide +kernel
def t_Mo_memberTold : List XI := [(0, .aload_n 0, 1), (1, .iconst 0, 1), (2, .bipush 6, 2), (4, .invokevirtual 179, 3), (7, .istore_n 1, 1), (8, .aload_n 0, 1), (9, .iload_n 1, 1), (10, .aload_n 0, 1), (11, .getfield 183, 3), (14, .if_icmp .le 7, 3), (17, .iload_n 1, 1), (18, .goto 7, 3), (21, .aload_n 0, 1), (22, .getfield 183, 3), (25, .putfield 183, 3), (28, .iload_n 1, 1), (29, .ireturn, 1)]
set_option maxRecDepth 100000 in
theorem tk_Mo_memberTold : ∀ e ∈ t_Mo_memberTold, decode prog_14_method_17_code e.1 = .ok e.2 := by decide +kernel
def t_Mo_orderTold : List XI := [(0, .aload_n 0, 1), (1, .getfield 17, 3), (4, .iconst 4, 1), (5, .iaload, 1), (6, .bipush 10, 2), (8, .if_icmp .lt 9, 3), (11, .aload_n 0, 1), (12, .iconst 3, 1), (13, .iload_n 1, 1), (14, .invokevirtual 172, 3), (17, .aload_n 0, 1), (18, .iconst 0, 1), (19, .bipush 7, 2), (21, .invokevirtual 179, 3), (24, .istore_n 2, 1), (25, .aload_n 0, 1), (26, .iconst 0, 1), (27, .bipush 99, 2), (29, .invokevirtual 179, 3), (32, .istore_n 3, 1), (33, .aload_n 0, 1), (34, .getfield 17, 3), (37, .iconst 4, 1), (38, .iaload, 1), (39, .bipush 10, 2), (41, .if_icmp .lt 4, 3), (44, .return_, 1), (45, .aload_n 0, 1), (46, .getfield 17, 3), (49, .bipush 13, 2), (51, .iconst 2, 1), (52, .aload_n 0, 1), (53, .getfield 17, 3), (56, .iconst 4, 1), (57, .iaload, 1), (58, .imul, 1), (59, .iadd, 1), (60, .iload_n 2, 1), (61, .iastore, 1), (62, .aload_n 0, 1), (63, .getfield 17, 3), (66, .bipush 14, 2), (68, .iconst 2, 1), (69, .aload_n 0, 1), (70, .getfield 17, 3), (73, .iconst 4, 1), (74, .iaload, 1), (75, .imul, 1), (76, .iadd, 1), (77, .iload_n 3, 1), (78, .iastore, 1), (79, .aload_n 0, 1), (80, .getfield 17, 3), (83, .iconst 4, 1), (84, .dup2, 1), (85, .iaload, 1), (86, .iconst 1, 1), (87, .iadd, 1), (88, .iastore, 1), (89, .return_, 1)]
set_option maxRecDepth 100000 in
theorem tk_Mo_orderTold : ∀ e ∈ t_Mo_orderTold, decode prog_14_method_19_code e.1 = .ok e.2 := by decide +kernel
def t_Mo_delayTold : List XI := [(0, .aload_n 0, 1), (1, .invokevirtual 186, 3), (4, .istore_n 1, 1), (5, .aload_n 0, 1), (6, .iload_n 1, 1), (7, .invokevirtual 190, 3), (10, .istore_n 2, 1), (11, .aload_n 0, 1), (12, .iconst 1, 1), (13, .bipush 9, 2), (15, .invokevirtual 179, 3), (18, .istore_n 3, 1), (19, .aload_n 0, 1), (20, .getfield 17, 3), (23, .bipush 33, 2), (25, .bipush 7, 2), (27, .iload_n 1, 1), (28, .imul, 1), (29, .iadd, 1), (30, .iload_n 2, 1), (31, .iadd, 1), (32, .iload_n 3, 1), (33, .iastore, 1), (34, .aload_n 0, 1), (35, .getfield 17, 3), (38, .bipush 33, 2), (40, .bipush 7, 2), (42, .iload_n 2, 1), (43, .imul, 1), (44, .iadd, 1), (45, .iload_n 1, 1), (46, .iadd, 1), (47, .iload_n 3, 1), (48, .iastore, 1), (49, .return_, 1)]
set_option maxRecDepth 100000 in
theorem tk_Mo_delayTold : ∀ e ∈ t_Mo_delayTold, decode prog_14_method_20_code e.1 = .ok e.2 := by decide +kernel
def t_Mo_otherTold : List XI := [(0, .aload_n 0, 1), (1, .getfield 161, 3), (4, .ifCond .ne 28, 3), (7, .aload_n 0, 1), (8, .getfield 137, 3), (11, .iconst 1, 1), (12, .if_icmp .ne 20, 3), (15, .aload_n 0, 1), (16, .getfield 158, 3), (19, .iload_n 1, 1), (20, .if_icmp .ne 12, 3), (23, .aload_n 0, 1), (24, .iconst 2, 1), (25, .aload_n 0, 1), (26, .getfield 134, 3), (29, .invokevirtual 172, 3), (32, .aload_n 0, 1), (33, .invokevirtual 186, 3), (36, .ireturn, 1)]
set_option maxRecDepth 100000 in
theorem tk_Mo_otherTold : ∀ e ∈ t_Mo_otherTold, decode prog_14_method_18_code e.1 = .ok e.2 := by decide +kernel
def t_Mo_endsLine : List XI := [(0, .aload_n 0, 1), (1, .getfield 161, 3), (4, .ifCond .ne 18, 3), (7, .aload_n 0, 1), (8, .getfield 137, 3), (11, .iconst 2, 1), (12, .if_icmp .ne 10, 3), (15, .aload_n 0, 1), (16, .invokevirtual 176, 3), (19, .goto 7, 3), (22, .aload_n 0, 1), (23, .invokevirtual 165, 3), (26, .return_, 1)]
set_option maxRecDepth 100000 in
theorem tk_Mo_endsLine : ∀ e ∈ t_Mo_endsLine, decode prog_14_method_16_code e.1 = .ok e.2 := by decide +kernel
def t_Mo_runLine : List XI := [(0, .aload_n 0, 1), (1, .getfield 134, 3), (4, .istore_n 1, 1), (5, .aload_n 0, 1), (6, .bipush 8, 2), (8, .bipush 16, 2), (10, .invokevirtual 193, 3), (13, .bipush 8, 2), (15, .isub, 1), (16, .istore_n 2, 1), (17, .aload_n 0, 1), (18, .getfield 161, 3), (21, .ifCond .ne 20, 3), (24, .aload_n 0, 1), (25, .getfield 17, 3), (28, .iconst 0, 1), (29, .iaload, 1), (30, .bipush 40, 2), (32, .if_icmp .lt 9, 3), (35, .aload_n 0, 1), (36, .iconst 3, 1), (37, .iload_n 1, 1), (38, .invokevirtual 172, 3), (41, .aload_n 0, 1), (42, .iconst 0, 1), (43, .bipush 6, 2), (45, .invokevirtual 179, 3), (48, .istore_n 3, 1), (49, .iload_n 2, 1), (50, .ifCond .ne 13, 3), (53, .aload_n 0, 1), (54, .iconst 1, 1), (55, .bipush 12, 2), (57, .invokevirtual 179, 3), (60, .goto 32, 3), (63, .iload_n 2, 1), (64, .iconst 1, 1), (65, .if_icmp .eq 18, 3), (68, .iload_n 2, 1), (69, .iconst 2, 1), (70, .if_icmp .eq 13, 3), (73, .iload_n 2, 1), (74, .iconst 4, 1), (75, .if_icmp .eq 8, 3), (78, .iload_n 2, 1), (79, .iconst 5, 1), (80, .if_icmp .ne 11, 3), (83, .aload_n 0, 1), (84, .iload_n 3, 1), (85, .invokevirtual 190, 3), (88, .goto 4, 3), (91, .iconst (-1), 1), (92, .istore 4, 2), (94, .iload_n 2, 1), (95, .ifCond .ne 13, 3), (98, .aload_n 0, 1), (99, .iconst 0, 1), (100, .bipush 9, 2), (102, .invokevirtual 179, 3), (105, .goto 24, 3), (108, .iload_n 2, 1), (109, .iconst 1, 1), (110, .if_icmp .eq 8, 3), (113, .iload_n 2, 1), (114, .iconst 2, 1), (115, .if_icmp .ne 13, 3), (118, .aload_n 0, 1), (119, .iconst 1, 1), (120, .bipush 12, 2), (122, .invokevirtual 179, 3), (125, .goto 4, 3), (128, .iconst (-1), 1), (129, .istore 5, 2), (131, .aload_n 0, 1), (132, .getfield 17, 3), (135, .iconst 0, 1), (136, .iaload, 1), (137, .bipush 40, 2), (139, .if_icmp .ge 65, 3), (142, .iconst 1, 1), (143, .iconst 4, 1), (144, .aload_n 0, 1), (145, .getfield 17, 3), (148, .iconst 0, 1), (149, .iaload, 1), (150, .imul, 1), (151, .iadd, 1), (152, .istore 6, 2), (154, .aload_n 0, 1), (155, .getfield 17, 3), (158, .iload 6, 2), (160, .iload_n 2, 1), (161, .iastore, 1), (162, .aload_n 0, 1), (163, .getfield 17, 3), (166, .iload 6, 2), (168, .iconst 1, 1), (169, .iadd, 1), (170, .iload_n 3, 1), (171, .iastore, 1), (172, .aload_n 0, 1), (173, .getfield 17, 3), (176, .iload 6, 2), (178, .iconst 2, 1), (179, .iadd, 1), (180, .iload 4, 2), (182, .iastore, 1), (183, .aload_n 0, 1), (184, .getfield 17, 3), (187, .iload 6, 2), (189, .iconst 3, 1), (190, .iadd, 1), (191, .iload 5, 2), (193, .iastore, 1), (194, .aload_n 0, 1), (195, .getfield 17, 3), (198, .iconst 0, 1), (199, .dup2, 1), (200, .iaload, 1), (201, .iconst 1, 1), (202, .iadd, 1), (203, .iastore, 1), (204, .aload_n 0, 1), (205, .invokevirtual 203, 3), (208, .return_, 1)]
set_option maxRecDepth 100000 in
theorem tk_Mo_runLine : ∀ e ∈ t_Mo_runLine, decode prog_14_method_22_code e.1 = .ok e.2 := by decide +kernel
def t_Mo_repliesLine : List XI := [(0, .aload_n 0, 1), (1, .getfield 134, 3), (4, .istore_n 1, 1), (5, .aload_n 0, 1), (6, .bipush 17, 2), (8, .bipush 17, 2), (10, .invokevirtual 193, 3), (13, .pop, 1), (14, .aload_n 0, 1), (15, .getfield 161, 3), (18, .ifCond .ne 20, 3), (21, .aload_n 0, 1), (22, .getfield 17, 3), (25, .iconst 0, 1), (26, .iaload, 1), (27, .bipush 12, 2), (29, .if_icmp .lt 9, 3), (32, .aload_n 0, 1), (33, .iconst 3, 1), (34, .iload_n 1, 1), (35, .invokevirtual 172, 3), (38, .aload_n 0, 1), (39, .iconst 0, 1), (40, .bipush 6, 2), (42, .invokevirtual 179, 3), (45, .istore_n 2, 1), (46, .aload_n 0, 1), (47, .iconst 0, 1), (48, .bipush 9, 2), (50, .invokevirtual 179, 3), (53, .istore_n 3, 1), (54, .aload_n 0, 1), (55, .iconst 0, 1), (56, .bipush 99, 2), (58, .invokevirtual 179, 3), (61, .istore 4, 2), (63, .aload_n 0, 1), (64, .getfield 17, 3), (67, .iconst 0, 1), (68, .iaload, 1), (69, .bipush 12, 2), (71, .if_icmp .ge 54, 3), (74, .iconst 1, 1), (75, .iconst 3, 1), (76, .aload_n 0, 1), (77, .getfield 17, 3), (80, .iconst 0, 1), (81, .iaload, 1), (82, .imul, 1), (83, .iadd, 1), (84, .istore 5, 2), (86, .aload_n 0, 1), (87, .getfield 17, 3), (90, .iload 5, 2), (92, .iload_n 2, 1), (93, .iastore, 1), (94, .aload_n 0, 1), (95, .getfield 17, 3), (98, .iload 5, 2), (100, .iconst 1, 1), (101, .iadd, 1), (102, .iload_n 3, 1), (103, .iastore, 1), (104, .aload_n 0, 1), (105, .getfield 17, 3), (108, .iload 5, 2), (110, .iconst 2, 1), (111, .iadd, 1), (112, .iload 4, 2), (114, .iastore, 1), (115, .aload_n 0, 1), (116, .getfield 17, 3), (119, .iconst 0, 1), (120, .dup2, 1), (121, .iaload, 1), (122, .iconst 1, 1), (123, .iadd, 1), (124, .iastore, 1), (125, .aload_n 0, 1), (126, .invokevirtual 203, 3), (129, .return_, 1)]
set_option maxRecDepth 100000 in
theorem tk_Mo_repliesLine : ∀ e ∈ t_Mo_repliesLine, decode prog_14_method_23_code e.1 = .ok e.2 := by decide +kernel
def t_Mo_sizeOf : List XI := [(0, .iload_n 0, 1), (1, .ifCond .ne 8, 3), (4, .bipush 82, 2), (6, .goto 16, 3), (9, .iload_n 0, 1), (10, .iconst 1, 1), (11, .if_icmp .ne 9, 3), (14, .sipush 161, 3), (17, .goto 5, 3), (20, .bipush 37, 2), (22, .ireturn, 1)]
set_option maxRecDepth 100000 in
theorem tk_Mo_sizeOf : ∀ e ∈ t_Mo_sizeOf, decode prog_14_method_25_code e.1 = .ok e.2 := by decide +kernel
def t_Mo_placeOf : List XI := [(0, .iload_n 0, 1), (1, .ifCond .ne 14, 3), (4, .sipush 610, 3), (7, .bipush 82, 2), (9, .iload_n 1, 1), (10, .imul, 1), (11, .iadd, 1), (12, .goto 28, 3), (15, .iload_n 0, 1), (16, .iconst 1, 1), (17, .if_icmp .ne 15, 3), (20, .sipush 774, 3), (23, .sipush 161, 3), (26, .iload_n 1, 1), (27, .imul, 1), (28, .iadd, 1), (29, .goto 11, 3), (32, .sipush 1096, 3), (35, .bipush 37, 2), (37, .iload_n 1, 1), (38, .imul, 1), (39, .iadd, 1), (40, .ireturn, 1)]
set_option maxRecDepth 100000 in
theorem tk_Mo_placeOf : ∀ e ∈ t_Mo_placeOf, decode prog_14_method_24_code e.1 = .ok e.2 := by decide +kernel
def t_Mo_fault : List XI := [(0, .iload_n 1, 1), (1, .ifCond .ne 12, 3), (4, .aload_n 0, 1), (5, .getfield 7, 3), (8, .iconst 5, 1), (9, .iaload, 1), (10, .goto 19, 3), (13, .iload_n 1, 1), (14, .iconst 1, 1), (15, .if_icmp .ne 13, 3), (18, .aload_n 0, 1), (19, .getfield 7, 3), (22, .bipush 6, 2), (24, .iaload, 1), (25, .goto 4, 3), (28, .iconst (-1), 1), (29, .ireturn, 1)]
set_option maxRecDepth 100000 in
theorem tk_Mo_fault : ∀ e ∈ t_Mo_fault, decode prog_14_method_28_code e.1 = .ok e.2 := by decide +kernel
def t_Mo_council : List XI := [(0, .aload_n 0, 1), (1, .iload_n 1, 1), (2, .invokevirtual 249, 3), (5, .ifCond .eq 7, 3), (8, .iload_n 2, 1), (9, .ifCond .ge 5, 3), (12, .iconst (-1), 1), (13, .ireturn, 1), (14, .iload_n 2, 1), (15, .iconst 0, 1), (16, .iconst 4, 1), (17, .invokestatic 168, 3), (20, .ifCond .eq 15, 3), (23, .aload_n 0, 1), (24, .getfield 7, 3), (27, .aload_n 0, 1), (28, .getfield 225, 3), (31, .iload_n 2, 1), (32, .iadd, 1), (33, .iaload, 1), (34, .ireturn, 1), (35, .iload_n 2, 1), (36, .bipush 100, 2), (38, .if_icmp .lt 52, 3), (41, .iload_n 2, 1), (42, .bipush 100, 2), (44, .isub, 1), (45, .bipush 10, 2), (47, .idiv, 1), (48, .istore_n 3, 1), (49, .iload_n 2, 1), (50, .bipush 10, 2), (52, .irem, 1), (53, .istore 4, 2), (55, .aload_n 0, 1), (56, .iload_n 3, 1), (57, .invokevirtual 252, 3), (60, .ifCond .eq 28, 3), (63, .aload_n 0, 1), (64, .iload 4, 2), (66, .invokevirtual 252, 3), (69, .ifCond .eq 19, 3), (72, .iload_n 3, 1), (73, .iload 4, 2), (75, .if_icmp .eq 13, 3), (78, .aload_n 0, 1), (79, .iload_n 3, 1), (80, .iload 4, 2), (82, .invokevirtual 255, 3), (85, .goto 4, 3), (88, .iconst (-1), 1), (89, .ireturn, 1), (90, .iload_n 2, 1), (91, .bipush 10, 2), (93, .irem, 1), (94, .istore_n 3, 1), (95, .iload_n 2, 1), (96, .bipush 10, 2), (98, .idiv, 1), (99, .tableswitch 85 1 3 #[25, 49, 67], 25), (124, .iload_n 3, 1), (125, .bipush 8, 2), (127, .if_icmp .ge 19, 3), (130, .aload_n 0, 1), (131, .getfield 7, 3), (134, .aload_n 0, 1), (135, .getfield 225, 3), (138, .iconst 5, 1), (139, .iadd, 1), (140, .iload_n 3, 1), (141, .iadd, 1), (142, .iaload, 1), (143, .goto 4, 3), (146, .iconst (-1), 1), (147, .ireturn, 1), (148, .iload_n 3, 1), (149, .aload_n 0, 1), (150, .getfield 246, 3), (153, .if_icmp .ge 11, 3), (156, .aload_n 0, 1), (157, .iload_n 3, 1), (158, .invokevirtual 258, 3), (161, .goto 4, 3), (164, .iconst (-1), 1), (165, .ireturn, 1), (166, .iload_n 3, 1), (167, .aload_n 0, 1), (168, .getfield 246, 3), (171, .if_icmp .ge 11, 3), (174, .aload_n 0, 1), (175, .iload_n 3, 1), (176, .invokevirtual 261, 3), (179, .goto 4, 3), (182, .iconst (-1), 1), (183, .ireturn, 1), (184, .iconst (-1), 1), (185, .ireturn, 1)]
set_option maxRecDepth 100000 in
theorem tk_Mo_council : ∀ e ∈ t_Mo_council, decode prog_14_method_36_code e.1 = .ok e.2 := by decide +kernel
def t_Mo_isCouncil : List XI := [(0, .aload_n 0, 1), (1, .iconst 0, 1), (2, .iload_n 1, 1), (3, .invokevirtual 206, 3), (6, .ifCond .ne 5, 3), (9, .iconst 0, 1), (10, .ireturn, 1), (11, .aload_n 0, 1), (12, .iconst 0, 1), (13, .iload_n 1, 1), (14, .invokestatic 222, 3), (17, .putfield 225, 3), (20, .aload_n 0, 1), (21, .aload_n 0, 1), (22, .getfield 7, 3), (25, .aload_n 0, 1), (26, .getfield 225, 3), (29, .iaload, 1), (30, .putfield 228, 3), (33, .aload_n 0, 1), (34, .iconst 3, 1), (35, .aload_n 0, 1), (36, .getfield 228, 3), (39, .imul, 1), (40, .iconst 1, 1), (41, .iadd, 1), (42, .putfield 231, 3), (45, .aload_n 0, 1), (46, .iconst 2, 1), (47, .aload_n 0, 1), (48, .getfield 228, 3), (51, .imul, 1), (52, .iconst 1, 1), (53, .iadd, 1), (54, .putfield 234, 3), (57, .aload_n 0, 1), (58, .aload_n 0, 1), (59, .getfield 7, 3), (62, .aload_n 0, 1), (63, .getfield 225, 3), (66, .iconst 1, 1), (67, .iadd, 1), (68, .iaload, 1), (69, .putfield 237, 3), (72, .aload_n 0, 1), (73, .aload_n 0, 1), (74, .getfield 7, 3), (77, .aload_n 0, 1), (78, .getfield 225, 3), (81, .iconst 2, 1), (82, .iadd, 1), (83, .iaload, 1), (84, .putfield 240, 3), (87, .aload_n 0, 1), (88, .aload_n 0, 1), (89, .getfield 7, 3), (92, .aload_n 0, 1), (93, .getfield 225, 3), (96, .iconst 3, 1), (97, .iadd, 1), (98, .iaload, 1), (99, .putfield 243, 3), (102, .aload_n 0, 1), (103, .aload_n 0, 1), (104, .getfield 7, 3), (107, .aload_n 0, 1), (108, .getfield 225, 3), (111, .iconst 4, 1), (112, .iadd, 1), (113, .iaload, 1), (114, .putfield 246, 3), (117, .iconst 1, 1), (118, .ireturn, 1)]
set_option maxRecDepth 100000 in
theorem tk_Mo_isCouncil : ∀ e ∈ t_Mo_isCouncil, decode prog_14_method_29_code e.1 = .ok e.2 := by decide +kernel
def t_Mo_isMember : List XI := [(0, .iload_n 1, 1), (1, .iconst 0, 1), (2, .aload_n 0, 1), (3, .getfield 231, 3), (6, .iconst 1, 1), (7, .isub, 1), (8, .invokestatic 168, 3), (11, .ireturn, 1)]
set_option maxRecDepth 100000 in
theorem tk_Mo_isMember : ∀ e ∈ t_Mo_isMember, decode prog_14_method_30_code e.1 = .ok e.2 := by decide +kernel
def t_Mo_delayOf : List XI := [(0, .aload_n 0, 1), (1, .getfield 7, 3), (4, .aload_n 0, 1), (5, .getfield 225, 3), (8, .bipush 33, 2), (10, .iadd, 1), (11, .bipush 7, 2), (13, .iload_n 1, 1), (14, .imul, 1), (15, .iadd, 1), (16, .iload_n 2, 1), (17, .iadd, 1), (18, .iaload, 1), (19, .ireturn, 1)]
set_option maxRecDepth 100000 in
theorem tk_Mo_delayOf : ∀ e ∈ t_Mo_delayOf, decode prog_14_method_32_code e.1 = .ok e.2 := by decide +kernel
def t_Mo_orderAccount : List XI := [(0, .aload_n 0, 1), (1, .getfield 7, 3), (4, .aload_n 0, 1), (5, .getfield 225, 3), (8, .bipush 13, 2), (10, .iadd, 1), (11, .iconst 2, 1), (12, .iload_n 1, 1), (13, .imul, 1), (14, .iadd, 1), (15, .iaload, 1), (16, .ireturn, 1)]
set_option maxRecDepth 100000 in
theorem tk_Mo_orderAccount : ∀ e ∈ t_Mo_orderAccount, decode prog_14_method_33_code e.1 = .ok e.2 := by decide +kernel
def t_Mo_orderPlus : List XI := [(0, .aload_n 0, 1), (1, .getfield 7, 3), (4, .aload_n 0, 1), (5, .getfield 225, 3), (8, .bipush 13, 2), (10, .iadd, 1), (11, .iconst 1, 1), (12, .iadd, 1), (13, .iconst 2, 1), (14, .iload_n 1, 1), (15, .imul, 1), (16, .iadd, 1), (17, .iaload, 1), (18, .ireturn, 1)]
set_option maxRecDepth 100000 in
theorem tk_Mo_orderPlus : ∀ e ∈ t_Mo_orderPlus, decode prog_14_method_34_code e.1 = .ok e.2 := by decide +kernel
def t_Mo_tree : List XI := [(0, .aload_n 0, 1), (1, .iload_n 1, 1), (2, .invokevirtual 249, 3), (5, .ifCond .eq 13, 3), (8, .iload_n 2, 1), (9, .iconst 1, 1), (10, .bipush 15, 2), (12, .invokestatic 168, 3), (15, .ifCond .ne 5, 3), (18, .iconst (-1), 1), (19, .ireturn, 1), (20, .aload_n 0, 1), (21, .getfield 20, 3), (24, .aload_n 0, 1), (25, .getfield 7, 3), (28, .aload_n 0, 1), (29, .getfield 225, 3), (32, .iconst 5, 1), (33, .iadd, 1), (34, .invokestatic 264, 3), (37, .aload_n 0, 1), (38, .getfield 20, 3), (41, .iload_n 2, 1), (42, .iaload, 1), (43, .ireturn, 1)]
set_option maxRecDepth 100000 in
theorem tk_Mo_tree : ∀ e ∈ t_Mo_tree, decode prog_14_method_39_code e.1 = .ok e.2 := by decide +kernel
def t_Mo_laysSums : List XI := [(0, .iconst 0, 1), (1, .istore_n 3, 1), (2, .iload_n 3, 1), (3, .bipush 8, 2), (5, .if_icmp .ge 20, 3), (8, .aload_n 0, 1), (9, .bipush 8, 2), (11, .iload_n 3, 1), (12, .iadd, 1), (13, .aload_n 1, 1), (14, .iload_n 2, 1), (15, .iload_n 3, 1), (16, .iadd, 1), (17, .iaload, 1), (18, .iastore, 1), (19, .iinc 3 1, 3), (22, .goto (-20), 3), (25, .bipush 7, 2), (27, .istore_n 3, 1), (28, .iload_n 3, 1), (29, .ifCond .le 38, 3), (32, .aload_n 0, 1), (33, .iload_n 3, 1), (34, .bipush 31, 2), (36, .aload_n 0, 1), (37, .iconst 2, 1), (38, .iload_n 3, 1), (39, .imul, 1), (40, .iaload, 1), (41, .imul, 1), (42, .bipush 17, 2), (44, .aload_n 0, 1), (45, .iconst 2, 1), (46, .iload_n 3, 1), (47, .imul, 1), (48, .iconst 1, 1), (49, .iadd, 1), (50, .iaload, 1), (51, .imul, 1), (52, .iadd, 1), (53, .bipush 7, 2), (55, .iadd, 1), (56, .sipush 9973, 3), (59, .irem, 1), (60, .iastore, 1), (61, .iinc 3 (-1), 3), (64, .goto (-36), 3), (67, .return_, 1)]
set_option maxRecDepth 100000 in
theorem tk_Mo_laysSums : ∀ e ∈ t_Mo_laysSums, decode prog_14_method_37_code e.1 = .ok e.2 := by decide +kernel
def t_Mo_differ : List XI := [(0, .aload_n 0, 1), (1, .iconst 0, 1), (2, .iload_n 1, 1), (3, .invokevirtual 206, 3), (6, .ifCond .eq 20, 3), (9, .aload_n 0, 1), (10, .iload_n 2, 1), (11, .invokevirtual 249, 3), (14, .ifCond .eq 12, 3), (17, .iload_n 3, 1), (18, .iconst 0, 1), (19, .iconst 2, 1), (20, .invokestatic 168, 3), (23, .ifCond .ne 5, 3), (26, .iconst (-1), 1), (27, .ireturn, 1), (28, .aload_n 0, 1), (29, .getfield 23, 3), (32, .aload_n 0, 1), (33, .getfield 7, 3), (36, .aload_n 0, 1), (37, .getfield 225, 3), (40, .iconst 5, 1), (41, .iadd, 1), (42, .invokestatic 264, 3), (45, .aload_n 0, 1), (46, .getfield 225, 3), (49, .iconst 5, 1), (50, .iadd, 1), (51, .istore 4, 2), (53, .aload_n 0, 1), (54, .iload_n 1, 1), (55, .invokevirtual 249, 3), (58, .pop, 1), (59, .aload_n 0, 1), (60, .getfield 20, 3), (63, .aload_n 0, 1), (64, .getfield 7, 3), (67, .aload_n 0, 1), (68, .getfield 225, 3), (71, .iconst 5, 1), (72, .iadd, 1), (73, .invokestatic 264, 3), (76, .aload_n 0, 1), (77, .invokevirtual 274, 3), (80, .iload_n 3, 1), (81, .iconst 2, 1), (82, .if_icmp .ge 19, 3), (85, .iload_n 3, 1), (86, .ifCond .ne 10, 3), (89, .aload_n 0, 1), (90, .getfield 268, 3), (93, .goto 7, 3), (96, .aload_n 0, 1), (97, .getfield 271, 3), (100, .ireturn, 1), (101, .iconst 1, 1), (102, .istore 5, 2), (104, .iconst 0, 1), (105, .istore 6, 2), (107, .iload 6, 2), (109, .bipush 8, 2), (111, .if_icmp .ge 61, 3), (114, .iload 5, 2), (116, .ifCond .eq 47, 3), (119, .aload_n 0, 1), (120, .getfield 271, 3), (123, .iload 6, 2), (125, .ishr, 1), (126, .iconst 1, 1), (127, .iand, 1), (128, .iconst 1, 1), (129, .if_icmp .eq 30, 3), (132, .aload_n 0, 1), (133, .getfield 7, 3), (136, .iload 4, 2), (138, .iload 6, 2), (140, .iadd, 1), (141, .iaload, 1), (142, .aload_n 0, 1), (143, .getfield 7, 3), (146, .aload_n 0, 1), (147, .getfield 225, 3), (150, .iconst 5, 1), (151, .iadd, 1), (152, .iload 6, 2), (154, .iadd, 1), (155, .iaload, 1), (156, .if_icmp .ne 7, 3), (159, .iconst 1, 1), (160, .goto 4, 3), (163, .iconst 0, 1), (164, .istore 5, 2), (166, .iinc 6 1, 3), (169, .goto (-62), 3), (172, .iload 5, 2), (174, .ifCond .eq 7, 3), (177, .iconst 1, 1), (178, .goto 4, 3), (181, .iconst 0, 1), (182, .ireturn, 1)]
set_option maxRecDepth 100000 in
theorem tk_Mo_differ : ∀ e ∈ t_Mo_differ, decode prog_14_method_41_code e.1 = .ok e.2 := by decide +kernel
def t_Mo_seeks : List XI := [(0, .aload_n 0, 1), (1, .iconst 1, 1), (2, .putfield 268, 3), (5, .aload_n 0, 1), (6, .iconst 0, 1), (7, .putfield 271, 3), (10, .aload_n 0, 1), (11, .getfield 20, 3), (14, .iconst 1, 1), (15, .iaload, 1), (16, .aload_n 0, 1), (17, .getfield 23, 3), (20, .iconst 1, 1), (21, .iaload, 1), (22, .if_icmp .ne 7, 3), (25, .iconst 0, 1), (26, .goto 4, 3), (29, .iconst 2, 1), (30, .istore_n 1, 1), (31, .iconst 1, 1), (32, .istore_n 2, 1), (33, .iload_n 2, 1), (34, .bipush 8, 2), (36, .if_icmp .ge 74, 3), (39, .iload_n 1, 1), (40, .iload_n 2, 1), (41, .ishr, 1), (42, .iconst 1, 1), (43, .iand, 1), (44, .ifCond .ne 6, 3), (47, .goto 57, 3), (50, .aload_n 0, 1), (51, .dup, 1), (52, .getfield 268, 3), (55, .iconst 2, 1), (56, .iadd, 1), (57, .putfield 268, 3), (60, .iconst 2, 1), (61, .iload_n 2, 1), (62, .imul, 1), (63, .istore_n 3, 1), (64, .iload_n 3, 1), (65, .iconst 2, 1), (66, .iload_n 2, 1), (67, .imul, 1), (68, .iconst 1, 1), (69, .iadd, 1), (70, .if_icmp .gt 34, 3), (73, .iload_n 1, 1), (74, .aload_n 0, 1), (75, .getfield 20, 3), (78, .iload_n 3, 1), (79, .iaload, 1), (80, .aload_n 0, 1), (81, .getfield 23, 3), (84, .iload_n 3, 1), (85, .iaload, 1), (86, .if_icmp .ne 7, 3), (89, .iconst 0, 1), (90, .goto 6, 3), (93, .iconst 1, 1), (94, .iload_n 3, 1), (95, .ishl, 1), (96, .ior, 1), (97, .istore_n 1, 1), (98, .iinc 3 1, 3), (101, .goto (-37), 3), (104, .iinc 2 1, 3), (107, .goto (-74), 3), (110, .iconst 0, 1), (111, .istore_n 2, 1), (112, .iload_n 2, 1), (113, .bipush 8, 2), (115, .if_icmp .ge 28, 3), (118, .aload_n 0, 1), (119, .dup, 1), (120, .getfield 271, 3), (123, .iload_n 1, 1), (124, .bipush 8, 2), (126, .iload_n 2, 1), (127, .iadd, 1), (128, .ishr, 1), (129, .iconst 1, 1), (130, .iand, 1), (131, .iload_n 2, 1), (132, .ishl, 1), (133, .ior, 1), (134, .putfield 271, 3), (137, .iinc 2 1, 3), (140, .goto (-28), 3), (143, .return_, 1)]
set_option maxRecDepth 100000 in
theorem tk_Mo_seeks : ∀ e ∈ t_Mo_seeks, decode prog_14_method_40_code e.1 = .ok e.2 := by decide +kernel
def t_Mo_quorum : List XI := [(0, .aload_n 0, 1), (1, .iload_n 1, 1), (2, .invokevirtual 249, 3), (5, .ifCond .ne 6, 3), (8, .bipush (-2), 2), (10, .ireturn, 1), (11, .iconst 0, 1), (12, .istore_n 3, 1), (13, .iconst 0, 1), (14, .istore 4, 2), (16, .iload 4, 2), (18, .aload_n 0, 1), (19, .getfield 231, 3), (22, .if_icmp .ge 26, 3), (25, .iload_n 3, 1), (26, .aload_n 0, 1), (27, .iload 4, 2), (29, .invokevirtual 277, 3), (32, .ifCond .eq 7, 3), (35, .iconst 0, 1), (36, .goto 4, 3), (39, .iconst 1, 1), (40, .iadd, 1), (41, .istore_n 3, 1), (42, .iinc 4 1, 3), (45, .goto (-29), 3), (48, .iconst 0, 1), (49, .istore 4, 2), (51, .iconst 0, 1), (52, .istore 5, 2), (54, .iconst 0, 1), (55, .istore 6, 2), (57, .iload 6, 2), (59, .iconst 1, 1), (60, .aload_n 0, 1), (61, .getfield 231, 3), (64, .ishl, 1), (65, .if_icmp .ge 80, 3), (68, .iload 6, 2), (70, .invokestatic 280, 3), (73, .aload_n 0, 1), (74, .getfield 234, 3), (77, .if_icmp .eq 6, 3), (80, .goto 59, 3), (83, .iinc 4 1, 3), (86, .iconst 0, 1), (87, .istore 7, 2), (89, .iload 7, 2), (91, .iload 6, 2), (93, .if_icmp .ge 46, 3), (96, .iload 5, 2), (98, .iload 7, 2), (100, .invokestatic 280, 3), (103, .aload_n 0, 1), (104, .getfield 234, 3), (107, .if_icmp .ne 22, 3), (110, .iload 6, 2), (112, .iload 7, 2), (114, .iand, 1), (115, .aload_n 0, 1), (116, .getfield 243, 3), (119, .iconst (-1), 1), (120, .ixor, 1), (121, .iand, 1), (122, .ifCond .ne 7, 3), (125, .iconst 1, 1), (126, .goto 4, 3), (129, .iconst 0, 1), (130, .iadd, 1), (131, .istore 5, 2), (133, .iinc 7 1, 3), (136, .goto (-47), 3), (139, .iinc 6 1, 3), (142, .goto (-85), 3), (145, .iload_n 2, 1), (146, .tableswitch 43 0 3 #[30, 35, 38, 41], 30), (176, .aload_n 0, 1), (177, .getfield 234, 3), (180, .ireturn, 1), (181, .iload 4, 2), (183, .ireturn, 1), (184, .iload 5, 2), (186, .ireturn, 1), (187, .iload_n 3, 1), (188, .ireturn, 1), (189, .bipush (-2), 2), (191, .ireturn, 1)]
set_option maxRecDepth 100000 in
theorem tk_Mo_quorum : ∀ e ∈ t_Mo_quorum, decode prog_14_method_42_code e.1 = .ok e.2 := by decide +kernel
def t_Mo_isLiar : List XI := [(0, .aload_n 0, 1), (1, .getfield 243, 3), (4, .iload_n 1, 1), (5, .ishr, 1), (6, .iconst 1, 1), (7, .iand, 1), (8, .iconst 1, 1), (9, .if_icmp .ne 7, 3), (12, .iconst 1, 1), (13, .goto 4, 3), (16, .iconst 0, 1), (17, .ireturn, 1)]
set_option maxRecDepth 100000 in
theorem tk_Mo_isLiar : ∀ e ∈ t_Mo_isLiar, decode prog_14_method_31_code e.1 = .ok e.2 := by decide +kernel
def t_Mo_bitsOf : List XI := [(0, .iconst 0, 1), (1, .istore_n 1, 1), (2, .iconst 0, 1), (3, .istore_n 2, 1), (4, .iload_n 2, 1), (5, .bipush 14, 2), (7, .if_icmp .ge 17, 3), (10, .iload_n 1, 1), (11, .iload_n 0, 1), (12, .iload_n 2, 1), (13, .ishr, 1), (14, .iconst 1, 1), (15, .iand, 1), (16, .iadd, 1), (17, .istore_n 1, 1), (18, .iinc 2 1, 3), (21, .goto (-17), 3), (24, .iload_n 1, 1), (25, .ireturn, 1)]
set_option maxRecDepth 100000 in
theorem tk_Mo_bitsOf : ∀ e ∈ t_Mo_bitsOf, decode prog_14_method_35_code e.1 = .ok e.2 := by decide +kernel
def t_Mo_deed : List XI := [(0, .aload_n 0, 1), (1, .iload_n 1, 1), (2, .invokevirtual 376, 3), (5, .ifCond .ne 6, 3), (8, .bipush (-2), 2), (10, .ireturn, 1), (11, .iload_n 2, 1), (12, .iconst (-1), 1), (13, .if_icmp .ne 22, 3), (16, .iload_n 3, 1), (17, .ifCond .ne 15, 3), (20, .aload_n 0, 1), (21, .getfield 7, 3), (24, .aload_n 0, 1), (25, .getfield 373, 3), (28, .iaload, 1), (29, .goto 5, 3), (32, .bipush (-2), 2), (34, .ireturn, 1), (35, .iload_n 2, 1), (36, .iconst 0, 1), (37, .aload_n 0, 1), (38, .getfield 7, 3), (41, .aload_n 0, 1), (42, .getfield 373, 3), (45, .iaload, 1), (46, .iconst 1, 1), (47, .isub, 1), (48, .invokestatic 168, 3), (51, .ifCond .eq 32, 3), (54, .iload_n 3, 1), (55, .iconst 0, 1), (56, .iconst 3, 1), (57, .invokestatic 168, 3), (60, .ifCond .eq 23, 3), (63, .aload_n 0, 1), (64, .getfield 7, 3), (67, .aload_n 0, 1), (68, .getfield 373, 3), (71, .iconst 1, 1), (72, .iadd, 1), (73, .iconst 4, 1), (74, .iload_n 2, 1), (75, .imul, 1), (76, .iadd, 1), (77, .iload_n 3, 1), (78, .iadd, 1), (79, .iaload, 1), (80, .goto 5, 3), (83, .bipush (-2), 2), (85, .ireturn, 1)]
set_option maxRecDepth 100000 in
theorem tk_Mo_deed : ∀ e ∈ t_Mo_deed, decode prog_14_method_71_code e.1 = .ok e.2 := by decide +kernel
def t_Mo_isRun : List XI := [(0, .aload_n 0, 1), (1, .iconst 1, 1), (2, .iload_n 1, 1), (3, .invokevirtual 206, 3), (6, .ifCond .ne 5, 3), (9, .iconst 0, 1), (10, .ireturn, 1), (11, .aload_n 0, 1), (12, .iconst 1, 1), (13, .iload_n 1, 1), (14, .invokestatic 222, 3), (17, .putfield 373, 3), (20, .iconst 1, 1), (21, .ireturn, 1)]
set_option maxRecDepth 100000 in
theorem tk_Mo_isRun : ∀ e ∈ t_Mo_isRun, decode prog_14_method_70_code e.1 = .ok e.2 := by decide +kernel
def t_Mo_stop : List XI := [(0, .aload_n 0, 1), (1, .iload_n 1, 1), (2, .invokevirtual 249, 3), (5, .ifCond .eq 11, 3), (8, .aload_n 0, 1), (9, .iload_n 2, 1), (10, .invokevirtual 376, 3), (13, .ifCond .ne 5, 3), (16, .iconst (-1), 1), (17, .ireturn, 1), (18, .aload_n 0, 1), (19, .bipush 40, 2), (21, .invokevirtual 386, 3), (24, .aload_n 0, 1), (25, .getfield 283, 3), (28, .ireturn, 1)]
set_option maxRecDepth 100000 in
theorem tk_Mo_stop : ∀ e ∈ t_Mo_stop, decode prog_14_method_73_code e.1 = .ok e.2 := by decide +kernel
def t_Mo_goes : List XI := [(0, .aload_n 0, 1), (1, .invokevirtual 379, 3), (4, .aload_n 0, 1), (5, .getfield 283, 3), (8, .iload_n 1, 1), (9, .if_icmp .ge 84, 3), (12, .aload_n 0, 1), (13, .getfield 283, 3), (16, .aload_n 0, 1), (17, .getfield 7, 3), (20, .aload_n 0, 1), (21, .getfield 373, 3), (24, .iaload, 1), (25, .if_icmp .ge 68, 3), (28, .aload_n 0, 1), (29, .getfield 373, 3), (32, .iconst 1, 1), (33, .iadd, 1), (34, .iconst 4, 1), (35, .aload_n 0, 1), (36, .getfield 283, 3), (39, .imul, 1), (40, .iadd, 1), (41, .istore_n 2, 1), (42, .aload_n 0, 1), (43, .aload_n 0, 1), (44, .getfield 7, 3), (47, .iload_n 2, 1), (48, .iaload, 1), (49, .aload_n 0, 1), (50, .getfield 7, 3), (53, .iload_n 2, 1), (54, .iconst 1, 1), (55, .iadd, 1), (56, .iaload, 1), (57, .aload_n 0, 1), (58, .getfield 7, 3), (61, .iload_n 2, 1), (62, .iconst 2, 1), (63, .iadd, 1), (64, .iaload, 1), (65, .aload_n 0, 1), (66, .getfield 7, 3), (69, .iload_n 2, 1), (70, .iconst 3, 1), (71, .iadd, 1), (72, .iaload, 1), (73, .invokevirtual 382, 3), (76, .ifCond .ne 4, 3), (79, .return_, 1), (80, .aload_n 0, 1), (81, .dup, 1), (82, .getfield 283, 3), (85, .iconst 1, 1), (86, .iadd, 1), (87, .putfield 283, 3), (90, .goto (-86), 3), (93, .return_, 1)]
set_option maxRecDepth 100000 in
theorem tk_Mo_goes : ∀ e ∈ t_Mo_goes, decode prog_14_method_72_code e.1 = .ok e.2 := by decide +kernel
def t_Mo_begins : List XI := [(0, .aload_n 0, 1), (1, .iconst 0, 1), (2, .putfield 283, 3), (5, .iconst 0, 1), (6, .istore_n 1, 1), (7, .iload_n 1, 1), (8, .bipush 7, 2), (10, .if_icmp .ge 89, 3), (13, .aload_n 0, 1), (14, .getfield 26, 3), (17, .iload_n 1, 1), (18, .iconst 0, 1), (19, .iastore, 1), (20, .aload_n 0, 1), (21, .getfield 29, 3), (24, .iload_n 1, 1), (25, .iconst 1, 1), (26, .bastore, 1), (27, .aload_n 0, 1), (28, .getfield 32, 3), (31, .iload_n 1, 1), (32, .iconst 0, 1), (33, .iastore, 1), (34, .aload_n 0, 1), (35, .getfield 35, 3), (38, .iload_n 1, 1), (39, .iconst 0, 1), (40, .iastore, 1), (41, .aload_n 0, 1), (42, .getfield 38, 3), (45, .iload_n 1, 1), (46, .iconst 0, 1), (47, .iastore, 1), (48, .aload_n 0, 1), (49, .getfield 41, 3), (52, .iload_n 1, 1), (53, .iconst (-1), 1), (54, .iastore, 1), (55, .iconst 0, 1), (56, .istore_n 2, 1), (57, .iload_n 2, 1), (58, .bipush 8, 2), (60, .if_icmp .ge 33, 3), (63, .aload_n 0, 1), (64, .getfield 44, 3), (67, .bipush 8, 2), (69, .iload_n 1, 1), (70, .imul, 1), (71, .iload_n 2, 1), (72, .iadd, 1), (73, .aload_n 0, 1), (74, .getfield 7, 3), (77, .aload_n 0, 1), (78, .getfield 225, 3), (81, .iconst 5, 1), (82, .iadd, 1), (83, .iload_n 2, 1), (84, .iadd, 1), (85, .iaload, 1), (86, .iastore, 1), (87, .iinc 2 1, 3), (90, .goto (-33), 3), (93, .iinc 1 1, 3), (96, .goto (-89), 3), (99, .iconst 0, 1), (100, .istore_n 1, 1), (101, .iload_n 1, 1), (102, .bipush 91, 2), (104, .if_icmp .ge 51, 3), (107, .aload_n 0, 1), (108, .getfield 50, 3), (111, .iload_n 1, 1), (112, .iconst (-1), 1), (113, .iastore, 1), (114, .aload_n 0, 1), (115, .getfield 53, 3), (118, .iload_n 1, 1), (119, .iconst 0, 1), (120, .iastore, 1), (121, .aload_n 0, 1), (122, .getfield 56, 3), (125, .iload_n 1, 1), (126, .iconst 0, 1), (127, .iastore, 1), (128, .aload_n 0, 1), (129, .getfield 59, 3), (132, .iload_n 1, 1), (133, .iconst (-1), 1), (134, .iastore, 1), (135, .aload_n 0, 1), (136, .getfield 62, 3), (139, .iload_n 1, 1), (140, .iconst (-1), 1), (141, .iastore, 1), (142, .aload_n 0, 1), (143, .getfield 65, 3), (146, .iload_n 1, 1), (147, .iconst (-1), 1), (148, .iastore, 1), (149, .iinc 1 1, 3), (152, .goto (-51), 3), (155, .iconst 0, 1), (156, .istore_n 1, 1), (157, .iload_n 1, 1), (158, .bipush 49, 2), (160, .if_icmp .ge 16, 3), (163, .aload_n 0, 1), (164, .getfield 68, 3), (167, .iload_n 1, 1), (168, .iconst (-1), 1), (169, .iastore, 1), (170, .iinc 1 1, 3), (173, .goto (-16), 3), (176, .iconst 0, 1), (177, .istore_n 1, 1), (178, .iload_n 1, 1), (179, .bipush 10, 2), (181, .if_icmp .ge 16, 3), (184, .aload_n 0, 1), (185, .getfield 74, 3), (188, .iload_n 1, 1), (189, .iconst 0, 1), (190, .bastore, 1), (191, .iinc 1 1, 3), (194, .goto (-16), 3), (197, .return_, 1)]
set_option maxRecDepth 100000 in
theorem tk_Mo_begins : ∀ e ∈ t_Mo_begins, decode prog_14_method_43_code e.1 = .ok e.2 := by decide +kernel
def t_Mo_does : List XI := [(0, .aload_n 0, 1), (1, .iload_n 2, 1), (2, .invokevirtual 252, 3), (5, .ifCond .ne 5, 3), (8, .iconst 0, 1), (9, .ireturn, 1), (10, .iload_n 1, 1), (11, .iconst 1, 1), (12, .if_icmp .eq 18, 3), (15, .iload_n 1, 1), (16, .iconst 2, 1), (17, .if_icmp .eq 13, 3), (20, .iload_n 1, 1), (21, .iconst 4, 1), (22, .if_icmp .eq 8, 3), (25, .iload_n 1, 1), (26, .iconst 5, 1), (27, .if_icmp .ne 7, 3), (30, .iconst 1, 1), (31, .goto 4, 3), (34, .iconst 0, 1), (35, .istore 5, 2), (37, .iload 5, 2), (39, .ifCond .eq 18, 3), (42, .aload_n 0, 1), (43, .iload_n 3, 1), (44, .invokevirtual 252, 3), (47, .ifCond .eq 8, 3), (50, .iload_n 2, 1), (51, .iload_n 3, 1), (52, .if_icmp .ne 5, 3), (55, .iconst 0, 1), (56, .ireturn, 1), (57, .iload_n 1, 1), (58, .tableswitch 106 0 7 #[46, 55, 55, 74, 80, 87, 94, 100], 46), (104, .aload_n 0, 1), (105, .iload_n 2, 1), (106, .iload_n 3, 1), (107, .iload 4, 2), (109, .invokevirtual 349, 3), (112, .ireturn, 1), (113, .aload_n 0, 1), (114, .iload_n 2, 1), (115, .iload_n 3, 1), (116, .iload 4, 2), (118, .iload_n 1, 1), (119, .iconst 2, 1), (120, .if_icmp .ne 7, 3), (123, .iconst 1, 1), (124, .goto 4, 3), (127, .iconst 0, 1), (128, .invokevirtual 352, 3), (131, .ireturn, 1), (132, .aload_n 0, 1), (133, .iload_n 2, 1), (134, .invokevirtual 355, 3), (137, .ireturn, 1), (138, .aload_n 0, 1), (139, .iload_n 2, 1), (140, .iload_n 3, 1), (141, .invokevirtual 358, 3), (144, .ireturn, 1), (145, .aload_n 0, 1), (146, .iload_n 2, 1), (147, .iload_n 3, 1), (148, .invokevirtual 361, 3), (151, .ireturn, 1), (152, .aload_n 0, 1), (153, .iload_n 2, 1), (154, .invokevirtual 364, 3), (157, .ireturn, 1), (158, .aload_n 0, 1), (159, .iload_n 2, 1), (160, .invokevirtual 367, 3), (163, .ireturn, 1), (164, .aload_n 0, 1), (165, .iload_n 2, 1), (166, .invokevirtual 370, 3), (169, .ireturn, 1)]
set_option maxRecDepth 100000 in
theorem tk_Mo_does : ∀ e ∈ t_Mo_does, decode prog_14_method_69_code e.1 = .ok e.2 := by decide +kernel
def t_Mo_proposes : List XI := [(0, .aload_n 0, 1), (1, .iload_n 1, 1), (2, .invokevirtual 277, 3), (5, .ifCond .ne 43, 3), (8, .aload_n 0, 1), (9, .getfield 29, 3), (12, .iload_n 1, 1), (13, .baload, 1), (14, .ifCond .eq 34, 3), (17, .iload_n 3, 1), (18, .aload_n 0, 1), (19, .getfield 246, 3), (22, .if_icmp .ge 26, 3), (25, .aload_n 0, 1), (26, .iload_n 1, 1), (27, .iload_n 2, 1), (28, .invokevirtual 301, 3), (31, .ifCond .eq 17, 3), (34, .aload_n 0, 1), (35, .getfield 50, 3), (38, .iload_n 1, 1), (39, .iload_n 2, 1), (40, .invokestatic 286, 3), (43, .iaload, 1), (44, .iconst (-1), 1), (45, .if_icmp .eq 5, 3), (48, .iconst 0, 1), (49, .ireturn, 1), (50, .aload_n 0, 1), (51, .iload_n 1, 1), (52, .invokevirtual 295, 3), (55, .istore 4, 2), (57, .iload 4, 2), (59, .iload_n 1, 1), (60, .if_icmp .eq 55, 3), (63, .aload_n 0, 1), (64, .iload 4, 2), (66, .invokevirtual 277, 3), (69, .ifCond .ne 46, 3), (72, .aload_n 0, 1), (73, .getfield 29, 3), (76, .iload 4, 2), (78, .baload, 1), (79, .ifCond .eq 34, 3), (82, .aload_n 0, 1), (83, .getfield 26, 3), (86, .iload 4, 2), (88, .iaload, 1), (89, .aload_n 0, 1), (90, .getfield 26, 3), (93, .iload_n 1, 1), (94, .iaload, 1), (95, .if_icmp .ne 18, 3), (98, .aload_n 0, 1), (99, .getfield 50, 3), (102, .iload 4, 2), (104, .iload_n 2, 1), (105, .invokestatic 286, 3), (108, .iaload, 1), (109, .iload_n 3, 1), (110, .if_icmp .eq 5, 3), (113, .iconst 0, 1), (114, .ireturn, 1), (115, .aload_n 0, 1), (116, .iload_n 1, 1), (117, .iload_n 2, 1), (118, .iload_n 3, 1), (119, .invokevirtual 304, 3), (122, .iconst 1, 1), (123, .ireturn, 1)]
set_option maxRecDepth 100000 in
theorem tk_Mo_proposes : ∀ e ∈ t_Mo_proposes, decode prog_14_method_53_code e.1 = .ok e.2 := by decide +kernel
def t_Mo_isWithin : List XI := [(0, .iload_n 2, 1), (1, .aload_n 0, 1), (2, .getfield 32, 3), (5, .iload_n 1, 1), (6, .iaload, 1), (7, .if_icmp .le 22, 3), (10, .iload_n 2, 1), (11, .aload_n 0, 1), (12, .getfield 32, 3), (15, .iload_n 1, 1), (16, .iaload, 1), (17, .aload_n 0, 1), (18, .getfield 237, 3), (21, .iadd, 1), (22, .if_icmp .gt 7, 3), (25, .iconst 1, 1), (26, .goto 4, 3), (29, .iconst 0, 1), (30, .ireturn, 1)]
set_option maxRecDepth 100000 in
theorem tk_Mo_isWithin : ∀ e ∈ t_Mo_isWithin, decode prog_14_method_52_code e.1 = .ok e.2 := by decide +kernel
def t_Mo_at : List XI := [(0, .bipush 13, 2), (2, .iload_n 0, 1), (3, .imul, 1), (4, .iload_n 1, 1), (5, .iadd, 1), (6, .ireturn, 1)]
set_option maxRecDepth 100000 in
theorem tk_Mo_at : ∀ e ∈ t_Mo_at, decode prog_14_method_45_code e.1 = .ok e.2 := by decide +kernel
def t_Mo_primaryOf : List XI := [(0, .aload_n 0, 1), (1, .getfield 26, 3), (4, .iload_n 1, 1), (5, .iaload, 1), (6, .aload_n 0, 1), (7, .getfield 231, 3), (10, .irem, 1), (11, .ireturn, 1)]
set_option maxRecDepth 100000 in
theorem tk_Mo_primaryOf : ∀ e ∈ t_Mo_primaryOf, decode prog_14_method_44_code e.1 = .ok e.2 := by decide +kernel
def t_Mo_accepts : List XI := [(0, .aload_n 0, 1), (1, .getfield 50, 3), (4, .iload_n 1, 1), (5, .iload_n 2, 1), (6, .invokestatic 286, 3), (9, .iload_n 3, 1), (10, .iastore, 1), (11, .aload_n 0, 1), (12, .getfield 53, 3), (15, .iload_n 1, 1), (16, .iload_n 2, 1), (17, .invokestatic 286, 3), (20, .iconst 1, 1), (21, .iload_n 1, 1), (22, .ishl, 1), (23, .iconst 1, 1), (24, .aload_n 0, 1), (25, .iload_n 1, 1), (26, .invokevirtual 295, 3), (29, .ishl, 1), (30, .ior, 1), (31, .iastore, 1), (32, .aload_n 0, 1), (33, .getfield 56, 3), (36, .iload_n 1, 1), (37, .iload_n 2, 1), (38, .invokestatic 286, 3), (41, .iconst 0, 1), (42, .iastore, 1), (43, .aload_n 0, 1), (44, .iload_n 1, 1), (45, .iload_n 2, 1), (46, .invokevirtual 298, 3), (49, .return_, 1)]
set_option maxRecDepth 100000 in
theorem tk_Mo_accepts : ∀ e ∈ t_Mo_accepts, decode prog_14_method_51_code e.1 = .ok e.2 := by decide +kernel
def t_Mo_settles : List XI := [(0, .aload_n 0, 1), (1, .iload_n 1, 1), (2, .iload_n 2, 1), (3, .invokevirtual 289, 3), (6, .ifCond .ne 4, 3), (9, .return_, 1), (10, .aload_n 0, 1), (11, .getfield 59, 3), (14, .iload_n 1, 1), (15, .iload_n 2, 1), (16, .invokestatic 286, 3), (19, .aload_n 0, 1), (20, .getfield 26, 3), (23, .iload_n 1, 1), (24, .iaload, 1), (25, .iastore, 1), (26, .aload_n 0, 1), (27, .getfield 62, 3), (30, .iload_n 1, 1), (31, .iload_n 2, 1), (32, .invokestatic 286, 3), (35, .aload_n 0, 1), (36, .getfield 50, 3), (39, .iload_n 1, 1), (40, .iload_n 2, 1), (41, .invokestatic 286, 3), (44, .iaload, 1), (45, .iastore, 1), (46, .aload_n 0, 1), (47, .getfield 56, 3), (50, .iload_n 1, 1), (51, .iload_n 2, 1), (52, .invokestatic 286, 3), (55, .dup2, 1), (56, .iaload, 1), (57, .iconst 1, 1), (58, .iload_n 1, 1), (59, .ishl, 1), (60, .ior, 1), (61, .iastore, 1), (62, .return_, 1)]
set_option maxRecDepth 100000 in
theorem tk_Mo_settles : ∀ e ∈ t_Mo_settles, decode prog_14_method_48_code e.1 = .ok e.2 := by decide +kernel
def t_Mo_isPrepared : List XI := [(0, .aload_n 0, 1), (1, .getfield 50, 3), (4, .iload_n 1, 1), (5, .iload_n 2, 1), (6, .invokestatic 286, 3), (9, .iaload, 1), (10, .iconst (-1), 1), (11, .if_icmp .eq 27, 3), (14, .aload_n 0, 1), (15, .getfield 53, 3), (18, .iload_n 1, 1), (19, .iload_n 2, 1), (20, .invokestatic 286, 3), (23, .iaload, 1), (24, .invokestatic 280, 3), (27, .aload_n 0, 1), (28, .getfield 234, 3), (31, .if_icmp .lt 7, 3), (34, .iconst 1, 1), (35, .goto 4, 3), (38, .iconst 0, 1), (39, .ireturn, 1)]
set_option maxRecDepth 100000 in
theorem tk_Mo_isPrepared : ∀ e ∈ t_Mo_isPrepared, decode prog_14_method_46_code e.1 = .ok e.2 := by decide +kernel
def t_Mo_words : List XI := [(0, .aload_n 0, 1), (1, .iload_n 1, 1), (2, .iload_n 2, 1), (3, .iload_n 3, 1), (4, .iload 4, 2), (6, .invokevirtual 308, 3), (9, .ifCond .ne 5, 3), (12, .iconst 0, 1), (13, .ireturn, 1), (14, .iload 4, 2), (16, .ifCond .eq 22, 3), (19, .aload_n 0, 1), (20, .getfield 56, 3), (23, .iload_n 2, 1), (24, .iload_n 3, 1), (25, .invokestatic 286, 3), (28, .dup2, 1), (29, .iaload, 1), (30, .iconst 1, 1), (31, .iload_n 1, 1), (32, .ishl, 1), (33, .ior, 1), (34, .iastore, 1), (35, .goto 19, 3), (38, .aload_n 0, 1), (39, .getfield 53, 3), (42, .iload_n 2, 1), (43, .iload_n 3, 1), (44, .invokestatic 286, 3), (47, .dup2, 1), (48, .iaload, 1), (49, .iconst 1, 1), (50, .iload_n 1, 1), (51, .ishl, 1), (52, .ior, 1), (53, .iastore, 1), (54, .iload 4, 2), (56, .ifCond .ne 9, 3), (59, .aload_n 0, 1), (60, .iload_n 2, 1), (61, .iload_n 3, 1), (62, .invokevirtual 298, 3), (65, .iconst 1, 1), (66, .ireturn, 1)]
set_option maxRecDepth 100000 in
theorem tk_Mo_words : ∀ e ∈ t_Mo_words, decode prog_14_method_55_code e.1 = .ok e.2 := by decide +kernel
def t_Mo_isWord : List XI := [(0, .aload_n 0, 1), (1, .iload_n 2, 1), (2, .invokevirtual 277, 3), (5, .ifCond .ne 26, 3), (8, .aload_n 0, 1), (9, .getfield 29, 3), (12, .iload_n 2, 1), (13, .baload, 1), (14, .ifCond .eq 17, 3), (17, .aload_n 0, 1), (18, .getfield 50, 3), (21, .iload_n 2, 1), (22, .iload_n 3, 1), (23, .invokestatic 286, 3), (26, .iaload, 1), (27, .iconst (-1), 1), (28, .if_icmp .ne 5, 3), (31, .iconst 0, 1), (32, .ireturn, 1), (33, .iload 4, 2), (35, .ifCond .eq 10, 3), (38, .aload_n 0, 1), (39, .getfield 56, 3), (42, .goto 7, 3), (45, .aload_n 0, 1), (46, .getfield 53, 3), (49, .iload_n 2, 1), (50, .iload_n 3, 1), (51, .invokestatic 286, 3), (54, .iaload, 1), (55, .iload_n 1, 1), (56, .ishr, 1), (57, .iconst 1, 1), (58, .iand, 1), (59, .iconst 1, 1), (60, .if_icmp .ne 5, 3), (63, .iconst 0, 1), (64, .ireturn, 1), (65, .aload_n 0, 1), (66, .iload_n 1, 1), (67, .invokevirtual 277, 3), (70, .ifCond .eq 5, 3), (73, .iconst 1, 1), (74, .ireturn, 1), (75, .aload_n 0, 1), (76, .getfield 29, 3), (79, .iload_n 1, 1), (80, .baload, 1), (81, .ifCond .eq 59, 3), (84, .aload_n 0, 1), (85, .getfield 26, 3), (88, .iload_n 1, 1), (89, .iaload, 1), (90, .aload_n 0, 1), (91, .getfield 26, 3), (94, .iload_n 2, 1), (95, .iaload, 1), (96, .if_icmp .ne 44, 3), (99, .aload_n 0, 1), (100, .getfield 50, 3), (103, .iload_n 1, 1), (104, .iload_n 3, 1), (105, .invokestatic 286, 3), (108, .iaload, 1), (109, .aload_n 0, 1), (110, .getfield 50, 3), (113, .iload_n 2, 1), (114, .iload_n 3, 1), (115, .invokestatic 286, 3), (118, .iaload, 1), (119, .if_icmp .ne 21, 3), (122, .iload 4, 2), (124, .ifCond .eq 12, 3), (127, .aload_n 0, 1), (128, .iload_n 1, 1), (129, .iload_n 3, 1), (130, .invokevirtual 289, 3), (133, .ifCond .eq 7, 3), (136, .iconst 1, 1), (137, .goto 4, 3), (140, .iconst 0, 1), (141, .ireturn, 1)]
set_option maxRecDepth 100000 in
theorem tk_Mo_isWord : ∀ e ∈ t_Mo_isWord, decode prog_14_method_54_code e.1 = .ok e.2 := by decide +kernel
def t_Mo_runsOn : List XI := [(0, .aload_n 0, 1), (1, .iload_n 1, 1), (2, .invokevirtual 277, 3), (5, .ifCond .ne 11, 3), (8, .aload_n 0, 1), (9, .iload_n 1, 1), (10, .invokevirtual 328, 3), (13, .ifCond .ne 5, 3), (16, .iconst 0, 1), (17, .ireturn, 1), (18, .aload_n 0, 1), (19, .iload_n 1, 1), (20, .invokevirtual 328, 3), (23, .ifCond .eq 11, 3), (26, .aload_n 0, 1), (27, .iload_n 1, 1), (28, .invokevirtual 331, 3), (31, .goto (-13), 3), (34, .iconst 1, 1), (35, .ireturn, 1)]
set_option maxRecDepth 100000 in
theorem tk_Mo_runsOn : ∀ e ∈ t_Mo_runsOn, decode prog_14_method_60_code e.1 = .ok e.2 := by decide +kernel
def t_Mo_canRun : List XI := [(0, .aload_n 0, 1), (1, .getfield 35, 3), (4, .iload_n 1, 1), (5, .iaload, 1), (6, .bipush 12, 2), (8, .if_icmp .ge 23, 3), (11, .aload_n 0, 1), (12, .iload_n 1, 1), (13, .aload_n 0, 1), (14, .getfield 35, 3), (17, .iload_n 1, 1), (18, .iaload, 1), (19, .iconst 1, 1), (20, .iadd, 1), (21, .invokevirtual 325, 3), (24, .ifCond .eq 7, 3), (27, .iconst 1, 1), (28, .goto 4, 3), (31, .iconst 0, 1), (32, .ireturn, 1)]
set_option maxRecDepth 100000 in
theorem tk_Mo_canRun : ∀ e ∈ t_Mo_canRun, decode prog_14_method_59_code e.1 = .ok e.2 := by decide +kernel
def t_Mo_isCommitted : List XI := [(0, .aload_n 0, 1), (1, .iload_n 1, 1), (2, .iload_n 2, 1), (3, .invokevirtual 289, 3), (6, .ifCond .eq 27, 3), (9, .aload_n 0, 1), (10, .getfield 56, 3), (13, .iload_n 1, 1), (14, .iload_n 2, 1), (15, .invokestatic 286, 3), (18, .iaload, 1), (19, .invokestatic 280, 3), (22, .aload_n 0, 1), (23, .getfield 234, 3), (26, .if_icmp .lt 7, 3), (29, .iconst 1, 1), (30, .goto 4, 3), (33, .iconst 0, 1), (34, .ireturn, 1)]
set_option maxRecDepth 100000 in
theorem tk_Mo_isCommitted : ∀ e ∈ t_Mo_isCommitted, decode prog_14_method_47_code e.1 = .ok e.2 := by decide +kernel
def t_Mo_runsOne : List XI := [(0, .aload_n 0, 1), (1, .getfield 35, 3), (4, .iload_n 1, 1), (5, .iaload, 1), (6, .iconst 1, 1), (7, .iadd, 1), (8, .istore_n 2, 1), (9, .aload_n 0, 1), (10, .getfield 50, 3), (13, .iload_n 1, 1), (14, .iload_n 2, 1), (15, .invokestatic 286, 3), (18, .iaload, 1), (19, .istore_n 3, 1), (20, .iload_n 3, 1), (21, .bipush 10, 2), (23, .if_icmp .eq 38, 3), (26, .bipush 8, 2), (28, .iload_n 1, 1), (29, .imul, 1), (30, .aload_n 0, 1), (31, .iload_n 3, 1), (32, .invokevirtual 258, 3), (35, .iadd, 1), (36, .istore 4, 2), (38, .aload_n 0, 1), (39, .getfield 44, 3), (42, .iload 4, 2), (44, .aload_n 0, 1), (45, .getfield 44, 3), (48, .iload 4, 2), (50, .iaload, 1), (51, .aload_n 0, 1), (52, .iload_n 3, 1), (53, .invokevirtual 261, 3), (56, .iadd, 1), (57, .bipush 100, 2), (59, .irem, 1), (60, .iastore, 1), (61, .aload_n 0, 1), (62, .getfield 65, 3), (65, .iload_n 1, 1), (66, .iload_n 2, 1), (67, .invokestatic 286, 3), (70, .iload_n 3, 1), (71, .iastore, 1), (72, .aload_n 0, 1), (73, .getfield 35, 3), (76, .iload_n 1, 1), (77, .iload_n 2, 1), (78, .iastore, 1), (79, .iload_n 2, 1), (80, .aload_n 0, 1), (81, .getfield 240, 3), (84, .irem, 1), (85, .ifCond .ne 8, 3), (88, .aload_n 0, 1), (89, .iload_n 1, 1), (90, .invokevirtual 322, 3), (93, .return_, 1)]
set_option maxRecDepth 100000 in
theorem tk_Mo_runsOne : ∀ e ∈ t_Mo_runsOne, decode prog_14_method_58_code e.1 = .ok e.2 := by decide +kernel
def t_Mo_checks : List XI := [(0, .aload_n 0, 1), (1, .getfield 41, 3), (4, .iload_n 1, 1), (5, .aload_n 0, 1), (6, .getfield 35, 3), (9, .iload_n 1, 1), (10, .iaload, 1), (11, .iastore, 1), (12, .iconst 0, 1), (13, .istore_n 2, 1), (14, .iload_n 2, 1), (15, .bipush 8, 2), (17, .if_icmp .ge 31, 3), (20, .aload_n 0, 1), (21, .getfield 47, 3), (24, .bipush 8, 2), (26, .iload_n 1, 1), (27, .imul, 1), (28, .iload_n 2, 1), (29, .iadd, 1), (30, .aload_n 0, 1), (31, .getfield 44, 3), (34, .bipush 8, 2), (36, .iload_n 1, 1), (37, .imul, 1), (38, .iload_n 2, 1), (39, .iadd, 1), (40, .iaload, 1), (41, .iastore, 1), (42, .iinc 2 1, 3), (45, .goto (-31), 3), (48, .aload_n 0, 1), (49, .getfield 68, 3), (52, .bipush 7, 2), (54, .iload_n 1, 1), (55, .imul, 1), (56, .iload_n 1, 1), (57, .iadd, 1), (58, .aload_n 0, 1), (59, .getfield 35, 3), (62, .iload_n 1, 1), (63, .iaload, 1), (64, .iastore, 1), (65, .aload_n 0, 1), (66, .getfield 71, 3), (69, .bipush 7, 2), (71, .iload_n 1, 1), (72, .imul, 1), (73, .iload_n 1, 1), (74, .iadd, 1), (75, .aload_n 0, 1), (76, .aload_n 0, 1), (77, .getfield 47, 3), (80, .bipush 8, 2), (82, .iload_n 1, 1), (83, .imul, 1), (84, .invokevirtual 315, 3), (87, .iastore, 1), (88, .aload_n 0, 1), (89, .iload_n 1, 1), (90, .invokevirtual 319, 3), (93, .return_, 1)]
set_option maxRecDepth 100000 in
theorem tk_Mo_checks : ∀ e ∈ t_Mo_checks, decode prog_14_method_57_code e.1 = .ok e.2 := by decide +kernel
def t_Mo_rootOf : List XI := [(0, .aload_n 0, 1), (1, .getfield 20, 3), (4, .aload_n 1, 1), (5, .iload_n 2, 1), (6, .invokestatic 264, 3), (9, .aload_n 0, 1), (10, .getfield 20, 3), (13, .iconst 1, 1), (14, .iaload, 1), (15, .ireturn, 1)]
set_option maxRecDepth 100000 in
theorem tk_Mo_rootOf : ∀ e ∈ t_Mo_rootOf, decode prog_14_method_38_code e.1 = .ok e.2 := by decide +kernel
def t_Mo_counts : List XI := [(0, .iconst 0, 1), (1, .istore_n 2, 1), (2, .iload_n 2, 1), (3, .aload_n 0, 1), (4, .getfield 231, 3), (7, .if_icmp .ge 127, 3), (10, .aload_n 0, 1), (11, .getfield 68, 3), (14, .bipush 7, 2), (16, .iload_n 1, 1), (17, .imul, 1), (18, .iload_n 2, 1), (19, .iadd, 1), (20, .iaload, 1), (21, .istore_n 3, 1), (22, .iload_n 3, 1), (23, .iconst (-1), 1), (24, .if_icmp .eq 104, 3), (27, .iload_n 3, 1), (28, .aload_n 0, 1), (29, .getfield 32, 3), (32, .iload_n 1, 1), (33, .iaload, 1), (34, .if_icmp .gt 6, 3), (37, .goto 91, 3), (40, .iconst 0, 1), (41, .istore 4, 2), (43, .iconst 0, 1), (44, .istore 5, 2), (46, .iload 5, 2), (48, .aload_n 0, 1), (49, .getfield 231, 3), (52, .if_icmp .ge 61, 3), (55, .iload 4, 2), (57, .aload_n 0, 1), (58, .getfield 68, 3), (61, .bipush 7, 2), (63, .iload_n 1, 1), (64, .imul, 1), (65, .iload 5, 2), (67, .iadd, 1), (68, .iaload, 1), (69, .iload_n 3, 1), (70, .if_icmp .ne 33, 3), (73, .aload_n 0, 1), (74, .getfield 71, 3), (77, .bipush 7, 2), (79, .iload_n 1, 1), (80, .imul, 1), (81, .iload 5, 2), (83, .iadd, 1), (84, .iaload, 1), (85, .aload_n 0, 1), (86, .getfield 71, 3), (89, .bipush 7, 2), (91, .iload_n 1, 1), (92, .imul, 1), (93, .iload_n 2, 1), (94, .iadd, 1), (95, .iaload, 1), (96, .if_icmp .ne 7, 3), (99, .iconst 1, 1), (100, .goto 4, 3), (103, .iconst 0, 1), (104, .iadd, 1), (105, .istore 4, 2), (107, .iinc 5 1, 3), (110, .goto (-64), 3), (113, .iload 4, 2), (115, .aload_n 0, 1), (116, .getfield 234, 3), (119, .if_icmp .lt 9, 3), (122, .aload_n 0, 1), (123, .iload_n 1, 1), (124, .iload_n 3, 1), (125, .invokevirtual 312, 3), (128, .iinc 2 1, 3), (131, .goto (-129), 3), (134, .return_, 1)]
set_option maxRecDepth 100000 in
theorem tk_Mo_counts : ∀ e ∈ t_Mo_counts, decode prog_14_method_56_code e.1 = .ok e.2 := by decide +kernel
def t_Mo_cuts : List XI := [(0, .aload_n 0, 1), (1, .getfield 32, 3), (4, .iload_n 1, 1), (5, .iload_n 2, 1), (6, .iastore, 1), (7, .iconst 1, 1), (8, .istore_n 3, 1), (9, .iload_n 3, 1), (10, .bipush 13, 2), (12, .if_icmp .ge 42, 3), (15, .iload_n 3, 1), (16, .iload_n 2, 1), (17, .if_icmp .gt 37, 3), (20, .aload_n 0, 1), (21, .iload_n 1, 1), (22, .iload_n 3, 1), (23, .invokevirtual 292, 3), (26, .aload_n 0, 1), (27, .getfield 59, 3), (30, .iload_n 1, 1), (31, .iload_n 3, 1), (32, .invokestatic 286, 3), (35, .iconst (-1), 1), (36, .iastore, 1), (37, .aload_n 0, 1), (38, .getfield 62, 3), (41, .iload_n 1, 1), (42, .iload_n 3, 1), (43, .invokestatic 286, 3), (46, .iconst (-1), 1), (47, .iastore, 1), (48, .iinc 3 1, 3), (51, .goto (-42), 3), (54, .return_, 1)]
set_option maxRecDepth 100000 in
theorem tk_Mo_cuts : ∀ e ∈ t_Mo_cuts, decode prog_14_method_50_code e.1 = .ok e.2 := by decide +kernel
end
section
/-! code tables (printed by wip/whole/gen2.py out of the claim) -/
def t_Mo_forgets : List XI := [(0, .aload_n 0, 1), (1, .getfield 50, 3), (4, .iload_n 1, 1), (5, .iload_n 2, 1), (6, .invokestatic 286, 3), (9, .iconst (-1), 1), (10, .iastore, 1), (11, .aload_n 0, 1), (12, .getfield 53, 3), (15, .iload_n 1, 1), (16, .iload_n 2, 1), (17, .invokestatic 286, 3), (20, .iconst 0, 1), (21, .iastore, 1), (22, .aload_n 0, 1), (23, .getfield 56, 3), (26, .iload_n 1, 1), (27, .iload_n 2, 1), (28, .invokestatic 286, 3), (31, .iconst 0, 1), (32, .iastore, 1), (33, .return_, 1)]
set_option maxRecDepth 100000 in
theorem tk_Mo_forgets : ∀ e ∈ t_Mo_forgets, decode prog_14_method_49_code e.1 = .ok e.2 := by decide +kernel
def t_Mo_marks : List XI := [(0, .aload_n 0, 1), (1, .iload_n 2, 1), (2, .invokevirtual 277, 3), (5, .ifCond .eq 5, 3), (8, .iconst 0, 1), (9, .ireturn, 1), (10, .aload_n 0, 1), (11, .iload_n 1, 1), (12, .invokevirtual 277, 3), (15, .ifCond .eq 7, 3), (18, .iload_n 2, 1), (19, .goto 4, 3), (22, .iload_n 1, 1), (23, .istore_n 3, 1), (24, .aload_n 0, 1), (25, .getfield 41, 3), (28, .iload_n 3, 1), (29, .iaload, 1), (30, .iconst (-1), 1), (31, .if_icmp .eq 18, 3), (34, .aload_n 0, 1), (35, .getfield 41, 3), (38, .iload_n 3, 1), (39, .iaload, 1), (40, .aload_n 0, 1), (41, .getfield 32, 3), (44, .iload_n 2, 1), (45, .iaload, 1), (46, .if_icmp .gt 5, 3), (49, .iconst 0, 1), (50, .ireturn, 1), (51, .aload_n 0, 1), (52, .aload_n 0, 1), (53, .getfield 47, 3), (56, .bipush 8, 2), (58, .iload_n 3, 1), (59, .imul, 1), (60, .invokevirtual 315, 3), (63, .istore 4, 2), (65, .aload_n 0, 1), (66, .getfield 68, 3), (69, .bipush 7, 2), (71, .iload_n 2, 1), (72, .imul, 1), (73, .iload_n 1, 1), (74, .iadd, 1), (75, .iaload, 1), (76, .aload_n 0, 1), (77, .getfield 41, 3), (80, .iload_n 3, 1), (81, .iaload, 1), (82, .if_icmp .ne 21, 3), (85, .aload_n 0, 1), (86, .getfield 71, 3), (89, .bipush 7, 2), (91, .iload_n 2, 1), (92, .imul, 1), (93, .iload_n 1, 1), (94, .iadd, 1), (95, .iaload, 1), (96, .iload 4, 2), (98, .if_icmp .ne 5, 3), (101, .iconst 0, 1), (102, .ireturn, 1), (103, .aload_n 0, 1), (104, .getfield 68, 3), (107, .bipush 7, 2), (109, .iload_n 2, 1), (110, .imul, 1), (111, .iload_n 1, 1), (112, .iadd, 1), (113, .aload_n 0, 1), (114, .getfield 41, 3), (117, .iload_n 3, 1), (118, .iaload, 1), (119, .iastore, 1), (120, .aload_n 0, 1), (121, .getfield 71, 3), (124, .bipush 7, 2), (126, .iload_n 2, 1), (127, .imul, 1), (128, .iload_n 1, 1), (129, .iadd, 1), (130, .iload 4, 2), (132, .iastore, 1), (133, .aload_n 0, 1), (134, .iload_n 2, 1), (135, .invokevirtual 319, 3), (138, .iconst 1, 1), (139, .ireturn, 1)]
set_option maxRecDepth 100000 in
theorem tk_Mo_marks : ∀ e ∈ t_Mo_marks, decode prog_14_method_61_code e.1 = .ok e.2 := by decide +kernel
def t_Mo_fetches : List XI := [(0, .aload_n 0, 1), (1, .iload_n 1, 1), (2, .invokevirtual 277, 3), (5, .ifCond .ne 41, 3), (8, .aload_n 0, 1), (9, .iload_n 2, 1), (10, .invokevirtual 277, 3), (13, .ifCond .ne 33, 3), (16, .aload_n 0, 1), (17, .getfield 35, 3), (20, .iload_n 1, 1), (21, .iaload, 1), (22, .aload_n 0, 1), (23, .getfield 32, 3), (26, .iload_n 1, 1), (27, .iaload, 1), (28, .if_icmp .ge 18, 3), (31, .aload_n 0, 1), (32, .getfield 41, 3), (35, .iload_n 2, 1), (36, .iaload, 1), (37, .aload_n 0, 1), (38, .getfield 32, 3), (41, .iload_n 1, 1), (42, .iaload, 1), (43, .if_icmp .eq 5, 3), (46, .iconst 0, 1), (47, .ireturn, 1), (48, .aload_n 0, 1), (49, .getfield 20, 3), (52, .aload_n 0, 1), (53, .getfield 44, 3), (56, .bipush 8, 2), (58, .iload_n 1, 1), (59, .imul, 1), (60, .invokestatic 264, 3), (63, .aload_n 0, 1), (64, .getfield 23, 3), (67, .aload_n 0, 1), (68, .getfield 47, 3), (71, .bipush 8, 2), (73, .iload_n 2, 1), (74, .imul, 1), (75, .invokestatic 264, 3), (78, .aload_n 0, 1), (79, .invokevirtual 274, 3), (82, .aload_n 0, 1), (83, .getfield 38, 3), (86, .iload_n 1, 1), (87, .dup2, 1), (88, .iaload, 1), (89, .aload_n 0, 1), (90, .getfield 268, 3), (93, .iadd, 1), (94, .iastore, 1), (95, .iconst 0, 1), (96, .istore_n 3, 1), (97, .iload_n 3, 1), (98, .bipush 8, 2), (100, .if_icmp .ge 43, 3), (103, .aload_n 0, 1), (104, .getfield 271, 3), (107, .iload_n 3, 1), (108, .ishr, 1), (109, .iconst 1, 1), (110, .iand, 1), (111, .iconst 1, 1), (112, .if_icmp .ne 25, 3), (115, .aload_n 0, 1), (116, .getfield 44, 3), (119, .bipush 8, 2), (121, .iload_n 1, 1), (122, .imul, 1), (123, .iload_n 3, 1), (124, .iadd, 1), (125, .aload_n 0, 1), (126, .getfield 47, 3), (129, .bipush 8, 2), (131, .iload_n 2, 1), (132, .imul, 1), (133, .iload_n 3, 1), (134, .iadd, 1), (135, .iaload, 1), (136, .iastore, 1), (137, .iinc 3 1, 3), (140, .goto (-43), 3), (143, .aload_n 0, 1), (144, .getfield 35, 3), (147, .iload_n 1, 1), (148, .aload_n 0, 1), (149, .getfield 32, 3), (152, .iload_n 1, 1), (153, .iaload, 1), (154, .iastore, 1), (155, .aload_n 0, 1), (156, .iload_n 1, 1), (157, .invokevirtual 322, 3), (160, .iconst 1, 1), (161, .ireturn, 1)]
set_option maxRecDepth 100000 in
theorem tk_Mo_fetches : ∀ e ∈ t_Mo_fetches, decode prog_14_method_62_code e.1 = .ok e.2 := by decide +kernel
def t_Mo_doubts : List XI := [(0, .aload_n 0, 1), (1, .getfield 26, 3), (4, .iload_n 1, 1), (5, .iaload, 1), (6, .bipush 9, 2), (8, .if_icmp .lt 5, 3), (11, .iconst 0, 1), (12, .ireturn, 1), (13, .aload_n 0, 1), (14, .getfield 26, 3), (17, .iload_n 1, 1), (18, .dup2, 1), (19, .iaload, 1), (20, .iconst 1, 1), (21, .iadd, 1), (22, .iastore, 1), (23, .aload_n 0, 1), (24, .getfield 29, 3), (27, .iload_n 1, 1), (28, .iconst 0, 1), (29, .bastore, 1), (30, .iconst 1, 1), (31, .istore_n 2, 1), (32, .iload_n 2, 1), (33, .bipush 13, 2), (35, .if_icmp .ge 15, 3), (38, .aload_n 0, 1), (39, .iload_n 1, 1), (40, .iload_n 2, 1), (41, .invokevirtual 292, 3), (44, .iinc 2 1, 3), (47, .goto (-15), 3), (50, .iconst 1, 1), (51, .ireturn, 1)]
set_option maxRecDepth 100000 in
theorem tk_Mo_doubts : ∀ e ∈ t_Mo_doubts, decode prog_14_method_63_code e.1 = .ok e.2 := by decide +kernel
def t_Mo_makes : List XI := [(0, .aload_n 0, 1), (1, .getfield 26, 3), (4, .iload_n 1, 1), (5, .iaload, 1), (6, .istore_n 2, 1), (7, .aload_n 0, 1), (8, .getfield 29, 3), (11, .iload_n 1, 1), (12, .baload, 1), (13, .ifCond .ne 22, 3), (16, .aload_n 0, 1), (17, .getfield 74, 3), (20, .iload_n 2, 1), (21, .baload, 1), (22, .ifCond .ne 13, 3), (25, .iload_n 2, 1), (26, .aload_n 0, 1), (27, .getfield 231, 3), (30, .irem, 1), (31, .iload_n 1, 1), (32, .if_icmp .eq 5, 3), (35, .iconst 0, 1), (36, .ireturn, 1), (37, .iconst 0, 1), (38, .istore_n 3, 1), (39, .iconst 0, 1), (40, .istore 4, 2), (42, .iload 4, 2), (44, .aload_n 0, 1), (45, .getfield 231, 3), (48, .if_icmp .ge 41, 3), (51, .iload_n 3, 1), (52, .aload_n 0, 1), (53, .getfield 29, 3), (56, .iload 4, 2), (58, .baload, 1), (59, .ifCond .ne 21, 3), (62, .aload_n 0, 1), (63, .getfield 26, 3), (66, .iload 4, 2), (68, .iaload, 1), (69, .iload_n 2, 1), (70, .if_icmp .ne 10, 3), (73, .iconst 1, 1), (74, .iload 4, 2), (76, .ishl, 1), (77, .goto 4, 3), (80, .iconst 0, 1), (81, .ior, 1), (82, .istore_n 3, 1), (83, .iinc 4 1, 3), (86, .goto (-44), 3), (89, .iload_n 3, 1), (90, .invokestatic 280, 3), (93, .aload_n 0, 1), (94, .getfield 234, 3), (97, .if_icmp .ge 5, 3), (100, .iconst 0, 1), (101, .ireturn, 1), (102, .aload_n 0, 1), (103, .iload_n 3, 1), (104, .invokevirtual 343, 3), (107, .aload_n 0, 1), (108, .getfield 74, 3), (111, .iload_n 2, 1), (112, .iconst 1, 1), (113, .bastore, 1), (114, .aload_n 0, 1), (115, .getfield 77, 3), (118, .iload_n 2, 1), (119, .aload_n 0, 1), (120, .getfield 334, 3), (123, .iastore, 1), (124, .aload_n 0, 1), (125, .getfield 80, 3), (128, .iload_n 2, 1), (129, .aload_n 0, 1), (130, .getfield 337, 3), (133, .iastore, 1), (134, .iconst 1, 1), (135, .istore 4, 2), (137, .iload 4, 2), (139, .bipush 13, 2), (141, .if_icmp .ge 28, 3), (144, .aload_n 0, 1), (145, .getfield 83, 3), (148, .bipush 13, 2), (150, .iload_n 2, 1), (151, .imul, 1), (152, .iload 4, 2), (154, .iadd, 1), (155, .aload_n 0, 1), (156, .getfield 86, 3), (159, .iload 4, 2), (161, .iaload, 1), (162, .iastore, 1), (163, .iinc 4 1, 3), (166, .goto (-29), 3), (169, .iconst 0, 1), (170, .istore 4, 2), (172, .iload 4, 2), (174, .aload_n 0, 1), (175, .getfield 231, 3), (178, .if_icmp .ge 25, 3), (181, .iload_n 3, 1), (182, .iload 4, 2), (184, .ishr, 1), (185, .iconst 1, 1), (186, .iand, 1), (187, .iconst 1, 1), (188, .if_icmp .ne 9, 3), (191, .aload_n 0, 1), (192, .iload 4, 2), (194, .invokevirtual 346, 3), (197, .iinc 4 1, 3), (200, .goto (-28), 3), (203, .iconst 1, 1), (204, .ireturn, 1)]
set_option maxRecDepth 100000 in
theorem tk_Mo_makes : ∀ e ∈ t_Mo_makes, decode prog_14_method_67_code e.1 = .ok e.2 := by decide +kernel
def t_Mo_merges : List XI := [(0, .aload_n 0, 1), (1, .iconst 0, 1), (2, .putfield 334, 3), (5, .iconst 0, 1), (6, .istore_n 2, 1), (7, .iload_n 2, 1), (8, .aload_n 0, 1), (9, .getfield 231, 3), (12, .if_icmp .ge 49, 3), (15, .iload_n 1, 1), (16, .iload_n 2, 1), (17, .ishr, 1), (18, .iconst 1, 1), (19, .iand, 1), (20, .iconst 1, 1), (21, .if_icmp .ne 34, 3), (24, .aload_n 0, 1), (25, .iload_n 2, 1), (26, .invokevirtual 277, 3), (29, .ifCond .ne 26, 3), (32, .aload_n 0, 1), (33, .getfield 32, 3), (36, .iload_n 2, 1), (37, .iaload, 1), (38, .aload_n 0, 1), (39, .getfield 334, 3), (42, .if_icmp .le 13, 3), (45, .aload_n 0, 1), (46, .aload_n 0, 1), (47, .getfield 32, 3), (50, .iload_n 2, 1), (51, .iaload, 1), (52, .putfield 334, 3), (55, .iinc 2 1, 3), (58, .goto (-51), 3), (61, .aload_n 0, 1), (62, .aload_n 0, 1), (63, .getfield 334, 3), (66, .putfield 337, 3), (69, .iconst 0, 1), (70, .istore_n 2, 1), (71, .iload_n 2, 1), (72, .aload_n 0, 1), (73, .getfield 231, 3), (76, .if_icmp .ge 66, 3), (79, .iload_n 1, 1), (80, .iload_n 2, 1), (81, .ishr, 1), (82, .iconst 1, 1), (83, .iand, 1), (84, .ifCond .eq 52, 3), (87, .aload_n 0, 1), (88, .iload_n 2, 1), (89, .invokevirtual 277, 3), (92, .ifCond .eq 6, 3), (95, .goto 41, 3), (98, .aload_n 0, 1), (99, .getfield 337, 3), (102, .iconst 1, 1), (103, .iadd, 1), (104, .istore_n 3, 1), (105, .iload_n 3, 1), (106, .bipush 13, 2), (108, .if_icmp .ge 28, 3), (111, .aload_n 0, 1), (112, .getfield 59, 3), (115, .iload_n 2, 1), (116, .iload_n 3, 1), (117, .invokestatic 286, 3), (120, .iaload, 1), (121, .iconst (-1), 1), (122, .if_icmp .eq 8, 3), (125, .aload_n 0, 1), (126, .iload_n 3, 1), (127, .putfield 337, 3), (130, .iinc 3 1, 3), (133, .goto (-28), 3), (136, .iinc 2 1, 3), (139, .goto (-68), 3), (142, .iconst 1, 1), (143, .istore_n 2, 1), (144, .iload_n 2, 1), (145, .bipush 13, 2), (147, .if_icmp .ge 41, 3), (150, .aload_n 0, 1), (151, .getfield 86, 3), (154, .iload_n 2, 1), (155, .iload_n 2, 1), (156, .aload_n 0, 1), (157, .getfield 334, 3), (160, .if_icmp .le 20, 3), (163, .iload_n 2, 1), (164, .aload_n 0, 1), (165, .getfield 337, 3), (168, .if_icmp .gt 12, 3), (171, .aload_n 0, 1), (172, .iload_n 1, 1), (173, .iload_n 2, 1), (174, .invokevirtual 340, 3), (177, .goto 4, 3), (180, .iconst (-1), 1), (181, .iastore, 1), (182, .iinc 2 1, 3), (185, .goto (-41), 3), (188, .return_, 1)]
set_option maxRecDepth 100000 in
theorem tk_Mo_merges : ∀ e ∈ t_Mo_merges, decode prog_14_method_65_code e.1 = .ok e.2 := by decide +kernel
def t_Mo_orderBy : List XI := [(0, .iconst (-1), 1), (1, .istore_n 3, 1), (2, .bipush 10, 2), (4, .istore 4, 2), (6, .iconst 0, 1), (7, .istore 5, 2), (9, .iload 5, 2), (11, .aload_n 0, 1), (12, .getfield 231, 3), (15, .if_icmp .ge 105, 3), (18, .iload_n 1, 1), (19, .iload 5, 2), (21, .ishr, 1), (22, .iconst 1, 1), (23, .iand, 1), (24, .ifCond .eq 90, 3), (27, .aload_n 0, 1), (28, .iload 5, 2), (30, .invokevirtual 277, 3), (33, .ifCond .ne 81, 3), (36, .aload_n 0, 1), (37, .getfield 59, 3), (40, .iload 5, 2), (42, .iload_n 2, 1), (43, .invokestatic 286, 3), (46, .iaload, 1), (47, .iconst (-1), 1), (48, .if_icmp .ne 6, 3), (51, .goto 63, 3), (54, .aload_n 0, 1), (55, .getfield 59, 3), (58, .iload 5, 2), (60, .iload_n 2, 1), (61, .invokestatic 286, 3), (64, .iaload, 1), (65, .istore 6, 2), (67, .iload 6, 2), (69, .iload_n 3, 1), (70, .if_icmp .lt 44, 3), (73, .iload 6, 2), (75, .iload_n 3, 1), (76, .if_icmp .ne 22, 3), (79, .aload_n 0, 1), (80, .getfield 62, 3), (83, .iload 5, 2), (85, .iload_n 2, 1), (86, .invokestatic 286, 3), (89, .iaload, 1), (90, .iload 4, 2), (92, .if_icmp .lt 6, 3), (95, .goto 19, 3), (98, .iload 6, 2), (100, .istore_n 3, 1), (101, .aload_n 0, 1), (102, .getfield 62, 3), (105, .iload 5, 2), (107, .iload_n 2, 1), (108, .invokestatic 286, 3), (111, .iaload, 1), (112, .istore 4, 2), (114, .iinc 5 1, 3), (117, .goto (-108), 3), (120, .iload 4, 2), (122, .ireturn, 1)]
set_option maxRecDepth 100000 in
theorem tk_Mo_orderBy : ∀ e ∈ t_Mo_orderBy, decode prog_14_method_64_code e.1 = .ok e.2 := by decide +kernel
def t_Mo_entersView : List XI := [(0, .aload_n 0, 1), (1, .getfield 26, 3), (4, .iload_n 1, 1), (5, .iaload, 1), (6, .istore_n 2, 1), (7, .aload_n 0, 1), (8, .getfield 29, 3), (11, .iload_n 1, 1), (12, .iconst 1, 1), (13, .bastore, 1), (14, .aload_n 0, 1), (15, .getfield 32, 3), (18, .iload_n 1, 1), (19, .iaload, 1), (20, .aload_n 0, 1), (21, .getfield 77, 3), (24, .iload_n 2, 1), (25, .iaload, 1), (26, .if_icmp .ge 14, 3), (29, .aload_n 0, 1), (30, .iload_n 1, 1), (31, .aload_n 0, 1), (32, .getfield 77, 3), (35, .iload_n 2, 1), (36, .iaload, 1), (37, .invokevirtual 312, 3), (40, .aload_n 0, 1), (41, .iload_n 1, 1), (42, .invokevirtual 277, 3), (45, .ifCond .eq 4, 3), (48, .return_, 1), (49, .aload_n 0, 1), (50, .getfield 77, 3), (53, .iload_n 2, 1), (54, .iaload, 1), (55, .iconst 1, 1), (56, .iadd, 1), (57, .istore_n 3, 1), (58, .iload_n 3, 1), (59, .aload_n 0, 1), (60, .getfield 80, 3), (63, .iload_n 2, 1), (64, .iaload, 1), (65, .if_icmp .gt 35, 3), (68, .aload_n 0, 1), (69, .iload_n 1, 1), (70, .iload_n 3, 1), (71, .invokevirtual 301, 3), (74, .ifCond .eq 20, 3), (77, .aload_n 0, 1), (78, .iload_n 1, 1), (79, .iload_n 3, 1), (80, .aload_n 0, 1), (81, .getfield 83, 3), (84, .bipush 13, 2), (86, .iload_n 2, 1), (87, .imul, 1), (88, .iload_n 3, 1), (89, .iadd, 1), (90, .iaload, 1), (91, .invokevirtual 304, 3), (94, .iinc 3 1, 3), (97, .goto (-39), 3), (100, .return_, 1)]
set_option maxRecDepth 100000 in
theorem tk_Mo_entersView : ∀ e ∈ t_Mo_entersView, decode prog_14_method_66_code e.1 = .ok e.2 := by decide +kernel
def t_Mo_entersAlone : List XI := [(0, .aload_n 0, 1), (1, .getfield 29, 3), (4, .iload_n 1, 1), (5, .baload, 1), (6, .ifCond .ne 17, 3), (9, .aload_n 0, 1), (10, .getfield 74, 3), (13, .aload_n 0, 1), (14, .getfield 26, 3), (17, .iload_n 1, 1), (18, .iaload, 1), (19, .baload, 1), (20, .ifCond .ne 5, 3), (23, .iconst 0, 1), (24, .ireturn, 1), (25, .aload_n 0, 1), (26, .iload_n 1, 1), (27, .invokevirtual 346, 3), (30, .iconst 1, 1), (31, .ireturn, 1)]
set_option maxRecDepth 100000 in
theorem tk_Mo_entersAlone : ∀ e ∈ t_Mo_entersAlone, decode prog_14_method_68_code e.1 = .ok e.2 := by decide +kernel
def t_Mo_state : List XI := [(0, .aload_n 0, 1), (1, .iload_n 1, 1), (2, .iload_n 2, 1), (3, .iload_n 3, 1), (4, .invokevirtual 393, 3), (7, .ifCond .eq 14, 3), (10, .aload_n 0, 1), (11, .iload 4, 2), (13, .iload 5, 2), (15, .invokevirtual 396, 3), (18, .goto 5, 3), (21, .bipush (-2), 2), (23, .ireturn, 1)]
set_option maxRecDepth 100000 in
theorem tk_Mo_state : ∀ e ∈ t_Mo_state, decode prog_14_method_77_code e.1 = .ok e.2 := by decide +kernel
def t_Mo_isState : List XI := [(0, .aload_n 0, 1), (1, .iload_n 1, 1), (2, .invokevirtual 249, 3), (5, .ifCond .eq 15, 3), (8, .aload_n 0, 1), (9, .iload_n 2, 1), (10, .invokevirtual 376, 3), (13, .ifCond .eq 7, 3), (16, .iload_n 3, 1), (17, .ifCond .ge 5, 3), (20, .iconst 0, 1), (21, .ireturn, 1), (22, .aload_n 0, 1), (23, .iload_n 3, 1), (24, .invokevirtual 386, 3), (27, .aload_n 0, 1), (28, .getfield 283, 3), (31, .iload_n 3, 1), (32, .if_icmp .ne 7, 3), (35, .iconst 1, 1), (36, .goto 4, 3), (39, .iconst 0, 1), (40, .ireturn, 1)]
set_option maxRecDepth 100000 in
theorem tk_Mo_isState : ∀ e ∈ t_Mo_isState, decode prog_14_method_76_code e.1 = .ok e.2 := by decide +kernel
def t_Mo_nowOf : List XI := [(0, .aload_n 0, 1), (1, .iload_n 1, 1), (2, .invokevirtual 252, 3), (5, .ifCond .eq 7, 3), (8, .iload_n 2, 1), (9, .ifCond .ge 6, 3), (12, .bipush (-2), 2), (14, .ireturn, 1), (15, .iload_n 2, 1), (16, .bipush 100, 2), (18, .if_icmp .lt 35, 3), (21, .iload_n 2, 1), (22, .bipush 100, 2), (24, .idiv, 1), (25, .iconst 1, 1), (26, .bipush 12, 2), (28, .invokestatic 168, 3), (31, .ifCond .eq 19, 3), (34, .aload_n 0, 1), (35, .iload_n 1, 1), (36, .iload_n 2, 1), (37, .bipush 100, 2), (39, .idiv, 1), (40, .iload_n 2, 1), (41, .bipush 100, 2), (43, .irem, 1), (44, .invokevirtual 389, 3), (47, .goto 5, 3), (50, .bipush (-2), 2), (52, .ireturn, 1), (53, .iload_n 2, 1), (54, .tableswitch 105 0 6 #[42, 49, 64, 71, 78, 91, 98], 42), (96, .aload_n 0, 1), (97, .getfield 26, 3), (100, .iload_n 1, 1), (101, .iaload, 1), (102, .ireturn, 1), (103, .aload_n 0, 1), (104, .getfield 29, 3), (107, .iload_n 1, 1), (108, .baload, 1), (109, .ifCond .eq 7, 3), (112, .iconst 1, 1), (113, .goto 4, 3), (116, .iconst 0, 1), (117, .ireturn, 1), (118, .aload_n 0, 1), (119, .getfield 32, 3), (122, .iload_n 1, 1), (123, .iaload, 1), (124, .ireturn, 1), (125, .aload_n 0, 1), (126, .getfield 35, 3), (129, .iload_n 1, 1), (130, .iaload, 1), (131, .ireturn, 1), (132, .aload_n 0, 1), (133, .aload_n 0, 1), (134, .getfield 44, 3), (137, .bipush 8, 2), (139, .iload_n 1, 1), (140, .imul, 1), (141, .invokevirtual 315, 3), (144, .ireturn, 1), (145, .aload_n 0, 1), (146, .getfield 38, 3), (149, .iload_n 1, 1), (150, .iaload, 1), (151, .ireturn, 1), (152, .aload_n 0, 1), (153, .getfield 41, 3), (156, .iload_n 1, 1), (157, .iaload, 1), (158, .ireturn, 1), (159, .iload_n 2, 1), (160, .bipush 10, 2), (162, .bipush 17, 2), (164, .invokestatic 168, 3), (167, .ifCond .eq 20, 3), (170, .aload_n 0, 1), (171, .getfield 44, 3), (174, .bipush 8, 2), (176, .iload_n 1, 1), (177, .imul, 1), (178, .iload_n 2, 1), (179, .iadd, 1), (180, .bipush 10, 2), (182, .isub, 1), (183, .iaload, 1), (184, .goto 5, 3), (187, .bipush (-2), 2), (189, .ireturn, 1)]
set_option maxRecDepth 100000 in
theorem tk_Mo_nowOf : ∀ e ∈ t_Mo_nowOf, decode prog_14_method_75_code e.1 = .ok e.2 := by decide +kernel
def t_Mo_placeNow : List XI := [(0, .iload_n 1, 1), (1, .iload_n 2, 1), (2, .invokestatic 286, 3), (5, .istore 4, 2), (7, .iload_n 3, 1), (8, .tableswitch 126 0 7 #[48, 56, 64, 72, 87, 102, 110, 118], 48), (56, .aload_n 0, 1), (57, .getfield 50, 3), (60, .iload 4, 2), (62, .iaload, 1), (63, .ireturn, 1), (64, .aload_n 0, 1), (65, .getfield 53, 3), (68, .iload 4, 2), (70, .iaload, 1), (71, .ireturn, 1), (72, .aload_n 0, 1), (73, .getfield 56, 3), (76, .iload 4, 2), (78, .iaload, 1), (79, .ireturn, 1), (80, .aload_n 0, 1), (81, .iload_n 1, 1), (82, .iload_n 2, 1), (83, .invokevirtual 289, 3), (86, .ifCond .eq 7, 3), (89, .iconst 1, 1), (90, .goto 4, 3), (93, .iconst 0, 1), (94, .ireturn, 1), (95, .aload_n 0, 1), (96, .iload_n 1, 1), (97, .iload_n 2, 1), (98, .invokevirtual 325, 3), (101, .ifCond .eq 7, 3), (104, .iconst 1, 1), (105, .goto 4, 3), (108, .iconst 0, 1), (109, .ireturn, 1), (110, .aload_n 0, 1), (111, .getfield 59, 3), (114, .iload 4, 2), (116, .iaload, 1), (117, .ireturn, 1), (118, .aload_n 0, 1), (119, .getfield 62, 3), (122, .iload 4, 2), (124, .iaload, 1), (125, .ireturn, 1), (126, .aload_n 0, 1), (127, .getfield 65, 3), (130, .iload 4, 2), (132, .iaload, 1), (133, .ireturn, 1), (134, .bipush (-2), 2), (136, .ireturn, 1)]
set_option maxRecDepth 100000 in
theorem tk_Mo_placeNow : ∀ e ∈ t_Mo_placeNow, decode prog_14_method_74_code e.1 = .ok e.2 := by decide +kernel
def t_Mo_made : List XI := [(0, .aload_n 0, 1), (1, .iload_n 1, 1), (2, .iload_n 2, 1), (3, .iload_n 3, 1), (4, .invokevirtual 393, 3), (7, .ifCond .eq 14, 3), (10, .iload 4, 2), (12, .iconst 1, 1), (13, .bipush 9, 2), (15, .invokestatic 168, 3), (18, .ifCond .ne 6, 3), (21, .bipush (-2), 2), (23, .ireturn, 1), (24, .iload 5, 2), (26, .ifCond .ne 19, 3), (29, .aload_n 0, 1), (30, .getfield 74, 3), (33, .iload 4, 2), (35, .baload, 1), (36, .ifCond .eq 7, 3), (39, .iconst 1, 1), (40, .goto 4, 3), (43, .iconst 0, 1), (44, .ireturn, 1), (45, .iload 5, 2), (47, .iconst 1, 1), (48, .if_icmp .eq 9, 3), (51, .iload 5, 2), (53, .iconst 2, 1), (54, .if_icmp .ne 41, 3), (57, .aload_n 0, 1), (58, .getfield 74, 3), (61, .iload 4, 2), (63, .baload, 1), (64, .ifCond .ne 7, 3), (67, .iconst (-1), 1), (68, .goto 26, 3), (71, .iload 5, 2), (73, .iconst 1, 1), (74, .if_icmp .ne 13, 3), (77, .aload_n 0, 1), (78, .getfield 77, 3), (81, .iload 4, 2), (83, .iaload, 1), (84, .goto 10, 3), (87, .aload_n 0, 1), (88, .getfield 80, 3), (91, .iload 4, 2), (93, .iaload, 1), (94, .ireturn, 1), (95, .iload 5, 2), (97, .bipush 11, 2), (99, .bipush 22, 2), (101, .invokestatic 168, 3), (104, .ifCond .ne 8, 3), (107, .bipush (-2), 2), (109, .goto 33, 3), (112, .aload_n 0, 1), (113, .getfield 74, 3), (116, .iload 4, 2), (118, .baload, 1), (119, .ifCond .ne 7, 3), (122, .iconst (-1), 1), (123, .goto 19, 3), (126, .aload_n 0, 1), (127, .getfield 83, 3), (130, .bipush 13, 2), (132, .iload 4, 2), (134, .imul, 1), (135, .iload 5, 2), (137, .iadd, 1), (138, .bipush 10, 2), (140, .isub, 1), (141, .iaload, 1), (142, .ireturn, 1)]
set_option maxRecDepth 100000 in
theorem tk_Mo_made : ∀ e ∈ t_Mo_made, decode prog_14_method_78_code e.1 = .ok e.2 := by decide +kernel
def t_Mo_unlike : List XI := [(0, .aload_n 0, 1), (1, .iload_n 1, 1), (2, .invokevirtual 249, 3), (5, .ifCond .eq 11, 3), (8, .aload_n 0, 1), (9, .iload_n 2, 1), (10, .invokevirtual 376, 3), (13, .ifCond .ne 6, 3), (16, .bipush (-2), 2), (18, .ireturn, 1), (19, .aload_n 0, 1), (20, .bipush 40, 2), (22, .invokevirtual 386, 3), (25, .iload_n 3, 1), (26, .tableswitch 59 0 3 #[30, 30, 44, 44], 30), (56, .aload_n 0, 1), (57, .iload_n 3, 1), (58, .ifCond .ne 7, 3), (61, .iconst 1, 1), (62, .goto 4, 3), (65, .iconst 0, 1), (66, .invokevirtual 402, 3), (69, .ireturn, 1), (70, .aload_n 0, 1), (71, .iload_n 3, 1), (72, .iconst 2, 1), (73, .if_icmp .ne 7, 3), (76, .iconst 1, 1), (77, .goto 4, 3), (80, .iconst 0, 1), (81, .invokevirtual 406, 3), (84, .ireturn, 1), (85, .bipush (-2), 2), (87, .ireturn, 1)]
set_option maxRecDepth 100000 in
theorem tk_Mo_unlike : ∀ e ∈ t_Mo_unlike, decode prog_14_method_82_code e.1 = .ok e.2 := by decide +kernel
def t_Mo_placesBy : List XI := [(0, .iconst 0, 1), (1, .istore_n 2, 1), (2, .iconst 1, 1), (3, .istore_n 3, 1), (4, .iload_n 3, 1), (5, .bipush 13, 2), (7, .if_icmp .ge 105, 3), (10, .iconst 0, 1), (11, .istore 4, 2), (13, .iconst 0, 1), (14, .istore 5, 2), (16, .iconst 0, 1), (17, .istore 6, 2), (19, .iload 6, 2), (21, .bipush 10, 2), (23, .if_icmp .gt 55, 3), (26, .iload 4, 2), (28, .aload_n 0, 1), (29, .iload_n 3, 1), (30, .iload 6, 2), (32, .invokevirtual 399, 3), (35, .ifCond .le 7, 3), (38, .iconst 1, 1), (39, .goto 4, 3), (42, .iconst 0, 1), (43, .iadd, 1), (44, .istore 4, 2), (46, .iload 5, 2), (48, .ifCond .ne 17, 3), (51, .aload_n 0, 1), (52, .iload_n 3, 1), (53, .iload 6, 2), (55, .invokevirtual 399, 3), (58, .aload_n 0, 1), (59, .getfield 228, 3), (62, .if_icmp .le 7, 3), (65, .iconst 1, 1), (66, .goto 4, 3), (69, .iconst 0, 1), (70, .istore 5, 2), (72, .iinc 6 1, 3), (75, .goto (-56), 3), (78, .iload_n 2, 1), (79, .iload_n 1, 1), (80, .ifCond .eq 12, 3), (83, .iload 4, 2), (85, .iconst 1, 1), (86, .if_icmp .le 17, 3), (89, .goto 8, 3), (92, .iload 5, 2), (94, .ifCond .eq 9, 3), (97, .iconst 1, 1), (98, .iload_n 3, 1), (99, .ishl, 1), (100, .goto 4, 3), (103, .iconst 0, 1), (104, .ior, 1), (105, .istore_n 2, 1), (106, .iinc 3 1, 3), (109, .goto (-105), 3), (112, .iload_n 2, 1), (113, .ireturn, 1)]
set_option maxRecDepth 100000 in
theorem tk_Mo_placesBy : ∀ e ∈ t_Mo_placesBy, decode prog_14_method_80_code e.1 = .ok e.2 := by decide +kernel
def t_Mo_ranSo : List XI := [(0, .iconst 0, 1), (1, .istore_n 3, 1), (2, .iconst 0, 1), (3, .istore 4, 2), (5, .iload 4, 2), (7, .aload_n 0, 1), (8, .getfield 231, 3), (11, .if_icmp .ge 41, 3), (14, .iload_n 3, 1), (15, .aload_n 0, 1), (16, .iload 4, 2), (18, .invokevirtual 277, 3), (21, .ifCond .ne 22, 3), (24, .aload_n 0, 1), (25, .getfield 65, 3), (28, .iload 4, 2), (30, .iload_n 1, 1), (31, .invokestatic 286, 3), (34, .iaload, 1), (35, .iload_n 2, 1), (36, .if_icmp .ne 7, 3), (39, .iconst 1, 1), (40, .goto 4, 3), (43, .iconst 0, 1), (44, .iadd, 1), (45, .istore_n 3, 1), (46, .iinc 4 1, 3), (49, .goto (-44), 3), (52, .iload_n 3, 1), (53, .ireturn, 1)]
set_option maxRecDepth 100000 in
theorem tk_Mo_ranSo : ∀ e ∈ t_Mo_ranSo, decode prog_14_method_79_code e.1 = .ok e.2 := by decide +kernel
def t_Mo_ranBy : List XI := [(0, .iconst (-1), 1), (1, .istore_n 2, 1), (2, .iconst 0, 1), (3, .istore_n 3, 1), (4, .iload_n 3, 1), (5, .aload_n 0, 1), (6, .getfield 231, 3), (9, .if_icmp .ge 56, 3), (12, .aload_n 0, 1), (13, .iload_n 3, 1), (14, .invokevirtual 277, 3), (17, .ifCond .ne 42, 3), (20, .iload_n 2, 1), (21, .iconst (-1), 1), (22, .if_icmp .eq 30, 3), (25, .iload_n 1, 1), (26, .ifCond .eq 16, 3), (29, .aload_n 0, 1), (30, .getfield 35, 3), (33, .iload_n 3, 1), (34, .iaload, 1), (35, .iload_n 2, 1), (36, .if_icmp .le 23, 3), (39, .goto 13, 3), (42, .aload_n 0, 1), (43, .getfield 35, 3), (46, .iload_n 3, 1), (47, .iaload, 1), (48, .iload_n 2, 1), (49, .if_icmp .ge 10, 3), (52, .aload_n 0, 1), (53, .getfield 35, 3), (56, .iload_n 3, 1), (57, .iaload, 1), (58, .istore_n 2, 1), (59, .iinc 3 1, 3), (62, .goto (-58), 3), (65, .iload_n 2, 1), (66, .iconst (-1), 1), (67, .if_icmp .ne 7, 3), (70, .iconst 0, 1), (71, .goto 4, 3), (74, .iload_n 2, 1), (75, .ireturn, 1)]
set_option maxRecDepth 100000 in
theorem tk_Mo_ranBy : ∀ e ∈ t_Mo_ranBy, decode prog_14_method_81_code e.1 = .ok e.2 := by decide +kernel
def t_Mo_merged : List XI := [(0, .aload_n 0, 1), (1, .iload_n 1, 1), (2, .iload_n 2, 1), (3, .iload_n 3, 1), (4, .invokevirtual 393, 3), (7, .ifCond .eq 20, 3), (10, .iload 4, 2), (12, .iconst 1, 1), (13, .iconst 1, 1), (14, .aload_n 0, 1), (15, .getfield 231, 3), (18, .ishl, 1), (19, .iconst 1, 1), (20, .isub, 1), (21, .invokestatic 168, 3), (24, .ifCond .ne 6, 3), (27, .bipush (-2), 2), (29, .ireturn, 1), (30, .aload_n 0, 1), (31, .iload 4, 2), (33, .invokevirtual 343, 3), (36, .iload 5, 2), (38, .ifCond .eq 9, 3), (41, .iload 5, 2), (43, .iconst 1, 1), (44, .if_icmp .ne 20, 3), (47, .iload 5, 2), (49, .ifCond .ne 10, 3), (52, .aload_n 0, 1), (53, .getfield 334, 3), (56, .goto 7, 3), (59, .aload_n 0, 1), (60, .getfield 337, 3), (63, .ireturn, 1), (64, .iload 5, 2), (66, .bipush 11, 2), (68, .bipush 22, 2), (70, .invokestatic 168, 3), (73, .ifCond .eq 16, 3), (76, .aload_n 0, 1), (77, .getfield 86, 3), (80, .iload 5, 2), (82, .bipush 10, 2), (84, .isub, 1), (85, .iaload, 1), (86, .goto 5, 3), (89, .bipush (-2), 2), (91, .ireturn, 1)]
set_option maxRecDepth 100000 in
theorem tk_Mo_merged : ∀ e ∈ t_Mo_merged, decode prog_14_method_83_code e.1 = .ok e.2 := by decide +kernel
def t_Mo_sure : List XI := [(0, .aload_n 0, 1), (1, .iload_n 1, 1), (2, .iload_n 2, 1), (3, .iload_n 3, 1), (4, .invokevirtual 393, 3), (7, .ifCond .eq 14, 3), (10, .iload 4, 2), (12, .iconst 1, 1), (13, .bipush 12, 2), (15, .invokestatic 168, 3), (18, .ifCond .ne 6, 3), (21, .bipush (-2), 2), (23, .ireturn, 1), (24, .bipush (-2), 2), (26, .istore 6, 2), (28, .iconst 0, 1), (29, .istore 7, 2), (31, .iconst 0, 1), (32, .istore 8, 2), (34, .iload 8, 2), (36, .iconst 1, 1), (37, .aload_n 0, 1), (38, .getfield 231, 3), (41, .ishl, 1), (42, .if_icmp .ge 108, 3), (45, .iload 8, 2), (47, .invokestatic 280, 3), (50, .aload_n 0, 1), (51, .getfield 234, 3), (54, .if_icmp .ne 90, 3), (57, .iload 8, 2), (59, .aload_n 0, 1), (60, .getfield 243, 3), (63, .iconst (-1), 1), (64, .ixor, 1), (65, .iand, 1), (66, .ifCond .ne 6, 3), (69, .goto 75, 3), (72, .aload_n 0, 1), (73, .iload 8, 2), (75, .invokevirtual 343, 3), (78, .aload_n 0, 1), (79, .getfield 334, 3), (82, .iload 4, 2), (84, .if_icmp .lt 6, 3), (87, .goto 57, 3), (90, .aload_n 0, 1), (91, .getfield 86, 3), (94, .iload 4, 2), (96, .iaload, 1), (97, .istore 9, 2), (99, .iload 7, 2), (101, .iload 9, 2), (103, .iconst (-1), 1), (104, .if_icmp .eq 10, 3), (107, .iload 9, 2), (109, .bipush 10, 2), (111, .if_icmp .ne 7, 3), (114, .iconst 1, 1), (115, .goto 4, 3), (118, .iconst 0, 1), (119, .iadd, 1), (120, .istore 7, 2), (122, .iload 6, 2), (124, .bipush (-2), 2), (126, .if_icmp .eq 10, 3), (129, .iload 6, 2), (131, .iload 9, 2), (133, .if_icmp .ne 8, 3), (136, .iload 9, 2), (138, .goto 4, 3), (141, .iconst (-1), 1), (142, .istore 6, 2), (144, .iinc 8 1, 3), (147, .goto (-113), 3), (150, .iload 5, 2), (152, .ifCond .eq 8, 3), (155, .iload 7, 2), (157, .goto 16, 3), (160, .iload 6, 2), (162, .bipush (-2), 2), (164, .if_icmp .ne 7, 3), (167, .iconst (-1), 1), (168, .goto 5, 3), (171, .iload 6, 2), (173, .ireturn, 1)]
set_option maxRecDepth 100000 in
theorem tk_Mo_sure : ∀ e ∈ t_Mo_sure, decode prog_14_method_84_code e.1 = .ok e.2 := by decide +kernel
def t_Mo_after : List XI := [(0, .aload_n 0, 1), (1, .iload_n 1, 1), (2, .invokevirtual 249, 3), (5, .ifCond .eq 11, 3), (8, .aload_n 0, 1), (9, .iload_n 2, 1), (10, .invokevirtual 376, 3), (13, .ifCond .ne 6, 3), (16, .bipush (-2), 2), (18, .ireturn, 1), (19, .aload_n 0, 1), (20, .bipush 40, 2), (22, .invokevirtual 386, 3), (25, .iload_n 3, 1), (26, .tableswitch 59 0 5 #[38, 38, 44, 49, 54, 38], 38), (64, .aload_n 0, 1), (65, .iload_n 3, 1), (66, .invokevirtual 412, 3), (69, .ireturn, 1), (70, .aload_n 0, 1), (71, .invokevirtual 415, 3), (74, .ireturn, 1), (75, .aload_n 0, 1), (76, .invokevirtual 418, 3), (79, .ireturn, 1), (80, .aload_n 0, 1), (81, .invokevirtual 421, 3), (84, .ireturn, 1), (85, .bipush (-2), 2), (87, .ireturn, 1)]
set_option maxRecDepth 100000 in
theorem tk_Mo_after : ∀ e ∈ t_Mo_after, decode prog_14_method_90_code e.1 = .ok e.2 := by decide +kernel
def t_Mo_honestBy : List XI := [(0, .iconst 0, 1), (1, .istore_n 2, 1), (2, .iconst 0, 1), (3, .istore_n 3, 1), (4, .iload_n 3, 1), (5, .aload_n 0, 1), (6, .getfield 231, 3), (9, .if_icmp .ge 77, 3), (12, .aload_n 0, 1), (13, .iload_n 3, 1), (14, .invokevirtual 277, 3), (17, .ifCond .eq 6, 3), (20, .goto 60, 3), (23, .iload_n 2, 1), (24, .iload_n 1, 1), (25, .ifCond .ne 21, 3), (28, .aload_n 0, 1), (29, .getfield 35, 3), (32, .iload_n 3, 1), (33, .iaload, 1), (34, .aload_n 0, 1), (35, .getfield 32, 3), (38, .iload_n 3, 1), (39, .iaload, 1), (40, .if_icmp .ge 37, 3), (43, .goto 28, 3), (46, .iload_n 1, 1), (47, .iconst 1, 1), (48, .if_icmp .ne 15, 3), (51, .aload_n 0, 1), (52, .getfield 29, 3), (55, .iload_n 3, 1), (56, .baload, 1), (57, .ifCond .ne 20, 3), (60, .goto 11, 3), (63, .aload_n 0, 1), (64, .iload_n 3, 1), (65, .invokevirtual 409, 3), (68, .ifCond .eq 9, 3), (71, .iconst 1, 1), (72, .iload_n 3, 1), (73, .ishl, 1), (74, .goto 4, 3), (77, .iconst 0, 1), (78, .ior, 1), (79, .istore_n 2, 1), (80, .iinc 3 1, 3), (83, .goto (-79), 3), (86, .iload_n 2, 1), (87, .ireturn, 1)]
set_option maxRecDepth 100000 in
theorem tk_Mo_honestBy : ∀ e ∈ t_Mo_honestBy, decode prog_14_method_87_code e.1 = .ok e.2 := by decide +kernel
def t_Mo_isFull : List XI := [(0, .iconst 1, 1), (1, .istore_n 2, 1), (2, .iconst 1, 1), (3, .istore_n 3, 1), (4, .iload_n 3, 1), (5, .bipush 13, 2), (7, .if_icmp .ge 42, 3), (10, .iload_n 2, 1), (11, .ifCond .eq 30, 3), (14, .aload_n 0, 1), (15, .iload_n 1, 1), (16, .iload_n 3, 1), (17, .invokevirtual 301, 3), (20, .ifCond .eq 17, 3), (23, .aload_n 0, 1), (24, .getfield 50, 3), (27, .iload_n 1, 1), (28, .iload_n 3, 1), (29, .invokestatic 286, 3), (32, .iaload, 1), (33, .iconst (-1), 1), (34, .if_icmp .eq 7, 3), (37, .iconst 1, 1), (38, .goto 4, 3), (41, .iconst 0, 1), (42, .istore_n 2, 1), (43, .iinc 3 1, 3), (46, .goto (-42), 3), (49, .iload_n 2, 1), (50, .ireturn, 1)]
set_option maxRecDepth 100000 in
theorem tk_Mo_isFull : ∀ e ∈ t_Mo_isFull, decode prog_14_method_86_code e.1 = .ok e.2 := by decide +kernel
def t_Mo_viewsMade : List XI := [(0, .iconst 0, 1), (1, .istore_n 1, 1), (2, .iconst 0, 1), (3, .istore_n 2, 1), (4, .iload_n 2, 1), (5, .bipush 10, 2), (7, .if_icmp .ge 28, 3), (10, .iload_n 1, 1), (11, .aload_n 0, 1), (12, .getfield 74, 3), (15, .iload_n 2, 1), (16, .baload, 1), (17, .ifCond .eq 9, 3), (20, .iconst 1, 1), (21, .iload_n 2, 1), (22, .ishl, 1), (23, .goto 4, 3), (26, .iconst 0, 1), (27, .ior, 1), (28, .istore_n 1, 1), (29, .iinc 2 1, 3), (32, .goto (-28), 3), (35, .iload_n 1, 1), (36, .ireturn, 1)]
set_option maxRecDepth 100000 in
theorem tk_Mo_viewsMade : ∀ e ∈ t_Mo_viewsMade, decode prog_14_method_89_code e.1 = .ok e.2 := by decide +kernel
def t_Mo_certainOf : List XI := [(0, .iconst 0, 1), (1, .istore_n 1, 1), (2, .iconst 1, 1), (3, .istore_n 2, 1), (4, .iload_n 2, 1), (5, .bipush 13, 2), (7, .if_icmp .ge 157, 3), (10, .iconst 0, 1), (11, .istore_n 3, 1), (12, .iload_n 3, 1), (13, .aload_n 0, 1), (14, .getfield 231, 3), (17, .if_icmp .ge 141, 3), (20, .aload_n 0, 1), (21, .iload_n 3, 1), (22, .invokevirtual 277, 3), (25, .ifCond .ne 127, 3), (28, .aload_n 0, 1), (29, .getfield 59, 3), (32, .iload_n 3, 1), (33, .iload_n 2, 1), (34, .invokestatic 286, 3), (37, .iaload, 1), (38, .iconst (-1), 1), (39, .if_icmp .ne 6, 3), (42, .goto 110, 3), (45, .iconst 0, 1), (46, .istore 4, 2), (48, .iconst 0, 1), (49, .istore 5, 2), (51, .iload 5, 2), (53, .aload_n 0, 1), (54, .getfield 231, 3), (57, .if_icmp .ge 76, 3), (60, .iload 4, 2), (62, .aload_n 0, 1), (63, .iload 5, 2), (65, .invokevirtual 277, 3), (68, .ifCond .ne 55, 3), (71, .aload_n 0, 1), (72, .getfield 59, 3), (75, .iload 5, 2), (77, .iload_n 2, 1), (78, .invokestatic 286, 3), (81, .iaload, 1), (82, .aload_n 0, 1), (83, .getfield 59, 3), (86, .iload_n 3, 1), (87, .iload_n 2, 1), (88, .invokestatic 286, 3), (91, .iaload, 1), (92, .if_icmp .ne 31, 3), (95, .aload_n 0, 1), (96, .getfield 62, 3), (99, .iload 5, 2), (101, .iload_n 2, 1), (102, .invokestatic 286, 3), (105, .iaload, 1), (106, .aload_n 0, 1), (107, .getfield 62, 3), (110, .iload_n 3, 1), (111, .iload_n 2, 1), (112, .invokestatic 286, 3), (115, .iaload, 1), (116, .if_icmp .ne 7, 3), (119, .iconst 1, 1), (120, .goto 4, 3), (123, .iconst 0, 1), (124, .iadd, 1), (125, .istore 4, 2), (127, .iinc 5 1, 3), (130, .goto (-79), 3), (133, .iload_n 1, 1), (134, .iload 4, 2), (136, .aload_n 0, 1), (137, .getfield 228, 3), (140, .if_icmp .le 9, 3), (143, .iconst 1, 1), (144, .iload_n 2, 1), (145, .ishl, 1), (146, .goto 4, 3), (149, .iconst 0, 1), (150, .ior, 1), (151, .istore_n 1, 1), (152, .iinc 3 1, 3), (155, .goto (-143), 3), (158, .iinc 2 1, 3), (161, .goto (-157), 3), (164, .iload_n 1, 1), (165, .ireturn, 1)]
set_option maxRecDepth 100000 in
theorem tk_Mo_certainOf : ∀ e ∈ t_Mo_certainOf, decode prog_14_method_85_code e.1 = .ok e.2 := by decide +kernel
def t_Mo_wordsOf : List XI := [(0, .iconst 0, 1), (1, .istore_n 1, 1), (2, .iconst 0, 1), (3, .istore_n 2, 1), (4, .iload_n 2, 1), (5, .aload_n 0, 1), (6, .getfield 231, 3), (9, .if_icmp .ge 79, 3), (12, .iconst 1, 1), (13, .istore_n 3, 1), (14, .iload_n 3, 1), (15, .bipush 13, 2), (17, .if_icmp .ge 65, 3), (20, .iload_n 1, 1), (21, .aload_n 0, 1), (22, .iload_n 2, 1), (23, .invokevirtual 277, 3), (26, .ifCond .ne 17, 3), (29, .aload_n 0, 1), (30, .getfield 50, 3), (33, .iload_n 2, 1), (34, .iload_n 3, 1), (35, .invokestatic 286, 3), (38, .iaload, 1), (39, .iconst (-1), 1), (40, .if_icmp .ne 7, 3), (43, .iconst 0, 1), (44, .goto 30, 3), (47, .aload_n 0, 1), (48, .getfield 53, 3), (51, .iload_n 2, 1), (52, .iload_n 3, 1), (53, .invokestatic 286, 3), (56, .iaload, 1), (57, .invokestatic 280, 3), (60, .aload_n 0, 1), (61, .getfield 56, 3), (64, .iload_n 2, 1), (65, .iload_n 3, 1), (66, .invokestatic 286, 3), (69, .iaload, 1), (70, .invokestatic 280, 3), (73, .iadd, 1), (74, .iadd, 1), (75, .istore_n 1, 1), (76, .iinc 3 1, 3), (79, .goto (-65), 3), (82, .iinc 2 1, 3), (85, .goto (-81), 3), (88, .iload_n 1, 1), (89, .ireturn, 1)]
set_option maxRecDepth 100000 in
theorem tk_Mo_wordsOf : ∀ e ∈ t_Mo_wordsOf, decode prog_14_method_88_code e.1 = .ok e.2 := by decide +kernel
def t_Mo_play : List XI := [(0, .aload_n 0, 1), (1, .iload_n 1, 1), (2, .invokevirtual 249, 3), (5, .ifCond .eq 21, 3), (8, .aload_n 0, 1), (9, .iload_n 2, 1), (10, .invokevirtual 252, 3), (13, .ifCond .eq 13, 3), (16, .iload_n 3, 1), (17, .iconst 1, 1), (18, .bipush 10, 2), (20, .invokestatic 168, 3), (23, .ifCond .ne 5, 3), (26, .iconst (-1), 1), (27, .ireturn, 1), (28, .aload_n 0, 1), (29, .invokevirtual 447, 3), (32, .iload 4, 2), (34, .ifCond .eq 14, 3), (37, .aload_n 0, 1), (38, .iload_n 2, 1), (39, .iload_n 3, 1), (40, .bipush 11, 2), (42, .invokevirtual 425, 3), (45, .goto 13, 3), (48, .aload_n 0, 1), (49, .getfield 95, 3), (52, .iload_n 2, 1), (53, .iload_n 3, 1), (54, .invokestatic 286, 3), (57, .iaload, 1), (58, .invokestatic 450, 3), (61, .ireturn, 1)]
set_option maxRecDepth 100000 in
theorem tk_Mo_play : ∀ e ∈ t_Mo_play, decode prog_14_method_100_code e.1 = .ok e.2 := by decide +kernel
def t_Mo_plays : List XI := [(0, .iconst 0, 1), (1, .istore_n 1, 1), (2, .iload_n 1, 1), (3, .bipush 91, 2), (5, .if_icmp .ge 45, 3), (8, .aload_n 0, 1), (9, .getfield 89, 3), (12, .iload_n 1, 1), (13, .ldc_w 424, 3), (16, .iastore, 1), (17, .aload_n 0, 1), (18, .getfield 92, 3), (21, .iload_n 1, 1), (22, .ldc_w 424, 3), (25, .iastore, 1), (26, .aload_n 0, 1), (27, .getfield 95, 3), (30, .iload_n 1, 1), (31, .ldc_w 424, 3), (34, .iastore, 1), (35, .aload_n 0, 1), (36, .getfield 98, 3), (39, .iload_n 1, 1), (40, .ldc_w 424, 3), (43, .iastore, 1), (44, .iinc 1 1, 3), (47, .goto (-45), 3), (50, .aload_n 0, 1), (51, .iconst 0, 1), (52, .invokevirtual 277, 3), (55, .ifCond .eq 4, 3), (58, .return_, 1), (59, .iconst 1, 1), (60, .istore_n 1, 1), (61, .iload_n 1, 1), (62, .bipush 10, 2), (64, .if_icmp .gt 14, 3), (67, .aload_n 0, 1), (68, .iload_n 1, 1), (69, .invokevirtual 444, 3), (72, .iinc 1 1, 3), (75, .goto (-14), 3), (78, .return_, 1)]
set_option maxRecDepth 100000 in
theorem tk_Mo_plays : ∀ e ∈ t_Mo_plays, decode prog_14_method_98_code e.1 = .ok e.2 := by decide +kernel
def t_Mo_playsPlace : List XI := [(0, .aload_n 0, 1), (1, .iload_n 1, 1), (2, .invokevirtual 434, 3), (5, .iconst 0, 1), (6, .istore_n 2, 1), (7, .iload_n 2, 1), (8, .aload_n 0, 1), (9, .getfield 231, 3), (12, .if_icmp .ge 80, 3), (15, .aload_n 0, 1), (16, .aload_n 0, 1), (17, .getfield 89, 3), (20, .iload_n 2, 1), (21, .iload_n 1, 1), (22, .invokevirtual 437, 3), (25, .aload_n 0, 1), (26, .getfield 101, 3), (29, .iconst 0, 1), (30, .aload_n 0, 1), (31, .getfield 89, 3), (34, .iload_n 2, 1), (35, .iload_n 1, 1), (36, .invokestatic 286, 3), (39, .iaload, 1), (40, .iastore, 1), (41, .aload_n 0, 1), (42, .getfield 92, 3), (45, .iload_n 2, 1), (46, .iload_n 1, 1), (47, .invokestatic 286, 3), (50, .aload_n 0, 1), (51, .iload_n 2, 1), (52, .invokevirtual 277, 3), (55, .ifCond .eq 9, 3), (58, .ldc_w 424, 3), (61, .goto 24, 3), (64, .aload_n 0, 1), (65, .getfield 89, 3), (68, .iload_n 2, 1), (69, .iload_n 1, 1), (70, .invokestatic 286, 3), (73, .iaload, 1), (74, .aload_n 0, 1), (75, .aload_n 0, 1), (76, .getfield 234, 3), (79, .invokevirtual 441, 3), (82, .invokestatic 428, 3), (85, .iastore, 1), (86, .iinc 2 1, 3), (89, .goto (-82), 3), (92, .iconst 0, 1), (93, .istore_n 2, 1), (94, .iload_n 2, 1), (95, .aload_n 0, 1), (96, .getfield 231, 3), (99, .if_icmp .ge 90, 3), (102, .aload_n 0, 1), (103, .aload_n 0, 1), (104, .getfield 92, 3), (107, .iload_n 2, 1), (108, .iload_n 1, 1), (109, .invokevirtual 437, 3), (112, .aload_n 0, 1), (113, .iload_n 2, 1), (114, .invokevirtual 277, 3), (117, .ifCond .eq 9, 3), (120, .ldc_w 424, 3), (123, .goto 24, 3), (126, .aload_n 0, 1), (127, .getfield 92, 3), (130, .iload_n 2, 1), (131, .iload_n 1, 1), (132, .invokestatic 286, 3), (135, .iaload, 1), (136, .aload_n 0, 1), (137, .aload_n 0, 1), (138, .getfield 234, 3), (141, .invokevirtual 441, 3), (144, .invokestatic 428, 3), (147, .istore_n 3, 1), (148, .aload_n 0, 1), (149, .getfield 95, 3), (152, .iload_n 2, 1), (153, .iload_n 1, 1), (154, .invokestatic 286, 3), (157, .iload_n 1, 1), (158, .iconst 1, 1), (159, .if_icmp .ne 7, 3), (162, .iload_n 3, 1), (163, .goto 19, 3), (166, .iload_n 3, 1), (167, .aload_n 0, 1), (168, .getfield 95, 3), (171, .iload_n 2, 1), (172, .iload_n 1, 1), (173, .iconst 1, 1), (174, .isub, 1), (175, .invokestatic 286, 3), (178, .iaload, 1), (179, .invokestatic 428, 3), (182, .iastore, 1), (183, .iinc 2 1, 3), (186, .goto (-92), 3), (189, .iconst 0, 1), (190, .istore_n 2, 1), (191, .iload_n 2, 1), (192, .aload_n 0, 1), (193, .getfield 231, 3), (196, .if_icmp .ge 73, 3), (199, .aload_n 0, 1), (200, .aload_n 0, 1), (201, .getfield 95, 3), (204, .iload_n 2, 1), (205, .iload_n 1, 1), (206, .invokevirtual 437, 3), (209, .aload_n 0, 1), (210, .getfield 98, 3), (213, .iload_n 2, 1), (214, .iload_n 1, 1), (215, .invokestatic 286, 3), (218, .aload_n 0, 1), (219, .iload_n 2, 1), (220, .invokevirtual 277, 3), (223, .ifCond .ne 12, 3), (226, .iload_n 1, 1), (227, .aload_n 0, 1), (228, .getfield 240, 3), (231, .irem, 1), (232, .ifCond .eq 9, 3), (235, .ldc_w 424, 3), (238, .goto 24, 3), (241, .aload_n 0, 1), (242, .getfield 95, 3), (245, .iload_n 2, 1), (246, .iload_n 1, 1), (247, .invokestatic 286, 3), (250, .iaload, 1), (251, .aload_n 0, 1), (252, .aload_n 0, 1), (253, .getfield 234, 3), (256, .invokevirtual 441, 3), (259, .invokestatic 428, 3), (262, .iastore, 1), (263, .iinc 2 1, 3), (266, .goto (-75), 3), (269, .return_, 1)]
set_option maxRecDepth 100000 in
theorem tk_Mo_playsPlace : ∀ e ∈ t_Mo_playsPlace, decode prog_14_method_97_code e.1 = .ok e.2 := by decide +kernel
def t_Mo_playsAccepts : List XI := [(0, .iload_n 1, 1), (1, .aload_n 0, 1), (2, .getfield 246, 3), (5, .if_icmp .le 9, 3), (8, .ldc_w 424, 3), (11, .goto 6, 3), (14, .iload_n 1, 1), (15, .iconst 1, 1), (16, .isub, 1), (17, .aload_n 0, 1), (18, .iconst 0, 1), (19, .iload_n 1, 1), (20, .aload_n 0, 1), (21, .getfield 237, 3), (24, .isub, 1), (25, .iload_n 1, 1), (26, .invokevirtual 425, 3), (29, .invokestatic 428, 3), (32, .istore_n 2, 1), (33, .aload_n 0, 1), (34, .getfield 89, 3), (37, .iconst 0, 1), (38, .iload_n 1, 1), (39, .invokestatic 286, 3), (42, .iload_n 1, 1), (43, .iconst 1, 1), (44, .if_icmp .ne 7, 3), (47, .iload_n 2, 1), (48, .goto 19, 3), (51, .iload_n 2, 1), (52, .aload_n 0, 1), (53, .getfield 89, 3), (56, .iconst 0, 1), (57, .iload_n 1, 1), (58, .iconst 1, 1), (59, .isub, 1), (60, .invokestatic 286, 3), (63, .iaload, 1), (64, .invokestatic 428, 3), (67, .iastore, 1), (68, .iconst 1, 1), (69, .istore_n 3, 1), (70, .iload_n 3, 1), (71, .aload_n 0, 1), (72, .getfield 231, 3), (75, .if_icmp .ge 67, 3), (78, .aload_n 0, 1), (79, .getfield 89, 3), (82, .iload_n 3, 1), (83, .iload_n 1, 1), (84, .invokestatic 286, 3), (87, .aload_n 0, 1), (88, .iload_n 3, 1), (89, .invokevirtual 277, 3), (92, .ifCond .eq 9, 3), (95, .ldc_w 424, 3), (98, .goto 37, 3), (101, .aload_n 0, 1), (102, .getfield 89, 3), (105, .iconst 0, 1), (106, .iload_n 1, 1), (107, .invokestatic 286, 3), (110, .iaload, 1), (111, .aload_n 0, 1), (112, .iconst 0, 1), (113, .iload_n 3, 1), (114, .invokevirtual 255, 3), (117, .invokestatic 431, 3), (120, .aload_n 0, 1), (121, .iload_n 3, 1), (122, .iload_n 1, 1), (123, .aload_n 0, 1), (124, .getfield 237, 3), (127, .isub, 1), (128, .iload_n 1, 1), (129, .invokevirtual 425, 3), (132, .invokestatic 428, 3), (135, .iastore, 1), (136, .iinc 3 1, 3), (139, .goto (-69), 3), (142, .return_, 1)]
set_option maxRecDepth 100000 in
theorem tk_Mo_playsAccepts : ∀ e ∈ t_Mo_playsAccepts, decode prog_14_method_95_code e.1 = .ok e.2 := by decide +kernel
def t_Mo_lowFrom : List XI := [(0, .iload_n 2, 1), (1, .ifCond .gt 5, 3), (4, .iconst 0, 1), (5, .ireturn, 1), (6, .ldc_w 424, 3), (9, .istore 4, 2), (11, .iload_n 2, 1), (12, .istore 5, 2), (14, .iload 5, 2), (16, .iload_n 3, 1), (17, .if_icmp .ge 38, 3), (20, .aload_n 0, 1), (21, .getfield 98, 3), (24, .iload_n 1, 1), (25, .iload 5, 2), (27, .invokestatic 286, 3), (30, .iaload, 1), (31, .iload 4, 2), (33, .if_icmp .ge 16, 3), (36, .aload_n 0, 1), (37, .getfield 98, 3), (40, .iload_n 1, 1), (41, .iload 5, 2), (43, .invokestatic 286, 3), (46, .iaload, 1), (47, .istore 4, 2), (49, .iinc 5 1, 3), (52, .goto (-38), 3), (55, .iload 4, 2), (57, .ireturn, 1)]
set_option maxRecDepth 100000 in
theorem tk_Mo_lowFrom : ∀ e ∈ t_Mo_lowFrom, decode prog_14_method_92_code e.1 = .ok e.2 := by decide +kernel
def t_Mo_later : List XI := [(0, .iload_n 0, 1), (1, .ldc_w 424, 3), (4, .if_icmp .ge 10, 3), (7, .iload_n 1, 1), (8, .ldc_w 424, 3), (11, .if_icmp .lt 9, 3), (14, .ldc_w 424, 3), (17, .goto 13, 3), (20, .iload_n 0, 1), (21, .iload_n 1, 1), (22, .if_icmp .le 7, 3), (25, .iload_n 0, 1), (26, .goto 4, 3), (29, .iload_n 1, 1), (30, .ireturn, 1)]
set_option maxRecDepth 100000 in
theorem tk_Mo_later : ∀ e ∈ t_Mo_later, decode prog_14_method_93_code e.1 = .ok e.2 := by decide +kernel
def t_Mo_behindBy : List XI := [(0, .iload_n 0, 1), (1, .ldc_w 424, 3), (4, .if_icmp .lt 9, 3), (7, .ldc_w 424, 3), (10, .goto 6, 3), (13, .iload_n 0, 1), (14, .iload_n 1, 1), (15, .iadd, 1), (16, .ireturn, 1)]
set_option maxRecDepth 100000 in
theorem tk_Mo_behindBy : ∀ e ∈ t_Mo_behindBy, decode prog_14_method_94_code e.1 = .ok e.2 := by decide +kernel
def t_Mo_laysComes : List XI := [(0, .iconst 0, 1), (1, .istore 4, 2), (3, .iload 4, 2), (5, .bipush 7, 2), (7, .if_icmp .ge 75, 3), (10, .aload_n 0, 1), (11, .getfield 101, 3), (14, .iload 4, 2), (16, .iload 4, 2), (18, .aload_n 0, 1), (19, .getfield 231, 3), (22, .if_icmp .ge 12, 3), (25, .aload_n 0, 1), (26, .iload 4, 2), (28, .invokevirtual 277, 3), (31, .ifCond .eq 9, 3), (34, .ldc_w 424, 3), (37, .goto 38, 3), (40, .iload 4, 2), (42, .iload_n 2, 1), (43, .if_icmp .ne 14, 3), (46, .aload_n 1, 1), (47, .iload 4, 2), (49, .iload_n 3, 1), (50, .invokestatic 286, 3), (53, .iaload, 1), (54, .goto 21, 3), (57, .aload_n 1, 1), (58, .iload 4, 2), (60, .iload_n 3, 1), (61, .invokestatic 286, 3), (64, .iaload, 1), (65, .aload_n 0, 1), (66, .iload 4, 2), (68, .iload_n 2, 1), (69, .invokevirtual 255, 3), (72, .invokestatic 431, 3), (75, .iastore, 1), (76, .iinc 4 1, 3), (79, .goto (-76), 3), (82, .return_, 1)]
set_option maxRecDepth 100000 in
theorem tk_Mo_laysComes : ∀ e ∈ t_Mo_laysComes, decode prog_14_method_96_code e.1 = .ok e.2 := by decide +kernel
def t_Mo_manyCome : List XI := [(0, .ldc_w 424, 3), (3, .istore_n 2, 1), (4, .iconst 0, 1), (5, .istore_n 3, 1), (6, .iload_n 3, 1), (7, .aload_n 0, 1), (8, .getfield 231, 3), (11, .if_icmp .ge 79, 3), (14, .iconst 0, 1), (15, .istore 4, 2), (17, .iconst 0, 1), (18, .istore 5, 2), (20, .iload 5, 2), (22, .aload_n 0, 1), (23, .getfield 231, 3), (26, .if_icmp .ge 35, 3), (29, .iload 4, 2), (31, .aload_n 0, 1), (32, .getfield 101, 3), (35, .iload 5, 2), (37, .iaload, 1), (38, .aload_n 0, 1), (39, .getfield 101, 3), (42, .iload_n 3, 1), (43, .iaload, 1), (44, .if_icmp .gt 7, 3), (47, .iconst 1, 1), (48, .goto 4, 3), (51, .iconst 0, 1), (52, .iadd, 1), (53, .istore 4, 2), (55, .iinc 5 1, 3), (58, .goto (-38), 3), (61, .iload 4, 2), (63, .iload_n 1, 1), (64, .if_icmp .lt 20, 3), (67, .aload_n 0, 1), (68, .getfield 101, 3), (71, .iload_n 3, 1), (72, .iaload, 1), (73, .iload_n 2, 1), (74, .if_icmp .ge 10, 3), (77, .aload_n 0, 1), (78, .getfield 101, 3), (81, .iload_n 3, 1), (82, .iaload, 1), (83, .istore_n 2, 1), (84, .iinc 3 1, 3), (87, .goto (-81), 3), (90, .iload_n 2, 1), (91, .ireturn, 1)]
set_option maxRecDepth 100000 in
theorem tk_Mo_manyCome : ∀ e ∈ t_Mo_manyCome, decode prog_14_method_91_code e.1 = .ok e.2 := by decide +kernel
def t_Mo_minuteOf : List XI := [(0, .iload_n 0, 1), (1, .sipush 400, 3), (4, .if_icmp .le 7, 3), (7, .iconst (-1), 1), (8, .goto 4, 3), (11, .iload_n 0, 1), (12, .ireturn, 1)]
set_option maxRecDepth 100000 in
theorem tk_Mo_minuteOf : ∀ e ∈ t_Mo_minuteOf, decode prog_14_method_99_code e.1 = .ok e.2 := by decide +kernel
def t_Mo_pace : List XI := [(0, .aload_n 0, 1), (1, .iload_n 1, 1), (2, .invokevirtual 249, 3), (5, .ifCond .ne 6, 3), (8, .bipush (-2), 2), (10, .ireturn, 1), (11, .aload_n 0, 1), (12, .invokevirtual 447, 3), (15, .aload_n 0, 1), (16, .invokevirtual 468, 3), (19, .iload_n 2, 1), (20, .tableswitch 61 0 4 #[36, 41, 46, 51, 56], 36), (56, .aload_n 0, 1), (57, .getfield 453, 3), (60, .ireturn, 1), (61, .aload_n 0, 1), (62, .getfield 456, 3), (65, .ireturn, 1), (66, .aload_n 0, 1), (67, .invokevirtual 471, 3), (70, .ireturn, 1), (71, .aload_n 0, 1), (72, .invokevirtual 474, 3), (75, .ireturn, 1), (76, .aload_n 0, 1), (77, .invokevirtual 477, 3), (80, .ireturn, 1), (81, .iload_n 2, 1), (82, .bipush 11, 2), (84, .bipush 20, 2), (86, .invokestatic 168, 3), (89, .ifCond .eq 17, 3), (92, .aload_n 0, 1), (93, .iload_n 2, 1), (94, .bipush 10, 2), (96, .isub, 1), (97, .invokevirtual 462, 3), (100, .invokestatic 450, 3), (103, .goto 5, 3), (106, .bipush (-2), 2), (108, .ireturn, 1)]
set_option maxRecDepth 100000 in
theorem tk_Mo_pace : ∀ e ∈ t_Mo_pace, decode prog_14_method_108_code e.1 = .ok e.2 := by decide +kernel
def t_Mo_sendsAll : List XI := [(0, .aload_n 0, 1), (1, .iconst 0, 1), (2, .putfield 453, 3), (5, .aload_n 0, 1), (6, .iconst (-1), 1), (7, .putfield 456, 3), (10, .iconst 0, 1), (11, .istore_n 1, 1), (12, .iload_n 1, 1), (13, .aload_n 0, 1), (14, .getfield 231, 3), (17, .if_icmp .ge 77, 3), (20, .iconst 1, 1), (21, .istore_n 2, 1), (22, .iload_n 2, 1), (23, .bipush 10, 2), (25, .if_icmp .gt 63, 3), (28, .aload_n 0, 1), (29, .aload_n 0, 1), (30, .getfield 89, 3), (33, .iload_n 1, 1), (34, .iload_n 2, 1), (35, .invokestatic 286, 3), (38, .iaload, 1), (39, .iload_n 1, 1), (40, .invokevirtual 459, 3), (43, .aload_n 0, 1), (44, .aload_n 0, 1), (45, .getfield 92, 3), (48, .iload_n 1, 1), (49, .iload_n 2, 1), (50, .invokestatic 286, 3), (53, .iaload, 1), (54, .iload_n 1, 1), (55, .invokevirtual 459, 3), (58, .iload_n 2, 1), (59, .aload_n 0, 1), (60, .getfield 240, 3), (63, .irem, 1), (64, .ifCond .ne 18, 3), (67, .aload_n 0, 1), (68, .aload_n 0, 1), (69, .getfield 95, 3), (72, .iload_n 1, 1), (73, .iload_n 2, 1), (74, .invokestatic 286, 3), (77, .iaload, 1), (78, .iload_n 1, 1), (79, .invokevirtual 459, 3), (82, .iinc 2 1, 3), (85, .goto (-63), 3), (88, .iinc 1 1, 3), (91, .goto (-79), 3), (94, .return_, 1)]
set_option maxRecDepth 100000 in
theorem tk_Mo_sendsAll : ∀ e ∈ t_Mo_sendsAll, decode prog_14_method_103_code e.1 = .ok e.2 := by decide +kernel
def t_Mo_sends : List XI := [(0, .iload_n 1, 1), (1, .sipush 400, 3), (4, .if_icmp .le 4, 3), (7, .return_, 1), (8, .iconst 0, 1), (9, .istore_n 3, 1), (10, .iload_n 3, 1), (11, .aload_n 0, 1), (12, .getfield 231, 3), (15, .if_icmp .ge 69, 3), (18, .iload_n 3, 1), (19, .iload_n 2, 1), (20, .if_icmp .eq 58, 3), (23, .aload_n 0, 1), (24, .iload_n 3, 1), (25, .invokevirtual 277, 3), (28, .ifCond .eq 6, 3), (31, .goto 47, 3), (34, .aload_n 0, 1), (35, .dup, 1), (36, .getfield 453, 3), (39, .iconst 1, 1), (40, .iadd, 1), (41, .putfield 453, 3), (44, .aload_n 0, 1), (45, .iload_n 1, 1), (46, .aload_n 0, 1), (47, .iload_n 2, 1), (48, .iload_n 3, 1), (49, .invokevirtual 255, 3), (52, .iadd, 1), (53, .aload_n 0, 1), (54, .getfield 456, 3), (57, .if_icmp .le 14, 3), (60, .iload_n 1, 1), (61, .aload_n 0, 1), (62, .iload_n 2, 1), (63, .iload_n 3, 1), (64, .invokevirtual 255, 3), (67, .iadd, 1), (68, .goto 7, 3), (71, .aload_n 0, 1), (72, .getfield 456, 3), (75, .putfield 456, 3), (78, .iinc 3 1, 3), (81, .goto (-71), 3), (84, .return_, 1)]
set_option maxRecDepth 100000 in
theorem tk_Mo_sends : ∀ e ∈ t_Mo_sends, decode prog_14_method_102_code e.1 = .ok e.2 := by decide +kernel
def t_Mo_slowestOf : List XI := [(0, .iconst (-1), 1), (1, .istore_n 1, 1), (2, .iconst 0, 1), (3, .istore_n 2, 1), (4, .iconst 1, 1), (5, .istore_n 3, 1), (6, .iload_n 3, 1), (7, .aload_n 0, 1), (8, .getfield 246, 3), (11, .if_icmp .gt 52, 3), (14, .aload_n 0, 1), (15, .iload_n 3, 1), (16, .invokevirtual 462, 3), (19, .ldc_w 424, 3), (22, .if_icmp .lt 5, 3), (25, .iconst (-1), 1), (26, .ireturn, 1), (27, .aload_n 0, 1), (28, .iload_n 3, 1), (29, .invokevirtual 462, 3), (32, .iload_n 3, 1), (33, .iconst 1, 1), (34, .isub, 1), (35, .isub, 1), (36, .istore 4, 2), (38, .iload_n 1, 1), (39, .iconst (-1), 1), (40, .if_icmp .eq 12, 3), (43, .iload 4, 2), (45, .iload_n 2, 1), (46, .if_icmp .gt 6, 3), (49, .goto 8, 3), (52, .iload_n 3, 1), (53, .istore_n 1, 1), (54, .iload 4, 2), (56, .istore_n 2, 1), (57, .iinc 3 1, 3), (60, .goto (-54), 3), (63, .iload_n 1, 1), (64, .ireturn, 1)]
set_option maxRecDepth 100000 in
theorem tk_Mo_slowestOf : ∀ e ∈ t_Mo_slowestOf, decode prog_14_method_104_code e.1 = .ok e.2 := by decide +kernel
def t_Mo_doneOf : List XI := [(0, .iconst 0, 1), (1, .istore_n 2, 1), (2, .iload_n 2, 1), (3, .bipush 7, 2), (5, .if_icmp .ge 39, 3), (8, .aload_n 0, 1), (9, .getfield 101, 3), (12, .iload_n 2, 1), (13, .iload_n 2, 1), (14, .aload_n 0, 1), (15, .getfield 231, 3), (18, .if_icmp .ge 16, 3), (21, .aload_n 0, 1), (22, .getfield 95, 3), (25, .iload_n 2, 1), (26, .iload_n 1, 1), (27, .invokestatic 286, 3), (30, .iaload, 1), (31, .goto 6, 3), (34, .ldc_w 424, 3), (37, .iastore, 1), (38, .iinc 2 1, 3), (41, .goto (-39), 3), (44, .aload_n 0, 1), (45, .aload_n 0, 1), (46, .getfield 228, 3), (49, .iconst 1, 1), (50, .iadd, 1), (51, .invokevirtual 441, 3), (54, .sipush 400, 3), (57, .if_icmp .le 9, 3), (60, .ldc_w 424, 3), (63, .goto 13, 3), (66, .aload_n 0, 1), (67, .aload_n 0, 1), (68, .getfield 228, 3), (71, .iconst 1, 1), (72, .iadd, 1), (73, .invokevirtual 441, 3), (76, .ireturn, 1)]
set_option maxRecDepth 100000 in
theorem tk_Mo_doneOf : ∀ e ∈ t_Mo_doneOf, decode prog_14_method_101_code e.1 = .ok e.2 := by decide +kernel
def t_Mo_tightOf : List XI := [(0, .aload_n 0, 1), (1, .getfield 246, 3), (4, .ifCond .ne 5, 3), (7, .iconst (-1), 1), (8, .ireturn, 1), (9, .aload_n 0, 1), (10, .bipush 9, 2), (12, .invokevirtual 465, 3), (15, .istore_n 1, 1), (16, .iload_n 1, 1), (17, .ldc_w 424, 3), (20, .if_icmp .lt 5, 3), (23, .iconst (-1), 1), (24, .ireturn, 1), (25, .iconst 1, 1), (26, .istore_n 2, 1), (27, .aload_n 0, 1), (28, .iload_n 2, 1), (29, .invokevirtual 465, 3), (32, .iload_n 1, 1), (33, .if_icmp .eq 9, 3), (36, .iinc 2 1, 3), (39, .goto (-12), 3), (42, .iload_n 2, 1), (43, .ireturn, 1)]
set_option maxRecDepth 100000 in
theorem tk_Mo_tightOf : ∀ e ∈ t_Mo_tightOf, decode prog_14_method_106_code e.1 = .ok e.2 := by decide +kernel
def t_Mo_lastDoneBy : List XI := [(0, .aload_n 0, 1), (1, .iload_n 1, 1), (2, .putfield 237, 3), (5, .aload_n 0, 1), (6, .invokevirtual 447, 3), (9, .aload_n 0, 1), (10, .aload_n 0, 1), (11, .getfield 246, 3), (14, .invokevirtual 462, 3), (17, .ireturn, 1)]
set_option maxRecDepth 100000 in
theorem tk_Mo_lastDoneBy : ∀ e ∈ t_Mo_lastDoneBy, decode prog_14_method_105_code e.1 = .ok e.2 := by decide +kernel
def t_Mo_spareOf : List XI := [(0, .aload_n 0, 1), (1, .getfield 246, 3), (4, .ifCond .ne 5, 3), (7, .iconst 0, 1), (8, .ireturn, 1), (9, .aload_n 0, 1), (10, .getfield 243, 3), (13, .istore_n 1, 1), (14, .iconst 0, 1), (15, .istore_n 2, 1), (16, .iconst 0, 1), (17, .istore_n 3, 1), (18, .iload_n 3, 1), (19, .aload_n 0, 1), (20, .getfield 231, 3), (23, .if_icmp .ge 46, 3), (26, .aload_n 0, 1), (27, .iload_n 1, 1), (28, .iconst 1, 1), (29, .iload_n 3, 1), (30, .ishl, 1), (31, .ior, 1), (32, .putfield 243, 3), (35, .aload_n 0, 1), (36, .invokevirtual 447, 3), (39, .iload_n 2, 1), (40, .aload_n 0, 1), (41, .aload_n 0, 1), (42, .getfield 246, 3), (45, .invokevirtual 462, 3), (48, .ldc_w 424, 3), (51, .if_icmp .ge 9, 3), (54, .iconst 1, 1), (55, .iload_n 3, 1), (56, .ishl, 1), (57, .goto 4, 3), (60, .iconst 0, 1), (61, .ior, 1), (62, .istore_n 2, 1), (63, .iinc 3 1, 3), (66, .goto (-48), 3), (69, .iload_n 2, 1), (70, .ireturn, 1)]
set_option maxRecDepth 100000 in
theorem tk_Mo_spareOf : ∀ e ∈ t_Mo_spareOf, decode prog_14_method_107_code e.1 = .ok e.2 := by decide +kernel
def t_Mo_behind : List XI := [(0, .aload_n 0, 1), (1, .iload_n 1, 1), (2, .invokevirtual 249, 3), (5, .ifCond .eq 15, 3), (8, .iload_n 2, 1), (9, .iconst 0, 1), (10, .aload_n 0, 1), (11, .getfield 246, 3), (14, .invokestatic 168, 3), (17, .ifCond .ne 5, 3), (20, .iconst (-1), 1), (21, .ireturn, 1), (22, .aload_n 0, 1), (23, .invokevirtual 480, 3), (26, .iconst 0, 1), (27, .istore 4, 2), (29, .iload 4, 2), (31, .iload_n 2, 1), (32, .if_icmp .ge 15, 3), (35, .aload_n 0, 1), (36, .iload 4, 2), (38, .invokevirtual 483, 3), (41, .iinc 4 1, 3), (44, .goto (-15), 3), (47, .iload_n 3, 1), (48, .ifCond .ne 15, 3), (51, .aload_n 0, 1), (52, .aload_n 0, 1), (53, .getfield 104, 3), (56, .iconst 0, 1), (57, .invokevirtual 315, 3), (60, .goto 27, 3), (63, .iload_n 3, 1), (64, .bipush 10, 2), (66, .bipush 17, 2), (68, .invokestatic 168, 3), (71, .ifCond .eq 15, 3), (74, .aload_n 0, 1), (75, .getfield 104, 3), (78, .iload_n 3, 1), (79, .bipush 10, 2), (81, .isub, 1), (82, .iaload, 1), (83, .goto 4, 3), (86, .iconst (-1), 1), (87, .ireturn, 1)]
set_option maxRecDepth 100000 in
theorem tk_Mo_behind : ∀ e ∈ t_Mo_behind, decode prog_14_method_111_code e.1 = .ok e.2 := by decide +kernel
def t_Mo_laysSheet : List XI := [(0, .iconst 0, 1), (1, .istore_n 1, 1), (2, .iload_n 1, 1), (3, .bipush 8, 2), (5, .if_icmp .ge 28, 3), (8, .aload_n 0, 1), (9, .getfield 104, 3), (12, .iload_n 1, 1), (13, .aload_n 0, 1), (14, .getfield 7, 3), (17, .aload_n 0, 1), (18, .getfield 225, 3), (21, .iconst 5, 1), (22, .iadd, 1), (23, .iload_n 1, 1), (24, .iadd, 1), (25, .iaload, 1), (26, .iastore, 1), (27, .iinc 1 1, 3), (30, .goto (-28), 3), (33, .return_, 1)]
set_option maxRecDepth 100000 in
theorem tk_Mo_laysSheet : ∀ e ∈ t_Mo_laysSheet, decode prog_14_method_109_code e.1 = .ok e.2 := by decide +kernel
def t_Mo_runsSheet : List XI := [(0, .aload_n 0, 1), (1, .getfield 104, 3), (4, .aload_n 0, 1), (5, .iload_n 1, 1), (6, .invokevirtual 258, 3), (9, .aload_n 0, 1), (10, .getfield 104, 3), (13, .aload_n 0, 1), (14, .iload_n 1, 1), (15, .invokevirtual 258, 3), (18, .iaload, 1), (19, .aload_n 0, 1), (20, .iload_n 1, 1), (21, .invokevirtual 261, 3), (24, .iadd, 1), (25, .bipush 100, 2), (27, .irem, 1), (28, .iastore, 1), (29, .return_, 1)]
set_option maxRecDepth 100000 in
theorem tk_Mo_runsSheet : ∀ e ∈ t_Mo_runsSheet, decode prog_14_method_110_code e.1 = .ok e.2 := by decide +kernel
def t_Mo_blind : List XI := [(0, .aload_n 0, 1), (1, .iload_n 1, 1), (2, .invokevirtual 249, 3), (5, .ifCond .ne 6, 3), (8, .bipush (-2), 2), (10, .ireturn, 1), (11, .iload_n 2, 1), (12, .ifCond .eq 8, 3), (15, .iload_n 2, 1), (16, .iconst 1, 1), (17, .if_icmp .ne 19, 3), (20, .iload_n 2, 1), (21, .ifCond .ne 10, 3), (24, .aload_n 0, 1), (25, .invokevirtual 486, 3), (28, .goto 7, 3), (31, .aload_n 0, 1), (32, .invokevirtual 489, 3), (35, .ireturn, 1), (36, .iload_n 2, 1), (37, .iconst 2, 1), (38, .if_icmp .eq 6, 3), (41, .bipush (-2), 2), (43, .ireturn, 1), (44, .aload_n 0, 1), (45, .invokevirtual 489, 3), (48, .pop, 1), (49, .iconst 0, 1), (50, .istore_n 3, 1), (51, .iconst 1, 1), (52, .istore 4, 2), (54, .iload 4, 2), (56, .bipush 8, 2), (58, .if_icmp .ge 32, 3), (61, .aload_n 0, 1), (62, .getfield 104, 3), (65, .iload 4, 2), (67, .iaload, 1), (68, .aload_n 0, 1), (69, .getfield 104, 3), (72, .iload_n 3, 1), (73, .iaload, 1), (74, .if_icmp .le 8, 3), (77, .iload 4, 2), (79, .goto 4, 3), (82, .iload_n 3, 1), (83, .istore_n 3, 1), (84, .iinc 4 1, 3), (87, .goto (-33), 3), (90, .iload_n 3, 1), (91, .ireturn, 1)]
set_option maxRecDepth 100000 in
theorem tk_Mo_blind : ∀ e ∈ t_Mo_blind, decode prog_14_method_114_code e.1 = .ok e.2 := by decide +kernel
def t_Mo_blindOf : List XI := [(0, .iconst 0, 1), (1, .istore_n 1, 1), (2, .iconst 0, 1), (3, .istore_n 2, 1), (4, .iload_n 2, 1), (5, .aload_n 0, 1), (6, .getfield 246, 3), (9, .if_icmp .ge 51, 3), (12, .aload_n 0, 1), (13, .invokevirtual 480, 3), (16, .aload_n 0, 1), (17, .aload_n 0, 1), (18, .getfield 104, 3), (21, .iconst 0, 1), (22, .invokevirtual 315, 3), (25, .istore_n 3, 1), (26, .aload_n 0, 1), (27, .iload_n 2, 1), (28, .invokevirtual 483, 3), (31, .iload_n 1, 1), (32, .aload_n 0, 1), (33, .aload_n 0, 1), (34, .getfield 104, 3), (37, .iconst 0, 1), (38, .invokevirtual 315, 3), (41, .iload_n 3, 1), (42, .if_icmp .ne 9, 3), (45, .iconst 1, 1), (46, .iload_n 2, 1), (47, .ishl, 1), (48, .goto 4, 3), (51, .iconst 0, 1), (52, .ior, 1), (53, .istore_n 1, 1), (54, .iinc 2 1, 3), (57, .goto (-53), 3), (60, .iload_n 1, 1), (61, .ireturn, 1)]
set_option maxRecDepth 100000 in
theorem tk_Mo_blindOf : ∀ e ∈ t_Mo_blindOf, decode prog_14_method_112_code e.1 = .ok e.2 := by decide +kernel
def t_Mo_pathsOf : List XI := [(0, .aload_n 0, 1), (1, .getfield 23, 3), (4, .aload_n 0, 1), (5, .getfield 7, 3), (8, .aload_n 0, 1), (9, .getfield 225, 3), (12, .iconst 5, 1), (13, .iadd, 1), (14, .invokestatic 264, 3), (17, .aload_n 0, 1), (18, .invokevirtual 480, 3), (21, .iconst 0, 1), (22, .istore_n 1, 1), (23, .iload_n 1, 1), (24, .aload_n 0, 1), (25, .getfield 246, 3), (28, .if_icmp .ge 14, 3), (31, .aload_n 0, 1), (32, .iload_n 1, 1), (33, .invokevirtual 483, 3), (36, .iinc 1 1, 3), (39, .goto (-16), 3), (42, .aload_n 0, 1), (43, .getfield 20, 3), (46, .aload_n 0, 1), (47, .getfield 104, 3), (50, .iconst 0, 1), (51, .invokestatic 264, 3), (54, .iconst 0, 1), (55, .istore_n 1, 1), (56, .iconst 1, 1), (57, .istore_n 2, 1), (58, .iload_n 2, 1), (59, .bipush 16, 2), (61, .if_icmp .ge 32, 3), (64, .iload_n 1, 1), (65, .aload_n 0, 1), (66, .getfield 20, 3), (69, .iload_n 2, 1), (70, .iaload, 1), (71, .aload_n 0, 1), (72, .getfield 23, 3), (75, .iload_n 2, 1), (76, .iaload, 1), (77, .if_icmp .ne 7, 3), (80, .iconst 0, 1), (81, .goto 4, 3), (84, .iconst 1, 1), (85, .iadd, 1), (86, .istore_n 1, 1), (87, .iinc 2 1, 3), (90, .goto (-32), 3), (93, .iload_n 1, 1), (94, .ireturn, 1)]
set_option maxRecDepth 100000 in
theorem tk_Mo_pathsOf : ∀ e ∈ t_Mo_pathsOf, decode prog_14_method_113_code e.1 = .ok e.2 := by decide +kernel
def t_Mo_reply : List XI := [(0, .aload_n 0, 1), (1, .iload_n 1, 1), (2, .invokevirtual 495, 3), (5, .ifCond .ne 6, 3), (8, .bipush (-2), 2), (10, .ireturn, 1), (11, .iload_n 2, 1), (12, .iconst (-1), 1), (13, .if_icmp .ne 22, 3), (16, .iload_n 3, 1), (17, .ifCond .ne 15, 3), (20, .aload_n 0, 1), (21, .getfield 7, 3), (24, .aload_n 0, 1), (25, .getfield 492, 3), (28, .iaload, 1), (29, .goto 5, 3), (32, .bipush (-2), 2), (34, .ireturn, 1), (35, .iload_n 2, 1), (36, .iconst 0, 1), (37, .aload_n 0, 1), (38, .getfield 7, 3), (41, .aload_n 0, 1), (42, .getfield 492, 3), (45, .iaload, 1), (46, .iconst 1, 1), (47, .isub, 1), (48, .invokestatic 168, 3), (51, .ifCond .eq 32, 3), (54, .iload_n 3, 1), (55, .iconst 0, 1), (56, .iconst 2, 1), (57, .invokestatic 168, 3), (60, .ifCond .eq 23, 3), (63, .aload_n 0, 1), (64, .getfield 7, 3), (67, .aload_n 0, 1), (68, .getfield 492, 3), (71, .iconst 1, 1), (72, .iadd, 1), (73, .iconst 3, 1), (74, .iload_n 2, 1), (75, .imul, 1), (76, .iadd, 1), (77, .iload_n 3, 1), (78, .iadd, 1), (79, .iaload, 1), (80, .goto 5, 3), (83, .bipush (-2), 2), (85, .ireturn, 1)]
set_option maxRecDepth 100000 in
theorem tk_Mo_reply : ∀ e ∈ t_Mo_reply, decode prog_14_method_116_code e.1 = .ok e.2 := by decide +kernel
def t_Mo_isReplies : List XI := [(0, .aload_n 0, 1), (1, .iconst 2, 1), (2, .iload_n 1, 1), (3, .invokevirtual 206, 3), (6, .ifCond .ne 5, 3), (9, .iconst 0, 1), (10, .ireturn, 1), (11, .aload_n 0, 1), (12, .iconst 2, 1), (13, .iload_n 1, 1), (14, .invokestatic 222, 3), (17, .putfield 492, 3), (20, .iconst 1, 1), (21, .ireturn, 1)]
set_option maxRecDepth 100000 in
theorem tk_Mo_isReplies : ∀ e ∈ t_Mo_isReplies, decode prog_14_method_115_code e.1 = .ok e.2 := by decide +kernel
def t_Mo_match : List XI := [(0, .aload_n 0, 1), (1, .iload_n 1, 1), (2, .invokevirtual 249, 3), (5, .ifCond .eq 20, 3), (8, .aload_n 0, 1), (9, .iload_n 2, 1), (10, .invokevirtual 495, 3), (13, .ifCond .eq 12, 3), (16, .iload_n 3, 1), (17, .iconst 0, 1), (18, .iconst 2, 1), (19, .invokestatic 168, 3), (22, .ifCond .ne 5, 3), (25, .iconst (-1), 1), (26, .ireturn, 1), (27, .iconst 0, 1), (28, .istore 4, 2), (30, .iload 4, 2), (32, .aload_n 0, 1), (33, .getfield 7, 3), (36, .aload_n 0, 1), (37, .getfield 492, 3), (40, .iaload, 1), (41, .if_icmp .ge 161, 3), (44, .aload_n 0, 1), (45, .iload 4, 2), (47, .iconst 1, 1), (48, .iadd, 1), (49, .invokevirtual 501, 3), (52, .aload_n 0, 1), (53, .getfield 7, 3), (56, .aload_n 0, 1), (57, .getfield 492, 3), (60, .iconst 3, 1), (61, .iadd, 1), (62, .iconst 3, 1), (63, .iload 4, 2), (65, .imul, 1), (66, .iadd, 1), (67, .iaload, 1), (68, .istore 5, 2), (70, .aload_n 0, 1), (71, .iload 5, 2), (73, .invokevirtual 504, 3), (76, .istore 6, 2), (78, .aload_n 0, 1), (79, .aload_n 0, 1), (80, .getfield 7, 3), (83, .aload_n 0, 1), (84, .getfield 492, 3), (87, .iconst 1, 1), (88, .iadd, 1), (89, .iconst 3, 1), (90, .iload 4, 2), (92, .imul, 1), (93, .iadd, 1), (94, .iaload, 1), (95, .invokevirtual 252, 3), (98, .ifCond .eq 98, 3), (101, .iload 6, 2), (103, .invokestatic 280, 3), (106, .aload_n 0, 1), (107, .getfield 228, 3), (110, .if_icmp .gt 6, 3), (113, .goto 83, 3), (116, .iconst 0, 1), (117, .istore 7, 2), (119, .iconst 0, 1), (120, .istore 8, 2), (122, .iload 8, 2), (124, .aload_n 0, 1), (125, .getfield 231, 3), (128, .if_icmp .ge 46, 3), (131, .iload 6, 2), (133, .iload 8, 2), (135, .ishr, 1), (136, .iconst 1, 1), (137, .iand, 1), (138, .iconst 1, 1), (139, .if_icmp .ne 25, 3), (142, .aload_n 0, 1), (143, .getfield 110, 3), (146, .iload 8, 2), (148, .iaload, 1), (149, .iload 7, 2), (151, .if_icmp .le 13, 3), (154, .aload_n 0, 1), (155, .getfield 110, 3), (158, .iload 8, 2), (160, .iaload, 1), (161, .goto 5, 3), (164, .iload 7, 2), (166, .istore 7, 2), (168, .iinc 8 1, 3), (171, .goto (-49), 3), (174, .iload_n 3, 1), (175, .ifCond .ne 8, 3), (178, .iload 4, 2), (180, .goto 15, 3), (183, .iload_n 3, 1), (184, .iconst 1, 1), (185, .if_icmp .ne 8, 3), (188, .iload 5, 2), (190, .goto 5, 3), (193, .iload 7, 2), (195, .ireturn, 1), (196, .iinc 4 1, 3), (199, .goto (-169), 3), (202, .iconst (-1), 1), (203, .ireturn, 1)]
set_option maxRecDepth 100000 in
theorem tk_Mo_match : ∀ e ∈ t_Mo_match, decode prog_14_method_119_code e.1 = .ok e.2 := by decide +kernel
def t_Mo_come : List XI := [(0, .aload_n 0, 1), (1, .iconst 0, 1), (2, .putfield 498, 3), (5, .iconst 0, 1), (6, .istore_n 2, 1), (7, .iload_n 2, 1), (8, .bipush 7, 2), (10, .if_icmp .ge 16, 3), (13, .aload_n 0, 1), (14, .getfield 107, 3), (17, .iload_n 2, 1), (18, .iconst (-1), 1), (19, .iastore, 1), (20, .iinc 2 1, 3), (23, .goto (-16), 3), (26, .iconst 0, 1), (27, .istore_n 2, 1), (28, .iload_n 2, 1), (29, .iload_n 1, 1), (30, .if_icmp .ge 132, 3), (33, .iload_n 2, 1), (34, .aload_n 0, 1), (35, .getfield 7, 3), (38, .aload_n 0, 1), (39, .getfield 492, 3), (42, .iaload, 1), (43, .if_icmp .ge 119, 3), (46, .aload_n 0, 1), (47, .getfield 7, 3), (50, .aload_n 0, 1), (51, .getfield 492, 3), (54, .iconst 1, 1), (55, .iadd, 1), (56, .iconst 3, 1), (57, .iload_n 2, 1), (58, .imul, 1), (59, .iadd, 1), (60, .iaload, 1), (61, .istore_n 3, 1), (62, .aload_n 0, 1), (63, .getfield 7, 3), (66, .aload_n 0, 1), (67, .getfield 492, 3), (70, .iconst 3, 1), (71, .iadd, 1), (72, .iconst 3, 1), (73, .iload_n 2, 1), (74, .imul, 1), (75, .iadd, 1), (76, .iaload, 1), (77, .istore 4, 2), (79, .aload_n 0, 1), (80, .iload_n 3, 1), (81, .invokevirtual 252, 3), (84, .ifCond .ne 6, 3), (87, .goto 69, 3), (90, .aload_n 0, 1), (91, .dup, 1), (92, .getfield 498, 3), (95, .aload_n 0, 1), (96, .getfield 107, 3), (99, .iload_n 3, 1), (100, .iaload, 1), (101, .iconst (-1), 1), (102, .if_icmp .eq 20, 3), (105, .aload_n 0, 1), (106, .getfield 107, 3), (109, .iload_n 3, 1), (110, .iaload, 1), (111, .iload 4, 2), (113, .if_icmp .eq 9, 3), (116, .iconst 1, 1), (117, .iload_n 3, 1), (118, .ishl, 1), (119, .goto 4, 3), (122, .iconst 0, 1), (123, .ior, 1), (124, .putfield 498, 3), (127, .aload_n 0, 1), (128, .getfield 107, 3), (131, .iload_n 3, 1), (132, .iload 4, 2), (134, .iastore, 1), (135, .aload_n 0, 1), (136, .getfield 110, 3), (139, .iload_n 3, 1), (140, .aload_n 0, 1), (141, .getfield 7, 3), (144, .aload_n 0, 1), (145, .getfield 492, 3), (148, .iconst 2, 1), (149, .iadd, 1), (150, .iconst 3, 1), (151, .iload_n 2, 1), (152, .imul, 1), (153, .iadd, 1), (154, .iaload, 1), (155, .iastore, 1), (156, .iinc 2 1, 3), (159, .goto (-131), 3), (162, .return_, 1)]
set_option maxRecDepth 100000 in
theorem tk_Mo_come : ∀ e ∈ t_Mo_come, decode prog_14_method_118_code e.1 = .ok e.2 := by decide +kernel
def t_Mo_tell : List XI := [(0, .iconst 0, 1), (1, .istore_n 2, 1), (2, .iconst 0, 1), (3, .istore_n 3, 1), (4, .iload_n 3, 1), (5, .aload_n 0, 1), (6, .getfield 231, 3), (9, .if_icmp .ge 29, 3), (12, .iload_n 2, 1), (13, .aload_n 0, 1), (14, .getfield 107, 3), (17, .iload_n 3, 1), (18, .iaload, 1), (19, .iload_n 1, 1), (20, .if_icmp .ne 9, 3), (23, .iconst 1, 1), (24, .iload_n 3, 1), (25, .ishl, 1), (26, .goto 4, 3), (29, .iconst 0, 1), (30, .ior, 1), (31, .istore_n 2, 1), (32, .iinc 3 1, 3), (35, .goto (-31), 3), (38, .iload_n 2, 1), (39, .ireturn, 1)]
set_option maxRecDepth 100000 in
theorem tk_Mo_tell : ∀ e ∈ t_Mo_tell, decode prog_14_method_117_code e.1 = .ok e.2 := by decide +kernel
def t_Mo_suspects : List XI := [(0, .aload_n 0, 1), (1, .iload_n 1, 1), (2, .invokevirtual 249, 3), (5, .ifCond .eq 25, 3), (8, .aload_n 0, 1), (9, .iload_n 2, 1), (10, .invokevirtual 495, 3), (13, .ifCond .eq 17, 3), (16, .iload_n 3, 1), (17, .ifCond .lt 13, 3), (20, .iload_n 3, 1), (21, .iconst 2, 1), (22, .bipush 9, 2), (24, .invokestatic 168, 3), (27, .ifCond .eq 6, 3), (30, .bipush (-2), 2), (32, .ireturn, 1), (33, .aload_n 0, 1), (34, .bipush 12, 2), (36, .invokevirtual 501, 3), (39, .iconst 0, 1), (40, .istore 4, 2), (42, .iconst 1, 1), (43, .aload_n 0, 1), (44, .getfield 231, 3), (47, .ishl, 1), (48, .iconst 1, 1), (49, .isub, 1), (50, .istore 5, 2), (52, .bipush (-2), 2), (54, .istore 6, 2), (56, .iconst 0, 1), (57, .istore 7, 2), (59, .iload 7, 2), (61, .iconst 1, 1), (62, .aload_n 0, 1), (63, .getfield 231, 3), (66, .ishl, 1), (67, .if_icmp .ge 56, 3), (70, .iload 7, 2), (72, .invokestatic 280, 3), (75, .aload_n 0, 1), (76, .getfield 228, 3), (79, .if_icmp .gt 38, 3), (82, .aload_n 0, 1), (83, .iload 7, 2), (85, .invokevirtual 507, 3), (88, .ifCond .ne 6, 3), (91, .goto 26, 3), (94, .iload 4, 2), (96, .iload_n 3, 1), (97, .bipush 10, 2), (99, .isub, 1), (100, .if_icmp .ne 7, 3), (103, .iload 7, 2), (105, .istore 6, 2), (107, .iload 5, 2), (109, .iload 7, 2), (111, .iand, 1), (112, .istore 5, 2), (114, .iinc 4 1, 3), (117, .iinc 7 1, 3), (120, .goto (-61), 3), (123, .iload_n 3, 1), (124, .ifCond .ne 8, 3), (127, .iload 4, 2), (129, .goto 24, 3), (132, .iload_n 3, 1), (133, .iconst 1, 1), (134, .if_icmp .ne 17, 3), (137, .iload 4, 2), (139, .ifCond .ne 7, 3), (142, .iconst 0, 1), (143, .goto 10, 3), (146, .iload 5, 2), (148, .goto 5, 3), (151, .iload 6, 2), (153, .ireturn, 1)]
set_option maxRecDepth 100000 in
theorem tk_Mo_suspects : ∀ e ∈ t_Mo_suspects, decode prog_14_method_121_code e.1 = .ok e.2 := by decide +kernel
def t_Mo_isOneBut : List XI := [(0, .iconst (-1), 1), (1, .istore_n 2, 1), (2, .iconst 1, 1), (3, .istore_n 3, 1), (4, .iconst 0, 1), (5, .istore 4, 2), (7, .iload 4, 2), (9, .aload_n 0, 1), (10, .getfield 231, 3), (13, .if_icmp .ge 67, 3), (16, .iload_n 1, 1), (17, .iload 4, 2), (19, .ishr, 1), (20, .iconst 1, 1), (21, .iand, 1), (22, .iconst 1, 1), (23, .if_icmp .eq 51, 3), (26, .aload_n 0, 1), (27, .getfield 107, 3), (30, .iload 4, 2), (32, .iaload, 1), (33, .iconst (-1), 1), (34, .if_icmp .ne 6, 3), (37, .goto 37, 3), (40, .iload_n 3, 1), (41, .ifCond .eq 23, 3), (44, .iload_n 2, 1), (45, .iconst (-1), 1), (46, .if_icmp .eq 14, 3), (49, .iload_n 2, 1), (50, .aload_n 0, 1), (51, .getfield 107, 3), (54, .iload 4, 2), (56, .iaload, 1), (57, .if_icmp .ne 7, 3), (60, .iconst 1, 1), (61, .goto 4, 3), (64, .iconst 0, 1), (65, .istore_n 3, 1), (66, .aload_n 0, 1), (67, .getfield 107, 3), (70, .iload 4, 2), (72, .iaload, 1), (73, .istore_n 2, 1), (74, .iinc 4 1, 3), (77, .goto (-70), 3), (80, .iload_n 3, 1), (81, .ireturn, 1)]
set_option maxRecDepth 100000 in
theorem tk_Mo_isOneBut : ∀ e ∈ t_Mo_isOneBut, decode prog_14_method_120_code e.1 = .ok e.2 := by decide +kernel
def t_Mo_voices : List XI := [(0, .aload_n 0, 1), (1, .iload_n 1, 1), (2, .invokevirtual 249, 3), (5, .ifCond .eq 21, 3), (8, .aload_n 0, 1), (9, .iload_n 2, 1), (10, .invokevirtual 495, 3), (13, .ifCond .eq 13, 3), (16, .iload_n 3, 1), (17, .iconst 0, 1), (18, .bipush 99, 2), (20, .invokestatic 168, 3), (23, .ifCond .ne 5, 3), (26, .iconst (-1), 1), (27, .ireturn, 1), (28, .aload_n 0, 1), (29, .bipush 12, 2), (31, .invokevirtual 501, 3), (34, .aload_n 0, 1), (35, .iload_n 3, 1), (36, .invokevirtual 504, 3), (39, .ireturn, 1)]
set_option maxRecDepth 100000 in
theorem tk_Mo_voices : ∀ e ∈ t_Mo_voices, decode prog_14_method_122_code e.1 = .ok e.2 := by decide +kernel
def t_Mo_lack : List XI := [(0, .aload_n 0, 1), (1, .iload_n 1, 1), (2, .invokevirtual 249, 3), (5, .ifCond .eq 20, 3), (8, .aload_n 0, 1), (9, .iload_n 2, 1), (10, .invokevirtual 495, 3), (13, .ifCond .eq 12, 3), (16, .iload_n 3, 1), (17, .iconst 0, 1), (18, .iconst 2, 1), (19, .invokestatic 168, 3), (22, .ifCond .ne 6, 3), (25, .bipush (-2), 2), (27, .ireturn, 1), (28, .aload_n 0, 1), (29, .bipush 12, 2), (31, .invokevirtual 501, 3), (34, .iload_n 3, 1), (35, .iconst 2, 1), (36, .if_icmp .ne 8, 3), (39, .aload_n 0, 1), (40, .getfield 498, 3), (43, .ireturn, 1), (44, .iconst 0, 1), (45, .istore 4, 2), (47, .iconst 0, 1), (48, .istore 5, 2), (50, .iconst 0, 1), (51, .istore 6, 2), (53, .iload 6, 2), (55, .bipush 100, 2), (57, .if_icmp .ge 51, 3), (60, .aload_n 0, 1), (61, .iload 6, 2), (63, .invokevirtual 504, 3), (66, .invokestatic 280, 3), (69, .istore 7, 2), (71, .iload 5, 2), (73, .iload 7, 2), (75, .ifCond .le 7, 3), (78, .iconst 1, 1), (79, .goto 4, 3), (82, .iconst 0, 1), (83, .iadd, 1), (84, .istore 5, 2), (86, .iload 7, 2), (88, .iload 4, 2), (90, .if_icmp .le 8, 3), (93, .iload 7, 2), (95, .goto 5, 3), (98, .iload 4, 2), (100, .istore 4, 2), (102, .iinc 6 1, 3), (105, .goto (-52), 3), (108, .iload_n 3, 1), (109, .iconst 1, 1), (110, .if_icmp .ne 8, 3), (113, .iload 5, 2), (115, .goto 25, 3), (118, .iload 4, 2), (120, .aload_n 0, 1), (121, .getfield 228, 3), (124, .if_icmp .le 7, 3), (127, .iconst 0, 1), (128, .goto 12, 3), (131, .aload_n 0, 1), (132, .getfield 228, 3), (135, .iconst 1, 1), (136, .iadd, 1), (137, .iload 4, 2), (139, .isub, 1), (140, .ireturn, 1)]
set_option maxRecDepth 100000 in
theorem tk_Mo_lack : ∀ e ∈ t_Mo_lack, decode prog_14_method_123_code e.1 = .ok e.2 := by decide +kernel
def t_Mo_drawn : List XI := [(0, .aload_n 0, 1), (1, .iload_n 1, 1), (2, .invokevirtual 249, 3), (5, .ifCond .eq 14, 3), (8, .iload_n 3, 1), (9, .iconst 0, 1), (10, .sipush 200, 3), (13, .invokestatic 168, 3), (16, .ifCond .ne 6, 3), (19, .bipush (-2), 2), (21, .ireturn, 1), (22, .aload_n 0, 1), (23, .invokevirtual 379, 3), (26, .aload_n 0, 1), (27, .iload_n 2, 1), (28, .putfield 510, 3), (31, .iconst 0, 1), (32, .istore 6, 2), (34, .iload 6, 2), (36, .iload_n 3, 1), (37, .if_icmp .ge 13, 3), (40, .aload_n 0, 1), (41, .invokevirtual 517, 3), (44, .iinc 6 1, 3), (47, .goto (-13), 3), (50, .aload_n 0, 1), (51, .iload 4, 2), (53, .iload 5, 2), (55, .invokevirtual 396, 3), (58, .ireturn, 1)]
set_option maxRecDepth 100000 in
theorem tk_Mo_drawn : ∀ e ∈ t_Mo_drawn, decode prog_14_method_126_code e.1 = .ok e.2 := by decide +kernel
def t_Mo_draws : List XI := [(0, .aload_n 0, 1), (1, .bipush 10, 2), (3, .invokevirtual 514, 3), (6, .istore_n 1, 1), (7, .aload_n 0, 1), (8, .aload_n 0, 1), (9, .getfield 231, 3), (12, .invokevirtual 514, 3), (15, .istore_n 2, 1), (16, .iload_n 2, 1), (17, .iconst 1, 1), (18, .iadd, 1), (19, .aload_n 0, 1), (20, .getfield 231, 3), (23, .iconst 1, 1), (24, .if_icmp .ne 7, 3), (27, .iconst 0, 1), (28, .goto 13, 3), (31, .aload_n 0, 1), (32, .aload_n 0, 1), (33, .getfield 231, 3), (36, .iconst 1, 1), (37, .isub, 1), (38, .invokevirtual 514, 3), (41, .iadd, 1), (42, .aload_n 0, 1), (43, .getfield 231, 3), (46, .irem, 1), (47, .istore_n 3, 1), (48, .iconst 1, 1), (49, .aload_n 0, 1), (50, .bipush 12, 2), (52, .invokevirtual 514, 3), (55, .iadd, 1), (56, .istore 4, 2), (58, .iload_n 1, 1), (59, .tableswitch 157 0 8 #[49, 49, 67, 67, 80, 80, 93, 105, 117], 49), (108, .aload_n 0, 1), (109, .iconst 0, 1), (110, .iload_n 2, 1), (111, .iload 4, 2), (113, .aload_n 0, 1), (114, .bipush 10, 2), (116, .invokevirtual 514, 3), (119, .invokevirtual 382, 3), (122, .pop, 1), (123, .goto 103, 3), (126, .aload_n 0, 1), (127, .iconst 1, 1), (128, .iload_n 2, 1), (129, .iload_n 3, 1), (130, .iload 4, 2), (132, .invokevirtual 382, 3), (135, .pop, 1), (136, .goto 90, 3), (139, .aload_n 0, 1), (140, .iconst 2, 1), (141, .iload_n 2, 1), (142, .iload_n 3, 1), (143, .iload 4, 2), (145, .invokevirtual 382, 3), (148, .pop, 1), (149, .goto 77, 3), (152, .aload_n 0, 1), (153, .iconst 3, 1), (154, .iload_n 2, 1), (155, .iconst (-1), 1), (156, .iconst (-1), 1), (157, .invokevirtual 382, 3), (160, .pop, 1), (161, .goto 65, 3), (164, .aload_n 0, 1), (165, .iconst 4, 1), (166, .iload_n 2, 1), (167, .iload_n 3, 1), (168, .iconst (-1), 1), (169, .invokevirtual 382, 3), (172, .pop, 1), (173, .goto 53, 3), (176, .aload_n 0, 1), (177, .iconst 4, 1), (178, .invokevirtual 514, 3), (181, .istore 5, 2), (183, .aload_n 0, 1), (184, .iload 5, 2), (186, .ifCond .ne 7, 3), (189, .iconst 5, 1), (190, .goto 16, 3), (193, .iload 5, 2), (195, .iconst 1, 1), (196, .if_icmp .ne 8, 3), (199, .bipush 6, 2), (201, .goto 5, 3), (204, .bipush 7, 2), (206, .iload_n 2, 1), (207, .iload_n 3, 1), (208, .iconst (-1), 1), (209, .invokevirtual 382, 3), (212, .pop, 1), (213, .goto 13, 3), (216, .aload_n 0, 1), (217, .bipush 8, 2), (219, .iload_n 2, 1), (220, .iconst (-1), 1), (221, .iconst (-1), 1), (222, .invokevirtual 382, 3), (225, .pop, 1), (226, .return_, 1)]
set_option maxRecDepth 100000 in
theorem tk_Mo_draws : ∀ e ∈ t_Mo_draws, decode prog_14_method_125_code e.1 = .ok e.2 := by decide +kernel
def t_Mo_below : List XI := [(0, .aload_n 0, 1), (1, .aload_n 0, 1), (2, .getfield 510, 3), (5, .ldc_w 513, 3), (8, .imul, 1), (9, .sipush 12345, 3), (12, .iadd, 1), (13, .putfield 510, 3), (16, .aload_n 0, 1), (17, .getfield 510, 3), (20, .bipush 16, 2), (22, .iushr, 1), (23, .iload_n 1, 1), (24, .irem, 1), (25, .ireturn, 1)]
set_option maxRecDepth 100000 in
theorem tk_Mo_below : ∀ e ∈ t_Mo_below, decode prog_14_method_124_code e.1 = .ok e.2 := by decide +kernel
def t_Mo_count : List XI := [(0, .iload_n 1, 1), (1, .iconst 0, 1), (2, .iconst 2, 1), (3, .invokestatic 168, 3), (6, .ifCond .eq 12, 3), (9, .aload_n 0, 1), (10, .getfield 7, 3), (13, .iload_n 1, 1), (14, .iaload, 1), (15, .goto 5, 3), (18, .bipush (-2), 2), (20, .ireturn, 1)]
set_option maxRecDepth 100000 in
theorem tk_Mo_count : ∀ e ∈ t_Mo_count, decode prog_14_method_127_code e.1 = .ok e.2 := by decide +kernel
def t_Mo_image : List XI := [(0, .iload_n 1, 1), (1, .iconst 0, 1), (2, .iconst 2, 1), (3, .invokestatic 168, 3), (6, .ifCond .ne 5, 3), (9, .iconst 0, 1), (10, .ireturn, 1), (11, .aload_n 0, 1), (12, .getfield 13, 3), (15, .iload_n 1, 1), (16, .iconst 1, 1), (17, .bastore, 1), (18, .iconst 0, 1), (19, .istore_n 2, 1), (20, .iload_n 2, 1), (21, .sipush 1170, 3), (24, .if_icmp .ge 29, 3), (27, .aload_n 0, 1), (28, .getfield 7, 3), (31, .sipush 1170, 3), (34, .iload_n 1, 1), (35, .iconst 1, 1), (36, .iadd, 1), (37, .imul, 1), (38, .iload_n 2, 1), (39, .iadd, 1), (40, .aload_n 0, 1), (41, .getfield 7, 3), (44, .iload_n 2, 1), (45, .iaload, 1), (46, .iastore, 1), (47, .iinc 2 1, 3), (50, .goto (-30), 3), (53, .iconst 1, 1), (54, .ireturn, 1)]
set_option maxRecDepth 100000 in
theorem tk_Mo_image : ∀ e ∈ t_Mo_image, decode prog_14_method_128_code e.1 = .ok e.2 := by decide +kernel
def t_Mo_again : List XI := [(0, .iload_n 1, 1), (1, .iconst 0, 1), (2, .iconst 2, 1), (3, .invokestatic 168, 3), (6, .ifCond .eq 12, 3), (9, .aload_n 0, 1), (10, .getfield 13, 3), (13, .iload_n 1, 1), (14, .baload, 1), (15, .ifCond .ne 5, 3), (18, .iconst 0, 1), (19, .ireturn, 1), (20, .iconst 0, 1), (21, .istore_n 2, 1), (22, .iload_n 2, 1), (23, .sipush 1170, 3), (26, .if_icmp .ge 29, 3), (29, .aload_n 0, 1), (30, .getfield 7, 3), (33, .iload_n 2, 1), (34, .aload_n 0, 1), (35, .getfield 7, 3), (38, .sipush 1170, 3), (41, .iload_n 1, 1), (42, .iconst 1, 1), (43, .iadd, 1), (44, .imul, 1), (45, .iload_n 2, 1), (46, .iadd, 1), (47, .iaload, 1), (48, .iastore, 1), (49, .iinc 2 1, 3), (52, .goto (-30), 3), (55, .iconst 1, 1), (56, .ireturn, 1)]
set_option maxRecDepth 100000 in
theorem tk_Mo_again : ∀ e ∈ t_Mo_again, decode prog_14_method_129_code e.1 = .ok e.2 := by decide +kernel
end
section
/-! code tables (printed by wip/whole/gen2.py out of the claim) -/
def t_ja_fill : List XI := [(0, .iconst 0, 1), (1, .istore_n 2, 1), (2, .aload_n 0, 1), (3, .arraylength, 1), (4, .istore_n 3, 1), (5, .iload_n 2, 1), (6, .iload_n 3, 1), (7, .if_icmp .ge 13, 3), (10, .aload_n 0, 1), (11, .iload_n 2, 1), (12, .iload_n 1, 1), (13, .iastore, 1), (14, .iinc 2 1, 3), (17, .goto (-12), 3), (20, .return_, 1)]
set_option maxRecDepth 100000 in
theorem tk_ja_fill : ∀ e ∈ t_ja_fill, decode prog_21_method_103_code e.1 = .ok e.2 := by decide +kernel
def t_js_length : List XI := [(0, .aload_n 0, 1), (1, .getfield 9, 3), (4, .arraylength, 1), (5, .aload_n 0, 1), (6, .invokevirtual 335, 3), (9, .ishr, 1), (10, .ireturn, 1)]
set_option maxRecDepth 100000 in
theorem tk_js_length : ∀ e ∈ t_js_length, decode prog_17_method_54_code e.1 = .ok e.2 := by decide +kernel
def t_js_coder : List XI := [(0, .getstatic 38, 3), (3, .ifCond .eq 10, 3), (6, .aload_n 0, 1), (7, .getfield 15, 3), (10, .goto 4, 3), (13, .iconst 1, 1), (14, .ireturn, 1)]
set_option maxRecDepth 100000 in
theorem tk_js_coder : ∀ e ∈ t_js_coder, decode prog_17_method_152_code e.1 = .ok e.2 := by decide +kernel
def t_js_charAt : List XI := [(0, .aload_n 0, 1), (1, .invokevirtual 492, 3), (4, .ifCond .eq 12, 3), (7, .aload_n 0, 1), (8, .getfield 9, 3), (11, .iload_n 1, 1), (12, .invokestatic 495, 3), (15, .ireturn, 1), (16, .aload_n 0, 1), (17, .getfield 9, 3), (20, .iload_n 1, 1), (21, .invokestatic 498, 3), (24, .ireturn, 1)]
set_option maxRecDepth 100000 in
theorem tk_js_charAt : ∀ e ∈ t_js_charAt, decode prog_17_method_56_code e.1 = .ok e.2 := by decide +kernel
def t_js_isLatin1 : List XI := [(0, .getstatic 38, 3), (3, .ifCond .eq 14, 3), (6, .aload_n 0, 1), (7, .getfield 15, 3), (10, .ifCond .ne 7, 3), (13, .iconst 1, 1), (14, .goto 4, 3), (17, .iconst 0, 1), (18, .ireturn, 1)]
set_option maxRecDepth 100000 in
theorem tk_js_isLatin1 : ∀ e ∈ t_js_isLatin1, decode prog_17_method_154_code e.1 = .ok e.2 := by decide +kernel
def t_jl_charAt : List XI := [(0, .iload_n 1, 1), (1, .aload_n 0, 1), (2, .arraylength, 1), (3, .invokestatic 9, 3), (6, .aload_n 0, 1), (7, .iload_n 1, 1), (8, .baload, 1), (9, .sipush 255, 3), (12, .iand, 1), (13, .i2c, 1), (14, .ireturn, 1)]
set_option maxRecDepth 100000 in
theorem tk_jl_charAt : ∀ e ∈ t_jl_charAt, decode prog_18_method_2_code e.1 = .ok e.2 := by decide +kernel
def t_js_checkIndex : List XI := [(0, .iload_n 0, 1), (1, .iload_n 1, 1), (2, .getstatic 1053, 3), (5, .invokestatic 1059, 3), (8, .pop, 1), (9, .return_, 1)]
set_option maxRecDepth 100000 in
theorem tk_js_checkIndex : ∀ e ∈ t_js_checkIndex, decode prog_17_method_155_code e.1 = .ok e.2 := by decide +kernel
def t_jp_checkIndex : List XI := [(0, .iload_n 0, 1), (1, .ifCond .lt 8, 3), (4, .iload_n 0, 1), (5, .iload_n 1, 1), (6, .if_icmp .lt 10, 3), (9, .aload_n 2, 1), (10, .iload_n 0, 1), (11, .iload_n 1, 1), (12, .invokestatic 95, 3), (15, .athrow, 1), (16, .iload_n 0, 1), (17, .ireturn, 1)]
set_option maxRecDepth 100000 in
theorem tk_jp_checkIndex : ∀ e ∈ t_jp_checkIndex, decode prog_22_method_11_code e.1 = .ok e.2 := by decide +kernel
def t_ji_bitCount : List XI := [(0, .iload_n 0, 1), (1, .iload_n 0, 1), (2, .iconst 1, 1), (3, .iushr, 1), (4, .ldc_w 265, 3), (7, .iand, 1), (8, .isub, 1), (9, .istore_n 0, 1), (10, .iload_n 0, 1), (11, .ldc_w 266, 3), (14, .iand, 1), (15, .iload_n 0, 1), (16, .iconst 2, 1), (17, .iushr, 1), (18, .ldc_w 266, 3), (21, .iand, 1), (22, .iadd, 1), (23, .istore_n 0, 1), (24, .iload_n 0, 1), (25, .iload_n 0, 1), (26, .iconst 4, 1), (27, .iushr, 1), (28, .iadd, 1), (29, .ldc_w 267, 3), (32, .iand, 1), (33, .istore_n 0, 1), (34, .iload_n 0, 1), (35, .iload_n 0, 1), (36, .bipush 8, 2), (38, .iushr, 1), (39, .iadd, 1), (40, .istore_n 0, 1), (41, .iload_n 0, 1), (42, .iload_n 0, 1), (43, .bipush 16, 2), (45, .iushr, 1), (46, .iadd, 1), (47, .istore_n 0, 1), (48, .iload_n 0, 1), (49, .bipush 63, 2), (51, .iand, 1), (52, .ireturn, 1)]
set_option maxRecDepth 100000 in
theorem tk_ji_bitCount : ∀ e ∈ t_ji_bitCount, decode prog_15_method_49_code e.1 = .ok e.2 := by decide +kernel
end
section
def t_La_law_0 : List XI := [(0, .new 7, 3), (3, .dup, 1), (4, .invokespecial 9, 3), (7, .astore_n 1, 1), (8, .new 10, 3), (11, .dup, 1), (12, .invokespecial 12, 3), (15, .astore_n 2, 1), (16, .iconst 0, 1), (17, .istore_n 3, 1), (18, .iload_n 3, 1), (19, .aload_n 0, 1), (20, .arraylength, 1), (21, .bipush 6, 2), (23, .isub, 1), (24, .if_icmp .gt 1385, 3), (27, .aload_n 0, 1), (28, .iload_n 3, 1), (29, .iaload, 1), (30, .bipush 31, 2), (32, .iand, 1), (33, .tableswitch 1370 0 28 #[131, 194, 217, 250, 273, 306, 349, 382, 445, 508, 551, 584, 617, 660, 729, 772, 815, 858, 921, 984, 1063, 1106, 1139, 1182, 1215, 1258, 1301, 1324, 1347], 131), (164, .aload_n 1, 1), (165, .aload_n 0, 1), (166, .iload_n 3, 1)]
set_option maxRecDepth 100000 in
theorem tk_La_law_0 : ∀ e ∈ t_La_law_0, decode code e.1 = .ok e.2 := by decide +kernel
def t_La_law_1 : List XI := [(167, .iconst 1, 1), (168, .iadd, 1), (169, .iaload, 1), (170, .aload_n 0, 1), (171, .iload_n 3, 1), (172, .iconst 2, 1), (173, .iadd, 1), (174, .iaload, 1), (175, .aload_n 0, 1), (176, .iload_n 3, 1), (177, .iconst 3, 1), (178, .iadd, 1), (179, .iaload, 1), (180, .aload_n 0, 1), (181, .iload_n 3, 1), (182, .iconst 4, 1), (183, .iadd, 1), (184, .iaload, 1), (185, .aload_n 0, 1), (186, .iload_n 3, 1), (187, .iconst 5, 1), (188, .iadd, 1), (189, .iaload, 1), (190, .invokevirtual 13, 3), (193, .aload_n 2, 1)]
set_option maxRecDepth 100000 in
theorem tk_La_law_1 : ∀ e ∈ t_La_law_1, decode code e.1 = .ok e.2 := by decide +kernel
def t_La_law_2 : List XI := [(194, .aload_n 0, 1), (195, .iload_n 3, 1), (196, .iconst 1, 1), (197, .iadd, 1), (198, .iaload, 1), (199, .aload_n 0, 1), (200, .iload_n 3, 1), (201, .iconst 2, 1), (202, .iadd, 1), (203, .iaload, 1), (204, .aload_n 0, 1), (205, .iload_n 3, 1), (206, .iconst 3, 1), (207, .iadd, 1), (208, .iaload, 1), (209, .aload_n 0, 1), (210, .iload_n 3, 1), (211, .iconst 4, 1), (212, .iadd, 1), (213, .iaload, 1), (214, .aload_n 0, 1), (215, .iload_n 3, 1), (216, .iconst 5, 1), (217, .iadd, 1), (218, .iaload, 1)]
set_option maxRecDepth 100000 in
theorem tk_La_law_2 : ∀ e ∈ t_La_law_2, decode code e.1 = .ok e.2 := by decide +kernel
def t_La_law_3 : List XI := [(219, .invokevirtual 17, 3), (222, .if_icmp .eq 1181, 3), (225, .iconst 0, 1), (226, .ireturn, 1), (227, .aload_n 1, 1), (228, .aload_n 0, 1), (229, .iload_n 3, 1), (230, .iconst 1, 1), (231, .iadd, 1), (232, .iaload, 1), (233, .invokevirtual 18, 3), (236, .aload_n 2, 1), (237, .aload_n 0, 1), (238, .iload_n 3, 1), (239, .iconst 1, 1), (240, .iadd, 1), (241, .iaload, 1), (242, .invokevirtual 22, 3), (245, .if_icmp .eq 1158, 3), (248, .iconst 0, 1), (249, .ireturn, 1), (250, .aload_n 1, 1), (251, .aload_n 0, 1), (252, .iload_n 3, 1), (253, .iconst 1, 1)]
set_option maxRecDepth 100000 in
theorem tk_La_law_3 : ∀ e ∈ t_La_law_3, decode code e.1 = .ok e.2 := by decide +kernel
def t_La_law_4 : List XI := [(254, .iadd, 1), (255, .iaload, 1), (256, .aload_n 0, 1), (257, .iload_n 3, 1), (258, .iconst 2, 1), (259, .iadd, 1), (260, .iaload, 1), (261, .invokevirtual 23, 3), (264, .aload_n 2, 1), (265, .aload_n 0, 1), (266, .iload_n 3, 1), (267, .iconst 1, 1), (268, .iadd, 1), (269, .iaload, 1), (270, .aload_n 0, 1), (271, .iload_n 3, 1), (272, .iconst 2, 1), (273, .iadd, 1), (274, .iaload, 1), (275, .invokevirtual 27, 3), (278, .if_icmp .eq 1125, 3), (281, .iconst 0, 1), (282, .ireturn, 1), (283, .aload_n 1, 1), (284, .aload_n 0, 1)]
set_option maxRecDepth 100000 in
theorem tk_La_law_4 : ∀ e ∈ t_La_law_4, decode code e.1 = .ok e.2 := by decide +kernel
def t_La_law_5 : List XI := [(285, .iload_n 3, 1), (286, .iconst 1, 1), (287, .iadd, 1), (288, .iaload, 1), (289, .invokevirtual 28, 3), (292, .aload_n 2, 1), (293, .aload_n 0, 1), (294, .iload_n 3, 1), (295, .iconst 1, 1), (296, .iadd, 1), (297, .iaload, 1), (298, .invokevirtual 31, 3), (301, .if_icmp .eq 1102, 3), (304, .iconst 0, 1), (305, .ireturn, 1), (306, .aload_n 1, 1), (307, .aload_n 0, 1), (308, .iload_n 3, 1), (309, .iconst 1, 1), (310, .iadd, 1), (311, .iaload, 1), (312, .aload_n 0, 1), (313, .iload_n 3, 1), (314, .iconst 2, 1), (315, .iadd, 1)]
set_option maxRecDepth 100000 in
theorem tk_La_law_5 : ∀ e ∈ t_La_law_5, decode code e.1 = .ok e.2 := by decide +kernel
def t_La_law_6 : List XI := [(316, .iaload, 1), (317, .invokevirtual 32, 3), (320, .aload_n 2, 1), (321, .aload_n 0, 1), (322, .iload_n 3, 1), (323, .iconst 1, 1), (324, .iadd, 1), (325, .iaload, 1), (326, .aload_n 0, 1), (327, .iload_n 3, 1), (328, .iconst 2, 1), (329, .iadd, 1), (330, .iaload, 1), (331, .invokevirtual 35, 3), (334, .if_icmp .eq 1069, 3), (337, .iconst 0, 1), (338, .ireturn, 1), (339, .aload_n 1, 1), (340, .aload_n 0, 1), (341, .iload_n 3, 1), (342, .iconst 1, 1), (343, .iadd, 1), (344, .iaload, 1), (345, .aload_n 0, 1), (346, .iload_n 3, 1)]
set_option maxRecDepth 100000 in
theorem tk_La_law_6 : ∀ e ∈ t_La_law_6, decode code e.1 = .ok e.2 := by decide +kernel
def t_La_law_7 : List XI := [(347, .iconst 2, 1), (348, .iadd, 1), (349, .iaload, 1), (350, .aload_n 0, 1), (351, .iload_n 3, 1), (352, .iconst 3, 1), (353, .iadd, 1), (354, .iaload, 1), (355, .invokevirtual 36, 3), (358, .aload_n 2, 1), (359, .aload_n 0, 1), (360, .iload_n 3, 1), (361, .iconst 1, 1), (362, .iadd, 1), (363, .iaload, 1), (364, .aload_n 0, 1), (365, .iload_n 3, 1), (366, .iconst 2, 1), (367, .iadd, 1), (368, .iaload, 1), (369, .aload_n 0, 1), (370, .iload_n 3, 1), (371, .iconst 3, 1), (372, .iadd, 1), (373, .iaload, 1)]
set_option maxRecDepth 100000 in
theorem tk_La_law_7 : ∀ e ∈ t_La_law_7, decode code e.1 = .ok e.2 := by decide +kernel
def t_La_law_8 : List XI := [(374, .invokevirtual 40, 3), (377, .if_icmp .eq 1026, 3), (380, .iconst 0, 1), (381, .ireturn, 1), (382, .aload_n 1, 1), (383, .aload_n 0, 1), (384, .iload_n 3, 1), (385, .iconst 1, 1), (386, .iadd, 1), (387, .iaload, 1), (388, .aload_n 0, 1), (389, .iload_n 3, 1), (390, .iconst 2, 1), (391, .iadd, 1), (392, .iaload, 1), (393, .invokevirtual 41, 3), (396, .aload_n 2, 1), (397, .aload_n 0, 1), (398, .iload_n 3, 1), (399, .iconst 1, 1), (400, .iadd, 1), (401, .iaload, 1), (402, .aload_n 0, 1), (403, .iload_n 3, 1), (404, .iconst 2, 1)]
set_option maxRecDepth 100000 in
theorem tk_La_law_8 : ∀ e ∈ t_La_law_8, decode code e.1 = .ok e.2 := by decide +kernel
def t_La_law_9 : List XI := [(405, .iadd, 1), (406, .iaload, 1), (407, .invokevirtual 44, 3), (410, .if_icmp .eq 993, 3), (413, .iconst 0, 1), (414, .ireturn, 1), (415, .aload_n 1, 1), (416, .aload_n 0, 1), (417, .iload_n 3, 1), (418, .iconst 1, 1), (419, .iadd, 1), (420, .iaload, 1), (421, .aload_n 0, 1), (422, .iload_n 3, 1), (423, .iconst 2, 1), (424, .iadd, 1), (425, .iaload, 1), (426, .aload_n 0, 1), (427, .iload_n 3, 1), (428, .iconst 3, 1), (429, .iadd, 1), (430, .iaload, 1), (431, .aload_n 0, 1), (432, .iload_n 3, 1), (433, .iconst 4, 1)]
set_option maxRecDepth 100000 in
theorem tk_La_law_9 : ∀ e ∈ t_La_law_9, decode code e.1 = .ok e.2 := by decide +kernel
def t_La_law_10 : List XI := [(434, .iadd, 1), (435, .iaload, 1), (436, .aload_n 0, 1), (437, .iload_n 3, 1), (438, .iconst 5, 1), (439, .iadd, 1), (440, .iaload, 1), (441, .invokevirtual 45, 3), (444, .aload_n 2, 1), (445, .aload_n 0, 1), (446, .iload_n 3, 1), (447, .iconst 1, 1), (448, .iadd, 1), (449, .iaload, 1), (450, .aload_n 0, 1), (451, .iload_n 3, 1), (452, .iconst 2, 1), (453, .iadd, 1), (454, .iaload, 1), (455, .aload_n 0, 1), (456, .iload_n 3, 1), (457, .iconst 3, 1), (458, .iadd, 1), (459, .iaload, 1), (460, .aload_n 0, 1)]
set_option maxRecDepth 100000 in
theorem tk_La_law_10 : ∀ e ∈ t_La_law_10, decode code e.1 = .ok e.2 := by decide +kernel
def t_La_law_11 : List XI := [(461, .iload_n 3, 1), (462, .iconst 4, 1), (463, .iadd, 1), (464, .iaload, 1), (465, .aload_n 0, 1), (466, .iload_n 3, 1), (467, .iconst 5, 1), (468, .iadd, 1), (469, .iaload, 1), (470, .invokevirtual 48, 3), (473, .if_icmp .eq 930, 3), (476, .iconst 0, 1), (477, .ireturn, 1), (478, .aload_n 1, 1), (479, .aload_n 0, 1), (480, .iload_n 3, 1), (481, .iconst 1, 1), (482, .iadd, 1), (483, .iaload, 1), (484, .aload_n 0, 1), (485, .iload_n 3, 1), (486, .iconst 2, 1), (487, .iadd, 1), (488, .iaload, 1), (489, .aload_n 0, 1)]
set_option maxRecDepth 100000 in
theorem tk_La_law_11 : ∀ e ∈ t_La_law_11, decode code e.1 = .ok e.2 := by decide +kernel
def t_La_law_12 : List XI := [(490, .iload_n 3, 1), (491, .iconst 3, 1), (492, .iadd, 1), (493, .iaload, 1), (494, .aload_n 0, 1), (495, .iload_n 3, 1), (496, .iconst 4, 1), (497, .iadd, 1), (498, .iaload, 1), (499, .aload_n 0, 1), (500, .iload_n 3, 1), (501, .iconst 5, 1), (502, .iadd, 1), (503, .iaload, 1), (504, .invokevirtual 49, 3), (507, .aload_n 2, 1), (508, .aload_n 0, 1), (509, .iload_n 3, 1), (510, .iconst 1, 1), (511, .iadd, 1), (512, .iaload, 1), (513, .aload_n 0, 1), (514, .iload_n 3, 1), (515, .iconst 2, 1), (516, .iadd, 1)]
set_option maxRecDepth 100000 in
theorem tk_La_law_12 : ∀ e ∈ t_La_law_12, decode code e.1 = .ok e.2 := by decide +kernel
def t_La_law_13 : List XI := [(517, .iaload, 1), (518, .aload_n 0, 1), (519, .iload_n 3, 1), (520, .iconst 3, 1), (521, .iadd, 1), (522, .iaload, 1), (523, .aload_n 0, 1), (524, .iload_n 3, 1), (525, .iconst 4, 1), (526, .iadd, 1), (527, .iaload, 1), (528, .aload_n 0, 1), (529, .iload_n 3, 1), (530, .iconst 5, 1), (531, .iadd, 1), (532, .iaload, 1), (533, .invokevirtual 52, 3), (536, .if_icmp .eq 867, 3), (539, .iconst 0, 1), (540, .ireturn, 1), (541, .aload_n 1, 1), (542, .aload_n 0, 1), (543, .iload_n 3, 1), (544, .iconst 1, 1), (545, .iadd, 1)]
set_option maxRecDepth 100000 in
theorem tk_La_law_13 : ∀ e ∈ t_La_law_13, decode code e.1 = .ok e.2 := by decide +kernel
def t_La_law_14 : List XI := [(546, .iaload, 1), (547, .aload_n 0, 1), (548, .iload_n 3, 1), (549, .iconst 2, 1), (550, .iadd, 1), (551, .iaload, 1), (552, .aload_n 0, 1), (553, .iload_n 3, 1), (554, .iconst 3, 1), (555, .iadd, 1), (556, .iaload, 1), (557, .invokevirtual 53, 3), (560, .aload_n 2, 1), (561, .aload_n 0, 1), (562, .iload_n 3, 1), (563, .iconst 1, 1), (564, .iadd, 1), (565, .iaload, 1), (566, .aload_n 0, 1), (567, .iload_n 3, 1), (568, .iconst 2, 1), (569, .iadd, 1), (570, .iaload, 1), (571, .aload_n 0, 1), (572, .iload_n 3, 1)]
set_option maxRecDepth 100000 in
theorem tk_La_law_14 : ∀ e ∈ t_La_law_14, decode code e.1 = .ok e.2 := by decide +kernel
end
section
def t_La_law_15 : List XI := [(573, .iconst 3, 1), (574, .iadd, 1), (575, .iaload, 1), (576, .invokevirtual 56, 3), (579, .if_icmp .eq 824, 3), (582, .iconst 0, 1), (583, .ireturn, 1), (584, .aload_n 1, 1), (585, .aload_n 0, 1), (586, .iload_n 3, 1), (587, .iconst 1, 1), (588, .iadd, 1), (589, .iaload, 1), (590, .aload_n 0, 1), (591, .iload_n 3, 1), (592, .iconst 2, 1), (593, .iadd, 1), (594, .iaload, 1), (595, .invokevirtual 57, 3), (598, .aload_n 2, 1), (599, .aload_n 0, 1), (600, .iload_n 3, 1), (601, .iconst 1, 1), (602, .iadd, 1), (603, .iaload, 1)]
set_option maxRecDepth 100000 in
theorem tk_La_law_15 : ∀ e ∈ t_La_law_15, decode code e.1 = .ok e.2 := by decide +kernel
def t_La_law_16 : List XI := [(604, .aload_n 0, 1), (605, .iload_n 3, 1), (606, .iconst 2, 1), (607, .iadd, 1), (608, .iaload, 1), (609, .invokevirtual 60, 3), (612, .if_icmp .eq 791, 3), (615, .iconst 0, 1), (616, .ireturn, 1), (617, .aload_n 1, 1), (618, .aload_n 0, 1), (619, .iload_n 3, 1), (620, .iconst 1, 1), (621, .iadd, 1), (622, .iaload, 1), (623, .aload_n 0, 1), (624, .iload_n 3, 1), (625, .iconst 2, 1), (626, .iadd, 1), (627, .iaload, 1), (628, .invokevirtual 61, 3), (631, .aload_n 2, 1), (632, .aload_n 0, 1), (633, .iload_n 3, 1), (634, .iconst 1, 1)]
set_option maxRecDepth 100000 in
theorem tk_La_law_16 : ∀ e ∈ t_La_law_16, decode code e.1 = .ok e.2 := by decide +kernel
def t_La_law_17 : List XI := [(635, .iadd, 1), (636, .iaload, 1), (637, .aload_n 0, 1), (638, .iload_n 3, 1), (639, .iconst 2, 1), (640, .iadd, 1), (641, .iaload, 1), (642, .invokevirtual 64, 3), (645, .if_icmp .eq 758, 3), (648, .iconst 0, 1), (649, .ireturn, 1), (650, .aload_n 1, 1), (651, .aload_n 0, 1), (652, .iload_n 3, 1), (653, .iconst 1, 1), (654, .iadd, 1), (655, .iaload, 1), (656, .aload_n 0, 1), (657, .iload_n 3, 1), (658, .iconst 2, 1), (659, .iadd, 1), (660, .iaload, 1), (661, .aload_n 0, 1), (662, .iload_n 3, 1), (663, .iconst 3, 1)]
set_option maxRecDepth 100000 in
theorem tk_La_law_17 : ∀ e ∈ t_La_law_17, decode code e.1 = .ok e.2 := by decide +kernel
def t_La_law_18 : List XI := [(664, .iadd, 1), (665, .iaload, 1), (666, .invokevirtual 65, 3), (669, .aload_n 2, 1), (670, .aload_n 0, 1), (671, .iload_n 3, 1), (672, .iconst 1, 1), (673, .iadd, 1), (674, .iaload, 1), (675, .aload_n 0, 1), (676, .iload_n 3, 1), (677, .iconst 2, 1), (678, .iadd, 1), (679, .iaload, 1), (680, .aload_n 0, 1), (681, .iload_n 3, 1), (682, .iconst 3, 1), (683, .iadd, 1), (684, .iaload, 1), (685, .invokevirtual 68, 3), (688, .if_icmp .eq 715, 3), (691, .iconst 0, 1), (692, .ireturn, 1), (693, .aload_n 1, 1), (694, .aload_n 0, 1)]
set_option maxRecDepth 100000 in
theorem tk_La_law_18 : ∀ e ∈ t_La_law_18, decode code e.1 = .ok e.2 := by decide +kernel
def t_La_law_19 : List XI := [(695, .iload_n 3, 1), (696, .iconst 1, 1), (697, .iadd, 1), (698, .iaload, 1), (699, .aload_n 0, 1), (700, .iload_n 3, 1), (701, .iconst 2, 1), (702, .iadd, 1), (703, .iaload, 1), (704, .aload_n 0, 1), (705, .iload_n 3, 1), (706, .iconst 3, 1), (707, .iadd, 1), (708, .iaload, 1), (709, .aload_n 0, 1), (710, .iload_n 3, 1), (711, .iconst 4, 1), (712, .iadd, 1), (713, .iaload, 1), (714, .ifCond .eq 7, 3), (717, .iconst 1, 1), (718, .goto 4, 3), (721, .iconst 0, 1), (722, .invokevirtual 69, 3), (725, .aload_n 2, 1)]
set_option maxRecDepth 100000 in
theorem tk_La_law_19 : ∀ e ∈ t_La_law_19, decode code e.1 = .ok e.2 := by decide +kernel
def t_La_law_20 : List XI := [(726, .aload_n 0, 1), (727, .iload_n 3, 1), (728, .iconst 1, 1), (729, .iadd, 1), (730, .iaload, 1), (731, .aload_n 0, 1), (732, .iload_n 3, 1), (733, .iconst 2, 1), (734, .iadd, 1), (735, .iaload, 1), (736, .aload_n 0, 1), (737, .iload_n 3, 1), (738, .iconst 3, 1), (739, .iadd, 1), (740, .iaload, 1), (741, .aload_n 0, 1), (742, .iload_n 3, 1), (743, .iconst 4, 1), (744, .iadd, 1), (745, .iaload, 1), (746, .ifCond .eq 7, 3), (749, .iconst 1, 1), (750, .goto 4, 3), (753, .iconst 0, 1), (754, .invokevirtual 73, 3)]
set_option maxRecDepth 100000 in
theorem tk_La_law_20 : ∀ e ∈ t_La_law_20, decode code e.1 = .ok e.2 := by decide +kernel
def t_La_law_21 : List XI := [(757, .if_icmp .eq 646, 3), (760, .iconst 0, 1), (761, .ireturn, 1), (762, .aload_n 1, 1), (763, .aload_n 0, 1), (764, .iload_n 3, 1), (765, .iconst 1, 1), (766, .iadd, 1), (767, .iaload, 1), (768, .aload_n 0, 1), (769, .iload_n 3, 1), (770, .iconst 2, 1), (771, .iadd, 1), (772, .iaload, 1), (773, .aload_n 0, 1), (774, .iload_n 3, 1), (775, .iconst 3, 1), (776, .iadd, 1), (777, .iaload, 1), (778, .invokevirtual 74, 3), (781, .aload_n 2, 1), (782, .aload_n 0, 1), (783, .iload_n 3, 1), (784, .iconst 1, 1), (785, .iadd, 1)]
set_option maxRecDepth 100000 in
theorem tk_La_law_21 : ∀ e ∈ t_La_law_21, decode code e.1 = .ok e.2 := by decide +kernel
def t_La_law_22 : List XI := [(786, .iaload, 1), (787, .aload_n 0, 1), (788, .iload_n 3, 1), (789, .iconst 2, 1), (790, .iadd, 1), (791, .iaload, 1), (792, .aload_n 0, 1), (793, .iload_n 3, 1), (794, .iconst 3, 1), (795, .iadd, 1), (796, .iaload, 1), (797, .invokevirtual 77, 3), (800, .if_icmp .eq 603, 3), (803, .iconst 0, 1), (804, .ireturn, 1), (805, .aload_n 1, 1), (806, .aload_n 0, 1), (807, .iload_n 3, 1), (808, .iconst 1, 1), (809, .iadd, 1), (810, .iaload, 1), (811, .aload_n 0, 1), (812, .iload_n 3, 1), (813, .iconst 2, 1), (814, .iadd, 1)]
set_option maxRecDepth 100000 in
theorem tk_La_law_22 : ∀ e ∈ t_La_law_22, decode code e.1 = .ok e.2 := by decide +kernel
def t_La_law_23 : List XI := [(815, .iaload, 1), (816, .aload_n 0, 1), (817, .iload_n 3, 1), (818, .iconst 3, 1), (819, .iadd, 1), (820, .iaload, 1), (821, .invokevirtual 78, 3), (824, .aload_n 2, 1), (825, .aload_n 0, 1), (826, .iload_n 3, 1), (827, .iconst 1, 1), (828, .iadd, 1), (829, .iaload, 1), (830, .aload_n 0, 1), (831, .iload_n 3, 1), (832, .iconst 2, 1), (833, .iadd, 1), (834, .iaload, 1), (835, .aload_n 0, 1), (836, .iload_n 3, 1), (837, .iconst 3, 1), (838, .iadd, 1), (839, .iaload, 1), (840, .invokevirtual 81, 3), (843, .if_icmp .eq 560, 3)]
set_option maxRecDepth 100000 in
theorem tk_La_law_23 : ∀ e ∈ t_La_law_23, decode code e.1 = .ok e.2 := by decide +kernel
def t_La_law_24 : List XI := [(846, .iconst 0, 1), (847, .ireturn, 1), (848, .aload_n 1, 1), (849, .aload_n 0, 1), (850, .iload_n 3, 1), (851, .iconst 1, 1), (852, .iadd, 1), (853, .iaload, 1), (854, .aload_n 0, 1), (855, .iload_n 3, 1), (856, .iconst 2, 1), (857, .iadd, 1), (858, .iaload, 1), (859, .aload_n 0, 1), (860, .iload_n 3, 1), (861, .iconst 3, 1), (862, .iadd, 1), (863, .iaload, 1), (864, .invokevirtual 82, 3), (867, .aload_n 2, 1), (868, .aload_n 0, 1), (869, .iload_n 3, 1), (870, .iconst 1, 1), (871, .iadd, 1), (872, .iaload, 1)]
set_option maxRecDepth 100000 in
theorem tk_La_law_24 : ∀ e ∈ t_La_law_24, decode code e.1 = .ok e.2 := by decide +kernel
def t_La_law_25 : List XI := [(873, .aload_n 0, 1), (874, .iload_n 3, 1), (875, .iconst 2, 1), (876, .iadd, 1), (877, .iaload, 1), (878, .aload_n 0, 1), (879, .iload_n 3, 1), (880, .iconst 3, 1), (881, .iadd, 1), (882, .iaload, 1), (883, .invokevirtual 85, 3), (886, .if_icmp .eq 517, 3), (889, .iconst 0, 1), (890, .ireturn, 1), (891, .aload_n 1, 1), (892, .aload_n 0, 1), (893, .iload_n 3, 1), (894, .iconst 1, 1), (895, .iadd, 1), (896, .iaload, 1), (897, .aload_n 0, 1), (898, .iload_n 3, 1), (899, .iconst 2, 1), (900, .iadd, 1), (901, .iaload, 1)]
set_option maxRecDepth 100000 in
theorem tk_La_law_25 : ∀ e ∈ t_La_law_25, decode code e.1 = .ok e.2 := by decide +kernel
def t_La_law_26 : List XI := [(902, .aload_n 0, 1), (903, .iload_n 3, 1), (904, .iconst 3, 1), (905, .iadd, 1), (906, .iaload, 1), (907, .aload_n 0, 1), (908, .iload_n 3, 1), (909, .iconst 4, 1), (910, .iadd, 1), (911, .iaload, 1), (912, .aload_n 0, 1), (913, .iload_n 3, 1), (914, .iconst 5, 1), (915, .iadd, 1), (916, .iaload, 1), (917, .invokevirtual 86, 3), (920, .aload_n 2, 1), (921, .aload_n 0, 1), (922, .iload_n 3, 1), (923, .iconst 1, 1), (924, .iadd, 1), (925, .iaload, 1), (926, .aload_n 0, 1), (927, .iload_n 3, 1), (928, .iconst 2, 1)]
set_option maxRecDepth 100000 in
theorem tk_La_law_26 : ∀ e ∈ t_La_law_26, decode code e.1 = .ok e.2 := by decide +kernel
def t_La_law_27 : List XI := [(929, .iadd, 1), (930, .iaload, 1), (931, .aload_n 0, 1), (932, .iload_n 3, 1), (933, .iconst 3, 1), (934, .iadd, 1), (935, .iaload, 1), (936, .aload_n 0, 1), (937, .iload_n 3, 1), (938, .iconst 4, 1), (939, .iadd, 1), (940, .iaload, 1), (941, .aload_n 0, 1), (942, .iload_n 3, 1), (943, .iconst 5, 1), (944, .iadd, 1), (945, .iaload, 1), (946, .invokevirtual 89, 3), (949, .if_icmp .eq 454, 3), (952, .iconst 0, 1), (953, .ireturn, 1), (954, .aload_n 1, 1), (955, .aload_n 0, 1), (956, .iload_n 3, 1), (957, .iconst 1, 1)]
set_option maxRecDepth 100000 in
theorem tk_La_law_27 : ∀ e ∈ t_La_law_27, decode code e.1 = .ok e.2 := by decide +kernel
def t_La_law_28 : List XI := [(958, .iadd, 1), (959, .iaload, 1), (960, .aload_n 0, 1), (961, .iload_n 3, 1), (962, .iconst 2, 1), (963, .iadd, 1), (964, .iaload, 1), (965, .aload_n 0, 1), (966, .iload_n 3, 1), (967, .iconst 3, 1), (968, .iadd, 1), (969, .iaload, 1), (970, .aload_n 0, 1), (971, .iload_n 3, 1), (972, .iconst 4, 1), (973, .iadd, 1), (974, .iaload, 1), (975, .aload_n 0, 1), (976, .iload_n 3, 1), (977, .iconst 5, 1), (978, .iadd, 1), (979, .iaload, 1), (980, .invokevirtual 90, 3), (983, .aload_n 2, 1), (984, .aload_n 0, 1)]
set_option maxRecDepth 100000 in
theorem tk_La_law_28 : ∀ e ∈ t_La_law_28, decode code e.1 = .ok e.2 := by decide +kernel
def t_La_law_29 : List XI := [(985, .iload_n 3, 1), (986, .iconst 1, 1), (987, .iadd, 1), (988, .iaload, 1), (989, .aload_n 0, 1), (990, .iload_n 3, 1), (991, .iconst 2, 1), (992, .iadd, 1), (993, .iaload, 1), (994, .aload_n 0, 1), (995, .iload_n 3, 1), (996, .iconst 3, 1), (997, .iadd, 1), (998, .iaload, 1), (999, .aload_n 0, 1), (1000, .iload_n 3, 1), (1001, .iconst 4, 1), (1002, .iadd, 1), (1003, .iaload, 1), (1004, .aload_n 0, 1), (1005, .iload_n 3, 1), (1006, .iconst 5, 1), (1007, .iadd, 1), (1008, .iaload, 1), (1009, .invokevirtual 93, 3)]
set_option maxRecDepth 100000 in
theorem tk_La_law_29 : ∀ e ∈ t_La_law_29, decode code e.1 = .ok e.2 := by decide +kernel
end
section
def t_La_law_30 : List XI := [(1012, .if_icmp .eq 391, 3), (1015, .iconst 0, 1), (1016, .ireturn, 1), (1017, .aload_n 1, 1), (1018, .aload_n 0, 1), (1019, .iload_n 3, 1), (1020, .iconst 1, 1), (1021, .iadd, 1), (1022, .iaload, 1), (1023, .aload_n 0, 1), (1024, .iload_n 3, 1), (1025, .iconst 2, 1), (1026, .iadd, 1), (1027, .iaload, 1), (1028, .aload_n 0, 1), (1029, .iload_n 3, 1), (1030, .iconst 3, 1), (1031, .iadd, 1), (1032, .iaload, 1), (1033, .aload_n 0, 1), (1034, .iload_n 3, 1), (1035, .iconst 4, 1), (1036, .iadd, 1), (1037, .iaload, 1), (1038, .aload_n 0, 1)]
set_option maxRecDepth 100000 in
theorem tk_La_law_30 : ∀ e ∈ t_La_law_30, decode code e.1 = .ok e.2 := by decide +kernel
def t_La_law_31 : List XI := [(1039, .iload_n 3, 1), (1040, .iconst 5, 1), (1041, .iadd, 1), (1042, .iaload, 1), (1043, .ifCond .eq 7, 3), (1046, .iconst 1, 1), (1047, .goto 4, 3), (1050, .iconst 0, 1), (1051, .invokevirtual 94, 3), (1054, .aload_n 2, 1), (1055, .aload_n 0, 1), (1056, .iload_n 3, 1), (1057, .iconst 1, 1), (1058, .iadd, 1), (1059, .iaload, 1), (1060, .aload_n 0, 1), (1061, .iload_n 3, 1), (1062, .iconst 2, 1), (1063, .iadd, 1), (1064, .iaload, 1), (1065, .aload_n 0, 1), (1066, .iload_n 3, 1), (1067, .iconst 3, 1), (1068, .iadd, 1), (1069, .iaload, 1)]
set_option maxRecDepth 100000 in
theorem tk_La_law_31 : ∀ e ∈ t_La_law_31, decode code e.1 = .ok e.2 := by decide +kernel
def t_La_law_32 : List XI := [(1070, .aload_n 0, 1), (1071, .iload_n 3, 1), (1072, .iconst 4, 1), (1073, .iadd, 1), (1074, .iaload, 1), (1075, .aload_n 0, 1), (1076, .iload_n 3, 1), (1077, .iconst 5, 1), (1078, .iadd, 1), (1079, .iaload, 1), (1080, .ifCond .eq 7, 3), (1083, .iconst 1, 1), (1084, .goto 4, 3), (1087, .iconst 0, 1), (1088, .invokevirtual 98, 3), (1091, .if_icmp .eq 312, 3), (1094, .iconst 0, 1), (1095, .ireturn, 1), (1096, .aload_n 1, 1), (1097, .aload_n 0, 1), (1098, .iload_n 3, 1), (1099, .iconst 1, 1), (1100, .iadd, 1), (1101, .iaload, 1), (1102, .aload_n 0, 1)]
set_option maxRecDepth 100000 in
theorem tk_La_law_32 : ∀ e ∈ t_La_law_32, decode code e.1 = .ok e.2 := by decide +kernel
def t_La_law_33 : List XI := [(1103, .iload_n 3, 1), (1104, .iconst 2, 1), (1105, .iadd, 1), (1106, .iaload, 1), (1107, .aload_n 0, 1), (1108, .iload_n 3, 1), (1109, .iconst 3, 1), (1110, .iadd, 1), (1111, .iaload, 1), (1112, .invokevirtual 99, 3), (1115, .aload_n 2, 1), (1116, .aload_n 0, 1), (1117, .iload_n 3, 1), (1118, .iconst 1, 1), (1119, .iadd, 1), (1120, .iaload, 1), (1121, .aload_n 0, 1), (1122, .iload_n 3, 1), (1123, .iconst 2, 1), (1124, .iadd, 1), (1125, .iaload, 1), (1126, .aload_n 0, 1), (1127, .iload_n 3, 1), (1128, .iconst 3, 1), (1129, .iadd, 1)]
set_option maxRecDepth 100000 in
theorem tk_La_law_33 : ∀ e ∈ t_La_law_33, decode code e.1 = .ok e.2 := by decide +kernel
def t_La_law_34 : List XI := [(1130, .iaload, 1), (1131, .invokevirtual 102, 3), (1134, .if_icmp .eq 269, 3), (1137, .iconst 0, 1), (1138, .ireturn, 1), (1139, .aload_n 1, 1), (1140, .aload_n 0, 1), (1141, .iload_n 3, 1), (1142, .iconst 1, 1), (1143, .iadd, 1), (1144, .iaload, 1), (1145, .aload_n 0, 1), (1146, .iload_n 3, 1), (1147, .iconst 2, 1), (1148, .iadd, 1), (1149, .iaload, 1), (1150, .invokevirtual 103, 3), (1153, .aload_n 2, 1), (1154, .aload_n 0, 1), (1155, .iload_n 3, 1), (1156, .iconst 1, 1), (1157, .iadd, 1), (1158, .iaload, 1), (1159, .aload_n 0, 1), (1160, .iload_n 3, 1)]
set_option maxRecDepth 100000 in
theorem tk_La_law_34 : ∀ e ∈ t_La_law_34, decode code e.1 = .ok e.2 := by decide +kernel
def t_La_law_35 : List XI := [(1161, .iconst 2, 1), (1162, .iadd, 1), (1163, .iaload, 1), (1164, .invokevirtual 106, 3), (1167, .if_icmp .eq 236, 3), (1170, .iconst 0, 1), (1171, .ireturn, 1), (1172, .aload_n 1, 1), (1173, .aload_n 0, 1), (1174, .iload_n 3, 1), (1175, .iconst 1, 1), (1176, .iadd, 1), (1177, .iaload, 1), (1178, .aload_n 0, 1), (1179, .iload_n 3, 1), (1180, .iconst 2, 1), (1181, .iadd, 1), (1182, .iaload, 1), (1183, .aload_n 0, 1), (1184, .iload_n 3, 1), (1185, .iconst 3, 1), (1186, .iadd, 1), (1187, .iaload, 1), (1188, .invokevirtual 107, 3), (1191, .aload_n 2, 1)]
set_option maxRecDepth 100000 in
theorem tk_La_law_35 : ∀ e ∈ t_La_law_35, decode code e.1 = .ok e.2 := by decide +kernel
def t_La_law_36 : List XI := [(1192, .aload_n 0, 1), (1193, .iload_n 3, 1), (1194, .iconst 1, 1), (1195, .iadd, 1), (1196, .iaload, 1), (1197, .aload_n 0, 1), (1198, .iload_n 3, 1), (1199, .iconst 2, 1), (1200, .iadd, 1), (1201, .iaload, 1), (1202, .aload_n 0, 1), (1203, .iload_n 3, 1), (1204, .iconst 3, 1), (1205, .iadd, 1), (1206, .iaload, 1), (1207, .invokevirtual 110, 3), (1210, .if_icmp .eq 193, 3), (1213, .iconst 0, 1), (1214, .ireturn, 1), (1215, .aload_n 1, 1), (1216, .aload_n 0, 1), (1217, .iload_n 3, 1), (1218, .iconst 1, 1), (1219, .iadd, 1), (1220, .iaload, 1)]
set_option maxRecDepth 100000 in
theorem tk_La_law_36 : ∀ e ∈ t_La_law_36, decode code e.1 = .ok e.2 := by decide +kernel
def t_La_law_37 : List XI := [(1221, .aload_n 0, 1), (1222, .iload_n 3, 1), (1223, .iconst 2, 1), (1224, .iadd, 1), (1225, .iaload, 1), (1226, .invokevirtual 111, 3), (1229, .aload_n 2, 1), (1230, .aload_n 0, 1), (1231, .iload_n 3, 1), (1232, .iconst 1, 1), (1233, .iadd, 1), (1234, .iaload, 1), (1235, .aload_n 0, 1), (1236, .iload_n 3, 1), (1237, .iconst 2, 1), (1238, .iadd, 1), (1239, .iaload, 1), (1240, .invokevirtual 114, 3), (1243, .if_icmp .eq 160, 3), (1246, .iconst 0, 1), (1247, .ireturn, 1), (1248, .aload_n 1, 1), (1249, .aload_n 0, 1), (1250, .iload_n 3, 1), (1251, .iconst 1, 1)]
set_option maxRecDepth 100000 in
theorem tk_La_law_37 : ∀ e ∈ t_La_law_37, decode code e.1 = .ok e.2 := by decide +kernel
def t_La_law_38 : List XI := [(1252, .iadd, 1), (1253, .iaload, 1), (1254, .aload_n 0, 1), (1255, .iload_n 3, 1), (1256, .iconst 2, 1), (1257, .iadd, 1), (1258, .iaload, 1), (1259, .aload_n 0, 1), (1260, .iload_n 3, 1), (1261, .iconst 3, 1), (1262, .iadd, 1), (1263, .iaload, 1), (1264, .invokevirtual 115, 3), (1267, .aload_n 2, 1), (1268, .aload_n 0, 1), (1269, .iload_n 3, 1), (1270, .iconst 1, 1), (1271, .iadd, 1), (1272, .iaload, 1), (1273, .aload_n 0, 1), (1274, .iload_n 3, 1), (1275, .iconst 2, 1), (1276, .iadd, 1), (1277, .iaload, 1), (1278, .aload_n 0, 1)]
set_option maxRecDepth 100000 in
theorem tk_La_law_38 : ∀ e ∈ t_La_law_38, decode code e.1 = .ok e.2 := by decide +kernel
def t_La_law_39 : List XI := [(1279, .iload_n 3, 1), (1280, .iconst 3, 1), (1281, .iadd, 1), (1282, .iaload, 1), (1283, .invokevirtual 118, 3), (1286, .if_icmp .eq 117, 3), (1289, .iconst 0, 1), (1290, .ireturn, 1), (1291, .aload_n 1, 1), (1292, .aload_n 0, 1), (1293, .iload_n 3, 1), (1294, .iconst 1, 1), (1295, .iadd, 1), (1296, .iaload, 1), (1297, .aload_n 0, 1), (1298, .iload_n 3, 1), (1299, .iconst 2, 1), (1300, .iadd, 1), (1301, .iaload, 1), (1302, .aload_n 0, 1), (1303, .iload_n 3, 1), (1304, .iconst 3, 1), (1305, .iadd, 1), (1306, .iaload, 1), (1307, .invokevirtual 119, 3)]
set_option maxRecDepth 100000 in
theorem tk_La_law_39 : ∀ e ∈ t_La_law_39, decode code e.1 = .ok e.2 := by decide +kernel
def t_La_law_40 : List XI := [(1310, .aload_n 2, 1), (1311, .aload_n 0, 1), (1312, .iload_n 3, 1), (1313, .iconst 1, 1), (1314, .iadd, 1), (1315, .iaload, 1), (1316, .aload_n 0, 1), (1317, .iload_n 3, 1), (1318, .iconst 2, 1), (1319, .iadd, 1), (1320, .iaload, 1), (1321, .aload_n 0, 1), (1322, .iload_n 3, 1), (1323, .iconst 3, 1), (1324, .iadd, 1), (1325, .iaload, 1), (1326, .invokevirtual 122, 3), (1329, .if_icmp .eq 74, 3), (1332, .iconst 0, 1), (1333, .ireturn, 1), (1334, .aload_n 1, 1), (1335, .aload_n 0, 1), (1336, .iload_n 3, 1), (1337, .iconst 1, 1), (1338, .iadd, 1)]
set_option maxRecDepth 100000 in
theorem tk_La_law_40 : ∀ e ∈ t_La_law_40, decode code e.1 = .ok e.2 := by decide +kernel
def t_La_law_41 : List XI := [(1339, .iaload, 1), (1340, .invokevirtual 123, 3), (1343, .aload_n 2, 1), (1344, .aload_n 0, 1), (1345, .iload_n 3, 1), (1346, .iconst 1, 1), (1347, .iadd, 1), (1348, .iaload, 1), (1349, .invokevirtual 126, 3), (1352, .if_icmp .eq 51, 3), (1355, .iconst 0, 1), (1356, .ireturn, 1), (1357, .aload_n 1, 1), (1358, .aload_n 0, 1), (1359, .iload_n 3, 1), (1360, .iconst 1, 1), (1361, .iadd, 1), (1362, .iaload, 1), (1363, .invokevirtual 127, 3), (1366, .aload_n 2, 1), (1367, .aload_n 0, 1), (1368, .iload_n 3, 1), (1369, .iconst 1, 1), (1370, .iadd, 1), (1371, .iaload, 1)]
set_option maxRecDepth 100000 in
theorem tk_La_law_41 : ∀ e ∈ t_La_law_41, decode code e.1 = .ok e.2 := by decide +kernel
def t_La_law_42 : List XI := [(1372, .invokevirtual 131, 3), (1375, .if_icmp .eq 28, 3), (1378, .iconst 0, 1), (1379, .ireturn, 1), (1380, .aload_n 1, 1), (1381, .aload_n 0, 1), (1382, .iload_n 3, 1), (1383, .iconst 1, 1), (1384, .iadd, 1), (1385, .iaload, 1), (1386, .invokevirtual 132, 3), (1389, .aload_n 2, 1), (1390, .aload_n 0, 1), (1391, .iload_n 3, 1), (1392, .iconst 1, 1), (1393, .iadd, 1), (1394, .iaload, 1), (1395, .invokevirtual 135, 3), (1398, .if_icmp .eq 5, 3), (1401, .iconst 0, 1), (1402, .ireturn, 1), (1403, .iinc 3 6, 3), (1406, .goto (-1388), 3), (1409, .iconst 1, 1), (1410, .ireturn, 1)]
set_option maxRecDepth 100000 in
theorem tk_La_law_42 : ∀ e ∈ t_La_law_42, decode code e.1 = .ok e.2 := by decide +kernel
def t_La_law : List XI := t_La_law_0 ++ (t_La_law_1 ++ (t_La_law_2 ++ (t_La_law_3 ++ (t_La_law_4 ++ (t_La_law_5 ++ (t_La_law_6 ++ (t_La_law_7 ++ (t_La_law_8 ++ (t_La_law_9 ++ (t_La_law_10 ++ (t_La_law_11 ++ (t_La_law_12 ++ (t_La_law_13 ++ (t_La_law_14 ++ (t_La_law_15 ++ (t_La_law_16 ++ (t_La_law_17 ++ (t_La_law_18 ++ (t_La_law_19 ++ (t_La_law_20 ++ (t_La_law_21 ++ (t_La_law_22 ++ (t_La_law_23 ++ (t_La_law_24 ++ (t_La_law_25 ++ (t_La_law_26 ++ (t_La_law_27 ++ (t_La_law_28 ++ (t_La_law_29 ++ (t_La_law_30 ++ (t_La_law_31 ++ (t_La_law_32 ++ (t_La_law_33 ++ (t_La_law_34 ++ (t_La_law_35 ++ (t_La_law_36 ++ (t_La_law_37 ++ (t_La_law_38 ++ (t_La_law_39 ++ (t_La_law_40 ++ (t_La_law_41 ++ (t_La_law_42))))))))))))))))))))))))))))))))))))))))))
theorem tk_La_law : ∀ e ∈ t_La_law, decode code e.1 = .ok e.2 := List.forall_mem_append.mpr ⟨tk_La_law_0, List.forall_mem_append.mpr ⟨tk_La_law_1, List.forall_mem_append.mpr ⟨tk_La_law_2, List.forall_mem_append.mpr ⟨tk_La_law_3, List.forall_mem_append.mpr ⟨tk_La_law_4, List.forall_mem_append.mpr ⟨tk_La_law_5, List.forall_mem_append.mpr ⟨tk_La_law_6, List.forall_mem_append.mpr ⟨tk_La_law_7, List.forall_mem_append.mpr ⟨tk_La_law_8, List.forall_mem_append.mpr ⟨tk_La_law_9, List.forall_mem_append.mpr ⟨tk_La_law_10, List.forall_mem_append.mpr ⟨tk_La_law_11, List.forall_mem_append.mpr ⟨tk_La_law_12, List.forall_mem_append.mpr ⟨tk_La_law_13, List.forall_mem_append.mpr ⟨tk_La_law_14, List.forall_mem_append.mpr ⟨tk_La_law_15, List.forall_mem_append.mpr ⟨tk_La_law_16, List.forall_mem_append.mpr ⟨tk_La_law_17, List.forall_mem_append.mpr ⟨tk_La_law_18, List.forall_mem_append.mpr ⟨tk_La_law_19, List.forall_mem_append.mpr ⟨tk_La_law_20, List.forall_mem_append.mpr ⟨tk_La_law_21, List.forall_mem_append.mpr ⟨tk_La_law_22, List.forall_mem_append.mpr ⟨tk_La_law_23, List.forall_mem_append.mpr ⟨tk_La_law_24, List.forall_mem_append.mpr ⟨tk_La_law_25, List.forall_mem_append.mpr ⟨tk_La_law_26, List.forall_mem_append.mpr ⟨tk_La_law_27, List.forall_mem_append.mpr ⟨tk_La_law_28, List.forall_mem_append.mpr ⟨tk_La_law_29, List.forall_mem_append.mpr ⟨tk_La_law_30, List.forall_mem_append.mpr ⟨tk_La_law_31, List.forall_mem_append.mpr ⟨tk_La_law_32, List.forall_mem_append.mpr ⟨tk_La_law_33, List.forall_mem_append.mpr ⟨tk_La_law_34, List.forall_mem_append.mpr ⟨tk_La_law_35, List.forall_mem_append.mpr ⟨tk_La_law_36, List.forall_mem_append.mpr ⟨tk_La_law_37, List.forall_mem_append.mpr ⟨tk_La_law_38, List.forall_mem_append.mpr ⟨tk_La_law_39, List.forall_mem_append.mpr ⟨tk_La_law_40, List.forall_mem_append.mpr ⟨tk_La_law_41, tk_La_law_42⟩⟩⟩⟩⟩⟩⟩⟩⟩⟩⟩⟩⟩⟩⟩⟩⟩⟩⟩⟩⟩⟩⟩⟩⟩⟩⟩⟩⟩⟩⟩⟩⟩⟩⟩⟩⟩⟩⟩⟩⟩⟩
end
section
def xm_TP_new : XM := (⟨"ThreePhases", "<init>", "()V"⟩, prog_1_method_1_code, none, (2, 11, 3, 61, 1, 2), (160, 159, 0, 135), t_TP_new)
def xm_To_new : XM := (⟨"ThreePhases$Told", "<init>", "()V"⟩, prog_12_method_1_code, none, (2, 10, 2, 40, 1, 2), (168, 167, 0, 136), t_To_new)
def xm_Co_new : XM := (⟨"ThreePhases$Council", "<init>", "()V"⟩, prog_3_method_1_code, none, (1, 1, 1, 20, 1, 2), (179, 178, 0, 137), t_Co_new)
def xm_Ru_new : XM := (⟨"ThreePhases$Run", "<init>", "()V"⟩, prog_8_method_1_code, none, (1, 6, 1, 20, 1, 2), (242, 241, 0, 138), t_Ru_new)
def xm_Rp_new : XM := (⟨"ThreePhases$Replies", "<init>", "()V"⟩, prog_7_method_1_code, none, (1, 5, 1, 20, 1, 2), (270, 269, 0, 139), t_Rp_new)
def xm_Re_new : XM := (⟨"ThreePhases$Reader", "<init>", "()V"⟩, prog_6_method_1_code, none, (1, 4, 2, 40, 1, 2), (329, 328, 0, 140), t_Re_new)
def xm_As_new : XM := (⟨"ThreePhases$Assembly", "<init>", "()V"⟩, prog_2_method_1_code, none, (2, 0, 2, 40, 1, 2), (386, 385, 0, 141), t_As_new)
def xm_Su_new : XM := (⟨"ThreePhases$Sums", "<init>", "()V"⟩, prog_9_method_1_code, none, (1, 7, 1, 20, 1, 2), (398, 397, 0, 142), t_Su_new)
def xm_Me_new : XM := (⟨"ThreePhases$Member", "<init>", "()V"⟩, prog_4_method_1_code, none, (1, 2, 1, 20, 1, 2), (420, 419, 0, 143), t_Me_new)
def xm_Mg_new : XM := (⟨"ThreePhases$Merged", "<init>", "()V"⟩, prog_5_method_1_code, none, (1, 3, 1, 20, 1, 2), (499, 498, 0, 144), t_Mg_new)
def xm_Tt_new : XM := (⟨"ThreePhases$Timetable", "<init>", "()V"⟩, prog_11_method_1_code, none, (1, 9, 2, 40, 1, 2), (549, 548, 0, 145), t_Tt_new)
def xm_Ta_new : XM := (⟨"ThreePhases$Tally", "<init>", "()V"⟩, prog_10_method_1_code, none, (1, 8, 1, 20, 1, 2), (586, 585, 0, 146), t_Ta_new)
def xm_TP_feed : XM := (⟨"ThreePhases", "feed", "(IIIII)I"⟩, prog_1_method_2_code, (some FieldType.int), (6, 11, 1, 22, 6, 1), (655, 653, 654, 135), t_TP_feed)
def xm_To_write : XM := (⟨"ThreePhases$Told", "write", "(I)V"⟩, prog_12_method_2_code, none, (3, 10, 0, 0, 2, 1), (659, 657, 658, 136), t_To_write)
def xm_TP_end : XM := (⟨"ThreePhases", "end", "(I)I"⟩, prog_1_method_3_code, (some FieldType.int), (2, 11, 0, 0, 2, 1), (663, 661, 662, 135), t_TP_end)
def xm_TP_text : XM := (⟨"ThreePhases", "text", "(II)I"⟩, prog_1_method_4_code, (some FieldType.int), (5, 11, 8, 176, 3, 1), (667, 665, 666, 135), t_TP_text)
def xm_To_has : XM := (⟨"ThreePhases$Told", "has", "(II)Z"⟩, prog_12_method_3_code, (some FieldType.boolean), (3, 10, 0, 0, 3, 1), (671, 669, 670, 136), t_To_has)
def xm_Re_read : XM := (⟨"ThreePhases$Reader", "read", "([BII)V"⟩, prog_6_method_2_code, none, (5, 4, 7, 152, 4, 1), (675, 673, 674, 140), t_Re_read)
def xm_Co_clear : XM := (⟨"ThreePhases$Council", "clear", "()V"⟩, prog_3_method_2_code, none, (2, 1, 1, 23, 1, 1), (685, 683, 684, 137), t_Co_clear)
def xm_ja_fill : XM := (⟨"java/util/Arrays", "fill", "([II)V"⟩, prog_21_method_103_code, none, (4, 19, 0, 0, 2, 0), (688, 687, 0, 150), t_ja_fill)
def xm_Re_next : XM := (⟨"ThreePhases$Reader", "next", "()V"⟩, prog_6_method_12_code, none, (2, 4, 2, 40, 1, 1), (692, 691, 0, 140), t_Re_next)
def xm_Re_isLetter : XM := (⟨"ThreePhases$Reader", "isLetter", "(B)Z"⟩, prog_6_method_15_code, (some FieldType.boolean), (1, 4, 0, 0, 1, 0), (695, 694, 0, 140), t_Re_isLetter)
def xm_Re_readWord : XM := (⟨"ThreePhases$Reader", "readWord", "()V"⟩, prog_6_method_13_code, none, (1, 4, 1, 20, 1, 1), (699, 698, 1, 140), t_Re_readWord)
def xm_Re_isDigit : XM := (⟨"ThreePhases$Reader", "isDigit", "(B)Z"⟩, prog_6_method_16_code, (some FieldType.boolean), (1, 4, 0, 0, 1, 0), (702, 701, 0, 140), t_Re_isDigit)
def xm_Re_readNumber : XM := (⟨"ThreePhases$Reader", "readNumber", "()V"⟩, prog_6_method_14_code, none, (1, 4, 1, 20, 1, 1), (706, 705, 2, 140), t_Re_readNumber)
def xm_Re_readLine : XM := (⟨"ThreePhases$Reader", "readLine", "(I)Z"⟩, prog_6_method_4_code, (some FieldType.boolean), (4, 4, 6, 129, 2, 1), (710, 709, 3, 140), t_Re_readLine)
def xm_Re_lineOf : XM := (⟨"ThreePhases$Reader", "lineOf", "(I)I"⟩, prog_6_method_5_code, (some FieldType.int), (3, 4, 5, 107, 2, 1), (714, 713, 4, 140), t_Re_lineOf)
def xm_Re_wordOf : XM := (⟨"ThreePhases$Reader", "wordOf", "(I)Ljava/lang/String;"⟩, prog_6_method_6_code, (some (FieldType.object "java/lang/String")), (1, 4, 0, 0, 1, 0), (719, 718, 0, 140), t_Re_wordOf)
def xm_Re_isWord : XM := (⟨"ThreePhases$Reader", "isWord", "(Ljava/lang/String;)Z"⟩, prog_6_method_7_code, (some FieldType.boolean), (3, 4, 4, 85, 2, 1), (740, 739, 5, 140), t_Re_isWord)
def xm_js_length : XM := (⟨"java/lang/String", "length", "()I"⟩, prog_17_method_54_code, (some FieldType.int), (1, 16, 1, 20, 1, 1), (744, 742, 743, 151), t_js_length)
def xm_js_coder : XM := (⟨"java/lang/String", "coder", "()B"⟩, prog_17_method_152_code, (some FieldType.byte), (1, 16, 0, 0, 1, 1), (748, 746, 747, 151), t_js_coder)
def xm_js_charAt : XM := (⟨"java/lang/String", "charAt", "(I)C"⟩, prog_17_method_56_code, (some FieldType.char), (2, 16, 3, 64, 2, 1), (754, 752, 753, 151), t_js_charAt)
def xm_js_isLatin1 : XM := (⟨"java/lang/String", "isLatin1", "()Z"⟩, prog_17_method_154_code, (some FieldType.boolean), (1, 16, 0, 0, 1, 1), (758, 756, 757, 151), t_js_isLatin1)
def xm_jl_charAt : XM := (⟨"java/lang/StringLatin1", "charAt", "([BI)C"⟩, prog_18_method_2_code, (some FieldType.char), (2, 17, 2, 43, 2, 0), (761, 760, 0, 152), t_jl_charAt)
def xm_js_checkIndex : XM := (⟨"java/lang/String", "checkIndex", "(II)V"⟩, prog_17_method_155_code, none, (2, 16, 1, 22, 2, 0), (764, 763, 0, 151), t_js_checkIndex)
def xm_jp_checkIndex : XM := (⟨"jdk/internal/util/Preconditions", "checkIndex", "(IILjava/util/function/BiFunction;)I"⟩, prog_22_method_11_code, (some FieldType.int), (3, 20, 0, 0, 3, 0), (769, 768, 0, 153), t_jp_checkIndex)
def xm_Re_isFull : XM := (⟨"ThreePhases$Reader", "isFull", "(I)Z"⟩, prog_6_method_8_code, (some FieldType.boolean), (2, 4, 0, 0, 2, 1), (792, 791, 6, 140), t_Re_isFull)
def xm_Re_note : XM := (⟨"ThreePhases$Reader", "note", "(II)V"⟩, prog_6_method_3_code, none, (3, 4, 0, 0, 3, 1), (796, 795, 7, 140), t_Re_note)
def xm_Re_mayBe : XM := (⟨"ThreePhases$Reader", "mayBe", "(II)Z"⟩, prog_6_method_9_code, (some FieldType.boolean), (4, 4, 1, 20, 3, 1), (803, 802, 8, 140), t_Re_mayBe)
def xm_Re_tellsTwoMembers : XM := (⟨"ThreePhases$Reader", "tellsTwoMembers", "(I)Z"⟩, prog_6_method_10_code, (some FieldType.boolean), (1, 4, 0, 0, 1, 0), (810, 809, 0, 140), t_Re_tellsTwoMembers)
def xm_Re_keep : XM := (⟨"ThreePhases$Reader", "keep", "(I)V"⟩, prog_6_method_11_code, none, (5, 4, 1, 24, 2, 1), (814, 813, 9, 140), t_Re_keep)
def xm_Rp_add : XM := (⟨"ThreePhases$Replies", "add", "(III)V"⟩, prog_7_method_3_code, none, (4, 5, 0, 0, 4, 1), (818, 816, 817, 139), t_Rp_add)
def xm_Co_addOrder : XM := (⟨"ThreePhases$Council", "addOrder", "(II)V"⟩, prog_3_method_4_code, none, (3, 1, 0, 0, 3, 1), (825, 823, 824, 137), t_Co_addOrder)
def xm_Ru_add : XM := (⟨"ThreePhases$Run", "add", "(IIII)V"⟩, prog_8_method_3_code, none, (5, 6, 0, 0, 5, 1), (829, 827, 828, 138), t_Ru_add)
def xm_Co_members : XM := (⟨"ThreePhases$Council", "members", "()I"⟩, prog_3_method_5_code, (some FieldType.int), (1, 1, 0, 0, 1, 1), (833, 831, 832, 137), t_Co_members)
def xm_To_put : XM := (⟨"ThreePhases$Told", "put", "(IILThreePhases$Reader;)V"⟩, prog_12_method_4_code, none, (4, 10, 3, 69, 4, 1), (837, 835, 836, 136), t_To_put)
def xm_Co_take : XM := (⟨"ThreePhases$Council", "take", "(LThreePhases$Council;)V"⟩, prog_3_method_3_code, none, (3, 1, 2, 47, 2, 1), (841, 839, 840, 137), t_Co_take)
def xm_TP_copyAccounts : XM := (⟨"ThreePhases", "copyAccounts", "([I[I)V"⟩, prog_1_method_38_code, none, (2, 11, 1, 26, 2, 0), (844, 843, 0, 135), t_TP_copyAccounts)
def xm_Ru_take : XM := (⟨"ThreePhases$Run", "take", "(LThreePhases$Run;)V"⟩, prog_8_method_2_code, none, (2, 6, 1, 26, 2, 1), (850, 848, 849, 138), t_Ru_take)
def xm_Rp_take : XM := (⟨"ThreePhases$Replies", "take", "(LThreePhases$Replies;)V"⟩, prog_7_method_2_code, none, (2, 5, 1, 26, 2, 1), (855, 853, 854, 139), t_Rp_take)
def xm_TP_fault : XM := (⟨"ThreePhases", "fault", "(I)I"⟩, prog_1_method_5_code, (some FieldType.int), (2, 11, 0, 0, 2, 1), (860, 858, 859, 135), t_TP_fault)
def xm_TP_council : XM := (⟨"ThreePhases", "council", "(II)I"⟩, prog_1_method_6_code, (some FieldType.int), (4, 11, 3, 64, 3, 1), (864, 862, 863, 135), t_TP_council)
def xm_Co_detail : XM := (⟨"ThreePhases$Council", "detail", "(I)I"⟩, prog_3_method_10_code, (some FieldType.int), (4, 1, 2, 41, 2, 1), (868, 866, 867, 137), t_Co_detail)
def xm_Co_has : XM := (⟨"ThreePhases$Council", "has", "(I)Z"⟩, prog_3_method_7_code, (some FieldType.boolean), (2, 1, 1, 20, 2, 1), (872, 870, 871, 137), t_Co_has)
def xm_TP_deed : XM := (⟨"ThreePhases", "deed", "(III)I"⟩, prog_1_method_7_code, (some FieldType.int), (5, 11, 1, 22, 4, 1), (877, 875, 876, 135), t_TP_deed)
def xm_Ru_tell : XM := (⟨"ThreePhases$Run", "tell", "(II)I"⟩, prog_8_method_4_code, (some FieldType.int), (3, 6, 0, 0, 3, 1), (881, 879, 880, 138), t_Ru_tell)
def xm_TP_stop : XM := (⟨"ThreePhases", "stop", "(II)I"⟩, prog_1_method_8_code, (some FieldType.int), (3, 11, 6, 141, 3, 1), (885, 883, 884, 135), t_TP_stop)
def xm_As_follow : XM := (⟨"ThreePhases$Assembly", "follow", "(LThreePhases$Council;LThreePhases$Run;I)I"⟩, prog_2_method_5_code, (some FieldType.int), (5, 0, 5, 117, 4, 1), (889, 887, 888, 141), t_As_follow)
def xm_As_begin : XM := (⟨"ThreePhases$Assembly", "begin", "(LThreePhases$Council;)V"⟩, prog_2_method_2_code, none, (3, 0, 3, 69, 2, 1), (893, 892, 10, 141), t_As_begin)
def xm_Co_quorumSize : XM := (⟨"ThreePhases$Council", "quorumSize", "()I"⟩, prog_3_method_6_code, (some FieldType.int), (1, 1, 0, 0, 1, 1), (899, 897, 898, 137), t_Co_quorumSize)
def xm_Me_begin : XM := (⟨"ThreePhases$Member", "begin", "(LThreePhases$Council;)V"⟩, prog_4_method_2_code, none, (2, 2, 2, 47, 2, 1), (903, 901, 902, 143), t_Me_begin)
def xm_Me_forgetAccepted : XM := (⟨"ThreePhases$Member", "forgetAccepted", "(I)V"⟩, prog_4_method_3_code, none, (3, 2, 0, 0, 2, 1), (909, 907, 908, 143), t_Me_forgetAccepted)
def xm_Mg_clear : XM := (⟨"ThreePhases$Merged", "clear", "()V"⟩, prog_5_method_2_code, none, (1, 3, 1, 23, 1, 1), (914, 912, 913, 144), t_Mg_clear)
def xm_As_act : XM := (⟨"ThreePhases$Assembly", "act", "(IIII)Z"⟩, prog_2_method_9_code, (some FieldType.boolean), (5, 0, 4, 93, 5, 1), (919, 918, 11, 141), t_As_act)
def xm_As_isSeat : XM := (⟨"ThreePhases$Assembly", "isSeat", "(I)Z"⟩, prog_2_method_3_code, (some FieldType.boolean), (2, 0, 0, 0, 2, 1), (923, 922, 12, 141), t_As_isSeat)
def xm_As_propose : XM := (⟨"ThreePhases$Assembly", "propose", "(III)Z"⟩, prog_2_method_11_code, (some FieldType.boolean), (7, 0, 2, 44, 4, 1), (927, 926, 13, 141), t_As_propose)
def xm_As_isHonest : XM := (⟨"ThreePhases$Assembly", "isHonest", "(I)Z"⟩, prog_2_method_4_code, (some FieldType.boolean), (2, 0, 0, 0, 2, 1), (931, 930, 14, 141), t_As_isHonest)
def xm_Me_isWithin : XM := (⟨"ThreePhases$Member", "isWithin", "(I)Z"⟩, prog_4_method_5_code, (some FieldType.boolean), (2, 2, 1, 20, 2, 1), (935, 933, 934, 143), t_Me_isWithin)
def xm_TP_isPlace : XM := (⟨"ThreePhases", "isPlace", "(I)Z"⟩, prog_1_method_36_code, (some FieldType.boolean), (1, 11, 0, 0, 1, 0), (938, 937, 0, 135), t_TP_isPlace)
def xm_Me_hasAccepted : XM := (⟨"ThreePhases$Member", "hasAccepted", "(I)Z"⟩, prog_4_method_6_code, (some FieldType.boolean), (2, 2, 0, 0, 2, 1), (942, 940, 941, 143), t_Me_hasAccepted)
def xm_As_primaryOf : XM := (⟨"ThreePhases$Assembly", "primaryOf", "(I)I"⟩, prog_2_method_10_code, (some FieldType.int), (2, 0, 0, 0, 2, 1), (946, 945, 15, 141), t_As_primaryOf)
def xm_Me_accept : XM := (⟨"ThreePhases$Member", "accept", "(II)V"⟩, prog_4_method_7_code, none, (3, 2, 1, 20, 3, 1), (950, 948, 949, 143), t_Me_accept)
def xm_Me_addPrepares : XM := (⟨"ThreePhases$Member", "addPrepares", "(III)V"⟩, prog_4_method_10_code, none, (4, 2, 1, 21, 4, 1), (954, 952, 953, 143), t_Me_addPrepares)
def xm_ji_bitCount : XM := (⟨"java/lang/Integer", "bitCount", "(I)I"⟩, prog_15_method_49_code, (some FieldType.int), (1, 14, 0, 0, 1, 0), (958, 957, 0, 155), t_ji_bitCount)
def xm_As_runOn : XM := (⟨"ThreePhases$Assembly", "runOn", "(I)Z"⟩, prog_2_method_14_code, (some FieldType.boolean), (5, 0, 3, 69, 2, 1), (965, 964, 16, 141), t_As_runOn)
def xm_Me_isCommitted : XM := (⟨"ThreePhases$Member", "isCommitted", "(I)Z"⟩, prog_4_method_9_code, (some FieldType.boolean), (2, 2, 2, 42, 2, 1), (969, 967, 968, 143), t_Me_isCommitted)
def xm_Me_isPrepared : XM := (⟨"ThreePhases$Member", "isPrepared", "(I)Z"⟩, prog_4_method_8_code, (some FieldType.boolean), (2, 2, 1, 21, 2, 1), (973, 971, 972, 143), t_Me_isPrepared)
def xm_Co_runOrder : XM := (⟨"ThreePhases$Council", "runOrder", "(I[I)V"⟩, prog_3_method_13_code, none, (4, 1, 0, 0, 3, 1), (977, 975, 976, 137), t_Co_runOrder)
def xm_As_checkpoint : XM := (⟨"ThreePhases$Assembly", "checkpoint", "(I)V"⟩, prog_2_method_15_code, none, (3, 0, 2, 47, 2, 1), (981, 980, 17, 141), t_As_checkpoint)
def xm_Su_rootOf : XM := (⟨"ThreePhases$Sums", "rootOf", "([I)I"⟩, prog_9_method_3_code, (some FieldType.int), (2, 7, 1, 22, 2, 1), (986, 984, 985, 142), t_Su_rootOf)
def xm_Su_build : XM := (⟨"ThreePhases$Sums", "build", "([I[I)V"⟩, prog_9_method_2_code, none, (3, 7, 0, 0, 2, 0), (989, 988, 0, 142), t_Su_build)
def xm_Me_countVotes : XM := (⟨"ThreePhases$Member", "countVotes", "()V"⟩, prog_4_method_12_code, none, (4, 2, 1, 22, 1, 1), (993, 991, 992, 143), t_Me_countVotes)
def xm_Me_forgetProofs : XM := (⟨"ThreePhases$Member", "forgetProofs", "(I)V"⟩, prog_4_method_4_code, none, (3, 2, 0, 0, 2, 1), (997, 995, 996, 143), t_Me_forgetProofs)
def xm_As_doubt : XM := (⟨"ThreePhases$Assembly", "doubt", "(LThreePhases$Member;)Z"⟩, prog_2_method_18_code, (some FieldType.boolean), (2, 0, 1, 22, 2, 1), (1001, 1000, 18, 141), t_As_doubt)
def xm_As_makeView : XM := (⟨"ThreePhases$Assembly", "makeView", "(I)Z"⟩, prog_2_method_19_code, (some FieldType.boolean), (5, 0, 3, 69, 2, 1), (1006, 1005, 19, 141), t_As_makeView)
def xm_As_merge : XM := (⟨"ThreePhases$Assembly", "merge", "(ILThreePhases$Merged;)V"⟩, prog_2_method_22_code, none, (4, 0, 2, 45, 3, 1), (1011, 1009, 1010, 141), t_As_merge)
def xm_TP_hasBit : XM := (⟨"ThreePhases", "hasBit", "(II)Z"⟩, prog_1_method_37_code, (some FieldType.boolean), (2, 11, 0, 0, 2, 0), (1014, 1013, 0, 135), t_TP_hasBit)
def xm_Mg_add : XM := (⟨"ThreePhases$Merged", "add", "(LThreePhases$Member;)V"⟩, prog_5_method_3_code, none, (5, 3, 1, 21, 2, 1), (1018, 1016, 1017, 144), t_Mg_add)
def xm_As_enter : XM := (⟨"ThreePhases$Assembly", "enter", "(I)V"⟩, prog_2_method_21_code, none, (6, 0, 2, 44, 2, 1), (1023, 1022, 20, 141), t_As_enter)
def xm_As_enterMade : XM := (⟨"ThreePhases$Assembly", "enterMade", "(I)Z"⟩, prog_2_method_20_code, (some FieldType.boolean), (2, 0, 3, 69, 2, 1), (1028, 1027, 21, 141), t_As_enterMade)
def xm_As_prepare : XM := (⟨"ThreePhases$Assembly", "prepare", "(III)Z"⟩, prog_2_method_12_code, (some FieldType.boolean), (5, 0, 2, 44, 4, 1), (1032, 1031, 22, 141), t_As_prepare)
def xm_Me_sharesAt : XM := (⟨"ThreePhases$Member", "sharesAt", "(LThreePhases$Member;I)Z"⟩, prog_4_method_11_code, (some FieldType.boolean), (3, 2, 1, 21, 3, 1), (1036, 1034, 1035, 143), t_Me_sharesAt)
def xm_As_commit : XM := (⟨"ThreePhases$Assembly", "commit", "(III)Z"⟩, prog_2_method_13_code, (some FieldType.boolean), (6, 0, 2, 43, 4, 1), (1040, 1039, 23, 141), t_As_commit)
def xm_As_mark : XM := (⟨"ThreePhases$Assembly", "mark", "(II)Z"⟩, prog_2_method_16_code, (some FieldType.boolean), (6, 0, 2, 45, 3, 1), (1045, 1044, 24, 141), t_As_mark)
def xm_As_fetch : XM := (⟨"ThreePhases$Assembly", "fetch", "(II)Z"⟩, prog_2_method_17_code, (some FieldType.boolean), (5, 0, 3, 69, 3, 1), (1049, 1048, 25, 141), t_As_fetch)
def xm_Su_fetch : XM := (⟨"ThreePhases$Sums", "fetch", "([I[I)V"⟩, prog_9_method_5_code, none, (5, 7, 1, 22, 3, 1), (1053, 1051, 1052, 142), t_Su_fetch)
def xm_TP_state : XM := (⟨"ThreePhases", "state", "(IIIII)I"⟩, prog_1_method_9_code, (some FieldType.int), (6, 11, 7, 164, 6, 1), (1059, 1057, 1058, 135), t_TP_state)
def xm_TP_reaches : XM := (⟨"ThreePhases", "reaches", "(III)Z"⟩, prog_1_method_31_code, (some FieldType.boolean), (4, 11, 6, 141, 4, 1), (1063, 1062, 26, 135), t_TP_reaches)
def xm_As_tell : XM := (⟨"ThreePhases$Assembly", "tell", "(II)I"⟩, prog_2_method_23_code, (some FieldType.int), (3, 0, 5, 107, 3, 1), (1067, 1065, 1066, 141), t_As_tell)
def xm_Me_tell : XM := (⟨"ThreePhases$Member", "tell", "(I)I"⟩, prog_4_method_13_code, (some FieldType.int), (3, 2, 4, 85, 2, 1), (1071, 1069, 1070, 143), t_Me_tell)
def xm_Me_tellPlace : XM := (⟨"ThreePhases$Member", "tellPlace", "(II)I"⟩, prog_4_method_14_code, (some FieldType.int), (3, 2, 3, 63, 3, 1), (1075, 1074, 27, 143), t_Me_tellPlace)
def xm_TP_made : XM := (⟨"ThreePhases", "made", "(IIIII)I"⟩, prog_1_method_10_code, (some FieldType.int), (8, 11, 7, 164, 6, 1), (1080, 1078, 1079, 135), t_TP_made)
def xm_Mg_isPlaceOf : XM := (⟨"ThreePhases$Merged", "isPlaceOf", "(I)Z"⟩, prog_5_method_5_code, (some FieldType.boolean), (1, 3, 0, 0, 1, 0), (1083, 1082, 0, 144), t_Mg_isPlaceOf)
def xm_Mg_tell : XM := (⟨"ThreePhases$Merged", "tell", "(I)I"⟩, prog_5_method_6_code, (some FieldType.int), (2, 3, 2, 41, 2, 1), (1087, 1085, 1086, 144), t_Mg_tell)
def xm_Mg_orderAt : XM := (⟨"ThreePhases$Merged", "orderAt", "(I)I"⟩, prog_5_method_4_code, (some FieldType.int), (2, 3, 1, 20, 2, 1), (1092, 1090, 1091, 144), t_Mg_orderAt)
def xm_TP_unlike : XM := (⟨"ThreePhases", "unlike", "(III)I"⟩, prog_1_method_11_code, (some FieldType.int), (4, 11, 7, 163, 4, 1), (1097, 1095, 1096, 135), t_TP_unlike)
def xm_As_unlikePlaces : XM := (⟨"ThreePhases$Assembly", "unlikePlaces", "()I"⟩, prog_2_method_25_code, (some FieldType.int), (5, 0, 2, 45, 1, 1), (1102, 1100, 1101, 141), t_As_unlikePlaces)
def xm_As_runners : XM := (⟨"ThreePhases$Assembly", "runners", "(II)I"⟩, prog_2_method_24_code, (some FieldType.int), (5, 0, 1, 21, 3, 1), (1106, 1105, 28, 141), t_As_runners)
def xm_As_alikePlaces : XM := (⟨"ThreePhases$Assembly", "alikePlaces", "()I"⟩, prog_2_method_26_code, (some FieldType.int), (4, 0, 2, 45, 1, 1), (1110, 1108, 1109, 141), t_As_alikePlaces)
def xm_As_greatestRan : XM := (⟨"ThreePhases$Assembly", "greatestRan", "()I"⟩, prog_2_method_27_code, (some FieldType.int), (3, 0, 1, 21, 1, 1), (1114, 1112, 1113, 141), t_As_greatestRan)
def xm_As_leastRan : XM := (⟨"ThreePhases$Assembly", "leastRan", "()I"⟩, prog_2_method_28_code, (some FieldType.int), (3, 0, 1, 21, 1, 1), (1119, 1117, 1118, 141), t_As_leastRan)
def xm_TP_quorum : XM := (⟨"ThreePhases", "quorum", "(II)I"⟩, prog_1_method_12_code, (some FieldType.int), (4, 11, 3, 64, 3, 1), (1123, 1121, 1122, 135), t_TP_quorum)
def xm_Co_quorums : XM := (⟨"ThreePhases$Council", "quorums", "()I"⟩, prog_3_method_11_code, (some FieldType.int), (3, 1, 2, 41, 1, 1), (1128, 1126, 1127, 137), t_Co_quorums)
def xm_Co_isQuorumSet : XM := (⟨"ThreePhases$Council", "isQuorumSet", "(I)Z"⟩, prog_3_method_9_code, (some FieldType.boolean), (2, 1, 1, 20, 2, 1), (1132, 1130, 1131, 137), t_Co_isQuorumSet)
def xm_Co_clashes : XM := (⟨"ThreePhases$Council", "clashes", "()I"⟩, prog_3_method_12_code, (some FieldType.int), (4, 1, 2, 41, 1, 1), (1138, 1136, 1137, 137), t_Co_clashes)
def xm_TP_tree : XM := (⟨"ThreePhases", "tree", "(II)I"⟩, prog_1_method_13_code, (some FieldType.int), (3, 11, 1, 22, 3, 1), (1144, 1142, 1143, 135), t_TP_tree)
def xm_TP_differ : XM := (⟨"ThreePhases", "differ", "(III)I"⟩, prog_1_method_14_code, (some FieldType.int), (4, 11, 2, 47, 4, 1), (1149, 1147, 1148, 135), t_TP_differ)
def xm_TP_sameAccounts : XM := (⟨"ThreePhases", "sameAccounts", "([I[I)Z"⟩, prog_1_method_39_code, (some FieldType.boolean), (3, 11, 0, 0, 2, 0), (1154, 1153, 0, 135), t_TP_sameAccounts)
def xm_TP_play : XM := (⟨"ThreePhases", "play", "(IIIZ)I"⟩, prog_1_method_15_code, (some FieldType.int), (7, 11, 6, 132, 5, 1), (1158, 1156, 1157, 135), t_TP_play)
def xm_Tt_plan : XM := (⟨"ThreePhases$Timetable", "plan", "(LThreePhases$Council;II)V"⟩, prog_11_method_2_code, none, (5, 9, 5, 108, 4, 1), (1163, 1161, 1162, 145), t_Tt_plan)
def xm_Co_isHonest : XM := (⟨"ThreePhases$Council", "isHonest", "(I)Z"⟩, prog_3_method_8_code, (some FieldType.boolean), (2, 1, 2, 41, 2, 1), (1170, 1168, 1169, 137), t_Co_isHonest)
def xm_Tt_acceptAll : XM := (⟨"ThreePhases$Timetable", "acceptAll", "(I)V"⟩, prog_11_method_4_code, none, (5, 9, 3, 62, 2, 1), (1175, 1174, 29, 145), t_Tt_acceptAll)
def xm_Tt_lowAt : XM := (⟨"ThreePhases$Timetable", "lowAt", "(II)I"⟩, prog_11_method_12_code, (some FieldType.int), (5, 9, 1, 21, 3, 1), (1180, 1178, 1179, 145), t_Tt_lowAt)
def xm_Tt_bounded : XM := (⟨"ThreePhases$Timetable", "bounded", "(I)I"⟩, prog_11_method_3_code, (some FieldType.int), (1, 9, 0, 0, 1, 0), (1184, 1183, 0, 145), t_Tt_bounded)
def xm_Tt_prepareAll : XM := (⟨"ThreePhases$Timetable", "prepareAll", "(I)V"⟩, prog_11_method_5_code, none, (3, 9, 3, 66, 2, 1), (1189, 1188, 30, 145), t_Tt_prepareAll)
def xm_Tt_fillRow : XM := (⟨"ThreePhases$Timetable", "fillRow", "([[III)V"⟩, prog_11_method_9_code, none, (5, 9, 1, 23, 4, 1), (1193, 1192, 31, 145), t_Tt_fillRow)
def xm_Tt_quorumth : XM := (⟨"ThreePhases$Timetable", "quorumth", "()I"⟩, prog_11_method_10_code, (some FieldType.int), (1, 9, 2, 46, 1, 1), (1197, 1196, 32, 145), t_Tt_quorumth)
def xm_Tt_least : XM := (⟨"ThreePhases$Timetable", "least", "(I)I"⟩, prog_11_method_11_code, (some FieldType.int), (6, 9, 1, 21, 2, 1), (1202, 1201, 33, 145), t_Tt_least)
def xm_Tt_runAll : XM := (⟨"ThreePhases$Timetable", "runAll", "(I)V"⟩, prog_11_method_6_code, none, (4, 9, 3, 66, 2, 1), (1206, 1205, 34, 145), t_Tt_runAll)
def xm_Tt_cutAll : XM := (⟨"ThreePhases$Timetable", "cutAll", "(I)V"⟩, prog_11_method_8_code, none, (3, 9, 3, 66, 2, 1), (1210, 1209, 35, 145), t_Tt_cutAll)
def xm_Tt_isCheckpoint : XM := (⟨"ThreePhases$Timetable", "isCheckpoint", "(I)Z"⟩, prog_11_method_7_code, (some FieldType.boolean), (2, 9, 0, 0, 2, 1), (1214, 1213, 36, 145), t_Tt_isCheckpoint)
def xm_Tt_sendAll : XM := (⟨"ThreePhases$Timetable", "sendAll", "(I)V"⟩, prog_11_method_13_code, none, (3, 9, 4, 86, 2, 1), (1218, 1217, 37, 145), t_Tt_sendAll)
def xm_Tt_send : XM := (⟨"ThreePhases$Timetable", "send", "(II)V"⟩, prog_11_method_14_code, none, (5, 9, 3, 62, 3, 1), (1222, 1221, 38, 145), t_Tt_send)
def xm_TP_reply : XM := (⟨"ThreePhases", "reply", "(III)I"⟩, prog_1_method_16_code, (some FieldType.int), (5, 11, 1, 22, 4, 1), (1228, 1226, 1227, 135), t_TP_reply)
def xm_Rp_tell : XM := (⟨"ThreePhases$Replies", "tell", "(II)I"⟩, prog_7_method_4_code, (some FieldType.int), (3, 5, 0, 0, 3, 1), (1232, 1230, 1231, 139), t_Rp_tell)
def xm_TP_match : XM := (⟨"ThreePhases", "match", "(III)I"⟩, prog_1_method_17_code, (some FieldType.int), (4, 11, 4, 93, 4, 1), (1236, 1234, 1235, 135), t_TP_match)
def xm_TP_tallies : XM := (⟨"ThreePhases", "tallies", "(II)Z"⟩, prog_1_method_32_code, (some FieldType.boolean), (3, 11, 3, 71, 3, 1), (1240, 1239, 39, 135), t_TP_tallies)
def xm_Ta_hear : XM := (⟨"ThreePhases$Tally", "hear", "(LThreePhases$Council;LThreePhases$Replies;)V"⟩, prog_10_method_2_code, none, (5, 8, 2, 47, 3, 1), (1244, 1242, 1243, 146), t_Ta_hear)
def xm_Ta_hearOne : XM := (⟨"ThreePhases$Tally", "hearOne", "(III)V"⟩, prog_10_method_3_code, none, (4, 8, 0, 0, 4, 1), (1251, 1250, 40, 146), t_Ta_hearOne)
def xm_Ta_noteMatch : XM := (⟨"ThreePhases$Tally", "noteMatch", "(II)V"⟩, prog_10_method_4_code, none, (5, 8, 1, 23, 3, 1), (1255, 1254, 41, 146), t_Ta_noteMatch)
def xm_Ta_voicesOf : XM := (⟨"ThreePhases$Tally", "voicesOf", "(I)I"⟩, prog_10_method_5_code, (some FieldType.int), (4, 8, 0, 0, 2, 1), (1259, 1257, 1258, 146), t_Ta_voicesOf)
def xm_TP_suspects : XM := (⟨"ThreePhases", "suspects", "(III)I"⟩, prog_1_method_18_code, (some FieldType.int), (4, 11, 4, 93, 4, 1), (1266, 1264, 1265, 135), t_TP_suspects)
def xm_Ta_suspectSets : XM := (⟨"ThreePhases$Tally", "suspectSets", "()I"⟩, prog_10_method_7_code, (some FieldType.int), (3, 8, 2, 44, 1, 1), (1270, 1268, 1269, 146), t_Ta_suspectSets)
def xm_Ta_isSuspect : XM := (⟨"ThreePhases$Tally", "isSuspect", "(I)Z"⟩, prog_10_method_6_code, (some FieldType.boolean), (4, 8, 1, 21, 2, 1), (1274, 1273, 42, 146), t_Ta_isSuspect)
def xm_Ta_suspectsInAll : XM := (⟨"ThreePhases$Tally", "suspectsInAll", "()I"⟩, prog_10_method_8_code, (some FieldType.int), (3, 8, 2, 44, 1, 1), (1278, 1276, 1277, 146), t_Ta_suspectsInAll)
def xm_Ta_suspectSet : XM := (⟨"ThreePhases$Tally", "suspectSet", "(I)I"⟩, prog_10_method_9_code, (some FieldType.int), (4, 8, 2, 44, 2, 1), (1282, 1280, 1281, 146), t_Ta_suspectSet)
def xm_TP_drawn : XM := (⟨"ThreePhases", "drawn", "(IIIII)I"⟩, prog_1_method_19_code, (some FieldType.int), (6, 11, 6, 145, 6, 1), (1286, 1284, 1285, 135), t_TP_drawn)
def xm_As_draw : XM := (⟨"ThreePhases$Assembly", "draw", "(LThreePhases$Council;II)V"⟩, prog_2_method_6_code, none, (9, 0, 5, 117, 4, 1), (1290, 1288, 1289, 141), t_As_draw)
def xm_As_below : XM := (⟨"ThreePhases$Assembly", "below", "(I)I"⟩, prog_2_method_7_code, (some FieldType.int), (2, 0, 0, 0, 2, 1), (1294, 1293, 43, 141), t_As_below)
def xm_As_drawnKind : XM := (⟨"ThreePhases$Assembly", "drawnKind", "(II)I"⟩, prog_2_method_8_code, (some FieldType.int), (2, 0, 0, 0, 2, 0), (1298, 1297, 0, 141), t_As_drawnKind)
def xm_TP_merged : XM := (⟨"ThreePhases", "merged", "(IIIII)I"⟩, prog_1_method_20_code, (some FieldType.int), (6, 11, 7, 164, 6, 1), (1302, 1300, 1301, 135), t_TP_merged)
def xm_TP_sure : XM := (⟨"ThreePhases", "sure", "(IIIIZ)I"⟩, prog_1_method_21_code, (some FieldType.int), (6, 11, 7, 164, 6, 1), (1307, 1305, 1306, 135), t_TP_sure)
def xm_As_lostAt : XM := (⟨"ThreePhases$Assembly", "lostAt", "(ILThreePhases$Merged;)I"⟩, prog_2_method_31_code, (some FieldType.int), (6, 0, 4, 91, 3, 1), (1312, 1310, 1311, 141), t_As_lostAt)
def xm_As_counts : XM := (⟨"ThreePhases$Assembly", "counts", "(IILThreePhases$Merged;)Z"⟩, prog_2_method_29_code, (some FieldType.boolean), (4, 0, 3, 68, 4, 1), (1316, 1315, 44, 141), t_As_counts)
def xm_As_sureAt : XM := (⟨"ThreePhases$Assembly", "sureAt", "(ILThreePhases$Merged;)I"⟩, prog_2_method_30_code, (some FieldType.int), (6, 0, 4, 91, 3, 1), (1322, 1320, 1321, 141), t_As_sureAt)
def xm_TP_after : XM := (⟨"ThreePhases", "after", "(III)I"⟩, prog_1_method_22_code, (some FieldType.int), (4, 11, 7, 163, 4, 1), (1326, 1324, 1325, 135), t_TP_after)
def xm_As_behindOnes : XM := (⟨"ThreePhases$Assembly", "behindOnes", "()I"⟩, prog_2_method_32_code, (some FieldType.int), (3, 0, 1, 21, 1, 1), (1330, 1328, 1329, 141), t_As_behindOnes)
def xm_As_stuckOnes : XM := (⟨"ThreePhases$Assembly", "stuckOnes", "()I"⟩, prog_2_method_33_code, (some FieldType.int), (3, 0, 1, 21, 1, 1), (1334, 1332, 1333, 141), t_As_stuckOnes)
def xm_As_madeViews : XM := (⟨"ThreePhases$Assembly", "madeViews", "()I"⟩, prog_2_method_34_code, (some FieldType.int), (3, 0, 0, 0, 1, 1), (1338, 1336, 1337, 141), t_As_madeViews)
def xm_As_certainPlaces : XM := (⟨"ThreePhases$Assembly", "certainPlaces", "()I"⟩, prog_2_method_35_code, (some FieldType.int), (4, 0, 2, 47, 1, 1), (1342, 1340, 1341, 141), t_As_certainPlaces)
def xm_As_alikeProofs : XM := (⟨"ThreePhases$Assembly", "alikeProofs", "(II)I"⟩, prog_2_method_36_code, (some FieldType.int), (7, 0, 1, 21, 3, 1), (1346, 1345, 45, 141), t_As_alikeProofs)
def xm_As_words : XM := (⟨"ThreePhases$Assembly", "words", "()I"⟩, prog_2_method_37_code, (some FieldType.int), (4, 0, 1, 21, 1, 1), (1350, 1348, 1349, 141), t_As_words)
def xm_As_fullOnes : XM := (⟨"ThreePhases$Assembly", "fullOnes", "()I"⟩, prog_2_method_38_code, (some FieldType.int), (3, 0, 3, 62, 1, 1), (1354, 1352, 1353, 141), t_As_fullOnes)
def xm_As_isFull : XM := (⟨"ThreePhases$Assembly", "isFull", "(LThreePhases$Member;)Z"⟩, prog_2_method_39_code, (some FieldType.boolean), (2, 0, 2, 41, 1, 0), (1357, 1356, 0, 141), t_As_isFull)
def xm_TP_pace : XM := (⟨"ThreePhases", "pace", "(II)I"⟩, prog_1_method_23_code, (some FieldType.int), (5, 11, 7, 155, 3, 1), (1361, 1359, 1360, 135), t_TP_pace)
def xm_Tt_tightest : XM := (⟨"ThreePhases$Timetable", "tightest", "(LThreePhases$Council;)I"⟩, prog_11_method_17_code, (some FieldType.int), (4, 9, 6, 132, 2, 1), (1365, 1363, 1364, 145), t_Tt_tightest)
def xm_Tt_doneAt : XM := (⟨"ThreePhases$Timetable", "doneAt", "(I)I"⟩, prog_11_method_15_code, (some FieldType.int), (3, 9, 2, 46, 2, 1), (1370, 1368, 1369, 145), t_Tt_doneAt)
def xm_Tt_spareOnes : XM := (⟨"ThreePhases$Timetable", "spareOnes", "(LThreePhases$Council;)I"⟩, prog_11_method_18_code, (some FieldType.int), (4, 9, 6, 132, 2, 1), (1374, 1372, 1373, 145), t_Tt_spareOnes)
def xm_Tt_slowest : XM := (⟨"ThreePhases$Timetable", "slowest", "()I"⟩, prog_11_method_16_code, (some FieldType.int), (5, 9, 3, 68, 1, 1), (1378, 1376, 1377, 145), t_Tt_slowest)
def xm_TP_behind : XM := (⟨"ThreePhases", "behind", "(III)I"⟩, prog_1_method_24_code, (some FieldType.int), (5, 11, 3, 70, 4, 1), (1383, 1381, 1382, 135), t_TP_behind)
def xm_Co_runFirst : XM := (⟨"ThreePhases$Council", "runFirst", "(I[I)V"⟩, prog_3_method_14_code, none, (4, 1, 2, 47, 3, 1), (1387, 1385, 1386, 137), t_Co_runFirst)
def xm_TP_blind : XM := (⟨"ThreePhases", "blind", "(II)I"⟩, prog_1_method_25_code, (some FieldType.int), (4, 11, 4, 93, 3, 1), (1393, 1391, 1392, 135), t_TP_blind)
def xm_TP_blindOrders : XM := (⟨"ThreePhases", "blindOrders", "(LThreePhases$Council;)I"⟩, prog_1_method_33_code, (some FieldType.int), (5, 11, 2, 47, 2, 1), (1397, 1396, 46, 135), t_TP_blindOrders)
def xm_TP_changedNodes : XM := (⟨"ThreePhases", "changedNodes", "(LThreePhases$Council;)I"⟩, prog_1_method_34_code, (some FieldType.int), (2, 11, 3, 70, 2, 1), (1402, 1401, 47, 135), t_TP_changedNodes)
def xm_Su_unlikeNodes : XM := (⟨"ThreePhases$Sums", "unlikeNodes", "([I[I)I"⟩, prog_9_method_4_code, (some FieldType.int), (5, 7, 1, 22, 3, 1), (1406, 1404, 1405, 142), t_Su_unlikeNodes)
def xm_TP_richest : XM := (⟨"ThreePhases", "richest", "(LThreePhases$Council;)I"⟩, prog_1_method_35_code, (some FieldType.int), (4, 11, 3, 70, 2, 1), (1410, 1409, 48, 135), t_TP_richest)
def xm_TP_voices : XM := (⟨"ThreePhases", "voices", "(III)I"⟩, prog_1_method_26_code, (some FieldType.int), (4, 11, 4, 93, 4, 1), (1414, 1412, 1413, 135), t_TP_voices)
def xm_TP_lack : XM := (⟨"ThreePhases", "lack", "(III)I"⟩, prog_1_method_27_code, (some FieldType.int), (4, 11, 4, 93, 4, 1), (1419, 1417, 1418, 135), t_TP_lack)
def xm_Ta_lacking : XM := (⟨"ThreePhases$Tally", "lacking", "()I"⟩, prog_10_method_10_code, (some FieldType.int), (3, 8, 1, 23, 1, 1), (1423, 1421, 1422, 146), t_Ta_lacking)
def xm_Ta_unlikeResults : XM := (⟨"ThreePhases$Tally", "unlikeResults", "()I"⟩, prog_10_method_11_code, (some FieldType.int), (3, 8, 1, 23, 1, 1), (1427, 1425, 1426, 146), t_Ta_unlikeResults)
def xm_TP_count : XM := (⟨"ThreePhases", "count", "(I)I"⟩, prog_1_method_28_code, (some FieldType.int), (2, 11, 0, 0, 2, 1), (1431, 1429, 1430, 135), t_TP_count)
def xm_TP_image : XM := (⟨"ThreePhases", "image", "(I)Z"⟩, prog_1_method_29_code, (some FieldType.boolean), (2, 11, 4, 91, 2, 1), (1435, 1433, 1434, 135), t_TP_image)
def xm_To_take : XM := (⟨"ThreePhases$Told", "take", "(LThreePhases$Told;)V"⟩, prog_12_method_5_code, none, (3, 10, 3, 69, 2, 1), (1439, 1437, 1438, 136), t_To_take)
def xm_TP_again : XM := (⟨"ThreePhases", "again", "(I)Z"⟩, prog_1_method_30_code, (some FieldType.boolean), (2, 11, 4, 91, 2, 1), (1444, 1442, 1443, 135), t_TP_again)
def xm_Mo_new : XM := (⟨"ThreePhasesModel", "<init>", "()V"⟩, prog_14_method_1_code, none, (1, 12, 1, 20, 1, 2), (1449, 1448, 0, 147), t_Mo_new)
def xm_Mo_feed : XM := (⟨"ThreePhasesModel", "feed", "(IIIII)I"⟩, prog_14_method_3_code, (some FieldType.int), (8, 12, 0, 0, 6, 1), (1639, 1637, 1638, 147), t_Mo_feed)
def xm_Mo_end : XM := (⟨"ThreePhasesModel", "end", "(I)I"⟩, prog_14_method_4_code, (some FieldType.int), (2, 12, 0, 0, 2, 1), (1643, 1641, 1642, 147), t_Mo_end)
def xm_Mo_text : XM := (⟨"ThreePhasesModel", "text", "(II)I"⟩, prog_14_method_27_code, (some FieldType.int), (5, 12, 9, 205, 3, 1), (1647, 1645, 1646, 147), t_Mo_text)
def xm_Mo_isIn : XM := (⟨"ThreePhasesModel", "isIn", "(III)Z"⟩, prog_14_method_2_code, (some FieldType.boolean), (3, 12, 0, 0, 3, 0), (1650, 1649, 0, 147), t_Mo_isIn)
def xm_Mo_isOf : XM := (⟨"ThreePhasesModel", "isOf", "(II)Z"⟩, prog_14_method_26_code, (some FieldType.boolean), (3, 12, 1, 22, 3, 1), (1654, 1653, 49, 147), t_Mo_isOf)
def xm_Mo_advance : XM := (⟨"ThreePhasesModel", "advance", "()V"⟩, prog_14_method_11_code, none, (4, 12, 3, 71, 1, 1), (1658, 1657, 50, 147), t_Mo_advance)
def xm_Mo_byteAt : XM := (⟨"ThreePhasesModel", "byteAt", "(I)I"⟩, prog_14_method_5_code, (some FieldType.int), (2, 12, 0, 0, 2, 1), (1662, 1661, 51, 147), t_Mo_byteAt)
def xm_Mo_isLetter : XM := (⟨"ThreePhasesModel", "isLetter", "(I)Z"⟩, prog_14_method_6_code, (some FieldType.boolean), (1, 12, 0, 0, 1, 0), (1665, 1664, 0, 147), t_Mo_isLetter)
def xm_Mo_wordOf : XM := (⟨"ThreePhasesModel", "wordOf", "(J)I"⟩, prog_14_method_10_code, (some FieldType.int), (2, 12, 2, 50, 1, 0), (1670, 1669, 0, 147), t_Mo_wordOf)
def xm_Mo_eight : XM := (⟨"ThreePhasesModel", "eight", "(IIIIIIII)J"⟩, prog_14_method_9_code, (some FieldType.long), (8, 12, 1, 23, 8, 0), (1673, 1672, 0, 147), t_Mo_eight)
def xm_Mo_four : XM := (⟨"ThreePhasesModel", "four", "(IIII)J"⟩, prog_14_method_8_code, (some FieldType.long), (4, 12, 0, 0, 4, 0), (1676, 1675, 0, 147), t_Mo_four)
def xm_Mo_isDigit : XM := (⟨"ThreePhasesModel", "isDigit", "(I)Z"⟩, prog_14_method_7_code, (some FieldType.boolean), (1, 12, 0, 0, 1, 0), (1680, 1679, 0, 147), t_Mo_isDigit)
def xm_Mo_councilLine : XM := (⟨"ThreePhasesModel", "councilLine", "()V"⟩, prog_14_method_21_code, none, (4, 12, 8, 182, 1, 1), (1684, 1683, 52, 147), t_Mo_councilLine)
def xm_Mo_wordIn : XM := (⟨"ThreePhasesModel", "wordIn", "(II)I"⟩, prog_14_method_15_code, (some FieldType.int), (4, 12, 4, 94, 3, 1), (1688, 1687, 53, 147), t_Mo_wordIn)
def xm_Mo_ends : XM := (⟨"ThreePhasesModel", "ends", "()V"⟩, prog_14_method_12_code, none, (1, 12, 0, 0, 1, 1), (1692, 1691, 54, 147), t_Mo_ends)
def xm_Mo_numbered : XM := (⟨"ThreePhasesModel", "numbered", "(II)I"⟩, prog_14_method_14_code, (some FieldType.int), (4, 12, 4, 94, 3, 1), (1696, 1695, 55, 147), t_Mo_numbered)
def xm_Mo_also : XM := (⟨"ThreePhasesModel", "also", "(II)V"⟩, prog_14_method_13_code, none, (3, 12, 0, 0, 3, 1), (1700, 1699, 56, 147), t_Mo_also)
def xm_Mo_memberTold : XM := (⟨"ThreePhasesModel", "memberTold", "()I"⟩, prog_14_method_17_code, (some FieldType.int), (2, 12, 5, 117, 1, 1), (1704, 1703, 57, 147), t_Mo_memberTold)
def xm_Mo_orderTold : XM := (⟨"ThreePhasesModel", "orderTold", "(I)V"⟩, prog_14_method_19_code, none, (4, 12, 5, 117, 2, 1), (1708, 1707, 58, 147), t_Mo_orderTold)
def xm_Mo_delayTold : XM := (⟨"ThreePhasesModel", "delayTold", "()V"⟩, prog_14_method_20_code, none, (4, 12, 7, 159, 1, 1), (1712, 1711, 59, 147), t_Mo_delayTold)
def xm_Mo_otherTold : XM := (⟨"ThreePhasesModel", "otherTold", "(I)I"⟩, prog_14_method_18_code, (some FieldType.int), (2, 12, 6, 138, 2, 1), (1716, 1715, 60, 147), t_Mo_otherTold)
def xm_Mo_endsLine : XM := (⟨"ThreePhasesModel", "endsLine", "()V"⟩, prog_14_method_16_code, none, (1, 12, 4, 94, 1, 1), (1720, 1719, 61, 147), t_Mo_endsLine)
def xm_Mo_runLine : XM := (⟨"ThreePhasesModel", "runLine", "()V"⟩, prog_14_method_22_code, none, (7, 12, 7, 159, 1, 1), (1724, 1723, 62, 147), t_Mo_runLine)
def xm_Mo_repliesLine : XM := (⟨"ThreePhasesModel", "repliesLine", "()V"⟩, prog_14_method_23_code, none, (6, 12, 5, 117, 1, 1), (1728, 1727, 63, 147), t_Mo_repliesLine)
def xm_Mo_sizeOf : XM := (⟨"ThreePhasesModel", "sizeOf", "(I)I"⟩, prog_14_method_25_code, (some FieldType.int), (1, 12, 0, 0, 1, 0), (1731, 1730, 0, 147), t_Mo_sizeOf)
def xm_Mo_placeOf : XM := (⟨"ThreePhasesModel", "placeOf", "(II)I"⟩, prog_14_method_24_code, (some FieldType.int), (2, 12, 0, 0, 2, 0), (1734, 1733, 0, 147), t_Mo_placeOf)
def xm_Mo_fault : XM := (⟨"ThreePhasesModel", "fault", "(I)I"⟩, prog_14_method_28_code, (some FieldType.int), (2, 12, 0, 0, 2, 1), (1738, 1736, 1737, 147), t_Mo_fault)
def xm_Mo_council : XM := (⟨"ThreePhasesModel", "council", "(II)I"⟩, prog_14_method_36_code, (some FieldType.int), (5, 12, 3, 65, 3, 1), (1742, 1740, 1741, 147), t_Mo_council)
def xm_Mo_isCouncil : XM := (⟨"ThreePhasesModel", "isCouncil", "(I)Z"⟩, prog_14_method_29_code, (some FieldType.boolean), (2, 12, 2, 44, 2, 1), (1746, 1745, 64, 147), t_Mo_isCouncil)
def xm_Mo_isMember : XM := (⟨"ThreePhasesModel", "isMember", "(I)Z"⟩, prog_14_method_30_code, (some FieldType.boolean), (2, 12, 1, 22, 2, 1), (1750, 1749, 65, 147), t_Mo_isMember)
def xm_Mo_delayOf : XM := (⟨"ThreePhasesModel", "delayOf", "(II)I"⟩, prog_14_method_32_code, (some FieldType.int), (3, 12, 0, 0, 3, 1), (1754, 1753, 66, 147), t_Mo_delayOf)
def xm_Mo_orderAccount : XM := (⟨"ThreePhasesModel", "orderAccount", "(I)I"⟩, prog_14_method_33_code, (some FieldType.int), (2, 12, 0, 0, 2, 1), (1758, 1757, 67, 147), t_Mo_orderAccount)
def xm_Mo_orderPlus : XM := (⟨"ThreePhasesModel", "orderPlus", "(I)I"⟩, prog_14_method_34_code, (some FieldType.int), (2, 12, 0, 0, 2, 1), (1762, 1761, 68, 147), t_Mo_orderPlus)
def xm_Mo_tree : XM := (⟨"ThreePhasesModel", "tree", "(II)I"⟩, prog_14_method_39_code, (some FieldType.int), (3, 12, 3, 65, 3, 1), (1766, 1764, 1765, 147), t_Mo_tree)
def xm_Mo_laysSums : XM := (⟨"ThreePhasesModel", "laysSums", "([I[II)V"⟩, prog_14_method_37_code, none, (4, 12, 0, 0, 3, 0), (1769, 1768, 0, 147), t_Mo_laysSums)
def xm_Mo_differ : XM := (⟨"ThreePhasesModel", "differ", "(III)I"⟩, prog_14_method_41_code, (some FieldType.int), (7, 12, 3, 65, 4, 1), (1773, 1771, 1772, 147), t_Mo_differ)
def xm_Mo_seeks : XM := (⟨"ThreePhasesModel", "seeks", "()V"⟩, prog_14_method_40_code, none, (4, 12, 0, 0, 1, 1), (1777, 1776, 69, 147), t_Mo_seeks)
def xm_Mo_quorum : XM := (⟨"ThreePhasesModel", "quorum", "(II)I"⟩, prog_14_method_42_code, (some FieldType.int), (8, 12, 3, 65, 3, 1), (1781, 1779, 1780, 147), t_Mo_quorum)
def xm_Mo_isLiar : XM := (⟨"ThreePhasesModel", "isLiar", "(I)Z"⟩, prog_14_method_31_code, (some FieldType.boolean), (2, 12, 0, 0, 2, 1), (1785, 1784, 70, 147), t_Mo_isLiar)
def xm_Mo_bitsOf : XM := (⟨"ThreePhasesModel", "bitsOf", "(I)I"⟩, prog_14_method_35_code, (some FieldType.int), (3, 12, 0, 0, 1, 0), (1788, 1787, 0, 147), t_Mo_bitsOf)
def xm_Mo_deed : XM := (⟨"ThreePhasesModel", "deed", "(III)I"⟩, prog_14_method_71_code, (some FieldType.int), (4, 12, 3, 65, 4, 1), (1792, 1790, 1791, 147), t_Mo_deed)
def xm_Mo_isRun : XM := (⟨"ThreePhasesModel", "isRun", "(I)Z"⟩, prog_14_method_70_code, (some FieldType.boolean), (2, 12, 2, 44, 2, 1), (1796, 1795, 71, 147), t_Mo_isRun)
def xm_Mo_stop : XM := (⟨"ThreePhasesModel", "stop", "(II)I"⟩, prog_14_method_73_code, (some FieldType.int), (3, 12, 9, 205, 3, 1), (1800, 1798, 1799, 147), t_Mo_stop)
def xm_Mo_goes : XM := (⟨"ThreePhasesModel", "goes", "(I)V"⟩, prog_14_method_72_code, none, (3, 12, 8, 183, 2, 1), (1804, 1803, 72, 147), t_Mo_goes)
def xm_Mo_begins : XM := (⟨"ThreePhasesModel", "begins", "()V"⟩, prog_14_method_43_code, none, (3, 12, 0, 0, 1, 1), (1808, 1807, 73, 147), t_Mo_begins)
def xm_Mo_does : XM := (⟨"ThreePhasesModel", "does", "(IIII)Z"⟩, prog_14_method_69_code, (some FieldType.boolean), (6, 12, 7, 158, 5, 1), (1812, 1811, 74, 147), t_Mo_does)
def xm_Mo_proposes : XM := (⟨"ThreePhasesModel", "proposes", "(III)Z"⟩, prog_14_method_53_code, (some FieldType.boolean), (5, 12, 4, 89, 4, 1), (1816, 1815, 75, 147), t_Mo_proposes)
def xm_Mo_isWithin : XM := (⟨"ThreePhasesModel", "isWithin", "(II)Z"⟩, prog_14_method_52_code, (some FieldType.boolean), (3, 12, 0, 0, 3, 1), (1820, 1819, 76, 147), t_Mo_isWithin)
def xm_Mo_at : XM := (⟨"ThreePhasesModel", "at", "(II)I"⟩, prog_14_method_45_code, (some FieldType.int), (2, 12, 0, 0, 2, 0), (1823, 1822, 0, 147), t_Mo_at)
def xm_Mo_primaryOf : XM := (⟨"ThreePhasesModel", "primaryOf", "(I)I"⟩, prog_14_method_44_code, (some FieldType.int), (2, 12, 0, 0, 2, 1), (1827, 1826, 77, 147), t_Mo_primaryOf)
def xm_Mo_accepts : XM := (⟨"ThreePhasesModel", "accepts", "(III)V"⟩, prog_14_method_51_code, none, (4, 12, 3, 66, 4, 1), (1831, 1830, 78, 147), t_Mo_accepts)
def xm_Mo_settles : XM := (⟨"ThreePhasesModel", "settles", "(II)V"⟩, prog_14_method_48_code, none, (3, 12, 2, 44, 3, 1), (1835, 1834, 79, 147), t_Mo_settles)
def xm_Mo_isPrepared : XM := (⟨"ThreePhasesModel", "isPrepared", "(II)Z"⟩, prog_14_method_46_code, (some FieldType.boolean), (3, 12, 1, 22, 3, 1), (1839, 1838, 80, 147), t_Mo_isPrepared)
def xm_Mo_words : XM := (⟨"ThreePhasesModel", "words", "(IIIZ)Z"⟩, prog_14_method_55_code, (some FieldType.boolean), (5, 12, 3, 68, 5, 1), (1843, 1842, 81, 147), t_Mo_words)
def xm_Mo_isWord : XM := (⟨"ThreePhasesModel", "isWord", "(IIIZ)Z"⟩, prog_14_method_54_code, (some FieldType.boolean), (5, 12, 2, 44, 5, 1), (1847, 1846, 82, 147), t_Mo_isWord)
def xm_Mo_runsOn : XM := (⟨"ThreePhasesModel", "runsOn", "(I)Z"⟩, prog_14_method_60_code, (some FieldType.boolean), (2, 12, 6, 137, 2, 1), (1851, 1850, 83, 147), t_Mo_runsOn)
def xm_Mo_canRun : XM := (⟨"ThreePhasesModel", "canRun", "(I)Z"⟩, prog_14_method_59_code, (some FieldType.boolean), (2, 12, 3, 66, 2, 1), (1855, 1854, 84, 147), t_Mo_canRun)
def xm_Mo_isCommitted : XM := (⟨"ThreePhasesModel", "isCommitted", "(II)Z"⟩, prog_14_method_47_code, (some FieldType.boolean), (3, 12, 2, 44, 3, 1), (1859, 1858, 85, 147), t_Mo_isCommitted)
def xm_Mo_runsOne : XM := (⟨"ThreePhasesModel", "runsOne", "(I)V"⟩, prog_14_method_58_code, none, (5, 12, 5, 113, 2, 1), (1863, 1862, 86, 147), t_Mo_runsOne)
def xm_Mo_checks : XM := (⟨"ThreePhasesModel", "checks", "(I)V"⟩, prog_14_method_57_code, none, (3, 12, 4, 91, 2, 1), (1867, 1866, 87, 147), t_Mo_checks)
def xm_Mo_rootOf : XM := (⟨"ThreePhasesModel", "rootOf", "([II)I"⟩, prog_14_method_38_code, (some FieldType.int), (3, 12, 1, 23, 3, 1), (1871, 1870, 88, 147), t_Mo_rootOf)
def xm_Mo_counts : XM := (⟨"ThreePhasesModel", "counts", "(I)V"⟩, prog_14_method_56_code, none, (6, 12, 3, 66, 2, 1), (1875, 1874, 89, 147), t_Mo_counts)
def xm_Mo_cuts : XM := (⟨"ThreePhasesModel", "cuts", "(II)V"⟩, prog_14_method_50_code, none, (4, 12, 2, 43, 3, 1), (1879, 1878, 90, 147), t_Mo_cuts)
def xm_Mo_forgets : XM := (⟨"ThreePhasesModel", "forgets", "(II)V"⟩, prog_14_method_49_code, none, (3, 12, 1, 21, 3, 1), (1883, 1882, 91, 147), t_Mo_forgets)
def xm_Mo_marks : XM := (⟨"ThreePhasesModel", "marks", "(II)Z"⟩, prog_14_method_61_code, (some FieldType.boolean), (5, 12, 4, 91, 3, 1), (1887, 1886, 92, 147), t_Mo_marks)
def xm_Mo_fetches : XM := (⟨"ThreePhasesModel", "fetches", "(II)Z"⟩, prog_14_method_62_code, (some FieldType.boolean), (4, 12, 5, 113, 3, 1), (1891, 1890, 93, 147), t_Mo_fetches)
def xm_Mo_doubts : XM := (⟨"ThreePhasesModel", "doubts", "(I)Z"⟩, prog_14_method_63_code, (some FieldType.boolean), (3, 12, 2, 43, 2, 1), (1895, 1894, 94, 147), t_Mo_doubts)
def xm_Mo_makes : XM := (⟨"ThreePhasesModel", "makes", "(I)Z"⟩, prog_14_method_67_code, (some FieldType.boolean), (5, 12, 5, 112, 2, 1), (1899, 1898, 95, 147), t_Mo_makes)
def xm_Mo_merges : XM := (⟨"ThreePhasesModel", "merges", "(I)V"⟩, prog_14_method_65_code, none, (4, 12, 2, 47, 2, 1), (1903, 1902, 96, 147), t_Mo_merges)
def xm_Mo_orderBy : XM := (⟨"ThreePhasesModel", "orderBy", "(II)I"⟩, prog_14_method_64_code, (some FieldType.int), (7, 12, 1, 21, 3, 1), (1907, 1906, 97, 147), t_Mo_orderBy)
def xm_Mo_entersView : XM := (⟨"ThreePhasesModel", "entersView", "(I)V"⟩, prog_14_method_66_code, none, (4, 12, 4, 89, 2, 1), (1911, 1910, 98, 147), t_Mo_entersView)
def xm_Mo_entersAlone : XM := (⟨"ThreePhasesModel", "entersAlone", "(I)Z"⟩, prog_14_method_68_code, (some FieldType.boolean), (2, 12, 5, 112, 2, 1), (1915, 1914, 99, 147), t_Mo_entersAlone)
def xm_Mo_state : XM := (⟨"ThreePhasesModel", "state", "(IIIII)I"⟩, prog_14_method_77_code, (some FieldType.int), (6, 12, 10, 228, 6, 1), (1919, 1917, 1918, 147), t_Mo_state)
def xm_Mo_isState : XM := (⟨"ThreePhasesModel", "isState", "(III)Z"⟩, prog_14_method_76_code, (some FieldType.boolean), (4, 12, 9, 205, 4, 1), (1923, 1922, 100, 147), t_Mo_isState)
def xm_Mo_nowOf : XM := (⟨"ThreePhasesModel", "nowOf", "(II)I"⟩, prog_14_method_75_code, (some FieldType.int), (3, 12, 4, 90, 3, 1), (1927, 1926, 101, 147), t_Mo_nowOf)
def xm_Mo_placeNow : XM := (⟨"ThreePhasesModel", "placeNow", "(III)I"⟩, prog_14_method_74_code, (some FieldType.int), (5, 12, 3, 66, 4, 1), (1931, 1930, 102, 147), t_Mo_placeNow)
def xm_Mo_made : XM := (⟨"ThreePhasesModel", "made", "(IIIII)I"⟩, prog_14_method_78_code, (some FieldType.int), (6, 12, 10, 228, 6, 1), (1935, 1933, 1934, 147), t_Mo_made)
def xm_Mo_unlike : XM := (⟨"ThreePhasesModel", "unlike", "(III)I"⟩, prog_14_method_82_code, (some FieldType.int), (4, 12, 9, 205, 4, 1), (1939, 1937, 1938, 147), t_Mo_unlike)
def xm_Mo_placesBy : XM := (⟨"ThreePhasesModel", "placesBy", "(Z)I"⟩, prog_14_method_80_code, (some FieldType.int), (7, 12, 2, 45, 2, 1), (1943, 1942, 103, 147), t_Mo_placesBy)
def xm_Mo_ranSo : XM := (⟨"ThreePhasesModel", "ranSo", "(II)I"⟩, prog_14_method_79_code, (some FieldType.int), (5, 12, 1, 21, 3, 1), (1947, 1946, 104, 147), t_Mo_ranSo)
def xm_Mo_ranBy : XM := (⟨"ThreePhasesModel", "ranBy", "(Z)I"⟩, prog_14_method_81_code, (some FieldType.int), (4, 12, 1, 21, 2, 1), (1951, 1950, 105, 147), t_Mo_ranBy)
def xm_Mo_merged : XM := (⟨"ThreePhasesModel", "merged", "(IIIII)I"⟩, prog_14_method_83_code, (some FieldType.int), (6, 12, 10, 228, 6, 1), (1955, 1953, 1954, 147), t_Mo_merged)
def xm_Mo_sure : XM := (⟨"ThreePhasesModel", "sure", "(IIIIZ)I"⟩, prog_14_method_84_code, (some FieldType.int), (10, 12, 10, 228, 6, 1), (1959, 1957, 1958, 147), t_Mo_sure)
def xm_Mo_after : XM := (⟨"ThreePhasesModel", "after", "(III)I"⟩, prog_14_method_90_code, (some FieldType.int), (4, 12, 9, 205, 4, 1), (1963, 1961, 1962, 147), t_Mo_after)
def xm_Mo_honestBy : XM := (⟨"ThreePhasesModel", "honestBy", "(I)I"⟩, prog_14_method_87_code, (some FieldType.int), (4, 12, 2, 45, 2, 1), (1967, 1966, 106, 147), t_Mo_honestBy)
def xm_Mo_isFull : XM := (⟨"ThreePhasesModel", "isFull", "(I)Z"⟩, prog_14_method_86_code, (some FieldType.boolean), (4, 12, 1, 22, 2, 1), (1971, 1970, 107, 147), t_Mo_isFull)
def xm_Mo_viewsMade : XM := (⟨"ThreePhasesModel", "viewsMade", "()I"⟩, prog_14_method_89_code, (some FieldType.int), (3, 12, 0, 0, 1, 1), (1975, 1974, 108, 147), t_Mo_viewsMade)
def xm_Mo_certainOf : XM := (⟨"ThreePhasesModel", "certainOf", "()I"⟩, prog_14_method_85_code, (some FieldType.int), (6, 12, 1, 21, 1, 1), (1979, 1978, 109, 147), t_Mo_certainOf)
def xm_Mo_wordsOf : XM := (⟨"ThreePhasesModel", "wordsOf", "()I"⟩, prog_14_method_88_code, (some FieldType.int), (4, 12, 1, 22, 1, 1), (1983, 1982, 110, 147), t_Mo_wordsOf)
def xm_Mo_play : XM := (⟨"ThreePhasesModel", "play", "(IIIZ)I"⟩, prog_14_method_100_code, (some FieldType.int), (5, 12, 5, 113, 5, 1), (1987, 1985, 1986, 147), t_Mo_play)
def xm_Mo_plays : XM := (⟨"ThreePhasesModel", "plays", "()V"⟩, prog_14_method_98_code, none, (2, 12, 4, 92, 1, 1), (1991, 1990, 111, 147), t_Mo_plays)
def xm_Mo_playsPlace : XM := (⟨"ThreePhasesModel", "playsPlace", "(I)V"⟩, prog_14_method_97_code, none, (4, 12, 3, 69, 2, 1), (1996, 1995, 112, 147), t_Mo_playsPlace)
def xm_Mo_playsAccepts : XM := (⟨"ThreePhasesModel", "playsAccepts", "(I)V"⟩, prog_14_method_95_code, none, (4, 12, 2, 46, 2, 1), (2000, 1999, 113, 147), t_Mo_playsAccepts)
def xm_Mo_lowFrom : XM := (⟨"ThreePhasesModel", "lowFrom", "(III)I"⟩, prog_14_method_92_code, (some FieldType.int), (6, 12, 1, 21, 4, 1), (2004, 2003, 114, 147), t_Mo_lowFrom)
def xm_Mo_later : XM := (⟨"ThreePhasesModel", "later", "(II)I"⟩, prog_14_method_93_code, (some FieldType.int), (2, 12, 0, 0, 2, 0), (2007, 2006, 0, 147), t_Mo_later)
def xm_Mo_behindBy : XM := (⟨"ThreePhasesModel", "behindBy", "(II)I"⟩, prog_14_method_94_code, (some FieldType.int), (2, 12, 0, 0, 2, 0), (2010, 2009, 0, 147), t_Mo_behindBy)
def xm_Mo_laysComes : XM := (⟨"ThreePhasesModel", "laysComes", "([III)V"⟩, prog_14_method_96_code, none, (5, 12, 1, 22, 4, 1), (2014, 2013, 115, 147), t_Mo_laysComes)
def xm_Mo_manyCome : XM := (⟨"ThreePhasesModel", "manyCome", "(I)I"⟩, prog_14_method_91_code, (some FieldType.int), (6, 12, 0, 0, 2, 1), (2018, 2017, 116, 147), t_Mo_manyCome)
def xm_Mo_minuteOf : XM := (⟨"ThreePhasesModel", "minuteOf", "(I)I"⟩, prog_14_method_99_code, (some FieldType.int), (1, 12, 0, 0, 1, 0), (2021, 2020, 0, 147), t_Mo_minuteOf)
def xm_Mo_pace : XM := (⟨"ThreePhasesModel", "pace", "(II)I"⟩, prog_14_method_108_code, (some FieldType.int), (3, 12, 7, 156, 3, 1), (2025, 2023, 2024, 147), t_Mo_pace)
def xm_Mo_sendsAll : XM := (⟨"ThreePhasesModel", "sendsAll", "()V"⟩, prog_14_method_103_code, none, (3, 12, 2, 45, 1, 1), (2029, 2028, 117, 147), t_Mo_sendsAll)
def xm_Mo_sends : XM := (⟨"ThreePhasesModel", "sends", "(II)V"⟩, prog_14_method_102_code, none, (4, 12, 1, 22, 3, 1), (2033, 2032, 118, 147), t_Mo_sends)
def xm_Mo_slowestOf : XM := (⟨"ThreePhasesModel", "slowestOf", "()I"⟩, prog_14_method_104_code, (some FieldType.int), (5, 12, 2, 47, 1, 1), (2037, 2036, 119, 147), t_Mo_slowestOf)
def xm_Mo_doneOf : XM := (⟨"ThreePhasesModel", "doneOf", "(I)I"⟩, prog_14_method_101_code, (some FieldType.int), (3, 12, 1, 25, 2, 1), (2041, 2040, 120, 147), t_Mo_doneOf)
def xm_Mo_tightOf : XM := (⟨"ThreePhasesModel", "tightOf", "()I"⟩, prog_14_method_106_code, (some FieldType.int), (3, 12, 6, 134, 1, 1), (2045, 2044, 121, 147), t_Mo_tightOf)
def xm_Mo_lastDoneBy : XM := (⟨"ThreePhasesModel", "lastDoneBy", "(I)I"⟩, prog_14_method_105_code, (some FieldType.int), (2, 12, 5, 113, 2, 1), (2049, 2048, 122, 147), t_Mo_lastDoneBy)
def xm_Mo_spareOf : XM := (⟨"ThreePhasesModel", "spareOf", "()I"⟩, prog_14_method_107_code, (some FieldType.int), (4, 12, 5, 113, 1, 1), (2053, 2052, 123, 147), t_Mo_spareOf)
def xm_Mo_behind : XM := (⟨"ThreePhasesModel", "behind", "(III)I"⟩, prog_14_method_111_code, (some FieldType.int), (5, 12, 3, 65, 4, 1), (2057, 2055, 2056, 147), t_Mo_behind)
def xm_Mo_laysSheet : XM := (⟨"ThreePhasesModel", "laysSheet", "()V"⟩, prog_14_method_109_code, none, (2, 12, 0, 0, 1, 1), (2061, 2060, 124, 147), t_Mo_laysSheet)
def xm_Mo_runsSheet : XM := (⟨"ThreePhasesModel", "runsSheet", "(I)V"⟩, prog_14_method_110_code, none, (2, 12, 1, 21, 2, 1), (2065, 2064, 125, 147), t_Mo_runsSheet)
def xm_Mo_blind : XM := (⟨"ThreePhasesModel", "blind", "(II)I"⟩, prog_14_method_114_code, (some FieldType.int), (5, 12, 3, 68, 3, 1), (2069, 2067, 2068, 147), t_Mo_blind)
def xm_Mo_blindOf : XM := (⟨"ThreePhasesModel", "blindOf", "()I"⟩, prog_14_method_112_code, (some FieldType.int), (4, 12, 2, 45, 1, 1), (2073, 2072, 126, 147), t_Mo_blindOf)
def xm_Mo_pathsOf : XM := (⟨"ThreePhasesModel", "pathsOf", "()I"⟩, prog_14_method_113_code, (some FieldType.int), (3, 12, 2, 42, 1, 1), (2077, 2076, 127, 147), t_Mo_pathsOf)
def xm_Mo_reply : XM := (⟨"ThreePhasesModel", "reply", "(III)I"⟩, prog_14_method_116_code, (some FieldType.int), (4, 12, 3, 65, 4, 1), (2081, 2079, 2080, 147), t_Mo_reply)
def xm_Mo_isReplies : XM := (⟨"ThreePhasesModel", "isReplies", "(I)Z"⟩, prog_14_method_115_code, (some FieldType.boolean), (2, 12, 2, 44, 2, 1), (2085, 2084, 128, 147), t_Mo_isReplies)
def xm_Mo_match : XM := (⟨"ThreePhasesModel", "match", "(III)I"⟩, prog_14_method_119_code, (some FieldType.int), (9, 12, 3, 67, 4, 1), (2089, 2087, 2088, 147), t_Mo_match)
def xm_Mo_come : XM := (⟨"ThreePhasesModel", "come", "(I)V"⟩, prog_14_method_118_code, none, (5, 12, 2, 43, 2, 1), (2093, 2092, 129, 147), t_Mo_come)
def xm_Mo_tell : XM := (⟨"ThreePhasesModel", "tell", "(I)I"⟩, prog_14_method_117_code, (some FieldType.int), (4, 12, 0, 0, 2, 1), (2097, 2096, 130, 147), t_Mo_tell)
def xm_Mo_suspects : XM := (⟨"ThreePhasesModel", "suspects", "(III)I"⟩, prog_14_method_121_code, (some FieldType.int), (8, 12, 3, 67, 4, 1), (2101, 2099, 2100, 147), t_Mo_suspects)
def xm_Mo_isOneBut : XM := (⟨"ThreePhasesModel", "isOneBut", "(I)Z"⟩, prog_14_method_120_code, (some FieldType.boolean), (5, 12, 0, 0, 2, 1), (2105, 2104, 131, 147), t_Mo_isOneBut)
def xm_Mo_voices : XM := (⟨"ThreePhasesModel", "voices", "(III)I"⟩, prog_14_method_122_code, (some FieldType.int), (4, 12, 3, 67, 4, 1), (2109, 2107, 2108, 147), t_Mo_voices)
def xm_Mo_lack : XM := (⟨"ThreePhasesModel", "lack", "(III)I"⟩, prog_14_method_123_code, (some FieldType.int), (8, 12, 3, 67, 4, 1), (2113, 2111, 2112, 147), t_Mo_lack)
def xm_Mo_drawn : XM := (⟨"ThreePhasesModel", "drawn", "(IIIII)I"⟩, prog_14_method_126_code, (some FieldType.int), (7, 12, 9, 208, 6, 1), (2117, 2115, 2116, 147), t_Mo_drawn)
def xm_Mo_draws : XM := (⟨"ThreePhasesModel", "draws", "()V"⟩, prog_14_method_125_code, none, (6, 12, 8, 183, 1, 1), (2121, 2120, 132, 147), t_Mo_draws)
def xm_Mo_below : XM := (⟨"ThreePhasesModel", "below", "(I)I"⟩, prog_14_method_124_code, (some FieldType.int), (2, 12, 0, 0, 2, 1), (2125, 2124, 133, 147), t_Mo_below)
def xm_Mo_count : XM := (⟨"ThreePhasesModel", "count", "(I)I"⟩, prog_14_method_127_code, (some FieldType.int), (2, 12, 1, 22, 2, 1), (2130, 2128, 2129, 147), t_Mo_count)
def xm_Mo_image : XM := (⟨"ThreePhasesModel", "image", "(I)Z"⟩, prog_14_method_128_code, (some FieldType.boolean), (3, 12, 1, 22, 2, 1), (2134, 2132, 2133, 147), t_Mo_image)
def xm_Mo_again : XM := (⟨"ThreePhasesModel", "again", "(I)Z"⟩, prog_14_method_129_code, (some FieldType.boolean), (3, 12, 1, 22, 2, 1), (2138, 2136, 2137, 147), t_Mo_again)
def xm_La_law : XM := (⟨"ThreePhasesLaw", "law", "([I)Z"⟩, code, (some FieldType.boolean), (4, 13, 11, 257, 1, 0), (0, 0, 0, 0), t_La_law)
def xMs_0 : List XM := [xm_TP_new, xm_To_new, xm_Co_new, xm_Ru_new, xm_Rp_new, xm_Re_new, xm_As_new, xm_Su_new, xm_Me_new, xm_Mg_new, xm_Tt_new, xm_Ta_new, xm_TP_feed, xm_To_write, xm_TP_end, xm_TP_text, xm_To_has, xm_Re_read, xm_Co_clear, xm_ja_fill, xm_Re_next, xm_Re_isLetter, xm_Re_readWord, xm_Re_isDigit, xm_Re_readNumber, xm_Re_readLine, xm_Re_lineOf, xm_Re_wordOf, xm_Re_isWord, xm_js_length, xm_js_coder, xm_js_charAt, xm_js_isLatin1, xm_jl_charAt, xm_js_checkIndex, xm_jp_checkIndex, xm_Re_isFull, xm_Re_note, xm_Re_mayBe, xm_Re_tellsTwoMembers]
def xMs_1 : List XM := [xm_Re_keep, xm_Rp_add, xm_Co_addOrder, xm_Ru_add, xm_Co_members, xm_To_put, xm_Co_take, xm_TP_copyAccounts, xm_Ru_take, xm_Rp_take, xm_TP_fault, xm_TP_council, xm_Co_detail, xm_Co_has, xm_TP_deed, xm_Ru_tell, xm_TP_stop, xm_As_follow, xm_As_begin, xm_Co_quorumSize, xm_Me_begin, xm_Me_forgetAccepted, xm_Mg_clear, xm_As_act, xm_As_isSeat, xm_As_propose, xm_As_isHonest, xm_Me_isWithin, xm_TP_isPlace, xm_Me_hasAccepted, xm_As_primaryOf, xm_Me_accept, xm_Me_addPrepares, xm_ji_bitCount, xm_As_runOn, xm_Me_isCommitted, xm_Me_isPrepared, xm_Co_runOrder, xm_As_checkpoint, xm_Su_rootOf]
def xMs_2 : List XM := [xm_Su_build, xm_Me_countVotes, xm_Me_forgetProofs, xm_As_doubt, xm_As_makeView, xm_As_merge, xm_TP_hasBit, xm_Mg_add, xm_As_enter, xm_As_enterMade, xm_As_prepare, xm_Me_sharesAt, xm_As_commit, xm_As_mark, xm_As_fetch, xm_Su_fetch, xm_TP_state, xm_TP_reaches, xm_As_tell, xm_Me_tell, xm_Me_tellPlace, xm_TP_made, xm_Mg_isPlaceOf, xm_Mg_tell, xm_Mg_orderAt, xm_TP_unlike, xm_As_unlikePlaces, xm_As_runners, xm_As_alikePlaces, xm_As_greatestRan, xm_As_leastRan, xm_TP_quorum, xm_Co_quorums, xm_Co_isQuorumSet, xm_Co_clashes, xm_TP_tree, xm_TP_differ, xm_TP_sameAccounts, xm_TP_play, xm_Tt_plan]
def xMs_3 : List XM := [xm_Co_isHonest, xm_Tt_acceptAll, xm_Tt_lowAt, xm_Tt_bounded, xm_Tt_prepareAll, xm_Tt_fillRow, xm_Tt_quorumth, xm_Tt_least, xm_Tt_runAll, xm_Tt_cutAll, xm_Tt_isCheckpoint, xm_Tt_sendAll, xm_Tt_send, xm_TP_reply, xm_Rp_tell, xm_TP_match, xm_TP_tallies, xm_Ta_hear, xm_Ta_hearOne, xm_Ta_noteMatch, xm_Ta_voicesOf, xm_TP_suspects, xm_Ta_suspectSets, xm_Ta_isSuspect, xm_Ta_suspectsInAll, xm_Ta_suspectSet, xm_TP_drawn, xm_As_draw, xm_As_below, xm_As_drawnKind, xm_TP_merged, xm_TP_sure, xm_As_lostAt, xm_As_counts, xm_As_sureAt, xm_TP_after, xm_As_behindOnes, xm_As_stuckOnes, xm_As_madeViews, xm_As_certainPlaces]
def xMs_4 : List XM := [xm_As_alikeProofs, xm_As_words, xm_As_fullOnes, xm_As_isFull, xm_TP_pace, xm_Tt_tightest, xm_Tt_doneAt, xm_Tt_spareOnes, xm_Tt_slowest, xm_TP_behind, xm_Co_runFirst, xm_TP_blind, xm_TP_blindOrders, xm_TP_changedNodes, xm_Su_unlikeNodes, xm_TP_richest, xm_TP_voices, xm_TP_lack, xm_Ta_lacking, xm_Ta_unlikeResults, xm_TP_count, xm_TP_image, xm_To_take, xm_TP_again, xm_Mo_new, xm_Mo_feed, xm_Mo_end, xm_Mo_text, xm_Mo_isIn, xm_Mo_isOf, xm_Mo_advance, xm_Mo_byteAt, xm_Mo_isLetter, xm_Mo_wordOf, xm_Mo_eight, xm_Mo_four, xm_Mo_isDigit, xm_Mo_councilLine, xm_Mo_wordIn, xm_Mo_ends]
def xMs_5 : List XM := [xm_Mo_numbered, xm_Mo_also, xm_Mo_memberTold, xm_Mo_orderTold, xm_Mo_delayTold, xm_Mo_otherTold, xm_Mo_endsLine, xm_Mo_runLine, xm_Mo_repliesLine, xm_Mo_sizeOf, xm_Mo_placeOf, xm_Mo_fault, xm_Mo_council, xm_Mo_isCouncil, xm_Mo_isMember, xm_Mo_delayOf, xm_Mo_orderAccount, xm_Mo_orderPlus, xm_Mo_tree, xm_Mo_laysSums, xm_Mo_differ, xm_Mo_seeks, xm_Mo_quorum, xm_Mo_isLiar, xm_Mo_bitsOf, xm_Mo_deed, xm_Mo_isRun, xm_Mo_stop, xm_Mo_goes, xm_Mo_begins, xm_Mo_does, xm_Mo_proposes, xm_Mo_isWithin, xm_Mo_at, xm_Mo_primaryOf, xm_Mo_accepts, xm_Mo_settles, xm_Mo_isPrepared, xm_Mo_words, xm_Mo_isWord]
def xMs_6 : List XM := [xm_Mo_runsOn, xm_Mo_canRun, xm_Mo_isCommitted, xm_Mo_runsOne, xm_Mo_checks, xm_Mo_rootOf, xm_Mo_counts, xm_Mo_cuts, xm_Mo_forgets, xm_Mo_marks, xm_Mo_fetches, xm_Mo_doubts, xm_Mo_makes, xm_Mo_merges, xm_Mo_orderBy, xm_Mo_entersView, xm_Mo_entersAlone, xm_Mo_state, xm_Mo_isState, xm_Mo_nowOf, xm_Mo_placeNow, xm_Mo_made, xm_Mo_unlike, xm_Mo_placesBy, xm_Mo_ranSo, xm_Mo_ranBy, xm_Mo_merged, xm_Mo_sure, xm_Mo_after, xm_Mo_honestBy, xm_Mo_isFull, xm_Mo_viewsMade, xm_Mo_certainOf, xm_Mo_wordsOf, xm_Mo_play, xm_Mo_plays, xm_Mo_playsPlace, xm_Mo_playsAccepts, xm_Mo_lowFrom, xm_Mo_later]
def xMs_7 : List XM := [xm_Mo_behindBy, xm_Mo_laysComes, xm_Mo_manyCome, xm_Mo_minuteOf, xm_Mo_pace, xm_Mo_sendsAll, xm_Mo_sends, xm_Mo_slowestOf, xm_Mo_doneOf, xm_Mo_tightOf, xm_Mo_lastDoneBy, xm_Mo_spareOf, xm_Mo_behind, xm_Mo_laysSheet, xm_Mo_runsSheet, xm_Mo_blind, xm_Mo_blindOf, xm_Mo_pathsOf, xm_Mo_reply, xm_Mo_isReplies, xm_Mo_match, xm_Mo_come, xm_Mo_tell, xm_Mo_suspects, xm_Mo_isOneBut, xm_Mo_voices, xm_Mo_lack, xm_Mo_drawn, xm_Mo_draws, xm_Mo_below, xm_Mo_count, xm_Mo_image, xm_Mo_again, xm_La_law]
/-- what each class is called: 0 to 12 the objects of the worlds, 13 the law, 14 on the machine's own -/
def xRs : List String := ["ThreePhases$Assembly", "ThreePhases$Council", "ThreePhases$Member", "ThreePhases$Merged", "ThreePhases$Reader", "ThreePhases$Replies", "ThreePhases$Run", "ThreePhases$Sums", "ThreePhases$Tally", "ThreePhases$Timetable", "ThreePhases$Told", "ThreePhases", "ThreePhasesModel", "ThreePhasesLaw", "java/lang/Integer", "java/lang/Math", "java/lang/String", "java/lang/StringLatin1", "java/lang/StringUTF16", "java/util/Arrays", "jdk/internal/util/Preconditions"]
def xR (k : Nat) : String := xRs.getD k ""
abbrev xCl : List vw_C := [(RX0, TX0, 7), (RX1, TX1, 9), (RX2, TX2, 18), (RX3, TX3, 5), (RX4, TX4, 13), (RX5, TX5, 4), (RX6, TX6, 5), (RX7, TX7, 4), (RX8, TX8, 8), (RX9, TX9, 8), (RX10, TX10, 8), (RX11, TX11, 10), (RX12, TX12, 61)]
def xT (k : Nat) : u_T := match k with
  | 0 => TX0
  | 1 => TX1
  | 2 => TX2
  | 3 => TX3
  | 4 => TX4
  | 5 => TX5
  | 6 => TX6
  | 7 => TX7
  | 8 => TX8
  | 9 => TX9
  | 10 => TX10
  | 11 => TX11
  | _ => TX12
def xTy (k : Nat) : Nat → FieldType := match k with
  | 0 => tyX0
  | 1 => tyX1
  | 2 => tyX2
  | 3 => tyX3
  | 4 => tyX4
  | 5 => tyX5
  | 6 => tyX6
  | 7 => tyX7
  | 8 => tyX8
  | 9 => tyX9
  | 10 => tyX10
  | 11 => tyX11
  | _ => tyX12
def xNs : List Nat := [7, 9, 18, 5, 13, 4, 5, 4, 8, 8, 8, 10, 61]
def xNf (k : Nat) : Nat := xNs.getD k 0
/-- a field's kind: 0 an int, 1 a boolean, 2 a reference -/
def xFks : List (List Nat) := [[2, 2, 2, 2, 0, 0, 0], [0, 0, 0, 0, 0, 2, 2, 2, 2], [0, 1, 0, 0, 0, 0, 0, 0, 2, 2, 2, 2, 2, 2, 2, 2, 2, 2], [1, 0, 0, 2, 2], [2, 2, 2, 0, 0, 2, 0, 0, 0, 0, 0, 0, 2], [0, 2, 2, 2], [0, 2, 2, 2, 2], [2, 2, 0, 0], [0, 0, 0, 0, 0, 0, 2, 2], [2, 0, 0, 2, 2, 2, 2, 2], [2, 0, 0, 0, 2, 2, 2, 2], [2, 2, 2, 2, 2, 2, 2, 2, 2, 2], [2, 2, 0, 0, 0, 0, 0, 0, 1, 0, 2, 0, 0, 0, 0, 0, 0, 0, 0, 2, 2, 0, 0, 2, 2, 2, 2, 2, 2, 2, 2, 2, 2, 2, 2, 2, 2, 2, 2, 2, 2, 2, 2, 0, 0, 0, 2, 0, 2, 2, 2, 2, 2, 0, 0, 2, 0, 2, 2, 0, 0]]
def xFk (ci k : Nat) : Nat := (xFks.getD ci []).getD k 9
/-- is it final? -/
def xFfs : List (List Bool) := [[true, true, true, true, false, false, false], [false, false, false, false, false, true, true, true, true], [false, false, false, false, false, false, false, false, true, true, true, true, true, true, true, true, true, true], [false, false, false, true, true], [true, true, true, false, false, true, false, false, false, false, false, false, true], [false, true, true, true], [false, true, true, true, true], [true, true, false, false], [false, false, false, false, false, false, true, true], [true, false, false, true, true, true, true, true], [true, false, false, false, true, true, true, true], [true, true, true, true, true, true, true, true, true, true], [true, true, false, false, false, false, false, false, false, false, true, false, false, false, false, false, false, false, false, true, true, false, false, true, true, true, true, true, true, true, true, true, true, true, true, true, true, true, true, true, true, true, true, false, false, false, true, false, true, true, true, true, true, false, false, true, false, true, true, false, false]]
def xFf (ci k : Nat) : Bool := (xFfs.getD ci []).getD k false
/-- a field as a class names it: its number, (class, field, place of the word) -/
def xF_0 : List (Nat × Nat × Nat × Nat) := [(11, 0, 0, 522), (20, 0, 1, 524), (26, 0, 2, 525), (33, 0, 3, 526), (37, 0, 4, 527), (41, 0, 5, 528), (61, 1, 3, 201), (65, 6, 0, 246), (70, 6, 1, 249), (74, 6, 2, 251), (77, 6, 3, 253), (80, 6, 4, 255), (93, 0, 6, 529), (141, 2, 1, 425), (145, 1, 4, 208), (154, 2, 0, 423), (160, 2, 10, 442), (171, 2, 11, 444), (181, 2, 12, 446), (187, 2, 3, 430), (193, 2, 8, 438), (200, 2, 15, 454), (203, 1, 2, 198), (213, 2, 5, 434), (215, 2, 9, 440), (222, 2, 16, 456), (225, 2, 17, 458), (232, 2, 2, 428), (237, 2, 4, 432), (240, 7, 2, 405), (244, 3, 0, 503), (259, 3, 1, 505), (265, 3, 2, 507), (268, 3, 3, 509), (280, 1, 0, 188), (299, 2, 13, 449), (302, 2, 14, 452)]
def xF_1 : List (Nat × Nat × Nat × Nat) := [(9, 1, 0, 183), (15, 1, 1, 189), (18, 1, 2, 194), (21, 1, 5, 209), (25, 1, 6, 213), (28, 1, 7, 214), (33, 1, 8, 215), (36, 1, 3, 199), (39, 1, 4, 204)]
def xF_2 : List (Nat × Nat × Nat × Nat) := [(9, 2, 8, 437), (15, 2, 9, 439), (18, 2, 10, 441), (21, 2, 11, 443), (24, 2, 12, 445), (27, 2, 13, 447), (30, 2, 14, 450), (33, 2, 15, 453), (36, 2, 16, 455), (39, 2, 17, 457), (42, 2, 0, 422), (46, 2, 1, 424), (50, 2, 2, 426), (53, 2, 3, 429), (56, 2, 4, 431), (59, 2, 5, 433), (68, 2, 6, 435), (70, 1, 1, 191), (73, 2, 7, 436), (74, 1, 5, 210)]
def xF_3 : List (Nat × Nat × Nat × Nat) := [(9, 3, 3, 508), (15, 3, 4, 510), (18, 3, 0, 501), (22, 3, 1, 504), (26, 3, 2, 506), (35, 2, 2, 427), (46, 2, 13, 448), (47, 2, 14, 451)]
def xF_4 : List (Nat × Nat × Nat × Nat) := [(12, 4, 0, 337), (21, 4, 1, 339), (28, 4, 2, 341), (32, 4, 4, 345), (36, 4, 5, 347), (40, 4, 12, 354), (56, 4, 6, 348), (59, 4, 3, 343), (62, 4, 11, 353), (68, 6, 0, 245), (71, 5, 0, 274), (72, 4, 9, 351), (78, 4, 7, 349), (85, 4, 8, 350), (112, 4, 10, 352), (175, 1, 4, 207), (191, 1, 0, 186), (193, 1, 1, 193), (195, 1, 2, 197), (197, 1, 3, 203), (203, 1, 5, 211), (209, 1, 8, 217)]
def xF_5 : List (Nat × Nat × Nat × Nat) := [(9, 5, 1, 276), (15, 5, 2, 278), (18, 5, 3, 280), (21, 5, 0, 272)]
def xF_6 : List (Nat × Nat × Nat × Nat) := [(9, 6, 1, 248), (15, 6, 2, 250), (18, 6, 3, 252), (21, 6, 4, 254), (24, 6, 0, 244)]
def xF_7 : List (Nat × Nat × Nat × Nat) := [(9, 7, 0, 400), (15, 7, 1, 402), (22, 7, 2, 403), (26, 7, 3, 406)]
def xF_8 : List (Nat × Nat × Nat × Nat) := [(9, 8, 6, 598), (15, 8, 7, 599), (18, 8, 0, 588), (22, 8, 1, 590), (25, 8, 2, 592), (28, 8, 3, 594), (31, 1, 0, 184), (36, 8, 4, 596), (41, 8, 5, 597), (50, 5, 0, 273), (55, 5, 1, 277), (61, 5, 2, 279), (62, 5, 3, 281)]
def xF_9 : List (Nat × Nat × Nat × Nat) := [(11, 9, 0, 554), (16, 9, 3, 560), (19, 9, 4, 561), (22, 9, 5, 562), (25, 9, 6, 563), (32, 9, 7, 564), (40, 1, 1, 190), (44, 1, 3, 200), (47, 9, 1, 556), (50, 9, 2, 558), (64, 1, 4, 205), (100, 1, 8, 216), (110, 1, 2, 196), (129, 1, 0, 187)]
def xF_10 : List (Nat × Nat × Nat × Nat) := [(9, 10, 0, 291), (15, 10, 3, 297), (19, 10, 4, 299), (25, 10, 5, 301), (31, 10, 6, 303), (37, 10, 7, 305), (44, 10, 1, 294), (47, 4, 0, 338), (57, 4, 1, 340), (64, 4, 2, 342), (76, 10, 2, 296)]
def xF_11 : List (Nat × Nat × Nat × Nat) := [(10, 11, 0, 621), (16, 11, 1, 622), (20, 11, 2, 623), (27, 11, 3, 624), (34, 11, 4, 625), (41, 11, 5, 626), (48, 11, 6, 627), (55, 11, 7, 628), (62, 11, 8, 629), (66, 11, 9, 630), (69, 10, 1, 293), (77, 10, 2, 295), (80, 10, 3, 298), (83, 10, 4, 300), (90, 10, 0, 292), (98, 4, 3, 344), (99, 4, 4, 346), (104, 10, 5, 302), (108, 1, 0, 185), (113, 1, 1, 192), (116, 1, 2, 195), (119, 1, 3, 202), (122, 1, 4, 206), (129, 10, 6, 304), (133, 6, 0, 247), (151, 0, 0, 523), (155, 3, 0, 502), (198, 1, 5, 212), (201, 7, 0, 401), (214, 7, 2, 404), (217, 7, 3, 407), (233, 9, 0, 555), (238, 10, 7, 306), (242, 5, 0, 275), (249, 8, 0, 589), (252, 8, 1, 591), (255, 8, 2, 593), (309, 9, 1, 557), (312, 9, 2, 559), (347, 8, 3, 595)]
def xF_12 : List (Nat × Nat × Nat × Nat) := [(7, 12, 0, 1451), (13, 12, 1, 1452), (17, 12, 10, 1461), (20, 12, 19, 1470), (23, 12, 20, 1471), (26, 12, 23, 1474), (29, 12, 24, 1475), (32, 12, 25, 1476), (35, 12, 26, 1477), (38, 12, 27, 1478), (41, 12, 28, 1479), (44, 12, 29, 1480), (47, 12, 30, 1481), (50, 12, 31, 1482), (53, 12, 32, 1483), (56, 12, 33, 1484), (59, 12, 34, 1485), (62, 12, 35, 1486), (65, 12, 36, 1487), (68, 12, 37, 1488), (71, 12, 38, 1489), (74, 12, 39, 1490), (77, 12, 40, 1491), (80, 12, 41, 1492), (83, 12, 42, 1493), (86, 12, 46, 1497), (89, 12, 48, 1499), (92, 12, 49, 1500), (95, 12, 50, 1501), (98, 12, 51, 1502), (101, 12, 52, 1503), (104, 12, 55, 1506), (107, 12, 57, 1508), (110, 12, 58, 1509), (113, 12, 2, 1453), (127, 12, 3, 1454), (134, 12, 4, 1455), (137, 12, 5, 1456), (152, 12, 7, 1458), (158, 12, 6, 1457), (161, 12, 8, 1459), (183, 12, 9, 1460), (225, 12, 11, 1462), (228, 12, 12, 1463), (231, 12, 13, 1464), (234, 12, 14, 1465), (237, 12, 15, 1466), (240, 12, 16, 1467), (243, 12, 17, 1468), (246, 12, 18, 1469), (268, 12, 21, 1472), (271, 12, 22, 1473), (283, 12, 43, 1494), (334, 12, 44, 1495), (337, 12, 45, 1496), (373, 12, 47, 1498), (453, 12, 53, 1504), (456, 12, 54, 1505), (492, 12, 56, 1507), (498, 12, 59, 1510), (510, 12, 60, 1511)]
def xF_13 : List (Nat × Nat × Nat × Nat) := []
def xF_14 : List (Nat × Nat × Nat × Nat) := []
def xF_15 : List (Nat × Nat × Nat × Nat) := []
def xF_16 : List (Nat × Nat × Nat × Nat) := []
def xF_17 : List (Nat × Nat × Nat × Nat) := []
def xF_18 : List (Nat × Nat × Nat × Nat) := []
def xF_19 : List (Nat × Nat × Nat × Nat) := []
def xF_20 : List (Nat × Nat × Nat × Nat) := []
def xFs : List (List (Nat × Nat × Nat × Nat)) := [xF_0, xF_1, xF_2, xF_3, xF_4, xF_5, xF_6, xF_7, xF_8, xF_9, xF_10, xF_11, xF_12, xF_13, xF_14, xF_15, xF_16, xF_17, xF_18, xF_19, xF_20]
def xFld (ow ix : Nat) : Option (Nat × Nat × Nat) := (xFs.getD ow []).lookup ix
/-- a method as a class names it: its number, (kind of call, method, place of the word); kinds: 0 static, 1 virtual, 2 a constructor, 3 a nest mate's static, 4 Object's constructor, 5 arraycopy, 6 Math.max, 7 Math.min -/
def xC_0 : List (Nat × Nat × Nat × Nat) := [(3, 4, 0, 387), (19, 2, 2, 391), (32, 2, 7, 396), (44, 2, 8, 418), (45, 2, 9, 497), (46, 1, 46, 894), (50, 1, 44, 895), (53, 1, 59, 896), (55, 1, 60, 900), (58, 1, 62, 911), (64, 1, 58, 890), (83, 1, 63, 916), (87, 7, 0, 1055), (96, 1, 148, 1291), (100, 0, 149, 1296), (104, 1, 64, 920), (108, 1, 65, 924), (112, 1, 74, 962), (115, 1, 83, 998), (119, 1, 84, 1003), (122, 1, 89, 1025), (125, 1, 66, 928), (128, 1, 90, 1029), (131, 1, 92, 1037), (134, 1, 93, 1042), (138, 1, 94, 1046), (148, 1, 67, 932), (151, 1, 69, 939), (157, 1, 70, 943), (163, 1, 71, 947), (167, 1, 72, 951), (174, 3, 86, 1012), (177, 1, 91, 1033), (184, 1, 76, 1041), (190, 1, 75, 966), (196, 1, 77, 974), (206, 1, 78, 978), (210, 1, 81, 990), (218, 3, 47, 982), (228, 1, 79, 983), (235, 1, 95, 1050), (241, 1, 61, 1002), (247, 0, 73, 1007), (252, 1, 85, 1008), (256, 1, 88, 1020), (262, 1, 82, 1024), (270, 1, 87, 1015), (274, 1, 99, 1068), (277, 1, 107, 1103), (283, 6, 0, 1115), (286, 1, 113, 1317), (289, 1, 153, 1313), (293, 1, 104, 1318), (296, 1, 160, 1343), (305, 0, 163, 1355)]
def xC_1 : List (Nat × Nat × Nat × Nat) := [(3, 4, 0, 180), (42, 0, 19, 686), (48, 3, 47, 842), (52, 5, 0, 846), (58, 1, 44, 873), (62, 1, 53, 869), (66, 3, 86, 1171), (70, 0, 73, 1133), (76, 1, 59, 1134), (79, 1, 113, 1129), (82, 1, 77, 1388)]
def xC_2 : List (Nat × Nat × Nat × Nat) := [(3, 4, 0, 421), (62, 1, 59, 904), (75, 3, 47, 905), (79, 1, 61, 906), (83, 0, 19, 910), (89, 3, 68, 936), (93, 1, 69, 955), (96, 0, 73, 956), (102, 1, 76, 970), (105, 1, 82, 994), (108, 1, 100, 1072), (112, 1, 75, 1076)]
def xC_3 : List (Nat × Nat × Nat × Nat) := [(3, 4, 0, 500), (29, 0, 19, 915), (40, 6, 0, 1019), (50, 3, 68, 1093), (54, 0, 102, 1088), (57, 1, 104, 1089)]
def xC_4 : List (Nat × Nat × Nat × Nat) := [(3, 4, 0, 330), (11, 2, 2, 332), (20, 2, 3, 334), (27, 2, 4, 336), (44, 5, 0, 676), (50, 7, 0, 679), (65, 1, 18, 682), (75, 1, 20, 689), (81, 1, 25, 707), (88, 1, 44, 830), (92, 1, 37, 793), (96, 1, 26, 711), (100, 1, 36, 789), (103, 0, 19, 797), (115, 1, 38, 800), (119, 1, 40, 811), (126, 0, 27, 717), (130, 1, 28, 737), (167, 1, 29, 741), (171, 1, 31, 751), (184, 0, 39, 808), (187, 1, 41, 815), (200, 6, 0, 819), (206, 1, 42, 822), (213, 1, 43, 826), (216, 0, 21, 693), (220, 1, 22, 696), (223, 0, 23, 700), (226, 1, 24, 703)]
def xC_5 : List (Nat × Nat × Nat × Nat) := [(3, 4, 0, 271), (25, 5, 0, 856)]
def xC_6 : List (Nat × Nat × Nat × Nat) := [(3, 4, 0, 243), (28, 5, 0, 851)]
def xC_7 : List (Nat × Nat × Nat × Nat) := [(3, 4, 0, 399), (18, 0, 80, 987), (29, 3, 86, 1054)]
def xC_8 : List (Nat × Nat × Nat × Nat) := [(3, 4, 0, 587), (37, 1, 44, 1245), (44, 0, 19, 1246), (57, 1, 53, 1247), (63, 1, 138, 1248), (67, 1, 139, 1252), (71, 1, 140, 1256), (75, 0, 73, 1260), (80, 3, 86, 1261), (84, 6, 0, 1262), (90, 1, 143, 1271)]
def xC_9 : List (Nat × Nat × Nat × Nat) := [(3, 4, 0, 550), (31, 2, 2, 553), (36, 1, 46, 1164), (54, 0, 19, 1166), (60, 1, 120, 1167), (67, 1, 121, 1172), (71, 1, 124, 1186), (74, 1, 128, 1203), (77, 1, 129, 1207), (80, 1, 131, 1215), (83, 6, 0, 1176), (89, 1, 122, 1177), (92, 0, 123, 1182), (96, 1, 44, 1185), (103, 1, 125, 1190), (107, 1, 126, 1194), (113, 1, 130, 1211), (116, 1, 59, 1198), (119, 1, 127, 1199), (122, 7, 0, 1181), (125, 1, 132, 1219), (132, 1, 166, 1367), (135, 1, 119, 1366)]
def xC_10 : List (Nat × Nat × Nat × Nat) := [(3, 4, 0, 169), (41, 2, 2, 177), (42, 2, 3, 240), (43, 2, 4, 268), (53, 1, 46, 838), (61, 1, 48, 847), (67, 1, 49, 852), (70, 5, 0, 1440)]
def xC_11 : List (Nat × Nat × Nat × Nat) := [(1, 4, 0, 161), (9, 2, 1, 166), (26, 2, 5, 327), (33, 2, 6, 384), (40, 2, 10, 547), (47, 2, 11, 584), (54, 2, 7, 618), (61, 2, 9, 620), (73, 1, 13, 656), (86, 1, 16, 668), (94, 1, 17, 672), (100, 1, 45, 834), (125, 1, 52, 865), (138, 1, 55, 878), (142, 1, 57, 886), (146, 1, 97, 1060), (150, 1, 98, 1064), (159, 0, 102, 1081), (163, 1, 103, 1084), (165, 1, 56, 1098), (168, 1, 106, 1099), (172, 1, 108, 1107), (175, 1, 109, 1111), (178, 1, 110, 1116), (181, 1, 59, 1124), (184, 1, 112, 1125), (187, 1, 114, 1135), (190, 1, 44, 1139), (193, 0, 73, 1140), (204, 0, 80, 1145), (208, 0, 47, 1150), (211, 1, 95, 1151), (220, 0, 117, 1152), (224, 1, 53, 1159), (226, 1, 119, 1160), (230, 1, 122, 1223), (245, 1, 134, 1229), (246, 1, 136, 1237), (258, 1, 142, 1267), (261, 1, 144, 1275), (264, 1, 145, 1279), (267, 1, 147, 1287), (270, 1, 85, 1303), (274, 0, 68, 1308), (277, 1, 152, 1309), (281, 1, 154, 1319), (284, 1, 156, 1327), (287, 1, 157, 1331), (290, 1, 158, 1335), (293, 1, 159, 1339), (296, 1, 161, 1347), (299, 1, 162, 1351), (302, 1, 165, 1362), (306, 1, 167, 1371), (315, 1, 168, 1375), (318, 1, 166, 1379), (321, 1, 170, 1384), (325, 1, 79, 1389), (329, 1, 172, 1394), (332, 1, 173, 1399), (335, 1, 175, 1407), (338, 1, 140, 1415), (341, 1, 178, 1420), (344, 1, 179, 1424), (350, 1, 182, 1436), (354, 1, 137, 1241), (358, 1, 77, 1398), (361, 1, 174, 1403), (365, 5, 0, 845)]
def xC_12 : List (Nat × Nat × Nat × Nat) := [(1, 4, 0, 1450), (117, 0, 195, 1674), (123, 0, 194, 1671), (130, 1, 191, 1659), (140, 0, 192, 1663), (148, 0, 193, 1668), (155, 0, 196, 1678), (165, 1, 199, 1689), (168, 0, 188, 1648), (172, 1, 201, 1697), (176, 1, 190, 1655), (179, 1, 200, 1693), (186, 1, 202, 1701), (190, 1, 205, 1713), (193, 1, 198, 1685), (196, 1, 203, 1705), (200, 1, 204, 1709), (203, 1, 206, 1717), (206, 1, 189, 1651), (210, 1, 197, 1681), (213, 1, 207, 1721), (216, 1, 208, 1725), (219, 0, 209, 1729), (222, 0, 210, 1732), (249, 1, 213, 1743), (252, 1, 214, 1747), (255, 1, 215, 1751), (258, 1, 216, 1755), (261, 1, 217, 1759), (264, 0, 219, 1767), (274, 1, 221, 1774), (277, 1, 223, 1782), (280, 0, 224, 1786), (286, 0, 233, 1821), (289, 1, 237, 1836), (292, 1, 248, 1880), (295, 1, 234, 1824), (298, 1, 236, 1832), (301, 1, 232, 1817), (304, 1, 235, 1828), (308, 1, 239, 1844), (312, 1, 247, 1876), (315, 1, 245, 1868), (319, 1, 246, 1872), (322, 1, 244, 1864), (325, 1, 242, 1856), (328, 1, 241, 1852), (331, 1, 243, 1860), (340, 1, 254, 1904), (343, 1, 253, 1900), (346, 1, 255, 1908), (349, 1, 231, 1813), (352, 1, 238, 1840), (355, 1, 240, 1848), (358, 1, 249, 1884), (361, 1, 250, 1888), (364, 1, 251, 1892), (367, 1, 252, 1896), (370, 1, 256, 1912), (376, 1, 226, 1793), (379, 1, 229, 1805), (382, 1, 230, 1809), (386, 1, 228, 1801), (389, 1, 260, 1928), (393, 1, 258, 1920), (396, 1, 259, 1924), (399, 1, 264, 1944), (402, 1, 263, 1940), (406, 1, 265, 1948), (409, 1, 270, 1968), (412, 1, 269, 1964), (415, 1, 271, 1972), (418, 1, 272, 1976), (421, 1, 273, 1980), (425, 1, 278, 2001), (428, 0, 279, 2005), (431, 0, 280, 2008), (434, 1, 277, 1997), (437, 1, 281, 2011), (441, 1, 282, 2015), (444, 1, 276, 1993), (447, 1, 275, 1988), (450, 0, 283, 2019), (459, 1, 286, 2030), (462, 1, 288, 2038), (465, 1, 290, 2046), (468, 1, 285, 2026), (471, 1, 287, 2034), (474, 1, 289, 2042), (477, 1, 291, 2050), (480, 1, 293, 2058), (483, 1, 294, 2062), (486, 1, 296, 2070), (489, 1, 297, 2074), (495, 1, 299, 2082), (501, 1, 301, 2090), (504, 1, 302, 2094), (507, 1, 304, 2102), (514, 1, 309, 2122), (517, 1, 308, 2118)]
def xC_13 : List (Nat × Nat × Nat × Nat) := [(9, 2, 0, 158), (12, 2, 184, 1447), (13, 1, 12, 652), (17, 1, 185, 1636), (18, 1, 14, 660), (22, 1, 186, 1640), (23, 1, 15, 664), (27, 1, 187, 1644), (28, 1, 50, 857), (31, 1, 211, 1735), (32, 1, 51, 861), (35, 1, 212, 1739), (36, 1, 54, 874), (40, 1, 225, 1789), (41, 1, 56, 882), (44, 1, 227, 1797), (45, 1, 96, 1056), (48, 1, 257, 1916), (49, 1, 101, 1077), (52, 1, 261, 1932), (53, 1, 105, 1094), (56, 1, 262, 1936), (57, 1, 111, 1120), (60, 1, 222, 1778), (61, 1, 115, 1141), (64, 1, 218, 1763), (65, 1, 116, 1146), (68, 1, 220, 1770), (69, 1, 118, 1155), (73, 1, 274, 1984), (74, 1, 133, 1225), (77, 1, 298, 2078), (78, 1, 135, 1233), (81, 1, 300, 2086), (82, 1, 141, 1263), (85, 1, 303, 2098), (86, 1, 146, 1283), (89, 1, 307, 2114), (90, 1, 150, 1299), (93, 1, 266, 1952), (94, 1, 151, 1304), (98, 1, 267, 1956), (99, 1, 155, 1323), (102, 1, 268, 1960), (103, 1, 164, 1358), (106, 1, 284, 2022), (107, 1, 169, 1380), (110, 1, 292, 2054), (111, 1, 171, 1390), (114, 1, 295, 2066), (115, 1, 176, 1411), (118, 1, 305, 2106), (119, 1, 177, 1416), (122, 1, 306, 2110), (123, 1, 180, 1428), (126, 1, 310, 2127), (127, 1, 181, 1432), (131, 1, 311, 2131), (132, 1, 183, 1441), (135, 1, 312, 2135)]
def xC_14 : List (Nat × Nat × Nat × Nat) := []
def xC_15 : List (Nat × Nat × Nat × Nat) := []
def xC_16 : List (Nat × Nat × Nat × Nat) := [(335, 1, 30, 745), (492, 1, 32, 755), (495, 0, 33, 759), (1059, 0, 35, 767)]
def xC_17 : List (Nat × Nat × Nat × Nat) := [(9, 0, 34, 762)]
def xC_18 : List (Nat × Nat × Nat × Nat) := [(414, 0, 34, 779)]
def xC_19 : List (Nat × Nat × Nat × Nat) := []
def xC_20 : List (Nat × Nat × Nat × Nat) := []
def xCs : List (List (Nat × Nat × Nat × Nat)) := [xC_0, xC_1, xC_2, xC_3, xC_4, xC_5, xC_6, xC_7, xC_8, xC_9, xC_10, xC_11, xC_12, xC_13, xC_14, xC_15, xC_16, xC_17, xC_18, xC_19, xC_20]
def xCal (ow ix : Nat) : Option (Nat × Nat × Nat) := (xCs.getD ow []).lookup ix
def xMs : List XM := xMs_0 ++ (xMs_1 ++ (xMs_2 ++ (xMs_3 ++ (xMs_4 ++ (xMs_5 ++ (xMs_6 ++ (xMs_7)))))))
/-- a class as a class names it: its number, (class, place of the word); 29 is [[I -/
def xKs : List (List (Nat × Nat × Nat)) := [[(9, 3, 388), (17, 1, 390), (24, 2, 392), (30, 7, 394)], [(31, 29, 181)], [], [], [(9, 1, 331), (18, 6, 333), (25, 5, 335)], [], [], [], [], [(9, 29, 551), (29, 1, 552)], [(23, 1, 170), (29, 6, 172), (35, 5, 174)], [(7, 10, 164), (24, 4, 325), (31, 0, 382), (38, 9, 545), (45, 8, 582), (52, 7, 617), (59, 3, 619)], [], [(7, 11, 156), (10, 12, 1445)], [], [], [], [], [], [], []]
def xKl (ow ix : Nat) : Option (Nat × Nat) := (xKs.getD ow []).lookup ix
/-- the kind of an array of objects of a class -/
def xAk (ci : Nat) : Nat := match ci with
  | 1 => 26
  | 2 => 24
  | 3 => 23
  | 5 => 28
  | 6 => 27
  | 10 => 25
  | _ => 99
/-- the class of the objects that an array of a kind holds -/
def xAe (k : Nat) : Nat := match k with
  | 23 => 3
  | 24 => 2
  | 25 => 10
  | 26 => 1
  | 27 => 6
  | 28 => 5
  | _ => 99
/-- int constants: number, (value, place of the word) -/
def xNums : List (List (Nat × Int32 × Nat)) := [[(103, 1103515245, 1295)], [], [], [], [], [], [], [], [], [(53, 1000000, 1165)], [], [(237, 1000000, 1224)], [(424, 99999999, 1992), (513, 1103515245, 2126)], [], [(265, 1431655765, 959), (266, 858993459, 960), (267, 252645135, 961)], [], [], [], [], [], []]
def xNum (ow ix : Nat) : Option (Int32 × Nat) := (xNums.getD ow []).lookup ix
def xLngs : List (List (Nat × Int64 × Nat)) := [[], [], [], [], [], [], [], [], [], [], [], [], [(121, 1048576, 1677), (144, 32, 1666), (146, 96, 1667)], [], [], [], [], [], [], [], []]
def xLng (ow ix : Nat) : Option (Int64 × Nat) := (xLngs.getD ow []).lookup ix
/-- the texts: (number in ThreePhases$Reader, text) -/
def xTx : List (Nat × String) := [(134, "faults"), (136, "window"), (138, "step"), (140, "liar"), (142, "account"), (144, "order"), (146, "delay"), (148, "propose"), (150, "prepare"), (152, "commit"), (154, "run"), (155, "mark"), (157, "fetch"), (159, "doubt"), (161, "view"), (163, "enter"), (165, "reply")]
def xTxt (ow ix : Nat) : Option Nat := if ow = 4 then xTx.findIdx? (fun e => e.1 == ix) else none
def xTb : List (List Int32) := [[102, 97, 117, 108, 116, 115], [119, 105, 110, 100, 111, 119], [115, 116, 101, 112], [108, 105, 97, 114], [97, 99, 99, 111, 117, 110, 116], [111, 114, 100, 101, 114], [100, 101, 108, 97, 121], [112, 114, 111, 112, 111, 115, 101], [112, 114, 101, 112, 97, 114, 101], [99, 111, 109, 109, 105, 116], [114, 117, 110], [109, 97, 114, 107], [102, 101, 116, 99, 104], [100, 111, 117, 98, 116], [118, 105, 101, 119], [101, 110, 116, 101, 114], [114, 101, 112, 108, 121]]
/-- static fields: number, (which, place of the word): 1 to 4 the reader's tables, 5 COMPACT_STRINGS, 6 the formatter -/
def xSts : List (List (Nat × Nat × Nat)) := [[], [], [], [], [(109, 2, 798), (123, 1, 715), (178, 3, 804), (181, 4, 806)], [], [], [], [], [], [], [], [], [], [], [], [(38, 5, 749), (1053, 6, 765)], [], [], [], []]
def xSt (ow ix : Nat) : Option (Nat × Nat) := (xSts.getD ow []).lookup ix
/-- the fields of a text: number, (0 value, 1 coder; place of the word) -/
def xTf (ow ix : Nat) : Option (Nat × Nat) := if ow = 16 then ([(9, 0, 2139), (15, 1, 2140)] : List (Nat × Nat × Nat)).lookup ix else none
end
section
def xw : List Cond := lw_tbl.filter goodWord
theorem xw_of {i : Nat} {w : Cond} (h : lw_tbl[i]? = some w) (hg : goodWord w = true) : w ∈ xw := List.mem_filter.mpr ⟨List.mem_of_getElem? h, hg⟩
theorem xw_good : GoodIn lw_tbl xw := fun w h => ⟨(List.mem_filter.mp h).1, good_of_word (List.mem_filter.mp h).2⟩
theorem xw_self {y : Cond} : GoodIn (y :: xw) xw := fun w h => ⟨List.mem_cons_of_mem _ h, good_of_word (List.mem_filter.mp h).2⟩
theorem x_lookup {α : Type} {k : Nat} {v : α} : ∀ {l : List (Nat × α)}, l.lookup k = some v → (k, v) ∈ l
  | [], h => by simp at h
  | (a, b) :: l, h => by
    rw [List.lookup_cons] at h
    by_cases e : k = a
    · subst e
      rw [show (k == k) = true by simp] at h
      cases h
      exact List.mem_cons_self
    · rw [show (k == a) = false by simpa using e] at h
      exact List.mem_cons_of_mem _ (x_lookup h)
/-- the reader's tables -/
def xTab : List (List Int32) := [[], [0, 7, 16, 17], [1, 1, 1, 1, 2, 2, 3, 3, 3, 3, 1, 2, 2, 1, 1, 1, 3], [0, 0, 0, 1, 0, 0, 1, 0, 0, 0, 0, 0, 0, 0, 0, 0, 0, 0, 0, 0, 1, 0, 1, 0, 0, 0, 1, 0, 0, 1, 0, 0, 0, 0, 0, 0, 0, 0, 0, 0, 0, 0, 0, 0, 0, 0, 0, 0, 0, 0, 0], [2, 0, 0, 9, 0, 0, 4, 0, 0, 6, 0, 0, 7, 99, 0, 7, 99, 0, 6, 6, 9, 6, 12, 9, 6, 6, 12, 6, 6, 12, 6, 0, 0, 6, 6, 0, 6, 6, 0, 6, 0, 0, 6, 0, 0, 6, 0, 0, 6, 9, 99]]
def xTabN : List String := ["", "FIRST_LINES", "NUMBERS", "LEAST", "MOST"]
def xTl : List Nat := [6, 6, 4, 4, 7, 5, 5, 7, 7, 6, 3, 4, 5, 5, 4, 5, 5]
/-- the nest mates' words -/
def xNest : List (Nat × Nat × MethodName) := [(0, 174, ⟨"ThreePhases", "hasBit", "(II)Z"⟩), (0, 218, ⟨"ThreePhases", "copyAccounts", "([I[I)V"⟩), (1, 48, ⟨"ThreePhases", "copyAccounts", "([I[I)V"⟩), (1, 66, ⟨"ThreePhases", "hasBit", "(II)Z"⟩), (2, 75, ⟨"ThreePhases", "copyAccounts", "([I[I)V"⟩), (2, 89, ⟨"ThreePhases", "isPlace", "(I)Z"⟩), (3, 50, ⟨"ThreePhases", "isPlace", "(I)Z"⟩), (7, 29, ⟨"ThreePhases", "hasBit", "(II)Z"⟩), (8, 80, ⟨"ThreePhases", "hasBit", "(II)Z"⟩)]
def xAos : List String := ["ThreePhases$Merged", "ThreePhases$Member", "ThreePhases$Told", "ThreePhases$Council", "ThreePhases$Run", "ThreePhases$Replies"]
end
section
/-! facts of the tables, checked by the kernel -/
def xLen (i : Instr) : Nat := match i with
  | .bipush _ | .ldc _ | .iload _ | .aload _ | .istore _ | .astore _ | .newarray _ => 2
  | .sipush _ | .ldc_w _ | .ldc2_w _ | .iinc _ _ | .ifCond _ _ | .if_icmp _ _ | .goto _ | .getfield _ | .putfield _ | .getstatic _ | .new _ | .anewarray _ | .invokevirtual _ | .invokespecial _ | .invokestatic _ => 3
  | .multianewarray _ _ => 4
  | .tableswitch _ _ _ _ => 0
  | .lookupswitch _ _ => 0
  | _ => 1
def xRoomC (m : XM) (ix : Nat) : Bool := match xCal (xmOwn m) ix with
  | none => true
  | some (k, j, _) => if k = 4 then decide (1 ≤ xmFr m) && decide (20 ≤ xmLo m) else if k = 5 then decide (1 ≤ xmFr m) && decide (26 ≤ xmLo m) else if k = 6 ∨ k = 7 then decide (1 ≤ xmFr m) && decide (21 ≤ xmLo m) else (match xMs[j]? with
    | some c => decide (xmFr c + 1 ≤ xmFr m) && decide (8 + (xmL c + 11) + xmLo c ≤ xmLo m)
    | none => true)
def xRoomI (m : XM) (i : Instr) : Bool := match i with
  | .invokevirtual ix => xRoomC m ix
  | .invokespecial ix => xRoomC m ix
  | .invokestatic ix => xRoomC m ix
  | _ => true
def xOkb (m : XM) : Bool := (xmT m).all (fun e => (xLen e.2.1 == 0 || e.2.2 == xLen e.2.1) && xRoomI m e.2.1) && decide (xmOwn m < 21) && (xmOwn m != 13 || xmY m == ⟨"ThreePhasesLaw", "law", "([I)Z"⟩)
set_option maxRecDepth 100000 in
theorem xOkb_0 : xMs_0.all xOkb = true := by decide +kernel
theorem xDec_0 : ∀ m ∈ xMs_0, ∀ e ∈ xmT m, decode (xmC m) e.1 = .ok e.2 := List.forall_mem_cons.mpr ⟨tk_TP_new, List.forall_mem_cons.mpr ⟨tk_To_new, List.forall_mem_cons.mpr ⟨tk_Co_new, List.forall_mem_cons.mpr ⟨tk_Ru_new, List.forall_mem_cons.mpr ⟨tk_Rp_new, List.forall_mem_cons.mpr ⟨tk_Re_new, List.forall_mem_cons.mpr ⟨tk_As_new, List.forall_mem_cons.mpr ⟨tk_Su_new, List.forall_mem_cons.mpr ⟨tk_Me_new, List.forall_mem_cons.mpr ⟨tk_Mg_new, List.forall_mem_cons.mpr ⟨tk_Tt_new, List.forall_mem_cons.mpr ⟨tk_Ta_new, List.forall_mem_cons.mpr ⟨tk_TP_feed, List.forall_mem_cons.mpr ⟨tk_To_write, List.forall_mem_cons.mpr ⟨tk_TP_end, List.forall_mem_cons.mpr ⟨tk_TP_text, List.forall_mem_cons.mpr ⟨tk_To_has, List.forall_mem_cons.mpr ⟨tk_Re_read, List.forall_mem_cons.mpr ⟨tk_Co_clear, List.forall_mem_cons.mpr ⟨tk_ja_fill, List.forall_mem_cons.mpr ⟨tk_Re_next, List.forall_mem_cons.mpr ⟨tk_Re_isLetter, List.forall_mem_cons.mpr ⟨tk_Re_readWord, List.forall_mem_cons.mpr ⟨tk_Re_isDigit, List.forall_mem_cons.mpr ⟨tk_Re_readNumber, List.forall_mem_cons.mpr ⟨tk_Re_readLine, List.forall_mem_cons.mpr ⟨tk_Re_lineOf, List.forall_mem_cons.mpr ⟨tk_Re_wordOf, List.forall_mem_cons.mpr ⟨tk_Re_isWord, List.forall_mem_cons.mpr ⟨tk_js_length, List.forall_mem_cons.mpr ⟨tk_js_coder, List.forall_mem_cons.mpr ⟨tk_js_charAt, List.forall_mem_cons.mpr ⟨tk_js_isLatin1, List.forall_mem_cons.mpr ⟨tk_jl_charAt, List.forall_mem_cons.mpr ⟨tk_js_checkIndex, List.forall_mem_cons.mpr ⟨tk_jp_checkIndex, List.forall_mem_cons.mpr ⟨tk_Re_isFull, List.forall_mem_cons.mpr ⟨tk_Re_note, List.forall_mem_cons.mpr ⟨tk_Re_mayBe, List.forall_mem_cons.mpr ⟨tk_Re_tellsTwoMembers, fun _ h => absurd h List.not_mem_nil⟩⟩⟩⟩⟩⟩⟩⟩⟩⟩⟩⟩⟩⟩⟩⟩⟩⟩⟩⟩⟩⟩⟩⟩⟩⟩⟩⟩⟩⟩⟩⟩⟩⟩⟩⟩⟩⟩⟩⟩
set_option maxRecDepth 100000 in
theorem xOkb_1 : xMs_1.all xOkb = true := by decide +kernel
theorem xDec_1 : ∀ m ∈ xMs_1, ∀ e ∈ xmT m, decode (xmC m) e.1 = .ok e.2 := List.forall_mem_cons.mpr ⟨tk_Re_keep, List.forall_mem_cons.mpr ⟨tk_Rp_add, List.forall_mem_cons.mpr ⟨tk_Co_addOrder, List.forall_mem_cons.mpr ⟨tk_Ru_add, List.forall_mem_cons.mpr ⟨tk_Co_members, List.forall_mem_cons.mpr ⟨tk_To_put, List.forall_mem_cons.mpr ⟨tk_Co_take, List.forall_mem_cons.mpr ⟨tk_TP_copyAccounts, List.forall_mem_cons.mpr ⟨tk_Ru_take, List.forall_mem_cons.mpr ⟨tk_Rp_take, List.forall_mem_cons.mpr ⟨tk_TP_fault, List.forall_mem_cons.mpr ⟨tk_TP_council, List.forall_mem_cons.mpr ⟨tk_Co_detail, List.forall_mem_cons.mpr ⟨tk_Co_has, List.forall_mem_cons.mpr ⟨tk_TP_deed, List.forall_mem_cons.mpr ⟨tk_Ru_tell, List.forall_mem_cons.mpr ⟨tk_TP_stop, List.forall_mem_cons.mpr ⟨tk_As_follow, List.forall_mem_cons.mpr ⟨tk_As_begin, List.forall_mem_cons.mpr ⟨tk_Co_quorumSize, List.forall_mem_cons.mpr ⟨tk_Me_begin, List.forall_mem_cons.mpr ⟨tk_Me_forgetAccepted, List.forall_mem_cons.mpr ⟨tk_Mg_clear, List.forall_mem_cons.mpr ⟨tk_As_act, List.forall_mem_cons.mpr ⟨tk_As_isSeat, List.forall_mem_cons.mpr ⟨tk_As_propose, List.forall_mem_cons.mpr ⟨tk_As_isHonest, List.forall_mem_cons.mpr ⟨tk_Me_isWithin, List.forall_mem_cons.mpr ⟨tk_TP_isPlace, List.forall_mem_cons.mpr ⟨tk_Me_hasAccepted, List.forall_mem_cons.mpr ⟨tk_As_primaryOf, List.forall_mem_cons.mpr ⟨tk_Me_accept, List.forall_mem_cons.mpr ⟨tk_Me_addPrepares, List.forall_mem_cons.mpr ⟨tk_ji_bitCount, List.forall_mem_cons.mpr ⟨tk_As_runOn, List.forall_mem_cons.mpr ⟨tk_Me_isCommitted, List.forall_mem_cons.mpr ⟨tk_Me_isPrepared, List.forall_mem_cons.mpr ⟨tk_Co_runOrder, List.forall_mem_cons.mpr ⟨tk_As_checkpoint, List.forall_mem_cons.mpr ⟨tk_Su_rootOf, fun _ h => absurd h List.not_mem_nil⟩⟩⟩⟩⟩⟩⟩⟩⟩⟩⟩⟩⟩⟩⟩⟩⟩⟩⟩⟩⟩⟩⟩⟩⟩⟩⟩⟩⟩⟩⟩⟩⟩⟩⟩⟩⟩⟩⟩⟩
set_option maxRecDepth 100000 in
theorem xOkb_2 : xMs_2.all xOkb = true := by decide +kernel
theorem xDec_2 : ∀ m ∈ xMs_2, ∀ e ∈ xmT m, decode (xmC m) e.1 = .ok e.2 := List.forall_mem_cons.mpr ⟨tk_Su_build, List.forall_mem_cons.mpr ⟨tk_Me_countVotes, List.forall_mem_cons.mpr ⟨tk_Me_forgetProofs, List.forall_mem_cons.mpr ⟨tk_As_doubt, List.forall_mem_cons.mpr ⟨tk_As_makeView, List.forall_mem_cons.mpr ⟨tk_As_merge, List.forall_mem_cons.mpr ⟨tk_TP_hasBit, List.forall_mem_cons.mpr ⟨tk_Mg_add, List.forall_mem_cons.mpr ⟨tk_As_enter, List.forall_mem_cons.mpr ⟨tk_As_enterMade, List.forall_mem_cons.mpr ⟨tk_As_prepare, List.forall_mem_cons.mpr ⟨tk_Me_sharesAt, List.forall_mem_cons.mpr ⟨tk_As_commit, List.forall_mem_cons.mpr ⟨tk_As_mark, List.forall_mem_cons.mpr ⟨tk_As_fetch, List.forall_mem_cons.mpr ⟨tk_Su_fetch, List.forall_mem_cons.mpr ⟨tk_TP_state, List.forall_mem_cons.mpr ⟨tk_TP_reaches, List.forall_mem_cons.mpr ⟨tk_As_tell, List.forall_mem_cons.mpr ⟨tk_Me_tell, List.forall_mem_cons.mpr ⟨tk_Me_tellPlace, List.forall_mem_cons.mpr ⟨tk_TP_made, List.forall_mem_cons.mpr ⟨tk_Mg_isPlaceOf, List.forall_mem_cons.mpr ⟨tk_Mg_tell, List.forall_mem_cons.mpr ⟨tk_Mg_orderAt, List.forall_mem_cons.mpr ⟨tk_TP_unlike, List.forall_mem_cons.mpr ⟨tk_As_unlikePlaces, List.forall_mem_cons.mpr ⟨tk_As_runners, List.forall_mem_cons.mpr ⟨tk_As_alikePlaces, List.forall_mem_cons.mpr ⟨tk_As_greatestRan, List.forall_mem_cons.mpr ⟨tk_As_leastRan, List.forall_mem_cons.mpr ⟨tk_TP_quorum, List.forall_mem_cons.mpr ⟨tk_Co_quorums, List.forall_mem_cons.mpr ⟨tk_Co_isQuorumSet, List.forall_mem_cons.mpr ⟨tk_Co_clashes, List.forall_mem_cons.mpr ⟨tk_TP_tree, List.forall_mem_cons.mpr ⟨tk_TP_differ, List.forall_mem_cons.mpr ⟨tk_TP_sameAccounts, List.forall_mem_cons.mpr ⟨tk_TP_play, List.forall_mem_cons.mpr ⟨tk_Tt_plan, fun _ h => absurd h List.not_mem_nil⟩⟩⟩⟩⟩⟩⟩⟩⟩⟩⟩⟩⟩⟩⟩⟩⟩⟩⟩⟩⟩⟩⟩⟩⟩⟩⟩⟩⟩⟩⟩⟩⟩⟩⟩⟩⟩⟩⟩⟩
set_option maxRecDepth 100000 in
theorem xOkb_3 : xMs_3.all xOkb = true := by decide +kernel
theorem xDec_3 : ∀ m ∈ xMs_3, ∀ e ∈ xmT m, decode (xmC m) e.1 = .ok e.2 := List.forall_mem_cons.mpr ⟨tk_Co_isHonest, List.forall_mem_cons.mpr ⟨tk_Tt_acceptAll, List.forall_mem_cons.mpr ⟨tk_Tt_lowAt, List.forall_mem_cons.mpr ⟨tk_Tt_bounded, List.forall_mem_cons.mpr ⟨tk_Tt_prepareAll, List.forall_mem_cons.mpr ⟨tk_Tt_fillRow, List.forall_mem_cons.mpr ⟨tk_Tt_quorumth, List.forall_mem_cons.mpr ⟨tk_Tt_least, List.forall_mem_cons.mpr ⟨tk_Tt_runAll, List.forall_mem_cons.mpr ⟨tk_Tt_cutAll, List.forall_mem_cons.mpr ⟨tk_Tt_isCheckpoint, List.forall_mem_cons.mpr ⟨tk_Tt_sendAll, List.forall_mem_cons.mpr ⟨tk_Tt_send, List.forall_mem_cons.mpr ⟨tk_TP_reply, List.forall_mem_cons.mpr ⟨tk_Rp_tell, List.forall_mem_cons.mpr ⟨tk_TP_match, List.forall_mem_cons.mpr ⟨tk_TP_tallies, List.forall_mem_cons.mpr ⟨tk_Ta_hear, List.forall_mem_cons.mpr ⟨tk_Ta_hearOne, List.forall_mem_cons.mpr ⟨tk_Ta_noteMatch, List.forall_mem_cons.mpr ⟨tk_Ta_voicesOf, List.forall_mem_cons.mpr ⟨tk_TP_suspects, List.forall_mem_cons.mpr ⟨tk_Ta_suspectSets, List.forall_mem_cons.mpr ⟨tk_Ta_isSuspect, List.forall_mem_cons.mpr ⟨tk_Ta_suspectsInAll, List.forall_mem_cons.mpr ⟨tk_Ta_suspectSet, List.forall_mem_cons.mpr ⟨tk_TP_drawn, List.forall_mem_cons.mpr ⟨tk_As_draw, List.forall_mem_cons.mpr ⟨tk_As_below, List.forall_mem_cons.mpr ⟨tk_As_drawnKind, List.forall_mem_cons.mpr ⟨tk_TP_merged, List.forall_mem_cons.mpr ⟨tk_TP_sure, List.forall_mem_cons.mpr ⟨tk_As_lostAt, List.forall_mem_cons.mpr ⟨tk_As_counts, List.forall_mem_cons.mpr ⟨tk_As_sureAt, List.forall_mem_cons.mpr ⟨tk_TP_after, List.forall_mem_cons.mpr ⟨tk_As_behindOnes, List.forall_mem_cons.mpr ⟨tk_As_stuckOnes, List.forall_mem_cons.mpr ⟨tk_As_madeViews, List.forall_mem_cons.mpr ⟨tk_As_certainPlaces, fun _ h => absurd h List.not_mem_nil⟩⟩⟩⟩⟩⟩⟩⟩⟩⟩⟩⟩⟩⟩⟩⟩⟩⟩⟩⟩⟩⟩⟩⟩⟩⟩⟩⟩⟩⟩⟩⟩⟩⟩⟩⟩⟩⟩⟩⟩
set_option maxRecDepth 100000 in
theorem xOkb_4 : xMs_4.all xOkb = true := by decide +kernel
theorem xDec_4 : ∀ m ∈ xMs_4, ∀ e ∈ xmT m, decode (xmC m) e.1 = .ok e.2 := List.forall_mem_cons.mpr ⟨tk_As_alikeProofs, List.forall_mem_cons.mpr ⟨tk_As_words, List.forall_mem_cons.mpr ⟨tk_As_fullOnes, List.forall_mem_cons.mpr ⟨tk_As_isFull, List.forall_mem_cons.mpr ⟨tk_TP_pace, List.forall_mem_cons.mpr ⟨tk_Tt_tightest, List.forall_mem_cons.mpr ⟨tk_Tt_doneAt, List.forall_mem_cons.mpr ⟨tk_Tt_spareOnes, List.forall_mem_cons.mpr ⟨tk_Tt_slowest, List.forall_mem_cons.mpr ⟨tk_TP_behind, List.forall_mem_cons.mpr ⟨tk_Co_runFirst, List.forall_mem_cons.mpr ⟨tk_TP_blind, List.forall_mem_cons.mpr ⟨tk_TP_blindOrders, List.forall_mem_cons.mpr ⟨tk_TP_changedNodes, List.forall_mem_cons.mpr ⟨tk_Su_unlikeNodes, List.forall_mem_cons.mpr ⟨tk_TP_richest, List.forall_mem_cons.mpr ⟨tk_TP_voices, List.forall_mem_cons.mpr ⟨tk_TP_lack, List.forall_mem_cons.mpr ⟨tk_Ta_lacking, List.forall_mem_cons.mpr ⟨tk_Ta_unlikeResults, List.forall_mem_cons.mpr ⟨tk_TP_count, List.forall_mem_cons.mpr ⟨tk_TP_image, List.forall_mem_cons.mpr ⟨tk_To_take, List.forall_mem_cons.mpr ⟨tk_TP_again, List.forall_mem_cons.mpr ⟨tk_Mo_new, List.forall_mem_cons.mpr ⟨tk_Mo_feed, List.forall_mem_cons.mpr ⟨tk_Mo_end, List.forall_mem_cons.mpr ⟨tk_Mo_text, List.forall_mem_cons.mpr ⟨tk_Mo_isIn, List.forall_mem_cons.mpr ⟨tk_Mo_isOf, List.forall_mem_cons.mpr ⟨tk_Mo_advance, List.forall_mem_cons.mpr ⟨tk_Mo_byteAt, List.forall_mem_cons.mpr ⟨tk_Mo_isLetter, List.forall_mem_cons.mpr ⟨tk_Mo_wordOf, List.forall_mem_cons.mpr ⟨tk_Mo_eight, List.forall_mem_cons.mpr ⟨tk_Mo_four, List.forall_mem_cons.mpr ⟨tk_Mo_isDigit, List.forall_mem_cons.mpr ⟨tk_Mo_councilLine, List.forall_mem_cons.mpr ⟨tk_Mo_wordIn, List.forall_mem_cons.mpr ⟨tk_Mo_ends, fun _ h => absurd h List.not_mem_nil⟩⟩⟩⟩⟩⟩⟩⟩⟩⟩⟩⟩⟩⟩⟩⟩⟩⟩⟩⟩⟩⟩⟩⟩⟩⟩⟩⟩⟩⟩⟩⟩⟩⟩⟩⟩⟩⟩⟩⟩
set_option maxRecDepth 100000 in
theorem xOkb_5 : xMs_5.all xOkb = true := by decide +kernel
theorem xDec_5 : ∀ m ∈ xMs_5, ∀ e ∈ xmT m, decode (xmC m) e.1 = .ok e.2 := List.forall_mem_cons.mpr ⟨tk_Mo_numbered, List.forall_mem_cons.mpr ⟨tk_Mo_also, List.forall_mem_cons.mpr ⟨tk_Mo_memberTold, List.forall_mem_cons.mpr ⟨tk_Mo_orderTold, List.forall_mem_cons.mpr ⟨tk_Mo_delayTold, List.forall_mem_cons.mpr ⟨tk_Mo_otherTold, List.forall_mem_cons.mpr ⟨tk_Mo_endsLine, List.forall_mem_cons.mpr ⟨tk_Mo_runLine, List.forall_mem_cons.mpr ⟨tk_Mo_repliesLine, List.forall_mem_cons.mpr ⟨tk_Mo_sizeOf, List.forall_mem_cons.mpr ⟨tk_Mo_placeOf, List.forall_mem_cons.mpr ⟨tk_Mo_fault, List.forall_mem_cons.mpr ⟨tk_Mo_council, List.forall_mem_cons.mpr ⟨tk_Mo_isCouncil, List.forall_mem_cons.mpr ⟨tk_Mo_isMember, List.forall_mem_cons.mpr ⟨tk_Mo_delayOf, List.forall_mem_cons.mpr ⟨tk_Mo_orderAccount, List.forall_mem_cons.mpr ⟨tk_Mo_orderPlus, List.forall_mem_cons.mpr ⟨tk_Mo_tree, List.forall_mem_cons.mpr ⟨tk_Mo_laysSums, List.forall_mem_cons.mpr ⟨tk_Mo_differ, List.forall_mem_cons.mpr ⟨tk_Mo_seeks, List.forall_mem_cons.mpr ⟨tk_Mo_quorum, List.forall_mem_cons.mpr ⟨tk_Mo_isLiar, List.forall_mem_cons.mpr ⟨tk_Mo_bitsOf, List.forall_mem_cons.mpr ⟨tk_Mo_deed, List.forall_mem_cons.mpr ⟨tk_Mo_isRun, List.forall_mem_cons.mpr ⟨tk_Mo_stop, List.forall_mem_cons.mpr ⟨tk_Mo_goes, List.forall_mem_cons.mpr ⟨tk_Mo_begins, List.forall_mem_cons.mpr ⟨tk_Mo_does, List.forall_mem_cons.mpr ⟨tk_Mo_proposes, List.forall_mem_cons.mpr ⟨tk_Mo_isWithin, List.forall_mem_cons.mpr ⟨tk_Mo_at, List.forall_mem_cons.mpr ⟨tk_Mo_primaryOf, List.forall_mem_cons.mpr ⟨tk_Mo_accepts, List.forall_mem_cons.mpr ⟨tk_Mo_settles, List.forall_mem_cons.mpr ⟨tk_Mo_isPrepared, List.forall_mem_cons.mpr ⟨tk_Mo_words, List.forall_mem_cons.mpr ⟨tk_Mo_isWord, fun _ h => absurd h List.not_mem_nil⟩⟩⟩⟩⟩⟩⟩⟩⟩⟩⟩⟩⟩⟩⟩⟩⟩⟩⟩⟩⟩⟩⟩⟩⟩⟩⟩⟩⟩⟩⟩⟩⟩⟩⟩⟩⟩⟩⟩⟩
set_option maxRecDepth 100000 in
theorem xOkb_6 : xMs_6.all xOkb = true := by decide +kernel
theorem xDec_6 : ∀ m ∈ xMs_6, ∀ e ∈ xmT m, decode (xmC m) e.1 = .ok e.2 := List.forall_mem_cons.mpr ⟨tk_Mo_runsOn, List.forall_mem_cons.mpr ⟨tk_Mo_canRun, List.forall_mem_cons.mpr ⟨tk_Mo_isCommitted, List.forall_mem_cons.mpr ⟨tk_Mo_runsOne, List.forall_mem_cons.mpr ⟨tk_Mo_checks, List.forall_mem_cons.mpr ⟨tk_Mo_rootOf, List.forall_mem_cons.mpr ⟨tk_Mo_counts, List.forall_mem_cons.mpr ⟨tk_Mo_cuts, List.forall_mem_cons.mpr ⟨tk_Mo_forgets, List.forall_mem_cons.mpr ⟨tk_Mo_marks, List.forall_mem_cons.mpr ⟨tk_Mo_fetches, List.forall_mem_cons.mpr ⟨tk_Mo_doubts, List.forall_mem_cons.mpr ⟨tk_Mo_makes, List.forall_mem_cons.mpr ⟨tk_Mo_merges, List.forall_mem_cons.mpr ⟨tk_Mo_orderBy, List.forall_mem_cons.mpr ⟨tk_Mo_entersView, List.forall_mem_cons.mpr ⟨tk_Mo_entersAlone, List.forall_mem_cons.mpr ⟨tk_Mo_state, List.forall_mem_cons.mpr ⟨tk_Mo_isState, List.forall_mem_cons.mpr ⟨tk_Mo_nowOf, List.forall_mem_cons.mpr ⟨tk_Mo_placeNow, List.forall_mem_cons.mpr ⟨tk_Mo_made, List.forall_mem_cons.mpr ⟨tk_Mo_unlike, List.forall_mem_cons.mpr ⟨tk_Mo_placesBy, List.forall_mem_cons.mpr ⟨tk_Mo_ranSo, List.forall_mem_cons.mpr ⟨tk_Mo_ranBy, List.forall_mem_cons.mpr ⟨tk_Mo_merged, List.forall_mem_cons.mpr ⟨tk_Mo_sure, List.forall_mem_cons.mpr ⟨tk_Mo_after, List.forall_mem_cons.mpr ⟨tk_Mo_honestBy, List.forall_mem_cons.mpr ⟨tk_Mo_isFull, List.forall_mem_cons.mpr ⟨tk_Mo_viewsMade, List.forall_mem_cons.mpr ⟨tk_Mo_certainOf, List.forall_mem_cons.mpr ⟨tk_Mo_wordsOf, List.forall_mem_cons.mpr ⟨tk_Mo_play, List.forall_mem_cons.mpr ⟨tk_Mo_plays, List.forall_mem_cons.mpr ⟨tk_Mo_playsPlace, List.forall_mem_cons.mpr ⟨tk_Mo_playsAccepts, List.forall_mem_cons.mpr ⟨tk_Mo_lowFrom, List.forall_mem_cons.mpr ⟨tk_Mo_later, fun _ h => absurd h List.not_mem_nil⟩⟩⟩⟩⟩⟩⟩⟩⟩⟩⟩⟩⟩⟩⟩⟩⟩⟩⟩⟩⟩⟩⟩⟩⟩⟩⟩⟩⟩⟩⟩⟩⟩⟩⟩⟩⟩⟩⟩⟩
set_option maxRecDepth 100000 in
theorem xOkb_7 : xMs_7.all xOkb = true := by decide +kernel
theorem xDec_7 : ∀ m ∈ xMs_7, ∀ e ∈ xmT m, decode (xmC m) e.1 = .ok e.2 := List.forall_mem_cons.mpr ⟨tk_Mo_behindBy, List.forall_mem_cons.mpr ⟨tk_Mo_laysComes, List.forall_mem_cons.mpr ⟨tk_Mo_manyCome, List.forall_mem_cons.mpr ⟨tk_Mo_minuteOf, List.forall_mem_cons.mpr ⟨tk_Mo_pace, List.forall_mem_cons.mpr ⟨tk_Mo_sendsAll, List.forall_mem_cons.mpr ⟨tk_Mo_sends, List.forall_mem_cons.mpr ⟨tk_Mo_slowestOf, List.forall_mem_cons.mpr ⟨tk_Mo_doneOf, List.forall_mem_cons.mpr ⟨tk_Mo_tightOf, List.forall_mem_cons.mpr ⟨tk_Mo_lastDoneBy, List.forall_mem_cons.mpr ⟨tk_Mo_spareOf, List.forall_mem_cons.mpr ⟨tk_Mo_behind, List.forall_mem_cons.mpr ⟨tk_Mo_laysSheet, List.forall_mem_cons.mpr ⟨tk_Mo_runsSheet, List.forall_mem_cons.mpr ⟨tk_Mo_blind, List.forall_mem_cons.mpr ⟨tk_Mo_blindOf, List.forall_mem_cons.mpr ⟨tk_Mo_pathsOf, List.forall_mem_cons.mpr ⟨tk_Mo_reply, List.forall_mem_cons.mpr ⟨tk_Mo_isReplies, List.forall_mem_cons.mpr ⟨tk_Mo_match, List.forall_mem_cons.mpr ⟨tk_Mo_come, List.forall_mem_cons.mpr ⟨tk_Mo_tell, List.forall_mem_cons.mpr ⟨tk_Mo_suspects, List.forall_mem_cons.mpr ⟨tk_Mo_isOneBut, List.forall_mem_cons.mpr ⟨tk_Mo_voices, List.forall_mem_cons.mpr ⟨tk_Mo_lack, List.forall_mem_cons.mpr ⟨tk_Mo_drawn, List.forall_mem_cons.mpr ⟨tk_Mo_draws, List.forall_mem_cons.mpr ⟨tk_Mo_below, List.forall_mem_cons.mpr ⟨tk_Mo_count, List.forall_mem_cons.mpr ⟨tk_Mo_image, List.forall_mem_cons.mpr ⟨tk_Mo_again, List.forall_mem_cons.mpr ⟨tk_La_law, fun _ h => absurd h List.not_mem_nil⟩⟩⟩⟩⟩⟩⟩⟩⟩⟩⟩⟩⟩⟩⟩⟩⟩⟩⟩⟩⟩⟩⟩⟩⟩⟩⟩⟩⟩⟩⟩⟩⟩⟩
theorem xDec : ∀ m ∈ xMs, ∀ e ∈ xmT m, decode (xmC m) e.1 = .ok e.2 := List.forall_mem_append.mpr ⟨xDec_0, List.forall_mem_append.mpr ⟨xDec_1, List.forall_mem_append.mpr ⟨xDec_2, List.forall_mem_append.mpr ⟨xDec_3, List.forall_mem_append.mpr ⟨xDec_4, List.forall_mem_append.mpr ⟨xDec_5, List.forall_mem_append.mpr ⟨xDec_6, xDec_7⟩⟩⟩⟩⟩⟩⟩
theorem xOkA : ∀ m ∈ xMs, xOkb m = true := List.forall_mem_append.mpr ⟨(List.all_eq_true.mp xOkb_0), List.forall_mem_append.mpr ⟨(List.all_eq_true.mp xOkb_1), List.forall_mem_append.mpr ⟨(List.all_eq_true.mp xOkb_2), List.forall_mem_append.mpr ⟨(List.all_eq_true.mp xOkb_3), List.forall_mem_append.mpr ⟨(List.all_eq_true.mp xOkb_4), List.forall_mem_append.mpr ⟨(List.all_eq_true.mp xOkb_5), List.forall_mem_append.mpr ⟨(List.all_eq_true.mp xOkb_6), (List.all_eq_true.mp xOkb_7)⟩⟩⟩⟩⟩⟩⟩
def xLays : List (List Nat) := [[530, 532, 534, 536, 538, 540, 542], [218, 220, 222, 224, 226, 228, 230, 232, 234], [459, 461, 463, 465, 467, 469, 471, 473, 475, 477, 479, 481, 483, 485, 487, 489, 491, 493], [511, 513, 515, 517, 519], [355, 357, 359, 361, 363, 365, 367, 369, 371, 373, 375, 377, 379], [282, 284, 286, 288], [256, 258, 260, 262, 264], [408, 410, 412, 414], [600, 602, 604, 606, 608, 610, 612, 614], [565, 567, 569, 571, 573, 575, 577, 579], [307, 309, 311, 313, 315, 317, 319, 321], [631, 633, 635, 637, 639, 641, 643, 645, 647, 649], [1512, 1514, 1516, 1518, 1520, 1522, 1524, 1526, 1528, 1530, 1532, 1534, 1536, 1538, 1540, 1542, 1544, 1546, 1548, 1550, 1552, 1554, 1556, 1558, 1560, 1562, 1564, 1566, 1568, 1570, 1572, 1574, 1576, 1578, 1580, 1582, 1584, 1586, 1588, 1590, 1592, 1594, 1596, 1598, 1600, 1602, 1604, 1606, 1608, 1610, 1612, 1614, 1616, 1618, 1620, 1622, 1624, 1626, 1628, 1630, 1632]]
set_option maxRecDepth 100000 in
theorem xLays_ok : ∀ ci, ci < 13 → ∀ k, k < xNf ci → lw_tbl[(xLays.getD ci []).getD k 0]? = some (u_lay (xR ci) (xT ci) k) := by decide +kernel
set_option maxRecDepth 100000 in
theorem xLays_g : ∀ ci, ci < 13 → ∀ k, k < xNf ci → goodWord (u_lay (xR ci) (xT ci) k) = true := by decide +kernel
theorem xin {ci : Nat} (h : ci < 13) : ∀ w ∈ u_ws (xR ci) (xT ci) (xNf ci), w ∈ xw := fun w hw => by
  obtain ⟨k, hk, rfl⟩ := List.mem_map.mp hw
  exact xw_of (xLays_ok ci h k (List.mem_range.mp hk)) (xLays_g ci h k (List.mem_range.mp hk))
theorem xCl_get : ∀ ci, ci < 13 → xCl[ci]? = some (xR ci, xT ci, xNf ci) := fun ci h => by
  rcases ci with _ | _ | _ | _ | _ | _ | _ | _ | _ | _ | _ | _ | _ | ci
  all_goals first | rfl | omega
theorem xTy_ok : ∀ ci, ci < 13 → ∀ k, k < xNf ci → parseFieldDescriptor (xT ci k).2.2.1 = some (xTy ci k) := by decide +kernel
theorem xNm_ok : ∀ ci, ci < 13 → ∀ a, a < xNf ci → ∀ b, b < xNf ci → a ≠ b → (xT ci a).2.1 ≠ (xT ci b).2.1 := by decide +kernel
theorem xTo_ok : ∀ ci, ci < 13 → ∀ k, k < xNf ci → (xT ci k).1 = xR ci ∧ (xT ci k).2.2.2 = xFf ci k := by decide +kernel
/-- a field's kind and its type -/
theorem xFk_ok : ∀ ci, ci < 13 → ∀ k, k < xNf ci → (xFk ci k = 0 ∧ xTy ci k = .int) ∨ (xFk ci k = 1 ∧ xTy ci k = .boolean) ∨ (xFk ci k = 2 ∧ ((∃ n ∈ xRs, xTy ci k = .object n) ∨ xTy ci k = .array .int ∨ xTy ci k = .array .boolean ∨ xTy ci k = .array .byte ∨ xTy ci k = .array (.array .int) ∨ ∃ n ∈ xRs, xTy ci k = .array (.object n))) := by decide +kernel
def xFsOk (ow : Nat) : Bool := (xFs.getD ow []).all fun e => decide (e.2.1 < 13) && decide (e.2.2.1 < xNf e.2.1) && decide (lw_tbl[e.2.2.2]? = some (Cond.fieldLink (xR ow) e.1 (xT e.2.1 e.2.2.1).1 (xT e.2.1 e.2.2.1).2.1 (xT e.2.1 e.2.2.1).2.2.1))
set_option maxRecDepth 100000 in
theorem xFs_ok : ∀ ow, ow < 21 → xFsOk ow = true := by decide +kernel
theorem xFld_ok {ow ix ci k po : Nat} (ho : ow < 21) (h : xFld ow ix = some (ci, k, po)) : ci < 13 ∧ k < xNf ci ∧ Cond.fieldLink (xR ow) ix (xT ci k).1 (xT ci k).2.1 (xT ci k).2.2.1 ∈ xw := by
  have hm := List.all_eq_true.mp (xFs_ok ow ho) _ (x_lookup h)
  simp only [Bool.and_eq_true, decide_eq_true_eq] at hm
  exact ⟨hm.1.1, hm.1.2, xw_of hm.2 rfl⟩
def xKsOk (ow : Nat) : Bool := (xKs.getD ow []).all fun e => if e.2.1 = 29 then decide (lw_tbl[e.2.2]? = some (Cond.classLink (xR ow) e.1 "[[I")) else decide (e.2.1 < 13) && decide (lw_tbl[e.2.2]? = some (Cond.classLink (xR ow) e.1 (xR e.2.1)))
set_option maxRecDepth 100000 in
theorem xKs_ok : ∀ ow, ow < 21 → xKsOk ow = true := by decide +kernel
theorem xKl_ok {ow ix ci po : Nat} (ho : ow < 21) (h : xKl ow ix = some (ci, po)) : (ci = 29 → Cond.classLink (xR ow) ix "[[I" ∈ xw) ∧ (ci ≠ 29 → ci < 13 ∧ Cond.classLink (xR ow) ix (xR ci) ∈ xw) := by
  have hm := List.all_eq_true.mp (xKs_ok ow ho) _ (x_lookup h)
  by_cases e : ci = 29
  · subst e
    simp only [if_true, decide_eq_true_eq] at hm
    exact ⟨fun _ => xw_of hm rfl, fun h => absurd rfl h⟩
  · simp only [if_neg e, Bool.and_eq_true, decide_eq_true_eq] at hm
    exact ⟨fun h => absurd h e, fun _ => ⟨hm.1, xw_of hm.2 rfl⟩⟩
def xNumsOk (ow : Nat) : Bool := (xNums.getD ow []).all fun e => decide (lw_tbl[e.2.2]? = some (Cond.constant (xR ow) e.1 e.2.1))
set_option maxRecDepth 100000 in
theorem xNums_ok : ∀ ow, ow < 21 → xNumsOk ow = true := by decide +kernel
theorem xNum_ok {ow ix po : Nat} {v : Int32} (ho : ow < 21) (h : xNum ow ix = some (v, po)) : Cond.constant (xR ow) ix v ∈ xw := by
  have hm := List.all_eq_true.mp (xNums_ok ow ho) _ (x_lookup h)
  exact xw_of (of_decide_eq_true hm) rfl
def xLngsOk (ow : Nat) : Bool := (xLngs.getD ow []).all fun e => decide (lw_tbl[e.2.2]? = some (Cond.constantLong (xR ow) e.1 e.2.1))
set_option maxRecDepth 100000 in
theorem xLngs_ok : ∀ ow, ow < 21 → xLngsOk ow = true := by decide +kernel
theorem xLng_ok {ow ix po : Nat} {v : Int64} (ho : ow < 21) (h : xLng ow ix = some (v, po)) : Cond.constantLong (xR ow) ix v ∈ xw := by
  have hm := List.all_eq_true.mp (xLngs_ok ow ho) _ (x_lookup h)
  exact xw_of (of_decide_eq_true hm) rfl
/-- words of the new and the initialized -/
def xNewP : List (Nat × Nat) := [(383, 141), (176, 137), (417, 143), (496, 144), (326, 140), (267, 139), (239, 138), (395, 142), (583, 146), (546, 145), (165, 136), (157, 135), (1446, 147)]
set_option maxRecDepth 100000 in
theorem xNew_ok : ∀ ci, ci < 13 → lw_tbl[(xNewP.getD ci (0, 0)).1]? = some (Cond.instantiable (xR ci) (xNf ci)) ∧ lw_tbl[(xNewP.getD ci (0, 0)).2]? = some (Cond.initialized (xR ci)) := by decide +kernel
theorem xObj_ok : Cond.instanceMethod Lib.objectInit ∈ xw ∧ Cond.code Lib.objectInit ⟨#[0xb1]⟩ 1 none ∈ xw := ⟨xw_of (i := 162) (by decide +kernel) rfl, xw_of (i := 163) rfl rfl⟩
theorem xCpy_ok : Cond.native arraycopyName ∈ xw ∧ Cond.static arraycopyName ∈ xw ∧ Cond.initialized "java/lang/System" ∈ xw := ⟨xw_of (i := 678) (by decide +kernel) rfl, xw_of (i := 677) (by decide +kernel) rfl, xw_of (i := 148) (by decide +kernel) rfl⟩
theorem xArr_ok : Cond.arrayClass .int ∈ xw ∧ Cond.arrayClass .byte ∈ xw ∧ Cond.arrayClass .boolean ∈ xw := ⟨xw_of (i := 238) (by decide +kernel) rfl, xw_of (i := 237) (by decide +kernel) rfl, xw_of (i := 1635) (by decide +kernel) rfl⟩
def xStsOk (ow : Nat) : Bool := (xSts.getD ow []).all fun e => if e.2.1 = 5 then decide (lw_tbl[e.2.2]? = some (Cond.fieldLink (xR ow) e.1 "java/lang/String" "COMPACT_STRINGS" "Z")) else if e.2.1 = 6 then decide (lw_tbl[e.2.2]? = some (Cond.fieldLink (xR ow) e.1 "jdk/internal/util/Preconditions" "SIOOBE_FORMATTER" "Ljava/util/function/BiFunction;")) else decide (1 ≤ e.2.1) && decide (e.2.1 ≤ 4) && decide (lw_tbl[e.2.2]? = some (Cond.fieldLink (xR ow) e.1 "ThreePhases$Reader" (xTabN.getD e.2.1 "") "[I"))
set_option maxRecDepth 100000 in
theorem xSts_ok : ∀ ow, ow < 21 → xStsOk ow = true := by decide +kernel
theorem xTf_ok {ow ix f po : Nat} (h : xTf ow ix = some (f, po)) : ow = 16 ∧ ((f = 0 ∧ Cond.fieldLink (xR ow) ix "java/lang/String" "value" "[B" ∈ xw) ∨ (f = 1 ∧ Cond.fieldLink (xR ow) ix "java/lang/String" "coder" "B" ∈ xw)) := by
  unfold xTf at h
  by_cases e : ow = 16
  · subst e
    rw [if_pos rfl] at h
    have hm := x_lookup h
    refine ⟨rfl, ?_⟩
    simp only [List.mem_cons, Prod.mk.injEq, List.not_mem_nil, or_false] at hm
    rcases hm with ⟨rfl, rfl, rfl⟩ | ⟨rfl, rfl, rfl⟩
    · exact Or.inl ⟨rfl, xw_of (i := 2139) (by decide +kernel) rfl⟩
    · exact Or.inr ⟨rfl, xw_of (i := 2140) (by decide +kernel) rfl⟩
  · rw [if_neg e] at h
    cases h
/-- a method's own words -/
def xWordb (m : XM) : Bool := (xmOwn m == 13) || (decide (lw_tbl[(xmW m).2.1]? = some (if xmK m = 0 then Cond.static (xmY m) else Cond.instanceMethod (xmY m))) && (xmK m != 1 || decide (lw_tbl[(xmW m).2.2.1]? = some (Cond.selects (xmY m).cls (xmY m) (xmY m)))) && decide (lw_tbl[(xmW m).2.2.2]? = some (Cond.initialized (xmY m).cls)) && decide ((xmY m).cls ≠ "java/lang/invoke/MethodHandle") && decide ((xmY m).cls ≠ "java/lang/invoke/VarHandle") && decide ((parseMethodDescriptor (xmY m).desc).map (fun d => d.parameters.length) = some (if xmK m = 0 then xmN m else xmN m - 1)) && decide (xR (xmOwn m) = (xmY m).cls) && decide (xmK m ≤ 2) && (xmK m == 0 || decide (1 ≤ xmN m)) && (xmK m != 2 || (decide ((xmY m).name = "<init>") && decide (xmRet m = none))) && plainName (xmY m).cls)
set_option maxRecDepth 100000 in
theorem xWordb_0 : xMs_0.all xWordb = true := by decide +kernel
set_option maxRecDepth 100000 in
theorem xWordb_1 : xMs_1.all xWordb = true := by decide +kernel
set_option maxRecDepth 100000 in
theorem xWordb_2 : xMs_2.all xWordb = true := by decide +kernel
set_option maxRecDepth 100000 in
theorem xWordb_3 : xMs_3.all xWordb = true := by decide +kernel
set_option maxRecDepth 100000 in
theorem xWordb_4 : xMs_4.all xWordb = true := by decide +kernel
set_option maxRecDepth 100000 in
theorem xWordb_5 : xMs_5.all xWordb = true := by decide +kernel
set_option maxRecDepth 100000 in
theorem xWordb_6 : xMs_6.all xWordb = true := by decide +kernel
set_option maxRecDepth 100000 in
theorem xWordb_7 : xMs_7.all xWordb = true := by decide +kernel
theorem xWordA : ∀ m ∈ xMs, xWordb m = true := List.forall_mem_append.mpr ⟨(List.all_eq_true.mp xWordb_0), List.forall_mem_append.mpr ⟨(List.all_eq_true.mp xWordb_1), List.forall_mem_append.mpr ⟨(List.all_eq_true.mp xWordb_2), List.forall_mem_append.mpr ⟨(List.all_eq_true.mp xWordb_3), List.forall_mem_append.mpr ⟨(List.all_eq_true.mp xWordb_4), List.forall_mem_append.mpr ⟨(List.all_eq_true.mp xWordb_5), List.forall_mem_append.mpr ⟨(List.all_eq_true.mp xWordb_6), (List.all_eq_true.mp xWordb_7)⟩⟩⟩⟩⟩⟩⟩
set_option maxRecDepth 100000 in
theorem xCode_0 : ∀ m ∈ xMs_0, xmOwn m ≠ 13 → lw_tbl[(xmW m).1]? = some (Cond.code (xmY m) (xmC m) (xmL m) (xmRet m)) := List.forall_mem_cons.mpr ⟨fun _ => (rfl : lw_tbl[160]? = some (Cond.code (xmY xm_TP_new) (xmC xm_TP_new) (xmL xm_TP_new) (xmRet xm_TP_new))), List.forall_mem_cons.mpr ⟨fun _ => (rfl : lw_tbl[168]? = some (Cond.code (xmY xm_To_new) (xmC xm_To_new) (xmL xm_To_new) (xmRet xm_To_new))), List.forall_mem_cons.mpr ⟨fun _ => (rfl : lw_tbl[179]? = some (Cond.code (xmY xm_Co_new) (xmC xm_Co_new) (xmL xm_Co_new) (xmRet xm_Co_new))), List.forall_mem_cons.mpr ⟨fun _ => (rfl : lw_tbl[242]? = some (Cond.code (xmY xm_Ru_new) (xmC xm_Ru_new) (xmL xm_Ru_new) (xmRet xm_Ru_new))), List.forall_mem_cons.mpr ⟨fun _ => (rfl : lw_tbl[270]? = some (Cond.code (xmY xm_Rp_new) (xmC xm_Rp_new) (xmL xm_Rp_new) (xmRet xm_Rp_new))), List.forall_mem_cons.mpr ⟨fun _ => (rfl : lw_tbl[329]? = some (Cond.code (xmY xm_Re_new) (xmC xm_Re_new) (xmL xm_Re_new) (xmRet xm_Re_new))), List.forall_mem_cons.mpr ⟨fun _ => (rfl : lw_tbl[386]? = some (Cond.code (xmY xm_As_new) (xmC xm_As_new) (xmL xm_As_new) (xmRet xm_As_new))), List.forall_mem_cons.mpr ⟨fun _ => (rfl : lw_tbl[398]? = some (Cond.code (xmY xm_Su_new) (xmC xm_Su_new) (xmL xm_Su_new) (xmRet xm_Su_new))), List.forall_mem_cons.mpr ⟨fun _ => (rfl : lw_tbl[420]? = some (Cond.code (xmY xm_Me_new) (xmC xm_Me_new) (xmL xm_Me_new) (xmRet xm_Me_new))), List.forall_mem_cons.mpr ⟨fun _ => (rfl : lw_tbl[499]? = some (Cond.code (xmY xm_Mg_new) (xmC xm_Mg_new) (xmL xm_Mg_new) (xmRet xm_Mg_new))), List.forall_mem_cons.mpr ⟨fun _ => (rfl : lw_tbl[549]? = some (Cond.code (xmY xm_Tt_new) (xmC xm_Tt_new) (xmL xm_Tt_new) (xmRet xm_Tt_new))), List.forall_mem_cons.mpr ⟨fun _ => (rfl : lw_tbl[586]? = some (Cond.code (xmY xm_Ta_new) (xmC xm_Ta_new) (xmL xm_Ta_new) (xmRet xm_Ta_new))), List.forall_mem_cons.mpr ⟨fun _ => (rfl : lw_tbl[655]? = some (Cond.code (xmY xm_TP_feed) (xmC xm_TP_feed) (xmL xm_TP_feed) (xmRet xm_TP_feed))), List.forall_mem_cons.mpr ⟨fun _ => (rfl : lw_tbl[659]? = some (Cond.code (xmY xm_To_write) (xmC xm_To_write) (xmL xm_To_write) (xmRet xm_To_write))), List.forall_mem_cons.mpr ⟨fun _ => (rfl : lw_tbl[663]? = some (Cond.code (xmY xm_TP_end) (xmC xm_TP_end) (xmL xm_TP_end) (xmRet xm_TP_end))), List.forall_mem_cons.mpr ⟨fun _ => (rfl : lw_tbl[667]? = some (Cond.code (xmY xm_TP_text) (xmC xm_TP_text) (xmL xm_TP_text) (xmRet xm_TP_text))), List.forall_mem_cons.mpr ⟨fun _ => (rfl : lw_tbl[671]? = some (Cond.code (xmY xm_To_has) (xmC xm_To_has) (xmL xm_To_has) (xmRet xm_To_has))), List.forall_mem_cons.mpr ⟨fun _ => (rfl : lw_tbl[675]? = some (Cond.code (xmY xm_Re_read) (xmC xm_Re_read) (xmL xm_Re_read) (xmRet xm_Re_read))), List.forall_mem_cons.mpr ⟨fun _ => (rfl : lw_tbl[685]? = some (Cond.code (xmY xm_Co_clear) (xmC xm_Co_clear) (xmL xm_Co_clear) (xmRet xm_Co_clear))), List.forall_mem_cons.mpr ⟨fun _ => (rfl : lw_tbl[688]? = some (Cond.code (xmY xm_ja_fill) (xmC xm_ja_fill) (xmL xm_ja_fill) (xmRet xm_ja_fill))), List.forall_mem_cons.mpr ⟨fun _ => (rfl : lw_tbl[692]? = some (Cond.code (xmY xm_Re_next) (xmC xm_Re_next) (xmL xm_Re_next) (xmRet xm_Re_next))), List.forall_mem_cons.mpr ⟨fun _ => (rfl : lw_tbl[695]? = some (Cond.code (xmY xm_Re_isLetter) (xmC xm_Re_isLetter) (xmL xm_Re_isLetter) (xmRet xm_Re_isLetter))), List.forall_mem_cons.mpr ⟨fun _ => (rfl : lw_tbl[699]? = some (Cond.code (xmY xm_Re_readWord) (xmC xm_Re_readWord) (xmL xm_Re_readWord) (xmRet xm_Re_readWord))), List.forall_mem_cons.mpr ⟨fun _ => (rfl : lw_tbl[702]? = some (Cond.code (xmY xm_Re_isDigit) (xmC xm_Re_isDigit) (xmL xm_Re_isDigit) (xmRet xm_Re_isDigit))), List.forall_mem_cons.mpr ⟨fun _ => (rfl : lw_tbl[706]? = some (Cond.code (xmY xm_Re_readNumber) (xmC xm_Re_readNumber) (xmL xm_Re_readNumber) (xmRet xm_Re_readNumber))), List.forall_mem_cons.mpr ⟨fun _ => (rfl : lw_tbl[710]? = some (Cond.code (xmY xm_Re_readLine) (xmC xm_Re_readLine) (xmL xm_Re_readLine) (xmRet xm_Re_readLine))), List.forall_mem_cons.mpr ⟨fun _ => (rfl : lw_tbl[714]? = some (Cond.code (xmY xm_Re_lineOf) (xmC xm_Re_lineOf) (xmL xm_Re_lineOf) (xmRet xm_Re_lineOf))), List.forall_mem_cons.mpr ⟨fun _ => (rfl : lw_tbl[719]? = some (Cond.code (xmY xm_Re_wordOf) (xmC xm_Re_wordOf) (xmL xm_Re_wordOf) (xmRet xm_Re_wordOf))), List.forall_mem_cons.mpr ⟨fun _ => (rfl : lw_tbl[740]? = some (Cond.code (xmY xm_Re_isWord) (xmC xm_Re_isWord) (xmL xm_Re_isWord) (xmRet xm_Re_isWord))), List.forall_mem_cons.mpr ⟨fun _ => (rfl : lw_tbl[744]? = some (Cond.code (xmY xm_js_length) (xmC xm_js_length) (xmL xm_js_length) (xmRet xm_js_length))), List.forall_mem_cons.mpr ⟨fun _ => (rfl : lw_tbl[748]? = some (Cond.code (xmY xm_js_coder) (xmC xm_js_coder) (xmL xm_js_coder) (xmRet xm_js_coder))), List.forall_mem_cons.mpr ⟨fun _ => (rfl : lw_tbl[754]? = some (Cond.code (xmY xm_js_charAt) (xmC xm_js_charAt) (xmL xm_js_charAt) (xmRet xm_js_charAt))), List.forall_mem_cons.mpr ⟨fun _ => (rfl : lw_tbl[758]? = some (Cond.code (xmY xm_js_isLatin1) (xmC xm_js_isLatin1) (xmL xm_js_isLatin1) (xmRet xm_js_isLatin1))), List.forall_mem_cons.mpr ⟨fun _ => (rfl : lw_tbl[761]? = some (Cond.code (xmY xm_jl_charAt) (xmC xm_jl_charAt) (xmL xm_jl_charAt) (xmRet xm_jl_charAt))), List.forall_mem_cons.mpr ⟨fun _ => (rfl : lw_tbl[764]? = some (Cond.code (xmY xm_js_checkIndex) (xmC xm_js_checkIndex) (xmL xm_js_checkIndex) (xmRet xm_js_checkIndex))), List.forall_mem_cons.mpr ⟨fun _ => (rfl : lw_tbl[769]? = some (Cond.code (xmY xm_jp_checkIndex) (xmC xm_jp_checkIndex) (xmL xm_jp_checkIndex) (xmRet xm_jp_checkIndex))), List.forall_mem_cons.mpr ⟨fun _ => (rfl : lw_tbl[792]? = some (Cond.code (xmY xm_Re_isFull) (xmC xm_Re_isFull) (xmL xm_Re_isFull) (xmRet xm_Re_isFull))), List.forall_mem_cons.mpr ⟨fun _ => (rfl : lw_tbl[796]? = some (Cond.code (xmY xm_Re_note) (xmC xm_Re_note) (xmL xm_Re_note) (xmRet xm_Re_note))), List.forall_mem_cons.mpr ⟨fun _ => (rfl : lw_tbl[803]? = some (Cond.code (xmY xm_Re_mayBe) (xmC xm_Re_mayBe) (xmL xm_Re_mayBe) (xmRet xm_Re_mayBe))), List.forall_mem_cons.mpr ⟨fun _ => (rfl : lw_tbl[810]? = some (Cond.code (xmY xm_Re_tellsTwoMembers) (xmC xm_Re_tellsTwoMembers) (xmL xm_Re_tellsTwoMembers) (xmRet xm_Re_tellsTwoMembers))), fun _ h => absurd h List.not_mem_nil⟩⟩⟩⟩⟩⟩⟩⟩⟩⟩⟩⟩⟩⟩⟩⟩⟩⟩⟩⟩⟩⟩⟩⟩⟩⟩⟩⟩⟩⟩⟩⟩⟩⟩⟩⟩⟩⟩⟩⟩
set_option maxRecDepth 100000 in
theorem xCode_1 : ∀ m ∈ xMs_1, xmOwn m ≠ 13 → lw_tbl[(xmW m).1]? = some (Cond.code (xmY m) (xmC m) (xmL m) (xmRet m)) := List.forall_mem_cons.mpr ⟨fun _ => (rfl : lw_tbl[814]? = some (Cond.code (xmY xm_Re_keep) (xmC xm_Re_keep) (xmL xm_Re_keep) (xmRet xm_Re_keep))), List.forall_mem_cons.mpr ⟨fun _ => (rfl : lw_tbl[818]? = some (Cond.code (xmY xm_Rp_add) (xmC xm_Rp_add) (xmL xm_Rp_add) (xmRet xm_Rp_add))), List.forall_mem_cons.mpr ⟨fun _ => (rfl : lw_tbl[825]? = some (Cond.code (xmY xm_Co_addOrder) (xmC xm_Co_addOrder) (xmL xm_Co_addOrder) (xmRet xm_Co_addOrder))), List.forall_mem_cons.mpr ⟨fun _ => (rfl : lw_tbl[829]? = some (Cond.code (xmY xm_Ru_add) (xmC xm_Ru_add) (xmL xm_Ru_add) (xmRet xm_Ru_add))), List.forall_mem_cons.mpr ⟨fun _ => (rfl : lw_tbl[833]? = some (Cond.code (xmY xm_Co_members) (xmC xm_Co_members) (xmL xm_Co_members) (xmRet xm_Co_members))), List.forall_mem_cons.mpr ⟨fun _ => (rfl : lw_tbl[837]? = some (Cond.code (xmY xm_To_put) (xmC xm_To_put) (xmL xm_To_put) (xmRet xm_To_put))), List.forall_mem_cons.mpr ⟨fun _ => (rfl : lw_tbl[841]? = some (Cond.code (xmY xm_Co_take) (xmC xm_Co_take) (xmL xm_Co_take) (xmRet xm_Co_take))), List.forall_mem_cons.mpr ⟨fun _ => (rfl : lw_tbl[844]? = some (Cond.code (xmY xm_TP_copyAccounts) (xmC xm_TP_copyAccounts) (xmL xm_TP_copyAccounts) (xmRet xm_TP_copyAccounts))), List.forall_mem_cons.mpr ⟨fun _ => (rfl : lw_tbl[850]? = some (Cond.code (xmY xm_Ru_take) (xmC xm_Ru_take) (xmL xm_Ru_take) (xmRet xm_Ru_take))), List.forall_mem_cons.mpr ⟨fun _ => (rfl : lw_tbl[855]? = some (Cond.code (xmY xm_Rp_take) (xmC xm_Rp_take) (xmL xm_Rp_take) (xmRet xm_Rp_take))), List.forall_mem_cons.mpr ⟨fun _ => (rfl : lw_tbl[860]? = some (Cond.code (xmY xm_TP_fault) (xmC xm_TP_fault) (xmL xm_TP_fault) (xmRet xm_TP_fault))), List.forall_mem_cons.mpr ⟨fun _ => (rfl : lw_tbl[864]? = some (Cond.code (xmY xm_TP_council) (xmC xm_TP_council) (xmL xm_TP_council) (xmRet xm_TP_council))), List.forall_mem_cons.mpr ⟨fun _ => (rfl : lw_tbl[868]? = some (Cond.code (xmY xm_Co_detail) (xmC xm_Co_detail) (xmL xm_Co_detail) (xmRet xm_Co_detail))), List.forall_mem_cons.mpr ⟨fun _ => (rfl : lw_tbl[872]? = some (Cond.code (xmY xm_Co_has) (xmC xm_Co_has) (xmL xm_Co_has) (xmRet xm_Co_has))), List.forall_mem_cons.mpr ⟨fun _ => (rfl : lw_tbl[877]? = some (Cond.code (xmY xm_TP_deed) (xmC xm_TP_deed) (xmL xm_TP_deed) (xmRet xm_TP_deed))), List.forall_mem_cons.mpr ⟨fun _ => (rfl : lw_tbl[881]? = some (Cond.code (xmY xm_Ru_tell) (xmC xm_Ru_tell) (xmL xm_Ru_tell) (xmRet xm_Ru_tell))), List.forall_mem_cons.mpr ⟨fun _ => (rfl : lw_tbl[885]? = some (Cond.code (xmY xm_TP_stop) (xmC xm_TP_stop) (xmL xm_TP_stop) (xmRet xm_TP_stop))), List.forall_mem_cons.mpr ⟨fun _ => (rfl : lw_tbl[889]? = some (Cond.code (xmY xm_As_follow) (xmC xm_As_follow) (xmL xm_As_follow) (xmRet xm_As_follow))), List.forall_mem_cons.mpr ⟨fun _ => (rfl : lw_tbl[893]? = some (Cond.code (xmY xm_As_begin) (xmC xm_As_begin) (xmL xm_As_begin) (xmRet xm_As_begin))), List.forall_mem_cons.mpr ⟨fun _ => (rfl : lw_tbl[899]? = some (Cond.code (xmY xm_Co_quorumSize) (xmC xm_Co_quorumSize) (xmL xm_Co_quorumSize) (xmRet xm_Co_quorumSize))), List.forall_mem_cons.mpr ⟨fun _ => (rfl : lw_tbl[903]? = some (Cond.code (xmY xm_Me_begin) (xmC xm_Me_begin) (xmL xm_Me_begin) (xmRet xm_Me_begin))), List.forall_mem_cons.mpr ⟨fun _ => (rfl : lw_tbl[909]? = some (Cond.code (xmY xm_Me_forgetAccepted) (xmC xm_Me_forgetAccepted) (xmL xm_Me_forgetAccepted) (xmRet xm_Me_forgetAccepted))), List.forall_mem_cons.mpr ⟨fun _ => (rfl : lw_tbl[914]? = some (Cond.code (xmY xm_Mg_clear) (xmC xm_Mg_clear) (xmL xm_Mg_clear) (xmRet xm_Mg_clear))), List.forall_mem_cons.mpr ⟨fun _ => (rfl : lw_tbl[919]? = some (Cond.code (xmY xm_As_act) (xmC xm_As_act) (xmL xm_As_act) (xmRet xm_As_act))), List.forall_mem_cons.mpr ⟨fun _ => (rfl : lw_tbl[923]? = some (Cond.code (xmY xm_As_isSeat) (xmC xm_As_isSeat) (xmL xm_As_isSeat) (xmRet xm_As_isSeat))), List.forall_mem_cons.mpr ⟨fun _ => (rfl : lw_tbl[927]? = some (Cond.code (xmY xm_As_propose) (xmC xm_As_propose) (xmL xm_As_propose) (xmRet xm_As_propose))), List.forall_mem_cons.mpr ⟨fun _ => (rfl : lw_tbl[931]? = some (Cond.code (xmY xm_As_isHonest) (xmC xm_As_isHonest) (xmL xm_As_isHonest) (xmRet xm_As_isHonest))), List.forall_mem_cons.mpr ⟨fun _ => (rfl : lw_tbl[935]? = some (Cond.code (xmY xm_Me_isWithin) (xmC xm_Me_isWithin) (xmL xm_Me_isWithin) (xmRet xm_Me_isWithin))), List.forall_mem_cons.mpr ⟨fun _ => (rfl : lw_tbl[938]? = some (Cond.code (xmY xm_TP_isPlace) (xmC xm_TP_isPlace) (xmL xm_TP_isPlace) (xmRet xm_TP_isPlace))), List.forall_mem_cons.mpr ⟨fun _ => (rfl : lw_tbl[942]? = some (Cond.code (xmY xm_Me_hasAccepted) (xmC xm_Me_hasAccepted) (xmL xm_Me_hasAccepted) (xmRet xm_Me_hasAccepted))), List.forall_mem_cons.mpr ⟨fun _ => (rfl : lw_tbl[946]? = some (Cond.code (xmY xm_As_primaryOf) (xmC xm_As_primaryOf) (xmL xm_As_primaryOf) (xmRet xm_As_primaryOf))), List.forall_mem_cons.mpr ⟨fun _ => (rfl : lw_tbl[950]? = some (Cond.code (xmY xm_Me_accept) (xmC xm_Me_accept) (xmL xm_Me_accept) (xmRet xm_Me_accept))), List.forall_mem_cons.mpr ⟨fun _ => (rfl : lw_tbl[954]? = some (Cond.code (xmY xm_Me_addPrepares) (xmC xm_Me_addPrepares) (xmL xm_Me_addPrepares) (xmRet xm_Me_addPrepares))), List.forall_mem_cons.mpr ⟨fun _ => (rfl : lw_tbl[958]? = some (Cond.code (xmY xm_ji_bitCount) (xmC xm_ji_bitCount) (xmL xm_ji_bitCount) (xmRet xm_ji_bitCount))), List.forall_mem_cons.mpr ⟨fun _ => (rfl : lw_tbl[965]? = some (Cond.code (xmY xm_As_runOn) (xmC xm_As_runOn) (xmL xm_As_runOn) (xmRet xm_As_runOn))), List.forall_mem_cons.mpr ⟨fun _ => (rfl : lw_tbl[969]? = some (Cond.code (xmY xm_Me_isCommitted) (xmC xm_Me_isCommitted) (xmL xm_Me_isCommitted) (xmRet xm_Me_isCommitted))), List.forall_mem_cons.mpr ⟨fun _ => (rfl : lw_tbl[973]? = some (Cond.code (xmY xm_Me_isPrepared) (xmC xm_Me_isPrepared) (xmL xm_Me_isPrepared) (xmRet xm_Me_isPrepared))), List.forall_mem_cons.mpr ⟨fun _ => (rfl : lw_tbl[977]? = some (Cond.code (xmY xm_Co_runOrder) (xmC xm_Co_runOrder) (xmL xm_Co_runOrder) (xmRet xm_Co_runOrder))), List.forall_mem_cons.mpr ⟨fun _ => (rfl : lw_tbl[981]? = some (Cond.code (xmY xm_As_checkpoint) (xmC xm_As_checkpoint) (xmL xm_As_checkpoint) (xmRet xm_As_checkpoint))), List.forall_mem_cons.mpr ⟨fun _ => (rfl : lw_tbl[986]? = some (Cond.code (xmY xm_Su_rootOf) (xmC xm_Su_rootOf) (xmL xm_Su_rootOf) (xmRet xm_Su_rootOf))), fun _ h => absurd h List.not_mem_nil⟩⟩⟩⟩⟩⟩⟩⟩⟩⟩⟩⟩⟩⟩⟩⟩⟩⟩⟩⟩⟩⟩⟩⟩⟩⟩⟩⟩⟩⟩⟩⟩⟩⟩⟩⟩⟩⟩⟩⟩
set_option maxRecDepth 100000 in
theorem xCode_2 : ∀ m ∈ xMs_2, xmOwn m ≠ 13 → lw_tbl[(xmW m).1]? = some (Cond.code (xmY m) (xmC m) (xmL m) (xmRet m)) := List.forall_mem_cons.mpr ⟨fun _ => (rfl : lw_tbl[989]? = some (Cond.code (xmY xm_Su_build) (xmC xm_Su_build) (xmL xm_Su_build) (xmRet xm_Su_build))), List.forall_mem_cons.mpr ⟨fun _ => (rfl : lw_tbl[993]? = some (Cond.code (xmY xm_Me_countVotes) (xmC xm_Me_countVotes) (xmL xm_Me_countVotes) (xmRet xm_Me_countVotes))), List.forall_mem_cons.mpr ⟨fun _ => (rfl : lw_tbl[997]? = some (Cond.code (xmY xm_Me_forgetProofs) (xmC xm_Me_forgetProofs) (xmL xm_Me_forgetProofs) (xmRet xm_Me_forgetProofs))), List.forall_mem_cons.mpr ⟨fun _ => (rfl : lw_tbl[1001]? = some (Cond.code (xmY xm_As_doubt) (xmC xm_As_doubt) (xmL xm_As_doubt) (xmRet xm_As_doubt))), List.forall_mem_cons.mpr ⟨fun _ => (rfl : lw_tbl[1006]? = some (Cond.code (xmY xm_As_makeView) (xmC xm_As_makeView) (xmL xm_As_makeView) (xmRet xm_As_makeView))), List.forall_mem_cons.mpr ⟨fun _ => (rfl : lw_tbl[1011]? = some (Cond.code (xmY xm_As_merge) (xmC xm_As_merge) (xmL xm_As_merge) (xmRet xm_As_merge))), List.forall_mem_cons.mpr ⟨fun _ => (rfl : lw_tbl[1014]? = some (Cond.code (xmY xm_TP_hasBit) (xmC xm_TP_hasBit) (xmL xm_TP_hasBit) (xmRet xm_TP_hasBit))), List.forall_mem_cons.mpr ⟨fun _ => (rfl : lw_tbl[1018]? = some (Cond.code (xmY xm_Mg_add) (xmC xm_Mg_add) (xmL xm_Mg_add) (xmRet xm_Mg_add))), List.forall_mem_cons.mpr ⟨fun _ => (rfl : lw_tbl[1023]? = some (Cond.code (xmY xm_As_enter) (xmC xm_As_enter) (xmL xm_As_enter) (xmRet xm_As_enter))), List.forall_mem_cons.mpr ⟨fun _ => (rfl : lw_tbl[1028]? = some (Cond.code (xmY xm_As_enterMade) (xmC xm_As_enterMade) (xmL xm_As_enterMade) (xmRet xm_As_enterMade))), List.forall_mem_cons.mpr ⟨fun _ => (rfl : lw_tbl[1032]? = some (Cond.code (xmY xm_As_prepare) (xmC xm_As_prepare) (xmL xm_As_prepare) (xmRet xm_As_prepare))), List.forall_mem_cons.mpr ⟨fun _ => (rfl : lw_tbl[1036]? = some (Cond.code (xmY xm_Me_sharesAt) (xmC xm_Me_sharesAt) (xmL xm_Me_sharesAt) (xmRet xm_Me_sharesAt))), List.forall_mem_cons.mpr ⟨fun _ => (rfl : lw_tbl[1040]? = some (Cond.code (xmY xm_As_commit) (xmC xm_As_commit) (xmL xm_As_commit) (xmRet xm_As_commit))), List.forall_mem_cons.mpr ⟨fun _ => (rfl : lw_tbl[1045]? = some (Cond.code (xmY xm_As_mark) (xmC xm_As_mark) (xmL xm_As_mark) (xmRet xm_As_mark))), List.forall_mem_cons.mpr ⟨fun _ => (rfl : lw_tbl[1049]? = some (Cond.code (xmY xm_As_fetch) (xmC xm_As_fetch) (xmL xm_As_fetch) (xmRet xm_As_fetch))), List.forall_mem_cons.mpr ⟨fun _ => (rfl : lw_tbl[1053]? = some (Cond.code (xmY xm_Su_fetch) (xmC xm_Su_fetch) (xmL xm_Su_fetch) (xmRet xm_Su_fetch))), List.forall_mem_cons.mpr ⟨fun _ => (rfl : lw_tbl[1059]? = some (Cond.code (xmY xm_TP_state) (xmC xm_TP_state) (xmL xm_TP_state) (xmRet xm_TP_state))), List.forall_mem_cons.mpr ⟨fun _ => (rfl : lw_tbl[1063]? = some (Cond.code (xmY xm_TP_reaches) (xmC xm_TP_reaches) (xmL xm_TP_reaches) (xmRet xm_TP_reaches))), List.forall_mem_cons.mpr ⟨fun _ => (rfl : lw_tbl[1067]? = some (Cond.code (xmY xm_As_tell) (xmC xm_As_tell) (xmL xm_As_tell) (xmRet xm_As_tell))), List.forall_mem_cons.mpr ⟨fun _ => (rfl : lw_tbl[1071]? = some (Cond.code (xmY xm_Me_tell) (xmC xm_Me_tell) (xmL xm_Me_tell) (xmRet xm_Me_tell))), List.forall_mem_cons.mpr ⟨fun _ => (rfl : lw_tbl[1075]? = some (Cond.code (xmY xm_Me_tellPlace) (xmC xm_Me_tellPlace) (xmL xm_Me_tellPlace) (xmRet xm_Me_tellPlace))), List.forall_mem_cons.mpr ⟨fun _ => (rfl : lw_tbl[1080]? = some (Cond.code (xmY xm_TP_made) (xmC xm_TP_made) (xmL xm_TP_made) (xmRet xm_TP_made))), List.forall_mem_cons.mpr ⟨fun _ => (rfl : lw_tbl[1083]? = some (Cond.code (xmY xm_Mg_isPlaceOf) (xmC xm_Mg_isPlaceOf) (xmL xm_Mg_isPlaceOf) (xmRet xm_Mg_isPlaceOf))), List.forall_mem_cons.mpr ⟨fun _ => (rfl : lw_tbl[1087]? = some (Cond.code (xmY xm_Mg_tell) (xmC xm_Mg_tell) (xmL xm_Mg_tell) (xmRet xm_Mg_tell))), List.forall_mem_cons.mpr ⟨fun _ => (rfl : lw_tbl[1092]? = some (Cond.code (xmY xm_Mg_orderAt) (xmC xm_Mg_orderAt) (xmL xm_Mg_orderAt) (xmRet xm_Mg_orderAt))), List.forall_mem_cons.mpr ⟨fun _ => (rfl : lw_tbl[1097]? = some (Cond.code (xmY xm_TP_unlike) (xmC xm_TP_unlike) (xmL xm_TP_unlike) (xmRet xm_TP_unlike))), List.forall_mem_cons.mpr ⟨fun _ => (rfl : lw_tbl[1102]? = some (Cond.code (xmY xm_As_unlikePlaces) (xmC xm_As_unlikePlaces) (xmL xm_As_unlikePlaces) (xmRet xm_As_unlikePlaces))), List.forall_mem_cons.mpr ⟨fun _ => (rfl : lw_tbl[1106]? = some (Cond.code (xmY xm_As_runners) (xmC xm_As_runners) (xmL xm_As_runners) (xmRet xm_As_runners))), List.forall_mem_cons.mpr ⟨fun _ => (rfl : lw_tbl[1110]? = some (Cond.code (xmY xm_As_alikePlaces) (xmC xm_As_alikePlaces) (xmL xm_As_alikePlaces) (xmRet xm_As_alikePlaces))), List.forall_mem_cons.mpr ⟨fun _ => (rfl : lw_tbl[1114]? = some (Cond.code (xmY xm_As_greatestRan) (xmC xm_As_greatestRan) (xmL xm_As_greatestRan) (xmRet xm_As_greatestRan))), List.forall_mem_cons.mpr ⟨fun _ => (rfl : lw_tbl[1119]? = some (Cond.code (xmY xm_As_leastRan) (xmC xm_As_leastRan) (xmL xm_As_leastRan) (xmRet xm_As_leastRan))), List.forall_mem_cons.mpr ⟨fun _ => (rfl : lw_tbl[1123]? = some (Cond.code (xmY xm_TP_quorum) (xmC xm_TP_quorum) (xmL xm_TP_quorum) (xmRet xm_TP_quorum))), List.forall_mem_cons.mpr ⟨fun _ => (rfl : lw_tbl[1128]? = some (Cond.code (xmY xm_Co_quorums) (xmC xm_Co_quorums) (xmL xm_Co_quorums) (xmRet xm_Co_quorums))), List.forall_mem_cons.mpr ⟨fun _ => (rfl : lw_tbl[1132]? = some (Cond.code (xmY xm_Co_isQuorumSet) (xmC xm_Co_isQuorumSet) (xmL xm_Co_isQuorumSet) (xmRet xm_Co_isQuorumSet))), List.forall_mem_cons.mpr ⟨fun _ => (rfl : lw_tbl[1138]? = some (Cond.code (xmY xm_Co_clashes) (xmC xm_Co_clashes) (xmL xm_Co_clashes) (xmRet xm_Co_clashes))), List.forall_mem_cons.mpr ⟨fun _ => (rfl : lw_tbl[1144]? = some (Cond.code (xmY xm_TP_tree) (xmC xm_TP_tree) (xmL xm_TP_tree) (xmRet xm_TP_tree))), List.forall_mem_cons.mpr ⟨fun _ => (rfl : lw_tbl[1149]? = some (Cond.code (xmY xm_TP_differ) (xmC xm_TP_differ) (xmL xm_TP_differ) (xmRet xm_TP_differ))), List.forall_mem_cons.mpr ⟨fun _ => (rfl : lw_tbl[1154]? = some (Cond.code (xmY xm_TP_sameAccounts) (xmC xm_TP_sameAccounts) (xmL xm_TP_sameAccounts) (xmRet xm_TP_sameAccounts))), List.forall_mem_cons.mpr ⟨fun _ => (rfl : lw_tbl[1158]? = some (Cond.code (xmY xm_TP_play) (xmC xm_TP_play) (xmL xm_TP_play) (xmRet xm_TP_play))), List.forall_mem_cons.mpr ⟨fun _ => (rfl : lw_tbl[1163]? = some (Cond.code (xmY xm_Tt_plan) (xmC xm_Tt_plan) (xmL xm_Tt_plan) (xmRet xm_Tt_plan))), fun _ h => absurd h List.not_mem_nil⟩⟩⟩⟩⟩⟩⟩⟩⟩⟩⟩⟩⟩⟩⟩⟩⟩⟩⟩⟩⟩⟩⟩⟩⟩⟩⟩⟩⟩⟩⟩⟩⟩⟩⟩⟩⟩⟩⟩⟩
set_option maxRecDepth 100000 in
theorem xCode_3 : ∀ m ∈ xMs_3, xmOwn m ≠ 13 → lw_tbl[(xmW m).1]? = some (Cond.code (xmY m) (xmC m) (xmL m) (xmRet m)) := List.forall_mem_cons.mpr ⟨fun _ => (rfl : lw_tbl[1170]? = some (Cond.code (xmY xm_Co_isHonest) (xmC xm_Co_isHonest) (xmL xm_Co_isHonest) (xmRet xm_Co_isHonest))), List.forall_mem_cons.mpr ⟨fun _ => (rfl : lw_tbl[1175]? = some (Cond.code (xmY xm_Tt_acceptAll) (xmC xm_Tt_acceptAll) (xmL xm_Tt_acceptAll) (xmRet xm_Tt_acceptAll))), List.forall_mem_cons.mpr ⟨fun _ => (rfl : lw_tbl[1180]? = some (Cond.code (xmY xm_Tt_lowAt) (xmC xm_Tt_lowAt) (xmL xm_Tt_lowAt) (xmRet xm_Tt_lowAt))), List.forall_mem_cons.mpr ⟨fun _ => (rfl : lw_tbl[1184]? = some (Cond.code (xmY xm_Tt_bounded) (xmC xm_Tt_bounded) (xmL xm_Tt_bounded) (xmRet xm_Tt_bounded))), List.forall_mem_cons.mpr ⟨fun _ => (rfl : lw_tbl[1189]? = some (Cond.code (xmY xm_Tt_prepareAll) (xmC xm_Tt_prepareAll) (xmL xm_Tt_prepareAll) (xmRet xm_Tt_prepareAll))), List.forall_mem_cons.mpr ⟨fun _ => (rfl : lw_tbl[1193]? = some (Cond.code (xmY xm_Tt_fillRow) (xmC xm_Tt_fillRow) (xmL xm_Tt_fillRow) (xmRet xm_Tt_fillRow))), List.forall_mem_cons.mpr ⟨fun _ => (rfl : lw_tbl[1197]? = some (Cond.code (xmY xm_Tt_quorumth) (xmC xm_Tt_quorumth) (xmL xm_Tt_quorumth) (xmRet xm_Tt_quorumth))), List.forall_mem_cons.mpr ⟨fun _ => (rfl : lw_tbl[1202]? = some (Cond.code (xmY xm_Tt_least) (xmC xm_Tt_least) (xmL xm_Tt_least) (xmRet xm_Tt_least))), List.forall_mem_cons.mpr ⟨fun _ => (rfl : lw_tbl[1206]? = some (Cond.code (xmY xm_Tt_runAll) (xmC xm_Tt_runAll) (xmL xm_Tt_runAll) (xmRet xm_Tt_runAll))), List.forall_mem_cons.mpr ⟨fun _ => (rfl : lw_tbl[1210]? = some (Cond.code (xmY xm_Tt_cutAll) (xmC xm_Tt_cutAll) (xmL xm_Tt_cutAll) (xmRet xm_Tt_cutAll))), List.forall_mem_cons.mpr ⟨fun _ => (rfl : lw_tbl[1214]? = some (Cond.code (xmY xm_Tt_isCheckpoint) (xmC xm_Tt_isCheckpoint) (xmL xm_Tt_isCheckpoint) (xmRet xm_Tt_isCheckpoint))), List.forall_mem_cons.mpr ⟨fun _ => (rfl : lw_tbl[1218]? = some (Cond.code (xmY xm_Tt_sendAll) (xmC xm_Tt_sendAll) (xmL xm_Tt_sendAll) (xmRet xm_Tt_sendAll))), List.forall_mem_cons.mpr ⟨fun _ => (rfl : lw_tbl[1222]? = some (Cond.code (xmY xm_Tt_send) (xmC xm_Tt_send) (xmL xm_Tt_send) (xmRet xm_Tt_send))), List.forall_mem_cons.mpr ⟨fun _ => (rfl : lw_tbl[1228]? = some (Cond.code (xmY xm_TP_reply) (xmC xm_TP_reply) (xmL xm_TP_reply) (xmRet xm_TP_reply))), List.forall_mem_cons.mpr ⟨fun _ => (rfl : lw_tbl[1232]? = some (Cond.code (xmY xm_Rp_tell) (xmC xm_Rp_tell) (xmL xm_Rp_tell) (xmRet xm_Rp_tell))), List.forall_mem_cons.mpr ⟨fun _ => (rfl : lw_tbl[1236]? = some (Cond.code (xmY xm_TP_match) (xmC xm_TP_match) (xmL xm_TP_match) (xmRet xm_TP_match))), List.forall_mem_cons.mpr ⟨fun _ => (rfl : lw_tbl[1240]? = some (Cond.code (xmY xm_TP_tallies) (xmC xm_TP_tallies) (xmL xm_TP_tallies) (xmRet xm_TP_tallies))), List.forall_mem_cons.mpr ⟨fun _ => (rfl : lw_tbl[1244]? = some (Cond.code (xmY xm_Ta_hear) (xmC xm_Ta_hear) (xmL xm_Ta_hear) (xmRet xm_Ta_hear))), List.forall_mem_cons.mpr ⟨fun _ => (rfl : lw_tbl[1251]? = some (Cond.code (xmY xm_Ta_hearOne) (xmC xm_Ta_hearOne) (xmL xm_Ta_hearOne) (xmRet xm_Ta_hearOne))), List.forall_mem_cons.mpr ⟨fun _ => (rfl : lw_tbl[1255]? = some (Cond.code (xmY xm_Ta_noteMatch) (xmC xm_Ta_noteMatch) (xmL xm_Ta_noteMatch) (xmRet xm_Ta_noteMatch))), List.forall_mem_cons.mpr ⟨fun _ => (rfl : lw_tbl[1259]? = some (Cond.code (xmY xm_Ta_voicesOf) (xmC xm_Ta_voicesOf) (xmL xm_Ta_voicesOf) (xmRet xm_Ta_voicesOf))), List.forall_mem_cons.mpr ⟨fun _ => (rfl : lw_tbl[1266]? = some (Cond.code (xmY xm_TP_suspects) (xmC xm_TP_suspects) (xmL xm_TP_suspects) (xmRet xm_TP_suspects))), List.forall_mem_cons.mpr ⟨fun _ => (rfl : lw_tbl[1270]? = some (Cond.code (xmY xm_Ta_suspectSets) (xmC xm_Ta_suspectSets) (xmL xm_Ta_suspectSets) (xmRet xm_Ta_suspectSets))), List.forall_mem_cons.mpr ⟨fun _ => (rfl : lw_tbl[1274]? = some (Cond.code (xmY xm_Ta_isSuspect) (xmC xm_Ta_isSuspect) (xmL xm_Ta_isSuspect) (xmRet xm_Ta_isSuspect))), List.forall_mem_cons.mpr ⟨fun _ => (rfl : lw_tbl[1278]? = some (Cond.code (xmY xm_Ta_suspectsInAll) (xmC xm_Ta_suspectsInAll) (xmL xm_Ta_suspectsInAll) (xmRet xm_Ta_suspectsInAll))), List.forall_mem_cons.mpr ⟨fun _ => (rfl : lw_tbl[1282]? = some (Cond.code (xmY xm_Ta_suspectSet) (xmC xm_Ta_suspectSet) (xmL xm_Ta_suspectSet) (xmRet xm_Ta_suspectSet))), List.forall_mem_cons.mpr ⟨fun _ => (rfl : lw_tbl[1286]? = some (Cond.code (xmY xm_TP_drawn) (xmC xm_TP_drawn) (xmL xm_TP_drawn) (xmRet xm_TP_drawn))), List.forall_mem_cons.mpr ⟨fun _ => (rfl : lw_tbl[1290]? = some (Cond.code (xmY xm_As_draw) (xmC xm_As_draw) (xmL xm_As_draw) (xmRet xm_As_draw))), List.forall_mem_cons.mpr ⟨fun _ => (rfl : lw_tbl[1294]? = some (Cond.code (xmY xm_As_below) (xmC xm_As_below) (xmL xm_As_below) (xmRet xm_As_below))), List.forall_mem_cons.mpr ⟨fun _ => (rfl : lw_tbl[1298]? = some (Cond.code (xmY xm_As_drawnKind) (xmC xm_As_drawnKind) (xmL xm_As_drawnKind) (xmRet xm_As_drawnKind))), List.forall_mem_cons.mpr ⟨fun _ => (rfl : lw_tbl[1302]? = some (Cond.code (xmY xm_TP_merged) (xmC xm_TP_merged) (xmL xm_TP_merged) (xmRet xm_TP_merged))), List.forall_mem_cons.mpr ⟨fun _ => (rfl : lw_tbl[1307]? = some (Cond.code (xmY xm_TP_sure) (xmC xm_TP_sure) (xmL xm_TP_sure) (xmRet xm_TP_sure))), List.forall_mem_cons.mpr ⟨fun _ => (rfl : lw_tbl[1312]? = some (Cond.code (xmY xm_As_lostAt) (xmC xm_As_lostAt) (xmL xm_As_lostAt) (xmRet xm_As_lostAt))), List.forall_mem_cons.mpr ⟨fun _ => (rfl : lw_tbl[1316]? = some (Cond.code (xmY xm_As_counts) (xmC xm_As_counts) (xmL xm_As_counts) (xmRet xm_As_counts))), List.forall_mem_cons.mpr ⟨fun _ => (rfl : lw_tbl[1322]? = some (Cond.code (xmY xm_As_sureAt) (xmC xm_As_sureAt) (xmL xm_As_sureAt) (xmRet xm_As_sureAt))), List.forall_mem_cons.mpr ⟨fun _ => (rfl : lw_tbl[1326]? = some (Cond.code (xmY xm_TP_after) (xmC xm_TP_after) (xmL xm_TP_after) (xmRet xm_TP_after))), List.forall_mem_cons.mpr ⟨fun _ => (rfl : lw_tbl[1330]? = some (Cond.code (xmY xm_As_behindOnes) (xmC xm_As_behindOnes) (xmL xm_As_behindOnes) (xmRet xm_As_behindOnes))), List.forall_mem_cons.mpr ⟨fun _ => (rfl : lw_tbl[1334]? = some (Cond.code (xmY xm_As_stuckOnes) (xmC xm_As_stuckOnes) (xmL xm_As_stuckOnes) (xmRet xm_As_stuckOnes))), List.forall_mem_cons.mpr ⟨fun _ => (rfl : lw_tbl[1338]? = some (Cond.code (xmY xm_As_madeViews) (xmC xm_As_madeViews) (xmL xm_As_madeViews) (xmRet xm_As_madeViews))), List.forall_mem_cons.mpr ⟨fun _ => (rfl : lw_tbl[1342]? = some (Cond.code (xmY xm_As_certainPlaces) (xmC xm_As_certainPlaces) (xmL xm_As_certainPlaces) (xmRet xm_As_certainPlaces))), fun _ h => absurd h List.not_mem_nil⟩⟩⟩⟩⟩⟩⟩⟩⟩⟩⟩⟩⟩⟩⟩⟩⟩⟩⟩⟩⟩⟩⟩⟩⟩⟩⟩⟩⟩⟩⟩⟩⟩⟩⟩⟩⟩⟩⟩⟩
set_option maxRecDepth 100000 in
theorem xCode_4 : ∀ m ∈ xMs_4, xmOwn m ≠ 13 → lw_tbl[(xmW m).1]? = some (Cond.code (xmY m) (xmC m) (xmL m) (xmRet m)) := List.forall_mem_cons.mpr ⟨fun _ => (rfl : lw_tbl[1346]? = some (Cond.code (xmY xm_As_alikeProofs) (xmC xm_As_alikeProofs) (xmL xm_As_alikeProofs) (xmRet xm_As_alikeProofs))), List.forall_mem_cons.mpr ⟨fun _ => (rfl : lw_tbl[1350]? = some (Cond.code (xmY xm_As_words) (xmC xm_As_words) (xmL xm_As_words) (xmRet xm_As_words))), List.forall_mem_cons.mpr ⟨fun _ => (rfl : lw_tbl[1354]? = some (Cond.code (xmY xm_As_fullOnes) (xmC xm_As_fullOnes) (xmL xm_As_fullOnes) (xmRet xm_As_fullOnes))), List.forall_mem_cons.mpr ⟨fun _ => (rfl : lw_tbl[1357]? = some (Cond.code (xmY xm_As_isFull) (xmC xm_As_isFull) (xmL xm_As_isFull) (xmRet xm_As_isFull))), List.forall_mem_cons.mpr ⟨fun _ => (rfl : lw_tbl[1361]? = some (Cond.code (xmY xm_TP_pace) (xmC xm_TP_pace) (xmL xm_TP_pace) (xmRet xm_TP_pace))), List.forall_mem_cons.mpr ⟨fun _ => (rfl : lw_tbl[1365]? = some (Cond.code (xmY xm_Tt_tightest) (xmC xm_Tt_tightest) (xmL xm_Tt_tightest) (xmRet xm_Tt_tightest))), List.forall_mem_cons.mpr ⟨fun _ => (rfl : lw_tbl[1370]? = some (Cond.code (xmY xm_Tt_doneAt) (xmC xm_Tt_doneAt) (xmL xm_Tt_doneAt) (xmRet xm_Tt_doneAt))), List.forall_mem_cons.mpr ⟨fun _ => (rfl : lw_tbl[1374]? = some (Cond.code (xmY xm_Tt_spareOnes) (xmC xm_Tt_spareOnes) (xmL xm_Tt_spareOnes) (xmRet xm_Tt_spareOnes))), List.forall_mem_cons.mpr ⟨fun _ => (rfl : lw_tbl[1378]? = some (Cond.code (xmY xm_Tt_slowest) (xmC xm_Tt_slowest) (xmL xm_Tt_slowest) (xmRet xm_Tt_slowest))), List.forall_mem_cons.mpr ⟨fun _ => (rfl : lw_tbl[1383]? = some (Cond.code (xmY xm_TP_behind) (xmC xm_TP_behind) (xmL xm_TP_behind) (xmRet xm_TP_behind))), List.forall_mem_cons.mpr ⟨fun _ => (rfl : lw_tbl[1387]? = some (Cond.code (xmY xm_Co_runFirst) (xmC xm_Co_runFirst) (xmL xm_Co_runFirst) (xmRet xm_Co_runFirst))), List.forall_mem_cons.mpr ⟨fun _ => (rfl : lw_tbl[1393]? = some (Cond.code (xmY xm_TP_blind) (xmC xm_TP_blind) (xmL xm_TP_blind) (xmRet xm_TP_blind))), List.forall_mem_cons.mpr ⟨fun _ => (rfl : lw_tbl[1397]? = some (Cond.code (xmY xm_TP_blindOrders) (xmC xm_TP_blindOrders) (xmL xm_TP_blindOrders) (xmRet xm_TP_blindOrders))), List.forall_mem_cons.mpr ⟨fun _ => (rfl : lw_tbl[1402]? = some (Cond.code (xmY xm_TP_changedNodes) (xmC xm_TP_changedNodes) (xmL xm_TP_changedNodes) (xmRet xm_TP_changedNodes))), List.forall_mem_cons.mpr ⟨fun _ => (rfl : lw_tbl[1406]? = some (Cond.code (xmY xm_Su_unlikeNodes) (xmC xm_Su_unlikeNodes) (xmL xm_Su_unlikeNodes) (xmRet xm_Su_unlikeNodes))), List.forall_mem_cons.mpr ⟨fun _ => (rfl : lw_tbl[1410]? = some (Cond.code (xmY xm_TP_richest) (xmC xm_TP_richest) (xmL xm_TP_richest) (xmRet xm_TP_richest))), List.forall_mem_cons.mpr ⟨fun _ => (rfl : lw_tbl[1414]? = some (Cond.code (xmY xm_TP_voices) (xmC xm_TP_voices) (xmL xm_TP_voices) (xmRet xm_TP_voices))), List.forall_mem_cons.mpr ⟨fun _ => (rfl : lw_tbl[1419]? = some (Cond.code (xmY xm_TP_lack) (xmC xm_TP_lack) (xmL xm_TP_lack) (xmRet xm_TP_lack))), List.forall_mem_cons.mpr ⟨fun _ => (rfl : lw_tbl[1423]? = some (Cond.code (xmY xm_Ta_lacking) (xmC xm_Ta_lacking) (xmL xm_Ta_lacking) (xmRet xm_Ta_lacking))), List.forall_mem_cons.mpr ⟨fun _ => (rfl : lw_tbl[1427]? = some (Cond.code (xmY xm_Ta_unlikeResults) (xmC xm_Ta_unlikeResults) (xmL xm_Ta_unlikeResults) (xmRet xm_Ta_unlikeResults))), List.forall_mem_cons.mpr ⟨fun _ => (rfl : lw_tbl[1431]? = some (Cond.code (xmY xm_TP_count) (xmC xm_TP_count) (xmL xm_TP_count) (xmRet xm_TP_count))), List.forall_mem_cons.mpr ⟨fun _ => (rfl : lw_tbl[1435]? = some (Cond.code (xmY xm_TP_image) (xmC xm_TP_image) (xmL xm_TP_image) (xmRet xm_TP_image))), List.forall_mem_cons.mpr ⟨fun _ => (rfl : lw_tbl[1439]? = some (Cond.code (xmY xm_To_take) (xmC xm_To_take) (xmL xm_To_take) (xmRet xm_To_take))), List.forall_mem_cons.mpr ⟨fun _ => (rfl : lw_tbl[1444]? = some (Cond.code (xmY xm_TP_again) (xmC xm_TP_again) (xmL xm_TP_again) (xmRet xm_TP_again))), List.forall_mem_cons.mpr ⟨fun _ => (rfl : lw_tbl[1449]? = some (Cond.code (xmY xm_Mo_new) (xmC xm_Mo_new) (xmL xm_Mo_new) (xmRet xm_Mo_new))), List.forall_mem_cons.mpr ⟨fun _ => (rfl : lw_tbl[1639]? = some (Cond.code (xmY xm_Mo_feed) (xmC xm_Mo_feed) (xmL xm_Mo_feed) (xmRet xm_Mo_feed))), List.forall_mem_cons.mpr ⟨fun _ => (rfl : lw_tbl[1643]? = some (Cond.code (xmY xm_Mo_end) (xmC xm_Mo_end) (xmL xm_Mo_end) (xmRet xm_Mo_end))), List.forall_mem_cons.mpr ⟨fun _ => (rfl : lw_tbl[1647]? = some (Cond.code (xmY xm_Mo_text) (xmC xm_Mo_text) (xmL xm_Mo_text) (xmRet xm_Mo_text))), List.forall_mem_cons.mpr ⟨fun _ => (rfl : lw_tbl[1650]? = some (Cond.code (xmY xm_Mo_isIn) (xmC xm_Mo_isIn) (xmL xm_Mo_isIn) (xmRet xm_Mo_isIn))), List.forall_mem_cons.mpr ⟨fun _ => (rfl : lw_tbl[1654]? = some (Cond.code (xmY xm_Mo_isOf) (xmC xm_Mo_isOf) (xmL xm_Mo_isOf) (xmRet xm_Mo_isOf))), List.forall_mem_cons.mpr ⟨fun _ => (rfl : lw_tbl[1658]? = some (Cond.code (xmY xm_Mo_advance) (xmC xm_Mo_advance) (xmL xm_Mo_advance) (xmRet xm_Mo_advance))), List.forall_mem_cons.mpr ⟨fun _ => (rfl : lw_tbl[1662]? = some (Cond.code (xmY xm_Mo_byteAt) (xmC xm_Mo_byteAt) (xmL xm_Mo_byteAt) (xmRet xm_Mo_byteAt))), List.forall_mem_cons.mpr ⟨fun _ => (rfl : lw_tbl[1665]? = some (Cond.code (xmY xm_Mo_isLetter) (xmC xm_Mo_isLetter) (xmL xm_Mo_isLetter) (xmRet xm_Mo_isLetter))), List.forall_mem_cons.mpr ⟨fun _ => (rfl : lw_tbl[1670]? = some (Cond.code (xmY xm_Mo_wordOf) (xmC xm_Mo_wordOf) (xmL xm_Mo_wordOf) (xmRet xm_Mo_wordOf))), List.forall_mem_cons.mpr ⟨fun _ => (rfl : lw_tbl[1673]? = some (Cond.code (xmY xm_Mo_eight) (xmC xm_Mo_eight) (xmL xm_Mo_eight) (xmRet xm_Mo_eight))), List.forall_mem_cons.mpr ⟨fun _ => (rfl : lw_tbl[1676]? = some (Cond.code (xmY xm_Mo_four) (xmC xm_Mo_four) (xmL xm_Mo_four) (xmRet xm_Mo_four))), List.forall_mem_cons.mpr ⟨fun _ => (rfl : lw_tbl[1680]? = some (Cond.code (xmY xm_Mo_isDigit) (xmC xm_Mo_isDigit) (xmL xm_Mo_isDigit) (xmRet xm_Mo_isDigit))), List.forall_mem_cons.mpr ⟨fun _ => (rfl : lw_tbl[1684]? = some (Cond.code (xmY xm_Mo_councilLine) (xmC xm_Mo_councilLine) (xmL xm_Mo_councilLine) (xmRet xm_Mo_councilLine))), List.forall_mem_cons.mpr ⟨fun _ => (rfl : lw_tbl[1688]? = some (Cond.code (xmY xm_Mo_wordIn) (xmC xm_Mo_wordIn) (xmL xm_Mo_wordIn) (xmRet xm_Mo_wordIn))), List.forall_mem_cons.mpr ⟨fun _ => (rfl : lw_tbl[1692]? = some (Cond.code (xmY xm_Mo_ends) (xmC xm_Mo_ends) (xmL xm_Mo_ends) (xmRet xm_Mo_ends))), fun _ h => absurd h List.not_mem_nil⟩⟩⟩⟩⟩⟩⟩⟩⟩⟩⟩⟩⟩⟩⟩⟩⟩⟩⟩⟩⟩⟩⟩⟩⟩⟩⟩⟩⟩⟩⟩⟩⟩⟩⟩⟩⟩⟩⟩⟩
set_option maxRecDepth 100000 in
theorem xCode_5 : ∀ m ∈ xMs_5, xmOwn m ≠ 13 → lw_tbl[(xmW m).1]? = some (Cond.code (xmY m) (xmC m) (xmL m) (xmRet m)) := List.forall_mem_cons.mpr ⟨fun _ => (rfl : lw_tbl[1696]? = some (Cond.code (xmY xm_Mo_numbered) (xmC xm_Mo_numbered) (xmL xm_Mo_numbered) (xmRet xm_Mo_numbered))), List.forall_mem_cons.mpr ⟨fun _ => (rfl : lw_tbl[1700]? = some (Cond.code (xmY xm_Mo_also) (xmC xm_Mo_also) (xmL xm_Mo_also) (xmRet xm_Mo_also))), List.forall_mem_cons.mpr ⟨fun _ => (rfl : lw_tbl[1704]? = some (Cond.code (xmY xm_Mo_memberTold) (xmC xm_Mo_memberTold) (xmL xm_Mo_memberTold) (xmRet xm_Mo_memberTold))), List.forall_mem_cons.mpr ⟨fun _ => (rfl : lw_tbl[1708]? = some (Cond.code (xmY xm_Mo_orderTold) (xmC xm_Mo_orderTold) (xmL xm_Mo_orderTold) (xmRet xm_Mo_orderTold))), List.forall_mem_cons.mpr ⟨fun _ => (rfl : lw_tbl[1712]? = some (Cond.code (xmY xm_Mo_delayTold) (xmC xm_Mo_delayTold) (xmL xm_Mo_delayTold) (xmRet xm_Mo_delayTold))), List.forall_mem_cons.mpr ⟨fun _ => (rfl : lw_tbl[1716]? = some (Cond.code (xmY xm_Mo_otherTold) (xmC xm_Mo_otherTold) (xmL xm_Mo_otherTold) (xmRet xm_Mo_otherTold))), List.forall_mem_cons.mpr ⟨fun _ => (rfl : lw_tbl[1720]? = some (Cond.code (xmY xm_Mo_endsLine) (xmC xm_Mo_endsLine) (xmL xm_Mo_endsLine) (xmRet xm_Mo_endsLine))), List.forall_mem_cons.mpr ⟨fun _ => (rfl : lw_tbl[1724]? = some (Cond.code (xmY xm_Mo_runLine) (xmC xm_Mo_runLine) (xmL xm_Mo_runLine) (xmRet xm_Mo_runLine))), List.forall_mem_cons.mpr ⟨fun _ => (rfl : lw_tbl[1728]? = some (Cond.code (xmY xm_Mo_repliesLine) (xmC xm_Mo_repliesLine) (xmL xm_Mo_repliesLine) (xmRet xm_Mo_repliesLine))), List.forall_mem_cons.mpr ⟨fun _ => (rfl : lw_tbl[1731]? = some (Cond.code (xmY xm_Mo_sizeOf) (xmC xm_Mo_sizeOf) (xmL xm_Mo_sizeOf) (xmRet xm_Mo_sizeOf))), List.forall_mem_cons.mpr ⟨fun _ => (rfl : lw_tbl[1734]? = some (Cond.code (xmY xm_Mo_placeOf) (xmC xm_Mo_placeOf) (xmL xm_Mo_placeOf) (xmRet xm_Mo_placeOf))), List.forall_mem_cons.mpr ⟨fun _ => (rfl : lw_tbl[1738]? = some (Cond.code (xmY xm_Mo_fault) (xmC xm_Mo_fault) (xmL xm_Mo_fault) (xmRet xm_Mo_fault))), List.forall_mem_cons.mpr ⟨fun _ => (rfl : lw_tbl[1742]? = some (Cond.code (xmY xm_Mo_council) (xmC xm_Mo_council) (xmL xm_Mo_council) (xmRet xm_Mo_council))), List.forall_mem_cons.mpr ⟨fun _ => (rfl : lw_tbl[1746]? = some (Cond.code (xmY xm_Mo_isCouncil) (xmC xm_Mo_isCouncil) (xmL xm_Mo_isCouncil) (xmRet xm_Mo_isCouncil))), List.forall_mem_cons.mpr ⟨fun _ => (rfl : lw_tbl[1750]? = some (Cond.code (xmY xm_Mo_isMember) (xmC xm_Mo_isMember) (xmL xm_Mo_isMember) (xmRet xm_Mo_isMember))), List.forall_mem_cons.mpr ⟨fun _ => (rfl : lw_tbl[1754]? = some (Cond.code (xmY xm_Mo_delayOf) (xmC xm_Mo_delayOf) (xmL xm_Mo_delayOf) (xmRet xm_Mo_delayOf))), List.forall_mem_cons.mpr ⟨fun _ => (rfl : lw_tbl[1758]? = some (Cond.code (xmY xm_Mo_orderAccount) (xmC xm_Mo_orderAccount) (xmL xm_Mo_orderAccount) (xmRet xm_Mo_orderAccount))), List.forall_mem_cons.mpr ⟨fun _ => (rfl : lw_tbl[1762]? = some (Cond.code (xmY xm_Mo_orderPlus) (xmC xm_Mo_orderPlus) (xmL xm_Mo_orderPlus) (xmRet xm_Mo_orderPlus))), List.forall_mem_cons.mpr ⟨fun _ => (rfl : lw_tbl[1766]? = some (Cond.code (xmY xm_Mo_tree) (xmC xm_Mo_tree) (xmL xm_Mo_tree) (xmRet xm_Mo_tree))), List.forall_mem_cons.mpr ⟨fun _ => (rfl : lw_tbl[1769]? = some (Cond.code (xmY xm_Mo_laysSums) (xmC xm_Mo_laysSums) (xmL xm_Mo_laysSums) (xmRet xm_Mo_laysSums))), List.forall_mem_cons.mpr ⟨fun _ => (rfl : lw_tbl[1773]? = some (Cond.code (xmY xm_Mo_differ) (xmC xm_Mo_differ) (xmL xm_Mo_differ) (xmRet xm_Mo_differ))), List.forall_mem_cons.mpr ⟨fun _ => (rfl : lw_tbl[1777]? = some (Cond.code (xmY xm_Mo_seeks) (xmC xm_Mo_seeks) (xmL xm_Mo_seeks) (xmRet xm_Mo_seeks))), List.forall_mem_cons.mpr ⟨fun _ => (rfl : lw_tbl[1781]? = some (Cond.code (xmY xm_Mo_quorum) (xmC xm_Mo_quorum) (xmL xm_Mo_quorum) (xmRet xm_Mo_quorum))), List.forall_mem_cons.mpr ⟨fun _ => (rfl : lw_tbl[1785]? = some (Cond.code (xmY xm_Mo_isLiar) (xmC xm_Mo_isLiar) (xmL xm_Mo_isLiar) (xmRet xm_Mo_isLiar))), List.forall_mem_cons.mpr ⟨fun _ => (rfl : lw_tbl[1788]? = some (Cond.code (xmY xm_Mo_bitsOf) (xmC xm_Mo_bitsOf) (xmL xm_Mo_bitsOf) (xmRet xm_Mo_bitsOf))), List.forall_mem_cons.mpr ⟨fun _ => (rfl : lw_tbl[1792]? = some (Cond.code (xmY xm_Mo_deed) (xmC xm_Mo_deed) (xmL xm_Mo_deed) (xmRet xm_Mo_deed))), List.forall_mem_cons.mpr ⟨fun _ => (rfl : lw_tbl[1796]? = some (Cond.code (xmY xm_Mo_isRun) (xmC xm_Mo_isRun) (xmL xm_Mo_isRun) (xmRet xm_Mo_isRun))), List.forall_mem_cons.mpr ⟨fun _ => (rfl : lw_tbl[1800]? = some (Cond.code (xmY xm_Mo_stop) (xmC xm_Mo_stop) (xmL xm_Mo_stop) (xmRet xm_Mo_stop))), List.forall_mem_cons.mpr ⟨fun _ => (rfl : lw_tbl[1804]? = some (Cond.code (xmY xm_Mo_goes) (xmC xm_Mo_goes) (xmL xm_Mo_goes) (xmRet xm_Mo_goes))), List.forall_mem_cons.mpr ⟨fun _ => (rfl : lw_tbl[1808]? = some (Cond.code (xmY xm_Mo_begins) (xmC xm_Mo_begins) (xmL xm_Mo_begins) (xmRet xm_Mo_begins))), List.forall_mem_cons.mpr ⟨fun _ => (rfl : lw_tbl[1812]? = some (Cond.code (xmY xm_Mo_does) (xmC xm_Mo_does) (xmL xm_Mo_does) (xmRet xm_Mo_does))), List.forall_mem_cons.mpr ⟨fun _ => (rfl : lw_tbl[1816]? = some (Cond.code (xmY xm_Mo_proposes) (xmC xm_Mo_proposes) (xmL xm_Mo_proposes) (xmRet xm_Mo_proposes))), List.forall_mem_cons.mpr ⟨fun _ => (rfl : lw_tbl[1820]? = some (Cond.code (xmY xm_Mo_isWithin) (xmC xm_Mo_isWithin) (xmL xm_Mo_isWithin) (xmRet xm_Mo_isWithin))), List.forall_mem_cons.mpr ⟨fun _ => (rfl : lw_tbl[1823]? = some (Cond.code (xmY xm_Mo_at) (xmC xm_Mo_at) (xmL xm_Mo_at) (xmRet xm_Mo_at))), List.forall_mem_cons.mpr ⟨fun _ => (rfl : lw_tbl[1827]? = some (Cond.code (xmY xm_Mo_primaryOf) (xmC xm_Mo_primaryOf) (xmL xm_Mo_primaryOf) (xmRet xm_Mo_primaryOf))), List.forall_mem_cons.mpr ⟨fun _ => (rfl : lw_tbl[1831]? = some (Cond.code (xmY xm_Mo_accepts) (xmC xm_Mo_accepts) (xmL xm_Mo_accepts) (xmRet xm_Mo_accepts))), List.forall_mem_cons.mpr ⟨fun _ => (rfl : lw_tbl[1835]? = some (Cond.code (xmY xm_Mo_settles) (xmC xm_Mo_settles) (xmL xm_Mo_settles) (xmRet xm_Mo_settles))), List.forall_mem_cons.mpr ⟨fun _ => (rfl : lw_tbl[1839]? = some (Cond.code (xmY xm_Mo_isPrepared) (xmC xm_Mo_isPrepared) (xmL xm_Mo_isPrepared) (xmRet xm_Mo_isPrepared))), List.forall_mem_cons.mpr ⟨fun _ => (rfl : lw_tbl[1843]? = some (Cond.code (xmY xm_Mo_words) (xmC xm_Mo_words) (xmL xm_Mo_words) (xmRet xm_Mo_words))), List.forall_mem_cons.mpr ⟨fun _ => (rfl : lw_tbl[1847]? = some (Cond.code (xmY xm_Mo_isWord) (xmC xm_Mo_isWord) (xmL xm_Mo_isWord) (xmRet xm_Mo_isWord))), fun _ h => absurd h List.not_mem_nil⟩⟩⟩⟩⟩⟩⟩⟩⟩⟩⟩⟩⟩⟩⟩⟩⟩⟩⟩⟩⟩⟩⟩⟩⟩⟩⟩⟩⟩⟩⟩⟩⟩⟩⟩⟩⟩⟩⟩⟩
set_option maxRecDepth 100000 in
theorem xCode_6 : ∀ m ∈ xMs_6, xmOwn m ≠ 13 → lw_tbl[(xmW m).1]? = some (Cond.code (xmY m) (xmC m) (xmL m) (xmRet m)) := List.forall_mem_cons.mpr ⟨fun _ => (rfl : lw_tbl[1851]? = some (Cond.code (xmY xm_Mo_runsOn) (xmC xm_Mo_runsOn) (xmL xm_Mo_runsOn) (xmRet xm_Mo_runsOn))), List.forall_mem_cons.mpr ⟨fun _ => (rfl : lw_tbl[1855]? = some (Cond.code (xmY xm_Mo_canRun) (xmC xm_Mo_canRun) (xmL xm_Mo_canRun) (xmRet xm_Mo_canRun))), List.forall_mem_cons.mpr ⟨fun _ => (rfl : lw_tbl[1859]? = some (Cond.code (xmY xm_Mo_isCommitted) (xmC xm_Mo_isCommitted) (xmL xm_Mo_isCommitted) (xmRet xm_Mo_isCommitted))), List.forall_mem_cons.mpr ⟨fun _ => (rfl : lw_tbl[1863]? = some (Cond.code (xmY xm_Mo_runsOne) (xmC xm_Mo_runsOne) (xmL xm_Mo_runsOne) (xmRet xm_Mo_runsOne))), List.forall_mem_cons.mpr ⟨fun _ => (rfl : lw_tbl[1867]? = some (Cond.code (xmY xm_Mo_checks) (xmC xm_Mo_checks) (xmL xm_Mo_checks) (xmRet xm_Mo_checks))), List.forall_mem_cons.mpr ⟨fun _ => (rfl : lw_tbl[1871]? = some (Cond.code (xmY xm_Mo_rootOf) (xmC xm_Mo_rootOf) (xmL xm_Mo_rootOf) (xmRet xm_Mo_rootOf))), List.forall_mem_cons.mpr ⟨fun _ => (rfl : lw_tbl[1875]? = some (Cond.code (xmY xm_Mo_counts) (xmC xm_Mo_counts) (xmL xm_Mo_counts) (xmRet xm_Mo_counts))), List.forall_mem_cons.mpr ⟨fun _ => (rfl : lw_tbl[1879]? = some (Cond.code (xmY xm_Mo_cuts) (xmC xm_Mo_cuts) (xmL xm_Mo_cuts) (xmRet xm_Mo_cuts))), List.forall_mem_cons.mpr ⟨fun _ => (rfl : lw_tbl[1883]? = some (Cond.code (xmY xm_Mo_forgets) (xmC xm_Mo_forgets) (xmL xm_Mo_forgets) (xmRet xm_Mo_forgets))), List.forall_mem_cons.mpr ⟨fun _ => (rfl : lw_tbl[1887]? = some (Cond.code (xmY xm_Mo_marks) (xmC xm_Mo_marks) (xmL xm_Mo_marks) (xmRet xm_Mo_marks))), List.forall_mem_cons.mpr ⟨fun _ => (rfl : lw_tbl[1891]? = some (Cond.code (xmY xm_Mo_fetches) (xmC xm_Mo_fetches) (xmL xm_Mo_fetches) (xmRet xm_Mo_fetches))), List.forall_mem_cons.mpr ⟨fun _ => (rfl : lw_tbl[1895]? = some (Cond.code (xmY xm_Mo_doubts) (xmC xm_Mo_doubts) (xmL xm_Mo_doubts) (xmRet xm_Mo_doubts))), List.forall_mem_cons.mpr ⟨fun _ => (rfl : lw_tbl[1899]? = some (Cond.code (xmY xm_Mo_makes) (xmC xm_Mo_makes) (xmL xm_Mo_makes) (xmRet xm_Mo_makes))), List.forall_mem_cons.mpr ⟨fun _ => (rfl : lw_tbl[1903]? = some (Cond.code (xmY xm_Mo_merges) (xmC xm_Mo_merges) (xmL xm_Mo_merges) (xmRet xm_Mo_merges))), List.forall_mem_cons.mpr ⟨fun _ => (rfl : lw_tbl[1907]? = some (Cond.code (xmY xm_Mo_orderBy) (xmC xm_Mo_orderBy) (xmL xm_Mo_orderBy) (xmRet xm_Mo_orderBy))), List.forall_mem_cons.mpr ⟨fun _ => (rfl : lw_tbl[1911]? = some (Cond.code (xmY xm_Mo_entersView) (xmC xm_Mo_entersView) (xmL xm_Mo_entersView) (xmRet xm_Mo_entersView))), List.forall_mem_cons.mpr ⟨fun _ => (rfl : lw_tbl[1915]? = some (Cond.code (xmY xm_Mo_entersAlone) (xmC xm_Mo_entersAlone) (xmL xm_Mo_entersAlone) (xmRet xm_Mo_entersAlone))), List.forall_mem_cons.mpr ⟨fun _ => (rfl : lw_tbl[1919]? = some (Cond.code (xmY xm_Mo_state) (xmC xm_Mo_state) (xmL xm_Mo_state) (xmRet xm_Mo_state))), List.forall_mem_cons.mpr ⟨fun _ => (rfl : lw_tbl[1923]? = some (Cond.code (xmY xm_Mo_isState) (xmC xm_Mo_isState) (xmL xm_Mo_isState) (xmRet xm_Mo_isState))), List.forall_mem_cons.mpr ⟨fun _ => (rfl : lw_tbl[1927]? = some (Cond.code (xmY xm_Mo_nowOf) (xmC xm_Mo_nowOf) (xmL xm_Mo_nowOf) (xmRet xm_Mo_nowOf))), List.forall_mem_cons.mpr ⟨fun _ => (rfl : lw_tbl[1931]? = some (Cond.code (xmY xm_Mo_placeNow) (xmC xm_Mo_placeNow) (xmL xm_Mo_placeNow) (xmRet xm_Mo_placeNow))), List.forall_mem_cons.mpr ⟨fun _ => (rfl : lw_tbl[1935]? = some (Cond.code (xmY xm_Mo_made) (xmC xm_Mo_made) (xmL xm_Mo_made) (xmRet xm_Mo_made))), List.forall_mem_cons.mpr ⟨fun _ => (rfl : lw_tbl[1939]? = some (Cond.code (xmY xm_Mo_unlike) (xmC xm_Mo_unlike) (xmL xm_Mo_unlike) (xmRet xm_Mo_unlike))), List.forall_mem_cons.mpr ⟨fun _ => (rfl : lw_tbl[1943]? = some (Cond.code (xmY xm_Mo_placesBy) (xmC xm_Mo_placesBy) (xmL xm_Mo_placesBy) (xmRet xm_Mo_placesBy))), List.forall_mem_cons.mpr ⟨fun _ => (rfl : lw_tbl[1947]? = some (Cond.code (xmY xm_Mo_ranSo) (xmC xm_Mo_ranSo) (xmL xm_Mo_ranSo) (xmRet xm_Mo_ranSo))), List.forall_mem_cons.mpr ⟨fun _ => (rfl : lw_tbl[1951]? = some (Cond.code (xmY xm_Mo_ranBy) (xmC xm_Mo_ranBy) (xmL xm_Mo_ranBy) (xmRet xm_Mo_ranBy))), List.forall_mem_cons.mpr ⟨fun _ => (rfl : lw_tbl[1955]? = some (Cond.code (xmY xm_Mo_merged) (xmC xm_Mo_merged) (xmL xm_Mo_merged) (xmRet xm_Mo_merged))), List.forall_mem_cons.mpr ⟨fun _ => (rfl : lw_tbl[1959]? = some (Cond.code (xmY xm_Mo_sure) (xmC xm_Mo_sure) (xmL xm_Mo_sure) (xmRet xm_Mo_sure))), List.forall_mem_cons.mpr ⟨fun _ => (rfl : lw_tbl[1963]? = some (Cond.code (xmY xm_Mo_after) (xmC xm_Mo_after) (xmL xm_Mo_after) (xmRet xm_Mo_after))), List.forall_mem_cons.mpr ⟨fun _ => (rfl : lw_tbl[1967]? = some (Cond.code (xmY xm_Mo_honestBy) (xmC xm_Mo_honestBy) (xmL xm_Mo_honestBy) (xmRet xm_Mo_honestBy))), List.forall_mem_cons.mpr ⟨fun _ => (rfl : lw_tbl[1971]? = some (Cond.code (xmY xm_Mo_isFull) (xmC xm_Mo_isFull) (xmL xm_Mo_isFull) (xmRet xm_Mo_isFull))), List.forall_mem_cons.mpr ⟨fun _ => (rfl : lw_tbl[1975]? = some (Cond.code (xmY xm_Mo_viewsMade) (xmC xm_Mo_viewsMade) (xmL xm_Mo_viewsMade) (xmRet xm_Mo_viewsMade))), List.forall_mem_cons.mpr ⟨fun _ => (rfl : lw_tbl[1979]? = some (Cond.code (xmY xm_Mo_certainOf) (xmC xm_Mo_certainOf) (xmL xm_Mo_certainOf) (xmRet xm_Mo_certainOf))), List.forall_mem_cons.mpr ⟨fun _ => (rfl : lw_tbl[1983]? = some (Cond.code (xmY xm_Mo_wordsOf) (xmC xm_Mo_wordsOf) (xmL xm_Mo_wordsOf) (xmRet xm_Mo_wordsOf))), List.forall_mem_cons.mpr ⟨fun _ => (rfl : lw_tbl[1987]? = some (Cond.code (xmY xm_Mo_play) (xmC xm_Mo_play) (xmL xm_Mo_play) (xmRet xm_Mo_play))), List.forall_mem_cons.mpr ⟨fun _ => (rfl : lw_tbl[1991]? = some (Cond.code (xmY xm_Mo_plays) (xmC xm_Mo_plays) (xmL xm_Mo_plays) (xmRet xm_Mo_plays))), List.forall_mem_cons.mpr ⟨fun _ => (rfl : lw_tbl[1996]? = some (Cond.code (xmY xm_Mo_playsPlace) (xmC xm_Mo_playsPlace) (xmL xm_Mo_playsPlace) (xmRet xm_Mo_playsPlace))), List.forall_mem_cons.mpr ⟨fun _ => (rfl : lw_tbl[2000]? = some (Cond.code (xmY xm_Mo_playsAccepts) (xmC xm_Mo_playsAccepts) (xmL xm_Mo_playsAccepts) (xmRet xm_Mo_playsAccepts))), List.forall_mem_cons.mpr ⟨fun _ => (rfl : lw_tbl[2004]? = some (Cond.code (xmY xm_Mo_lowFrom) (xmC xm_Mo_lowFrom) (xmL xm_Mo_lowFrom) (xmRet xm_Mo_lowFrom))), List.forall_mem_cons.mpr ⟨fun _ => (rfl : lw_tbl[2007]? = some (Cond.code (xmY xm_Mo_later) (xmC xm_Mo_later) (xmL xm_Mo_later) (xmRet xm_Mo_later))), fun _ h => absurd h List.not_mem_nil⟩⟩⟩⟩⟩⟩⟩⟩⟩⟩⟩⟩⟩⟩⟩⟩⟩⟩⟩⟩⟩⟩⟩⟩⟩⟩⟩⟩⟩⟩⟩⟩⟩⟩⟩⟩⟩⟩⟩⟩
set_option maxRecDepth 100000 in
theorem xCode_7 : ∀ m ∈ xMs_7, xmOwn m ≠ 13 → lw_tbl[(xmW m).1]? = some (Cond.code (xmY m) (xmC m) (xmL m) (xmRet m)) := List.forall_mem_cons.mpr ⟨fun _ => (rfl : lw_tbl[2010]? = some (Cond.code (xmY xm_Mo_behindBy) (xmC xm_Mo_behindBy) (xmL xm_Mo_behindBy) (xmRet xm_Mo_behindBy))), List.forall_mem_cons.mpr ⟨fun _ => (rfl : lw_tbl[2014]? = some (Cond.code (xmY xm_Mo_laysComes) (xmC xm_Mo_laysComes) (xmL xm_Mo_laysComes) (xmRet xm_Mo_laysComes))), List.forall_mem_cons.mpr ⟨fun _ => (rfl : lw_tbl[2018]? = some (Cond.code (xmY xm_Mo_manyCome) (xmC xm_Mo_manyCome) (xmL xm_Mo_manyCome) (xmRet xm_Mo_manyCome))), List.forall_mem_cons.mpr ⟨fun _ => (rfl : lw_tbl[2021]? = some (Cond.code (xmY xm_Mo_minuteOf) (xmC xm_Mo_minuteOf) (xmL xm_Mo_minuteOf) (xmRet xm_Mo_minuteOf))), List.forall_mem_cons.mpr ⟨fun _ => (rfl : lw_tbl[2025]? = some (Cond.code (xmY xm_Mo_pace) (xmC xm_Mo_pace) (xmL xm_Mo_pace) (xmRet xm_Mo_pace))), List.forall_mem_cons.mpr ⟨fun _ => (rfl : lw_tbl[2029]? = some (Cond.code (xmY xm_Mo_sendsAll) (xmC xm_Mo_sendsAll) (xmL xm_Mo_sendsAll) (xmRet xm_Mo_sendsAll))), List.forall_mem_cons.mpr ⟨fun _ => (rfl : lw_tbl[2033]? = some (Cond.code (xmY xm_Mo_sends) (xmC xm_Mo_sends) (xmL xm_Mo_sends) (xmRet xm_Mo_sends))), List.forall_mem_cons.mpr ⟨fun _ => (rfl : lw_tbl[2037]? = some (Cond.code (xmY xm_Mo_slowestOf) (xmC xm_Mo_slowestOf) (xmL xm_Mo_slowestOf) (xmRet xm_Mo_slowestOf))), List.forall_mem_cons.mpr ⟨fun _ => (rfl : lw_tbl[2041]? = some (Cond.code (xmY xm_Mo_doneOf) (xmC xm_Mo_doneOf) (xmL xm_Mo_doneOf) (xmRet xm_Mo_doneOf))), List.forall_mem_cons.mpr ⟨fun _ => (rfl : lw_tbl[2045]? = some (Cond.code (xmY xm_Mo_tightOf) (xmC xm_Mo_tightOf) (xmL xm_Mo_tightOf) (xmRet xm_Mo_tightOf))), List.forall_mem_cons.mpr ⟨fun _ => (rfl : lw_tbl[2049]? = some (Cond.code (xmY xm_Mo_lastDoneBy) (xmC xm_Mo_lastDoneBy) (xmL xm_Mo_lastDoneBy) (xmRet xm_Mo_lastDoneBy))), List.forall_mem_cons.mpr ⟨fun _ => (rfl : lw_tbl[2053]? = some (Cond.code (xmY xm_Mo_spareOf) (xmC xm_Mo_spareOf) (xmL xm_Mo_spareOf) (xmRet xm_Mo_spareOf))), List.forall_mem_cons.mpr ⟨fun _ => (rfl : lw_tbl[2057]? = some (Cond.code (xmY xm_Mo_behind) (xmC xm_Mo_behind) (xmL xm_Mo_behind) (xmRet xm_Mo_behind))), List.forall_mem_cons.mpr ⟨fun _ => (rfl : lw_tbl[2061]? = some (Cond.code (xmY xm_Mo_laysSheet) (xmC xm_Mo_laysSheet) (xmL xm_Mo_laysSheet) (xmRet xm_Mo_laysSheet))), List.forall_mem_cons.mpr ⟨fun _ => (rfl : lw_tbl[2065]? = some (Cond.code (xmY xm_Mo_runsSheet) (xmC xm_Mo_runsSheet) (xmL xm_Mo_runsSheet) (xmRet xm_Mo_runsSheet))), List.forall_mem_cons.mpr ⟨fun _ => (rfl : lw_tbl[2069]? = some (Cond.code (xmY xm_Mo_blind) (xmC xm_Mo_blind) (xmL xm_Mo_blind) (xmRet xm_Mo_blind))), List.forall_mem_cons.mpr ⟨fun _ => (rfl : lw_tbl[2073]? = some (Cond.code (xmY xm_Mo_blindOf) (xmC xm_Mo_blindOf) (xmL xm_Mo_blindOf) (xmRet xm_Mo_blindOf))), List.forall_mem_cons.mpr ⟨fun _ => (rfl : lw_tbl[2077]? = some (Cond.code (xmY xm_Mo_pathsOf) (xmC xm_Mo_pathsOf) (xmL xm_Mo_pathsOf) (xmRet xm_Mo_pathsOf))), List.forall_mem_cons.mpr ⟨fun _ => (rfl : lw_tbl[2081]? = some (Cond.code (xmY xm_Mo_reply) (xmC xm_Mo_reply) (xmL xm_Mo_reply) (xmRet xm_Mo_reply))), List.forall_mem_cons.mpr ⟨fun _ => (rfl : lw_tbl[2085]? = some (Cond.code (xmY xm_Mo_isReplies) (xmC xm_Mo_isReplies) (xmL xm_Mo_isReplies) (xmRet xm_Mo_isReplies))), List.forall_mem_cons.mpr ⟨fun _ => (rfl : lw_tbl[2089]? = some (Cond.code (xmY xm_Mo_match) (xmC xm_Mo_match) (xmL xm_Mo_match) (xmRet xm_Mo_match))), List.forall_mem_cons.mpr ⟨fun _ => (rfl : lw_tbl[2093]? = some (Cond.code (xmY xm_Mo_come) (xmC xm_Mo_come) (xmL xm_Mo_come) (xmRet xm_Mo_come))), List.forall_mem_cons.mpr ⟨fun _ => (rfl : lw_tbl[2097]? = some (Cond.code (xmY xm_Mo_tell) (xmC xm_Mo_tell) (xmL xm_Mo_tell) (xmRet xm_Mo_tell))), List.forall_mem_cons.mpr ⟨fun _ => (rfl : lw_tbl[2101]? = some (Cond.code (xmY xm_Mo_suspects) (xmC xm_Mo_suspects) (xmL xm_Mo_suspects) (xmRet xm_Mo_suspects))), List.forall_mem_cons.mpr ⟨fun _ => (rfl : lw_tbl[2105]? = some (Cond.code (xmY xm_Mo_isOneBut) (xmC xm_Mo_isOneBut) (xmL xm_Mo_isOneBut) (xmRet xm_Mo_isOneBut))), List.forall_mem_cons.mpr ⟨fun _ => (rfl : lw_tbl[2109]? = some (Cond.code (xmY xm_Mo_voices) (xmC xm_Mo_voices) (xmL xm_Mo_voices) (xmRet xm_Mo_voices))), List.forall_mem_cons.mpr ⟨fun _ => (rfl : lw_tbl[2113]? = some (Cond.code (xmY xm_Mo_lack) (xmC xm_Mo_lack) (xmL xm_Mo_lack) (xmRet xm_Mo_lack))), List.forall_mem_cons.mpr ⟨fun _ => (rfl : lw_tbl[2117]? = some (Cond.code (xmY xm_Mo_drawn) (xmC xm_Mo_drawn) (xmL xm_Mo_drawn) (xmRet xm_Mo_drawn))), List.forall_mem_cons.mpr ⟨fun _ => (rfl : lw_tbl[2121]? = some (Cond.code (xmY xm_Mo_draws) (xmC xm_Mo_draws) (xmL xm_Mo_draws) (xmRet xm_Mo_draws))), List.forall_mem_cons.mpr ⟨fun _ => (rfl : lw_tbl[2125]? = some (Cond.code (xmY xm_Mo_below) (xmC xm_Mo_below) (xmL xm_Mo_below) (xmRet xm_Mo_below))), List.forall_mem_cons.mpr ⟨fun _ => (rfl : lw_tbl[2130]? = some (Cond.code (xmY xm_Mo_count) (xmC xm_Mo_count) (xmL xm_Mo_count) (xmRet xm_Mo_count))), List.forall_mem_cons.mpr ⟨fun _ => (rfl : lw_tbl[2134]? = some (Cond.code (xmY xm_Mo_image) (xmC xm_Mo_image) (xmL xm_Mo_image) (xmRet xm_Mo_image))), List.forall_mem_cons.mpr ⟨fun _ => (rfl : lw_tbl[2138]? = some (Cond.code (xmY xm_Mo_again) (xmC xm_Mo_again) (xmL xm_Mo_again) (xmRet xm_Mo_again))), List.forall_mem_cons.mpr ⟨fun h => absurd rfl h, fun _ h => absurd h List.not_mem_nil⟩⟩⟩⟩⟩⟩⟩⟩⟩⟩⟩⟩⟩⟩⟩⟩⟩⟩⟩⟩⟩⟩⟩⟩⟩⟩⟩⟩⟩⟩⟩⟩⟩⟩
theorem xCodeA : ∀ m ∈ xMs, xmOwn m ≠ 13 → lw_tbl[(xmW m).1]? = some (Cond.code (xmY m) (xmC m) (xmL m) (xmRet m)) := List.forall_mem_append.mpr ⟨xCode_0, List.forall_mem_append.mpr ⟨xCode_1, List.forall_mem_append.mpr ⟨xCode_2, List.forall_mem_append.mpr ⟨xCode_3, List.forall_mem_append.mpr ⟨xCode_4, List.forall_mem_append.mpr ⟨xCode_5, List.forall_mem_append.mpr ⟨xCode_6, xCode_7⟩⟩⟩⟩⟩⟩⟩
/-- the links of calls -/
def xCsOk (ow : Nat) : Bool := (xCs.getD ow []).all fun e => if e.2.1 = 4 then decide (lw_tbl[e.2.2.2]? = some (Cond.methodLink (xR ow) e.1 Lib.objectInit)) else if e.2.1 = 5 then decide (lw_tbl[e.2.2.2]? = some (Cond.methodLink (xR ow) e.1 arraycopyName)) else if e.2.1 = 6 then decide (lw_tbl[e.2.2.2]? = some (Cond.methodLink (xR ow) e.1 Lib.Math.max.name)) else if e.2.1 = 7 then decide (lw_tbl[e.2.2.2]? = some (Cond.methodLink (xR ow) e.1 Lib.Math.min.name)) else (match xMs[e.2.2.1]? with
  | none => false
  | some c => xmOwn c != 13 && (if e.2.1 = 3 then decide ((ow, e.1, xmY c) ∈ xNest) && xmK c == 0 else (e.2.1 == xmK c) && decide (lw_tbl[e.2.2.2]? = some (Cond.methodLink (xR ow) e.1 (xmY c)))))
set_option maxRecDepth 100000 in
theorem xCs_ok : ∀ ow, ow < 21 → xCsOk ow = true := by decide +kernel
end
section
set_option maxRecDepth 100000 in
theorem xMath_ok : Cond.static Lib.Math.max.name ∈ xw ∧ Cond.code Lib.Math.max.name Lib.Math.max.code 2 (some .int) ∈ xw ∧ Cond.static Lib.Math.min.name ∈ xw ∧ Cond.code Lib.Math.min.name Lib.Math.min.code 2 (some .int) ∈ xw ∧ Cond.initialized "java/lang/Math" ∈ xw := ⟨xw_of (i := 820) (by decide +kernel) rfl, xw_of (i := 821) rfl rfl, xw_of (i := 680) (by decide +kernel) rfl, xw_of (i := 681) rfl rfl, xw_of (i := 149) (by decide +kernel) rfl⟩
end
section
/-! THE INTERPRETER. A small machine over numbered cells: what the landed class, the reference and the law do, as a function. References are cell numbers: below 1000000 the cells that the run makes, in their order; from there on the old ones (1000000 the script, 1000001 to 1000004 the reader's tables, 1000010 on the texts, 1000030 on their bytes). Kinds: 0 to 12 an object of that class, 20 int[], 21 byte[], 22 boolean[], 23 to 28 arrays of objects, 29 int[][], 40 an old int[], 42 a text, 43 a text's bytes. -/
abbrev XS : Type := (Nat × Nat) × (Nat → Nat × Nat) × (Nat → Nat → Int32) × (Nat → Nat → Option Nat)
abbrev xsN (σ : XS) : Nat := σ.1.1
abbrev xsZ (σ : XS) : Nat := σ.1.2
abbrev xsS (σ : XS) : Nat → Nat × Nat := σ.2.1
abbrev xsI (σ : XS) : Nat → Nat → Int32 := σ.2.2.1
abbrev xsR (σ : XS) : Nat → Nat → Option Nat := σ.2.2.2
def xu (f : Nat → Nat → Int32) (a k : Nat) (v : Int32) : Nat → Nat → Int32 := fun a' => if a' = a then upd (f a) k v else f a'
def xur (f : Nat → Nat → Option Nat) (a k : Nat) (v : Option Nat) : Nat → Nat → Option Nat := fun a' => if a' = a then va_up (f a) k v else f a'
/-- a whole row is written -/
def xuc (f : Nat → Nat → Int32) (a : Nat) (g : Nat → Int32) : Nat → Nat → Int32 := fun a' => if a' = a then g else f a'
def xPut (σ : XS) (a k : Nat) (v : Int32) : XS := (σ.1, σ.2.1, xu σ.2.2.1 a k v, σ.2.2.2)
def xPutR (σ : XS) (a k : Nat) (q : Nat) : XS := (σ.1, σ.2.1, σ.2.2.1, xur σ.2.2.2 a k (some q))
def xRow (σ : XS) (a : Nat) (g : Nat → Int32) : XS := (σ.1, σ.2.1, xuc σ.2.2.1 a g, σ.2.2.2)
/-- a new cell -/
def xNew (σ : XS) (kind len slots : Nat) : XS := ((σ.1.1 + 1, σ.1.2 + slots), (fun a => if a = σ.1.1 then (kind, len) else σ.2.1 a), (fun a => if a = σ.1.1 then (fun _ => 0) else σ.2.2.1 a), (fun a => if a = σ.1.1 then (fun _ => none) else σ.2.2.2 a))
/-- new int[n][k]: the outer row, then the inner ones -/
def xGrid (σ : XS) (n k : Nat) : XS := ((σ.1.1 + 1 + n, σ.1.2 + n + n * k), (fun a => if a = σ.1.1 then (29, n) else if σ.1.1 < a ∧ a < σ.1.1 + 1 + n then (20, k) else σ.2.1 a), (fun a => if σ.1.1 ≤ a ∧ a < σ.1.1 + 1 + n then (fun _ => 0) else σ.2.2.1 a), (fun a => if a = σ.1.1 then (fun i => if i < n then some (σ.1.1 + 1 + i) else none) else if σ.1.1 < a ∧ a < σ.1.1 + 1 + n then (fun _ => none) else σ.2.2.2 a))
def xrf (r : Option Nat) : Value := match r with
  | some q => .ref q
  | none => .null
def xfv (σ : XS) (ci a k : Nat) : Value := if xFk ci k = 2 then xrf (xsR σ a k) else .int (xsI σ a k)
abbrev XF : Type := Nat × List Value × List Value × XS
def xTg (pc : Nat) (off : Int) : Option Nat := if 0 ≤ (pc : Int) + off then some ((pc : Int) + off).toNat else none
def xo1 {β : Type} (st : List Value) (k : Int32 → List Value → Option β) : Option β := match st with
  | .int x :: r => k x r
  | _ => none
def xo2 {β : Type} (st : List Value) (k : Int32 → Int32 → List Value → Option β) : Option β := match st with
  | .int y :: .int x :: r => k x y r
  | _ => none
def xl2 {β : Type} (st : List Value) (k : Int64 → Int64 → List Value → Option β) : Option β := match st with
  | .long y :: .long x :: r => k x y r
  | _ => none
def xr1 {β : Type} (st : List Value) (k : Nat → List Value → Option β) : Option β := match st with
  | .ref a :: r => k a r
  | _ => none
/-- a row and a place in it -/
def xra {β : Type} (st : List Value) (k : Nat → Int32 → List Value → Option β) : Option β := match st with
  | .int i :: .ref a :: r => k a i r
  | _ => none
/-- a row, a place in it, a number -/
def xrs {β : Type} (st : List Value) (k : Nat → Int32 → Int32 → List Value → Option β) : Option β := match st with
  | .int x :: .int i :: .ref a :: r => k a i x r
  | _ => none
/-- a row, a place in it, a cell -/
def xrq {β : Type} (st : List Value) (k : Nat → Int32 → Nat → List Value → Option β) : Option β := match st with
  | .ref q :: .int i :: .ref a :: r => k a i q r
  | _ => none
def xcp {β : Type} (st : List Value) (k : Nat → Int32 → Nat → Int32 → Int32 → List Value → Option β) : Option β := match st with
  | .int n :: .int dp :: .ref d :: .int sp :: .ref s0 :: r => k s0 sp d dp n r
  | _ => none
def xbr (c : Prop) [Decidable c] (pc len : Nat) (off : Int) (ls st : List Value) (σ : XS) : Option XF := (xTg pc off).map fun t => (if c then t else pc + len, ls, st, σ)
def xIn (i : Int32) (n : Nat) : Bool := !(decide (i < 0) || decide (n ≤ i.toNatClampNeg))
def xNo2 (ls : List Value) (i : Nat) : Bool := match i with
  | 0 => true
  | j + 1 => (match ls[j]? with
    | some v => v.category != 2
    | none => true)
def xSt1 (ls : List Value) (i : Nat) (v : Value) : Option (List Value) := if decide (i < ls.length) && xNo2 ls i then some (ls.set i v) else none
def xSt2 (ls : List Value) (i : Nat) (v : Value) : Option (List Value) := if decide (i + 1 < ls.length) && xNo2 ls i then some ((ls.set i v).set (i + 1) (.retAddr 0)) else none
def xldI (pc len : Nat) (ls st : List Value) (σ : XS) (i : Nat) : Option XF := match ls[i]? with
  | some (.int x) => some (pc + len, ls, .int x :: st, σ)
  | _ => none
def xldL (pc len : Nat) (ls st : List Value) (σ : XS) (i : Nat) : Option XF := match ls[i]? with
  | some (.long x) => some (pc + len, ls, .long x :: st, σ)
  | _ => none
def xldA (pc len : Nat) (ls st : List Value) (σ : XS) (i : Nat) : Option XF := match ls[i]? with
  | some (.ref x) => some (pc + len, ls, .ref x :: st, σ)
  | _ => none
def xstI (pc len : Nat) (ls st : List Value) (σ : XS) (i : Nat) : Option XF := xo1 st fun x r => (xSt1 ls i (.int x)).map fun ls' => (pc + len, ls', r, σ)
def xstA (pc len : Nat) (ls st : List Value) (σ : XS) (i : Nat) : Option XF := xr1 st fun x r => (xSt1 ls i (.ref x)).map fun ls' => (pc + len, ls', r, σ)
def xstL (pc len : Nat) (ls st : List Value) (σ : XS) (i : Nat) : Option XF := match st with
  | .long x :: r => (xSt2 ls i (.long x)).map fun ls' => (pc + len, ls', r, σ)
  | _ => none
def xis (b : Bool) (f : XF) : Option XF := if b then some f else none
def xcat (l : List Value) : Nat := (l.map fun v => v.category).sum
def xsw (pc : Nat) (off : Int) (ls st : List Value) (σ : XS) : Option XF := (xTg pc off).map fun t => (t, ls, st, σ)
def xIcmp (cd : ClassFile.Cond) (x y : Int32) : Bool := match cd with
  | .eq => decide (x = y)
  | .ne => !decide (x = y)
  | .lt => decide (x < y)
  | .ge => decide (y ≤ x)
  | .gt => decide (y < x)
  | .le => decide (x ≤ y)
def xPf (m : XM) (pc len : Nat) (ls : List Value) (σ : XS) (st : List Value) (e : Option (Nat × Nat × Nat)) : Option XF := match e with
  | none => none
  | some (ci, k, _) => (match st with
    | .int x :: .ref a :: r => xis ((xsS σ a).1 == ci && (xFk ci k == 0 || (xFk ci k == 1 && (decide (x = 0) || decide (x = 1)))) && !(xFf ci k)) (pc + len, ls, r, xPut σ a k x)
    | .ref q :: .ref a :: r => xis ((xsS σ a).1 == ci && xFk ci k == 2 && xFf ci k && xmK m == 2 && xmOwn m == ci) (pc + len, ls, r, xPutR σ a k q)
    | _ => none)
def xstep (m : XM) (pc : Nat) (ins : Instr) (len : Nat) (ls st : List Value) (σ : XS) : Option XF := match ins with
  | .iconst i => some (pc + len, ls, .int (Int32.ofInt i) :: st, σ)
  | .bipush i => some (pc + len, ls, .int (Int8.ofInt i).toInt32 :: st, σ)
  | .sipush i => some (pc + len, ls, .int (Int16.ofInt i).toInt32 :: st, σ)
  | .lconst i => some (pc + len, ls, .long (Int64.ofNat (i : Nat)) :: st, σ)
  | .ldc ix => (match xNum (xmOwn m) ix with
    | some (v, _) => some (pc + len, ls, .int v :: st, σ)
    | none => (xTxt (xmOwn m) ix).map fun i => (pc + len, ls, .ref (1000010 + i) :: st, σ))
  | .ldc_w ix => (xNum (xmOwn m) ix).map fun v => (pc + len, ls, .int v.1 :: st, σ)
  | .ldc2_w ix => (xLng (xmOwn m) ix).map fun v => (pc + len, ls, .long v.1 :: st, σ)
  | .iload_n k => xldI pc len ls st σ k
  | .iload k => xldI pc len ls st σ k
  | .lload_n k => xldL pc len ls st σ k
  | .aload_n k => xldA pc len ls st σ k
  | .aload k => xldA pc len ls st σ k
  | .istore_n k => xstI pc len ls st σ k
  | .istore k => xstI pc len ls st σ k
  | .astore_n k => xstA pc len ls st σ k
  | .astore k => xstA pc len ls st σ k
  | .lstore_n k => xstL pc len ls st σ k
  | .iinc k n => (match ls[k]? with
    | some (.int x) => (xSt1 ls k (.int (x + Int32.ofInt n))).map fun ls' => (pc + len, ls', st, σ)
    | _ => none)
  | .iadd => xo2 st fun x y r => some (pc + len, ls, .int (x + y) :: r, σ)
  | .isub => xo2 st fun x y r => some (pc + len, ls, .int (x - y) :: r, σ)
  | .imul => xo2 st fun x y r => some (pc + len, ls, .int (x * y) :: r, σ)
  | .iand => xo2 st fun x y r => some (pc + len, ls, .int (x &&& y) :: r, σ)
  | .ior => xo2 st fun x y r => some (pc + len, ls, .int (x ||| y) :: r, σ)
  | .ixor => xo2 st fun x y r => some (pc + len, ls, .int (x ^^^ y) :: r, σ)
  | .ishl => xo2 st fun x y r => some (pc + len, ls, .int (x <<< (y &&& 31)) :: r, σ)
  | .ishr => xo2 st fun x y r => some (pc + len, ls, .int (x >>> (y &&& 31)) :: r, σ)
  | .iushr => xo2 st fun x y r => some (pc + len, ls, .int (x.toUInt32 >>> (y.toUInt32 &&& Int32.toUInt32 31)).toInt32 :: r, σ)
  | .idiv => xo2 st fun x y r => xis (!decide (y = 0)) (pc + len, ls, .int (x / y) :: r, σ)
  | .irem => xo2 st fun x y r => xis (!decide (y = 0)) (pc + len, ls, .int (x - x / y * y) :: r, σ)
  | .i2l => xo1 st fun x r => some (pc + len, ls, .long x.toInt64 :: r, σ)
  | .i2b => xo1 st fun x r => some (pc + len, ls, .int x.toInt8.toInt32 :: r, σ)
  | .i2c => xo1 st fun x r => some (pc + len, ls, .int (x.toUInt32 % 65536).toInt32 :: r, σ)
  | .ladd => xl2 st fun x y r => some (pc + len, ls, .long (x + y) :: r, σ)
  | .lsub => xl2 st fun x y r => some (pc + len, ls, .long (x - y) :: r, σ)
  | .lmul => xl2 st fun x y r => some (pc + len, ls, .long (x * y) :: r, σ)
  | .lcmp => xl2 st fun x y r => some (pc + len, ls, .int (lg_cmp x y) :: r, σ)
  | .dup => (match st with
    | v :: r => xis (v.category == 1) (pc + len, ls, v :: v :: r, σ)
    | _ => none)
  | .pop => (match st with
    | v :: r => xis (v.category == 1) (pc + len, ls, r, σ)
    | _ => none)
  | .dup2 => (match st with
    | v :: w :: r => xis (v.category == 1 && w.category == 1) (pc + len, ls, v :: w :: v :: w :: r, σ)
    | _ => none)
  | .ifCond cd off => xo1 st fun x r => xbr (xIcmp cd x 0 = true) pc len off ls r σ
  | .if_icmp cd off => xo2 st fun x y r => xbr (xIcmp cd x y = true) pc len off ls r σ
  | .goto off => xsw pc off ls st σ
  | .tableswitch d lo hi offs => xo1 st fun x r => if x.toInt < lo ∨ hi < x.toInt then xsw pc d ls r σ else (match offs[(x.toInt - lo).toNat]? with
    | some o => xsw pc o ls r σ
    | none => none)
  | .lookupswitch d ps => xo1 st fun x r => if (ps.toList.zip (ps.toList.drop 1)).all (fun (a, next) => a.1 < next.1) = true then xsw pc (Op.lookupswitch.offset ps.toList d x.toInt) ls r σ else none
  | .getfield ix => xr1 st fun a r => (match xFld (xmOwn m) ix with
    | some (ci, k, _) => xis ((xsS σ a).1 == ci) (pc + len, ls, xfv σ ci a k :: r, σ)
    | none => (match xTf (xmOwn m) ix with
      | some (f, _) => xis ((xsS σ a).1 == 42) (pc + len, ls, (if f = 0 then .ref (a + 20) else .int 0) :: r, σ)
      | none => none))
  | .putfield ix => xPf m pc len ls σ st (xFld (xmOwn m) ix)
  | .getstatic ix => (match xSt (xmOwn m) ix with
    | some (w, _) => some (pc + len, ls, (if w = 5 then .int 1 else if w = 6 then .retAddr 1 else .ref (1000000 + w)) :: st, σ)
    | none => none)
  | .iaload => xra st fun a i r => xis (((xsS σ a).1 == 20 || (xsS σ a).1 == 40) && xIn i (xsS σ a).2) (pc + len, ls, .int (xsI σ a i.toNatClampNeg) :: r, σ)
  | .baload => xra st fun a i r => xis (((xsS σ a).1 == 21 || (xsS σ a).1 == 22 || (xsS σ a).1 == 43) && xIn i (xsS σ a).2) (pc + len, ls, .int (xsI σ a i.toNatClampNeg) :: r, σ)
  | .aaload => xra st fun a i r => xis (decide (23 ≤ (xsS σ a).1) && decide ((xsS σ a).1 ≤ 29) && xIn i (xsS σ a).2) (pc + len, ls, xrf (xsR σ a i.toNatClampNeg) :: r, σ)
  | .iastore => xrs st fun a i x r => xis ((xsS σ a).1 == 20 && xIn i (xsS σ a).2) (pc + len, ls, r, xPut σ a i.toNatClampNeg x)
  | .bastore => xrs st fun a i x r => if (xsS σ a).1 = 21 then xis (xIn i (xsS σ a).2) (pc + len, ls, r, xPut σ a i.toNatClampNeg x.toInt8.toInt32) else xis ((xsS σ a).1 == 22 && (decide (x = 0) || decide (x = 1)) && xIn i (xsS σ a).2) (pc + len, ls, r, xPut σ a i.toNatClampNeg x)
  | .aastore => xrq st fun a i q r => xis (decide (23 ≤ (xsS σ a).1) && decide ((xsS σ a).1 ≤ 28) && (xsS σ q).1 == xAe (xsS σ a).1 && xIn i (xsS σ a).2) (pc + len, ls, r, xPutR σ a i.toNatClampNeg q)
  | .arraylength => xr1 st fun a r => xis (decide (20 ≤ (xsS σ a).1) && ((xsS σ a).1 == 40 || (xsS σ a).1 == 43 || decide ((xsS σ a).1 ≤ 29))) (pc + len, ls, .int (Int32.ofNat (xsS σ a).2) :: r, σ)
  | .new ix => (match xKl (xmOwn m) ix with
    | some (ci, _) => xis (decide (ci ≤ 12) && decide (xsN σ + 1 ≤ 1000000)) (pc + len, ls, .ref (xsN σ) :: st, xNew σ ci 0 (xNf ci))
    | none => none)
  | .newarray ty => xo1 st fun n r => (match ty with
    | .int => xis (!decide (n < 0) && decide (n.toNatClampNeg ≤ 100000) && decide (xsN σ + 1 ≤ 1000000)) (pc + len, ls, .ref (xsN σ) :: r, xNew σ 20 n.toNatClampNeg n.toNatClampNeg)
    | .byte => xis (!decide (n < 0) && decide (n.toNatClampNeg ≤ 100000) && decide (xsN σ + 1 ≤ 1000000)) (pc + len, ls, .ref (xsN σ) :: r, xNew σ 21 n.toNatClampNeg n.toNatClampNeg)
    | .boolean => xis (!decide (n < 0) && decide (n.toNatClampNeg ≤ 100000) && decide (xsN σ + 1 ≤ 1000000)) (pc + len, ls, .ref (xsN σ) :: r, xNew σ 22 n.toNatClampNeg n.toNatClampNeg)
    | _ => none)
  | .anewarray ix => xo1 st fun n r => (match xKl (xmOwn m) ix with
    | some (ci, _) => xis (decide (xAk ci ≤ 28) && !decide (n < 0) && decide (n.toNatClampNeg ≤ 100000) && decide (xsN σ + 1 ≤ 1000000)) (pc + len, ls, .ref (xsN σ) :: r, xNew σ (xAk ci) n.toNatClampNeg n.toNatClampNeg)
    | none => none)
  | .multianewarray ix dim => xo2 st fun n k r => (match xKl (xmOwn m) ix with
    | some (ci, _) => xis (ci == 29 && dim == 2 && !decide (n < 0) && !decide (k < 0) && decide (n.toNatClampNeg ≤ 1000) && decide (k.toNatClampNeg ≤ 1000) && decide (xsN σ + 1 + n.toNatClampNeg ≤ 1000000)) (pc + len, ls, .ref (xsN σ) :: r, xGrid σ n.toNatClampNeg k.toNatClampNeg)
    | none => none)
  | .invokespecial ix => xr1 st fun _ r => (match xCal (xmOwn m) ix with
    | some (k, _, _) => xis (k == 4 && decide (xcat r ≤ 8)) (pc + len, ls, r, σ)
    | none => none)
  | .invokestatic ix => (match xCal (xmOwn m) ix with
    | some (k, _, _) => if k = 5 then xcp st fun s0 sp d dp n r => xis (decide (xcat r ≤ 8) && ((xsS σ s0).1 == 20 || (xsS σ s0).1 == 21) && (xsS σ s0).1 == (xsS σ d).1 && !decide (sp < 0) && !decide (dp < 0) && !decide (n < 0) && decide (sp.toNatClampNeg + n.toNatClampNeg ≤ (xsS σ s0).2) && decide (dp.toNatClampNeg + n.toNatClampNeg ≤ (xsS σ d).2)) (pc + len, ls, r, xRow σ d (va_cpy (xsI σ s0) (xsI σ d) sp.toNatClampNeg dp.toNatClampNeg n.toNatClampNeg)) else if k = 6 then xo2 st fun x y r => xis (decide (xcat r ≤ 8)) (pc + len, ls, .int (if x < y then y else x) :: r, σ) else if k = 7 then xo2 st fun x y r => xis (decide (xcat r ≤ 8)) (pc + len, ls, .int (if y < x then y else x) :: r, σ) else none
    | none => none)
  | _ => none
def xKo (k : Nat) : Nat := if k = 42 then 16 else if k ≤ 12 then k else 99
/-- arguments as locals -/
def xfl (as : List Value) : List Value := as.flatMap fun v => if v.category = 2 then [v, .retAddr 0] else [v]
def xArg (j : Nat) (st : List Value) : Option (XM × List Value × List Value) := match xMs[j]? with
  | some c => if decide (xmN c ≤ st.length) && decide (xcat (st.drop (xmN c)) ≤ 8) && decide ((xfl (st.take (xmN c)).reverse).length ≤ xmL c) then some (c, (st.take (xmN c)).reverse, st.drop (xmN c)) else none
  | none => none
/-- is it a call of a method that is walked? the method, its arguments, what stays -/
def xCall (m : XM) (ins : Instr) (st : List Value) (σ : XS) : Option (XM × List Value × List Value) := match ins with
  | .invokestatic ix => (match xCal (xmOwn m) ix with
    | some (k, j, _) => if k = 0 ∨ k = 3 then xArg j st else none
    | none => none)
  | .invokespecial ix => (match xCal (xmOwn m) ix with
    | some (k, j, _) => if k = 2 then (match xArg j st with
      | some (c, .ref a :: as, r) => some (c, .ref a :: as, r)
      | _ => none) else none
    | none => none)
  | .invokevirtual ix => (match xCal (xmOwn m) ix with
    | some (k, j, _) => if k = 1 then (match xArg j st with
      | some (c, .ref a :: as, r) => if xKo (xsS σ a).1 = xmOwn c then some (c, .ref a :: as, r) else none
      | _ => none) else none
    | none => none)
  | _ => none
def xRet (m : XM) (ins : Instr) (st : List Value) : Option (Option Value) := match ins with
  | .return_ => (match st, xmRet m with
    | [], none => some none
    | _, _ => none)
  | .ireturn => (match st, xmRet m with
    | [.int v], some .int => some (some (.int v))
    | [.int v], some .boolean => if v = 0 ∨ v = 1 then some (some (.int v)) else none
    | [.int v], some .byte => if narrow .byte (.int v) = .int v then some (some (.int v)) else none
    | [.int v], some .char => if narrow .char (.int v) = .int v then some (some (.int v)) else none
    | _, _ => none)
  | .lreturn => (match st, xmRet m with
    | [.long v], some .long => some (some (.long v))
    | _, _ => none)
  | .areturn => (match st, xmRet m with
    | [.ref a], some (.object _) => some (some (.ref a))
    | _, _ => none)
  | _ => none
/-- a method's locals at its entry -/
def xIni (as : List Value) (n : Nat) : List Value := xfl as ++ List.replicate (n - (xfl as).length) (.retAddr 0)
def xexec : Nat → XM → Nat → List Value → List Value → XS → Option (Option Value × XS)
  | 0, _, _, _, _, _ => none
  | n + 1, m, pc, ls, st, σ => match xmAt m pc with
    | none => none
    | some (ins, len) => (match xCall m ins st σ with
      | some (c, as, r) => (match xexec n c 0 (xIni as (xmL c)) [] σ with
        | none => none
        | some (v, σ') => xexec n m (pc + len) ls (v.toList ++ r) σ')
      | none => (match xRet m ins st with
        | some v => some (v, σ)
        | none => (match xstep m pc ins len ls st σ with
          | none => none
          | some (pc', ls', st', σ') => xexec n m pc' ls' st' σ')))
end
section
/-! THE INTERPRETER'S CELLS IN THE MACHINE'S HEAP -/
/-- what the old cells are: kind and length -/
def xoS (L a : Nat) : Nat × Nat := if a < 1000000 then (99, 0) else if a = 1000000 then (40, L) else if a < 1000005 then (40, (xTab.getD (a - 1000000) []).length) else if 1000010 ≤ a ∧ a < 1000027 then (42, xTl.getD (a - 1000010) 0) else if 1000030 ≤ a ∧ a < 1000047 then (43, xTl.getD (a - 1000030) 0) else (99, 0)
/-- what they hold -/
def xoI (xs : Nat → Int32) (a : Nat) : Nat → Int32 := if a = 1000000 then xs else if a < 1000005 then (fun i => (xTab.getD (a - 1000000) []).getD i 0) else if 1000030 ≤ a ∧ a < 1000047 then (fun i => (xTb.getD (a - 1000030) []).getD i 0) else (fun _ => 0)
/-- a run's surroundings: where its cells begin, the classes' numbers and slots, the array classes by kind, the old cells' addresses, the script, the formatter -/
abbrev XG : Type := Nat × va_G × (Nat → ClassId) × (Nat → Nat) × (Nat × (Nat → Int32)) × Value
abbrev xgB (g : XG) : Nat := g.1
abbrev xgD (g : XG) : va_G := g.2.1
abbrev xgA (g : XG) : Nat → ClassId := g.2.2.1
abbrev xgO (g : XG) : Nat → Nat := g.2.2.2.1
abbrev xgL (g : XG) : Nat := g.2.2.2.2.1.1
abbrev xgX (g : XG) : Nat → Int32 := g.2.2.2.2.1.2
abbrev xgV (g : XG) : Value := g.2.2.2.2.2
def xA (g : XG) : Nat → Prop := fun q => xgB g ≤ q
def xAd (g : XG) (a : Nat) : Nat := if a < 1000000 then xgB g + a else xgO g (a - 1000000)
def xcv (g : XG) (v : Value) : Value := match v with
  | .ref a => .ref (xAd g a)
  | .retAddr 1 => xgV g
  | v => v
def xEnt (g : XG) (σ : XS) (a : Nat) : va_E := if (xsS σ a).1 ≤ 12 then .inr ((xsS σ a).1, (List.range (xNf (xsS σ a).1)).map fun j => xcv g (xfv σ (xsS σ a).1 a j)) else if (xsS σ a).1 ≤ 22 then .inl (xgA g (xsS σ a).1, (xsS σ a).2, .inl (xsI σ a)) else .inl (xgA g (xsS σ a).1, (xsS σ a).2, .inr (.inr (.inr (.inr fun i => (xsR σ a i).map (xAd g)))))
def xWs (g : XG) (σ : XS) : va_W := (List.range (xsN σ)).map fun a => (xgB g + a, xEnt g σ a)
def xTys (g : XG) : List (ClassId × FieldType) := [(xgA g 20, .int), (xgA g 21, .byte), (xgA g 22, .boolean), (xgA g 23, .object "ThreePhases$Merged"), (xgA g 24, .object "ThreePhases$Member"), (xgA g 25, .object "ThreePhases$Told"), (xgA g 26, .object "ThreePhases$Council"), (xgA g 27, .object "ThreePhases$Run"), (xgA g 28, .object "ThreePhases$Replies"), (xgA g 29, .array .int)]
/-- the heap holds the cells (an old cell may be left out: then nothing can be read of it) -/
def xWd (g : XG) (σ : XS) (H : Heap) : Prop := H.size = xgB g + xsN σ ∧ xsN σ ≤ 1000000 ∧ va_P (xgD g) xCl (xWs g σ) H ∧ (∀ a, xsN σ ≤ a → xsS σ a = xoS (xgL g) a ∨ xsS σ a = (99, 0)) ∧ (∀ a, 1000000 ≤ a → (xsS σ a).1 ≠ 99 → xsI σ a = xoI (xgX g) a) ∧ (∀ a i, (xsS σ a).1 = 21 → (xsI σ a i).toInt8.toInt32 = xsI σ a i) ∧ ∀ a, a < xsN σ → (xsS σ a).1 ≤ 12 ∨ (20 ≤ (xsS σ a).1 ∧ (xsS σ a).1 ≤ 29)
/-- arrays of arrays -/
def xAOA (U : State) : Prop := (Cond.arrayOver (.array .int)).before #[] U = true
/-- what the old world is, at a state -/
def xOw (g : XG) (U : State) : Prop := va_K (xgD g) xCl (xTys g) U ∧ va_X (xgO g 0) (xgL g) (xgX g) U U.heap ∧ xgO g 0 < xgB g ∧ (∀ j, 1 ≤ j → j ≤ 4 → va_T .int (xgO g j) (xTab.getD j []).length (fun i => .int ((xTab.getD j []).getD i 0)) (xA g) U U.heap ∧ va_Z "ThreePhases$Reader" (xTabN.getD j "") "[I" (.ref (xgO g j)) (xA g) U U.heap) ∧ va_Z "java/lang/String" "COMPACT_STRINGS" "Z" (.int 1) (xA g) U U.heap ∧ va_Z "jdk/internal/util/Preconditions" "SIOOBE_FORMATTER" "Ljava/util/function/BiFunction;" (xgV g) (xA g) U U.heap ∧ (xgV g = .null ∨ ∃ t, xgV g = .ref t) ∧ vk_S 17 xTl xTb (fun i => xgO g (10 + i)) (fun i => xgO g (30 + i)) (xA g) U U.heap ∧ (∀ i, i < 17 → vk_R "ThreePhases$Reader" (xTx.getD i (0, "")).1 (xTx.getD i (0, "")).2 (xgO g (10 + i)) U) ∧ (∀ e ∈ xNest, va_Nw (.methodLinkNest (xR e.1) e.2.1 e.2.2 "ThreePhases") U) ∧ (∀ C ∈ xAos, va_AO C U) ∧ xAOA U ∧ (Cond.arrayClass .int).before #[] U = true
/-- what a frame of a method stands on -/
def xFix (g : XG) (m : XM) (p : Program) (s : State) (mid : MethodId) (args : Array Value) (meth : Method) (c : Code) : Prop := p.tables.exec = Jvm.exec ∧ c.code = xmC m ∧ c.maxLocals = xmL m ∧ s.vm.findClass (xR (xmOwn m)) = some mid.cls ∧ (∀ w ∈ xw, w.before args s = true) ∧ xOw g s ∧ xgB g ≤ s.heap.size ∧ (xmK m = 2 → meth.name = "<init>")
/-- the locals -/
def xLr (g : XG) (xl : List Value) (ls : Array Slot) : Prop := ls.size = xl.length ∧ lv_wf ls ∧ ∀ (i : Nat) (v : Value), xl[i]? = some v → (∀ q, v ≠ .retAddr q) → ls[i]? = some (.val (xcv g v))
def xNr (v : Value) : Bool := match v with
  | .retAddr _ => false
  | _ => true
def xPr (g : XG) (xl : List Value) : List (Nat × Value) := (List.range xl.length).filterMap fun i => match xl[i]? with
  | some v => if xNr v then some (i, xcv g v) else none
  | none => none
theorem xNr_ne {v : Value} (h : xNr v = true) : ∀ q, v ≠ .retAddr q := fun q e => by rw [e] at h; cases h
theorem xNr_of {v : Value} (h : ∀ q, v ≠ .retAddr q) : xNr v = true := by
  cases v <;> first | rfl | exact absurd rfl (h _)
theorem xPr_mem {g : XG} {xl : List Value} {i : Nat} {v : Value} (h : xl[i]? = some v) (hv : ∀ q, v ≠ .retAddr q) : (i, xcv g v) ∈ xPr g xl := by
  refine List.mem_filterMap.mpr ⟨i, List.mem_range.mpr (List.getElem?_eq_some_iff.mp h).1, ?_⟩
  simp only [h, xNr_of hv, if_true]
theorem xPr_of {g : XG} {xl : List Value} {q : Nat × Value} (h : q ∈ xPr g xl) : ∃ v, xl[q.1]? = some v ∧ (∀ z, v ≠ .retAddr z) ∧ q.2 = xcv g v := by
  obtain ⟨i, -, hi⟩ := List.mem_filterMap.mp h
  cases hv : xl[i]? with
  | none => rw [hv] at hi; cases hi
  | some v =>
    rw [hv] at hi
    by_cases hn : xNr v = true
    · simp only [hn, if_true] at hi
      cases hi
      exact ⟨v, hv, xNr_ne hn, rfl⟩
    · simp only [hn] at hi
      cases hi
theorem xLr_has {g : XG} {xl : List Value} {ls : Array Slot} (h : xLr g xl ls) : lv_has ls xl.length (xPr g xl) := ⟨h.1, h.2.1, fun q hq => by
  obtain ⟨v, h1, h2, h3⟩ := xPr_of hq
  rw [h3]
  exact h.2.2 _ _ h1 h2⟩
theorem xcv_cat {g : XG} (hv : xgV g = .null ∨ ∃ t, xgV g = .ref t) (v : Value) : (xcv g v).category = v.category := by
  cases v with
  | retAddr n =>
    rcases n with _ | _ | n
    · rfl
    · rcases hv with h | ⟨t, h⟩ <;> (show (xgV g).category = 1; rw [h]; rfl)
    · rfl
  | _ => rfl
theorem xcat_map {g : XG} (hv : xgV g = .null ∨ ∃ t, xgV g = .ref t) (l : List Value) : ((l.map (xcv g)).map fun v => v.category).sum = xcat l := by
  unfold xcat
  rw [List.map_map]
  congr 1
  exact List.map_congr_left fun v _ => xcv_cat hv v
theorem xSt1_lr {g : XG} (hv : xgV g = .null ∨ ∃ t, xgV g = .ref t) {xl xl' : List Value} {i : Nat} {v : Value} (h : xSt1 xl i v = some xl') {ls' : Array Slot} (h' : lv_has ls' xl.length ((i, xcv g v) :: (xPr g xl).filter (fun q => !(q.1 == i) && !(q.1 + 1 == i && q.2.category == 2)))) : xLr g xl' ls' := by
  unfold xSt1 at h
  by_cases hc : (decide (i < xl.length) && xNo2 xl i) = true
  · rw [if_pos hc] at h
    cases h
    simp only [Bool.and_eq_true, decide_eq_true_eq] at hc
    refine ⟨by rw [List.length_set]; exact h'.1, h'.2.1, fun j w hj hw => ?_⟩
    by_cases e : j = i
    · subst e
      rw [List.getElem?_set_self hc.1] at hj
      cases hj
      exact h'.2.2 (_, _) List.mem_cons_self
    · rw [List.getElem?_set_ne (Ne.symm e)] at hj
      refine h'.2.2 (_, _) (List.mem_cons_of_mem _ (List.mem_filter.mpr ⟨xPr_mem hj hw, ?_⟩))
      simp only [Bool.and_eq_true, Bool.not_eq_true', beq_eq_false_iff_ne, ne_eq, Bool.and_eq_false_iff]
      refine ⟨e, ?_⟩
      by_cases e2 : j + 1 = i
      · right
        subst e2
        have h2 := hc.2
        simp only [xNo2, hj, bne_iff_ne, ne_eq] at h2
        show ¬ (xcv g w).category = 2
        rw [xcv_cat hv]
        exact h2
      · left
        exact e2
  · rw [if_neg hc] at h
    cases h
theorem xSt1_lt {xl xl' : List Value} {i : Nat} {v : Value} (h : xSt1 xl i v = some xl') : i < xl.length := by
  unfold xSt1 at h
  by_cases hc : (decide (i < xl.length) && xNo2 xl i) = true
  · simp only [Bool.and_eq_true, decide_eq_true_eq] at hc
    exact hc.1
  · rw [if_neg hc] at h
    cases h
theorem xSt2_lt {xl xl' : List Value} {i : Nat} {v : Value} (h : xSt2 xl i v = some xl') : i + 1 < xl.length := by
  unfold xSt2 at h
  by_cases hc : (decide (i + 1 < xl.length) && xNo2 xl i) = true
  · simp only [Bool.and_eq_true, decide_eq_true_eq] at hc
    exact hc.1
  · rw [if_neg hc] at h
    cases h
theorem xSt2_lr {g : XG} (hv : xgV g = .null ∨ ∃ t, xgV g = .ref t) {xl xl' : List Value} {i : Nat} {v : Value} (h : xSt2 xl i v = some xl') {ls' : Array Slot} (h' : lv_has ls' xl.length ((i, xcv g v) :: (xPr g xl).filter (fun q => !(q.1 == i) && (!(q.1 == i + 1) && !(q.1 + 1 == i && q.2.category == 2))))) : xLr g xl' ls' := by
  unfold xSt2 at h
  by_cases hc : (decide (i + 1 < xl.length) && xNo2 xl i) = true
  · rw [if_pos hc] at h
    cases h
    simp only [Bool.and_eq_true, decide_eq_true_eq] at hc
    refine ⟨by rw [List.length_set, List.length_set]; exact h'.1, h'.2.1, fun j w hj hw => ?_⟩
    by_cases e3 : j = i + 1
    · subst e3
      rw [List.getElem?_set_self (by rw [List.length_set]; exact hc.1)] at hj
      cases hj
      exact absurd rfl (hw 0)
    · rw [List.getElem?_set_ne (Ne.symm e3)] at hj
      by_cases e : j = i
      · subst e
        rw [List.getElem?_set_self (by omega)] at hj
        cases hj
        exact h'.2.2 (_, _) List.mem_cons_self
      · rw [List.getElem?_set_ne (Ne.symm e)] at hj
        refine h'.2.2 (_, _) (List.mem_cons_of_mem _ (List.mem_filter.mpr ⟨xPr_mem hj hw, ?_⟩))
        simp only [Bool.and_eq_true, Bool.not_eq_true', beq_eq_false_iff_ne, ne_eq, Bool.and_eq_false_iff]
        refine ⟨e, e3, ?_⟩
        by_cases e2 : j + 1 = i
        · right
          subst e2
          have h2 := hc.2
          simp only [xNo2, hj, bne_iff_ne, ne_eq] at h2
          show ¬ (xcv g w).category = 2
          rw [xcv_cat hv]
          exact h2
        · left
          exact e2
  · rw [if_neg hc] at h
    cases h
/-- the cells in their places -/
theorem xWs_get {g : XG} {σ : XS} {a : Nat} (h : a < xsN σ) : (xWs g σ)[a]? = some (xgB g + a, xEnt g σ a) := by
  unfold xWs
  rw [List.getElem?_map, List.getElem?_range h]
  rfl
theorem xWs_inv {g : XG} {σ : XS} {k : Nat} {q : Nat × va_E} (h : (xWs g σ)[k]? = some q) : k < xsN σ ∧ q = (xgB g + k, xEnt g σ k) := by
  have hk : k < xsN σ := by
    have := (List.getElem?_eq_some_iff.mp h).1
    simpa [xWs] using this
  rw [xWs_get hk] at h
  exact ⟨hk, (Option.some.inj h).symm⟩
theorem xWs_D (g : XG) (σ : XS) : va_D (xA g) (xWs g σ) := ⟨fun i j p q hi hj e => by
  obtain ⟨h1, rfl⟩ := xWs_inv hi
  obtain ⟨h2, rfl⟩ := xWs_inv hj
  exact Nat.add_left_cancel e, fun k q hk => by
  obtain ⟨h1, rfl⟩ := xWs_inv hk
  exact Nat.le_add_right _ _⟩
theorem xWs_set {g : XG} {σ σ' : XS} {a : Nat} {e : va_E} (ha : a < xsN σ) (hn : xsN σ' = xsN σ) (he : xEnt g σ' a = e) (ho : ∀ b, b ≠ a → xEnt g σ' b = xEnt g σ b) : (xWs g σ).set a (xgB g + a, e) = xWs g σ' := by
  refine List.ext_getElem? fun k => ?_
  rw [List.getElem?_set]
  by_cases e1 : a = k
  · subst e1
    rw [if_pos rfl, xWs_get (by rw [hn]; exact ha), he, if_pos (by simpa [xWs] using ha)]
  · rw [if_neg e1]
    by_cases hk : k < xsN σ
    · rw [xWs_get hk, xWs_get (by rw [hn]; exact hk), ho k (Ne.symm e1)]
    · rw [List.getElem?_eq_none (by simpa [xWs] using Nat.le_of_not_lt hk), List.getElem?_eq_none (by simpa [xWs, hn] using Nat.le_of_not_lt hk)]
theorem xEnt_c {g : XG} {σ σ' : XS} {a : Nat} (h1 : xsS σ' a = xsS σ a) (h2 : xsI σ' a = xsI σ a) (h3 : xsR σ' a = xsR σ a) : xEnt g σ' a = xEnt g σ a := by
  unfold xEnt xfv
  rw [h1, h2, h3]
theorem xWd.lt {g : XG} {σ : XS} {H : Heap} (h : xWd g σ H) {a : Nat} (hk : (xsS σ a).1 ≤ 29) : a < xsN σ := by
  rcases Nat.lt_or_ge a (xsN σ) with q | q
  · exact q
  · exfalso
    rcases h.2.2.2.1 a q with z | z
    · rw [z] at hk
      unfold xoS at hk
      repeat' split at hk
      all_goals first | (simp at hk; done) | omega
    · rw [z] at hk
      simp at hk
theorem xWd.pl {g : XG} {σ : XS} {H : Heap} (h : xWd g σ H) {a : Nat} (hk : (xsS σ a).1 ≤ 29) : (xWs g σ)[a]? = some (xAd g a, xEnt g σ a) := by
  have hn := h.lt hk
  rw [xWs_get hn]
  unfold xAd
  rw [if_pos (Nat.lt_of_lt_of_le hn h.2.1)]
theorem xWd.ad {g : XG} {σ : XS} {H : Heap} (h : xWd g σ H) {a : Nat} (hk : (xsS σ a).1 ≤ 29) : xAd g a = xgB g + a := by
  unfold xAd
  rw [if_pos (Nat.lt_of_lt_of_le (h.lt hk) h.2.1)]
theorem xEnt_o {g : XG} {σ : XS} {a : Nat} (hk : (xsS σ a).1 ≤ 12) : xEnt g σ a = .inr ((xsS σ a).1, (List.range (xNf (xsS σ a).1)).map fun j => xcv g (xfv σ (xsS σ a).1 a j)) := by
  unfold xEnt
  rw [if_pos hk]
theorem xEnt_i {g : XG} {σ : XS} {a : Nat} (h1 : 12 < (xsS σ a).1) (h2 : (xsS σ a).1 ≤ 22) : xEnt g σ a = .inl (xgA g (xsS σ a).1, (xsS σ a).2, .inl (xsI σ a)) := by
  unfold xEnt
  rw [if_neg (Nat.not_le.mpr h1), if_pos h2]
theorem xEnt_q {g : XG} {σ : XS} {a : Nat} (h : 22 < (xsS σ a).1) : xEnt g σ a = .inl (xgA g (xsS σ a).1, (xsS σ a).2, .inr (.inr (.inr (.inr fun i => (xsR σ a i).map (xAd g))))) := by
  unfold xEnt
  rw [if_neg (by omega), if_neg (by omega)]
/-- an old cell by its kind -/
theorem xWd.old {g : XG} {σ : XS} {H : Heap} (h : xWd g σ H) {a : Nat} (hk : 40 ≤ (xsS σ a).1) (hk2 : (xsS σ a).1 ≤ 43) : 1000000 ≤ a ∧ xsS σ a = xoS (xgL g) a ∧ xsI σ a = xoI (xgX g) a := by
  rcases Nat.lt_or_ge a (xsN σ) with q | q
  · exfalso
    rcases h.2.2.2.2.2.2 a q with z | z <;> omega
  · rcases h.2.2.2.1 a q with e | e
    · have z : 1000000 ≤ a := by
        rw [e] at hk2
        unfold xoS at hk2
        rcases Nat.lt_or_ge a 1000000 with z | z
        · rw [if_pos z] at hk2
          simp at hk2
        · exact z
      exact ⟨z, e, h.2.2.2.2.1 a z (by omega)⟩
    · rw [e] at hk2
      simp at hk2
theorem xIn_in {i : Int32} {n : Nat} (h : xIn i n = true) : vp_in i n := by
  unfold xIn at h
  simp only [Bool.not_eq_true', Bool.or_eq_false_iff, decide_eq_false_iff_not] at h
  exact fun q => q.elim h.1 h.2
theorem xo1_inv {β : Type} {st : List Value} {k : Int32 → List Value → Option β} {f : β} (h : xo1 st k = some f) : ∃ x r, st = .int x :: r ∧ k x r = some f := by
  unfold xo1 at h
  split at h
  · exact ⟨_, _, rfl, h⟩
  · cases h
theorem xo2_inv {β : Type} {st : List Value} {k : Int32 → Int32 → List Value → Option β} {f : β} (h : xo2 st k = some f) : ∃ x y r, st = .int y :: .int x :: r ∧ k x y r = some f := by
  unfold xo2 at h
  split at h
  · exact ⟨_, _, _, rfl, h⟩
  · cases h
theorem xl2_inv {β : Type} {st : List Value} {k : Int64 → Int64 → List Value → Option β} {f : β} (h : xl2 st k = some f) : ∃ x y r, st = .long y :: .long x :: r ∧ k x y r = some f := by
  unfold xl2 at h
  split at h
  · exact ⟨_, _, _, rfl, h⟩
  · cases h
theorem xr1_inv {β : Type} {st : List Value} {k : Nat → List Value → Option β} {f : β} (h : xr1 st k = some f) : ∃ x r, st = .ref x :: r ∧ k x r = some f := by
  unfold xr1 at h
  split at h
  · exact ⟨_, _, rfl, h⟩
  · cases h
theorem xra_inv {β : Type} {st : List Value} {k : Nat → Int32 → List Value → Option β} {f : β} (h : xra st k = some f) : ∃ a i r, st = .int i :: .ref a :: r ∧ k a i r = some f := by
  unfold xra at h
  split at h
  · exact ⟨_, _, _, rfl, h⟩
  · cases h
theorem xrs_inv {β : Type} {st : List Value} {k : Nat → Int32 → Int32 → List Value → Option β} {f : β} (h : xrs st k = some f) : ∃ a i x r, st = .int x :: .int i :: .ref a :: r ∧ k a i x r = some f := by
  unfold xrs at h
  split at h
  · exact ⟨_, _, _, _, rfl, h⟩
  · cases h
theorem xrq_inv {β : Type} {st : List Value} {k : Nat → Int32 → Nat → List Value → Option β} {f : β} (h : xrq st k = some f) : ∃ a i q r, st = .ref q :: .int i :: .ref a :: r ∧ k a i q r = some f := by
  unfold xrq at h
  split at h
  · exact ⟨_, _, _, _, rfl, h⟩
  · cases h
theorem xcp_inv {β : Type} {st : List Value} {k : Nat → Int32 → Nat → Int32 → Int32 → List Value → Option β} {f : β} (h : xcp st k = some f) : ∃ s0 sp d dp n r, st = .int n :: .int dp :: .ref d :: .int sp :: .ref s0 :: r ∧ k s0 sp d dp n r = some f := by
  unfold xcp at h
  split at h
  · exact ⟨_, _, _, _, _, _, rfl, h⟩
  · cases h
theorem xis_inv {b : Bool} {f f' : XF} (h : xis b f = some f') : b = true ∧ f = f' := by
  unfold xis at h
  by_cases hb : b = true
  · rw [if_pos hb] at h
    exact ⟨hb, Option.some.inj h⟩
  · rw [if_neg hb] at h
    cases h
theorem xTg_inv {pc t : Nat} {off : Int} (h : xTg pc off = some t) : (pc : Int) + off = (t : Int) := by
  unfold xTg at h
  by_cases hc : 0 ≤ (pc : Int) + off
  · rw [if_pos hc] at h
    cases h
    exact (Int.toNat_of_nonneg hc).symm
  · rw [if_neg hc] at h
    cases h
theorem xsw_inv {pc : Nat} {off : Int} {ls st : List Value} {σ : XS} {f : XF} (h : xsw pc off ls st σ = some f) : ∃ t : Nat, (pc : Int) + off = (t : Int) ∧ f = (t, ls, st, σ) := by
  unfold xsw at h
  cases ht : xTg pc off with
  | none => rw [ht] at h; cases h
  | some t =>
    rw [ht] at h
    exact ⟨t, xTg_inv ht, (Option.some.inj h).symm⟩
theorem xbr_inv {c : Prop} [Decidable c] {pc len : Nat} {off : Int} {ls st : List Value} {σ : XS} {f : XF} (h : xbr c pc len off ls st σ = some f) : ∃ t : Nat, (pc : Int) + off = (t : Int) ∧ f = (if c then t else pc + len, ls, st, σ) := by
  unfold xbr at h
  cases ht : xTg pc off with
  | none => rw [ht] at h; cases h
  | some t =>
    rw [ht] at h
    exact ⟨t, xTg_inv ht, (Option.some.inj h).symm⟩
end
section
/-! WHAT A STEP DOES TO THE HEAP -/
theorem xWd.set1 {g : XG} {σ σ' : XS} {H H1 : Heap} {a : Nat} (h : xWd g σ H) (ha : a < xsN σ) (hn : xsN σ' = xsN σ) (hS : xsS σ' = xsS σ) (hI : ∀ b, b ≠ a → xsI σ' b = xsI σ b) (hR : ∀ b, b ≠ a → xsR σ' b = xsR σ b) (hby : (xsS σ a).1 = 21 → ∀ i, (xsI σ' a i).toInt8.toInt32 = xsI σ' a i) (hz : H1.size = H.size) (he : va_at (xgD g) xCl (xgB g + a, xEnt g σ' a) H1) (ho : ∀ q, q ≠ xgB g + a → H1[q]? = H[q]?) : xWd g σ' H1 := by
  obtain ⟨h1, h2, h3, h4, h5, h6, h7⟩ := h
  refine ⟨by rw [hz, hn]; exact h1, by rw [hn]; exact h2, ?_, fun b hb => by rw [hS]; exact h4 b (by rw [← hn]; exact hb), fun b hb hk => by rw [hI b (by omega)]; exact h5 b hb (by rw [hS] at hk; exact hk), fun b i hb => ?_, fun b hb => by rw [hS]; exact h7 b (by rw [← hn]; exact hb)⟩
  · rw [← xWs_set ha hn rfl (fun b hb => xEnt_c (congrFun hS b) (hI b hb) (hR b hb))]
    exact h3.set (xWs_D g σ) (xWs_get ha) he ho
  · rw [hS] at hb
    by_cases e : b = a
    · subst e
      exact hby hb i
    · rw [hI b e]
      exact h6 b i hb
theorem x_up1 {f : Nat → Nat → Int32} {a k : Nat} {v : Int32} : xu f a k v a = upd (f a) k v := if_pos rfl
theorem x_upn {f : Nat → Nat → Int32} {a b k : Nat} {v : Int32} (h : b ≠ a) : xu f a k v b = f b := if_neg h
theorem x_ur1 {f : Nat → Nat → Option Nat} {a k : Nat} {v : Option Nat} : xur f a k v a = va_up (f a) k v := if_pos rfl
theorem x_urn {f : Nat → Nat → Option Nat} {a b k : Nat} {v : Option Nat} (h : b ≠ a) : xur f a k v b = f b := if_neg h
theorem x_uc1 {f : Nat → Nat → Int32} {a : Nat} {r : Nat → Int32} : xuc f a r a = r := if_pos rfl
theorem x_ucn {f : Nat → Nat → Int32} {a b : Nat} {r : Nat → Int32} (h : b ≠ a) : xuc f a r b = f b := if_neg h
theorem x_seti (cA : ClassId) (n k : Nat) (f : Nat → Int32) (x : Int32) : (vp_cell cA (n, .inl f)).setSlot k (.int x) = vp_cell cA (n, .inl (upd f k x)) := by
  rw [vp_cell_i, vp_cell_i, arrV_store]
  congr 1
  funext q
  by_cases hq : q = k
  · subst hq
    simp [updV, upd]
  · simp [updV, upd, hq]
theorem x_setq (cA : ClassId) (n k : Nat) (f : Nat → Option Nat) (v : Nat) : (vp_cell cA (n, .inr (.inr (.inr (.inr f))))).setSlot k (.ref v) = vp_cell cA (n, .inr (.inr (.inr (.inr (va_up f k (some v)))))) := by
  rw [vp_cell_q, vp_cell_q, arrV_store]
  congr 1
  funext q
  by_cases hq : q = k
  · subst hq
    simp [updV, va_up, va_rf]
  · simp [updV, va_up, hq]
/-- a row of numbers is written -/
theorem xWd.row {g : XG} {σ : XS} {H H1 : Heap} {a : Nat} {r : Nat → Int32} (h : xWd g σ H) (h1 : 12 < (xsS σ a).1) (h2 : (xsS σ a).1 ≤ 22) (hby : (xsS σ a).1 = 21 → ∀ i, (r i).toInt8.toInt32 = r i) (hz : H1.size = H.size) (he : H1[xAd g a]? = some (vp_cell (xgA g (xsS σ a).1) ((xsS σ a).2, .inl r))) (ho : ∀ q, q ≠ xAd g a → H1[q]? = H[q]?) : xWd g (xRow σ a r) H1 := by
  have hk : (xsS σ a).1 ≤ 29 := by omega
  rw [h.ad hk] at he ho
  refine h.set1 (h.lt hk) rfl rfl (fun b hb => x_ucn hb) (fun _ _ => rfl) (fun z i => ?_) hz ?_ ho
  · show (xuc _ a r a i).toInt8.toInt32 = xuc _ a r a i
    rw [x_uc1]
    exact hby z i
  · rw [xEnt_i (show 12 < (xsS (xRow σ a r) a).1 from h1) (show (xsS (xRow σ a r) a).1 ≤ 22 from h2)]
    show H1[_]? = some (vp_cell _ (_, .inl (xuc σ.2.2.1 a r a)))
    rw [x_uc1]
    exact he
theorem x_putrow (σ : XS) (a k : Nat) (v : Int32) : xPut σ a k v = xRow σ a (upd (xsI σ a) k v) := by
  unfold xPut xRow
  congr 3
theorem x_rng_set {N k : Nat} {f f' : Nat → Value} {v : Value} (hk : f' k = v) (ho : ∀ j, j ≠ k → f' j = f j) : ((List.range N).map f).set k v = (List.range N).map f' := by
  refine List.ext_getElem? fun j => ?_
  rw [List.getElem?_set, List.getElem?_map, List.getElem?_map]
  by_cases e : k = j
  · subst e
    rw [if_pos rfl]
    by_cases h : k < N
    · rw [if_pos (by simpa using h), List.getElem?_range h, Option.map_some, hk]
    · rw [if_neg (by simpa using h), List.getElem?_eq_none (by simpa using Nat.le_of_not_lt h)]
      rfl
  · rw [if_neg e]
    by_cases h : j < N
    · rw [List.getElem?_range h, Option.map_some, Option.map_some, ho j (Ne.symm e)]
    · rw [List.getElem?_eq_none (by simpa using Nat.le_of_not_lt h)]
      rfl
section XROWS
variable {p : Program} {l : Launch} {e : Env} {R : Room} {s : State} {mid : MethodId} {args : Array Value} {below : List Frame} {meth : Method} {c : Code} {H : Heap} {locs : List Loc} {cells slots : Nat} {Q : State → Prop}
variable {g : XG} {m : XM} {pc : Nat} {ls : Array Slot} {rest : List Value} {σ : XS} {cc : ByteArray}
theorem xr_get (hF : xFix g m p s mid args meth c) (ho : xmOwn m < 21) {ix ci k po : Nat} (hf : xFld (xmOwn m) ix = some (ci, k, po)) {a : Nat} (hW : xWd g σ H) (hk : (xsS σ a).1 = ci) (hdg : decode (xmC m) pc = .ok (.getfield ix, 3))
    (kk : W p l e R s mid args below meth c H locs cells slots Q (F0 mid (pc + 3) ls (xcv g (xfv σ ci a k) :: rest))) : W p l e R s mid args below meth c H locs cells slots Q (F0 mid pc ls (.ref (xAd g a) :: rest)) := by
  obtain ⟨hx, hb, hml, hown, hts, hO, hsz, hin⟩ := hF
  obtain ⟨h1, h2, h3⟩ := xFld_ok ho hf
  subst hk
  have he := hW.pl (a := a) (by omega)
  rw [xEnt_o (by omega)] at he
  exact va_get (own := xR (xmOwn m)) (ref := (xT (xsS σ a).1 k).1) hx hb hts (xin h1) hown hO.1 hW.2.2.1 a he (xCl_get _ h1) k h2 (hts _ h3) (fun _ z => z) (by rw [List.getElem?_map, List.getElem?_range h2]; rfl) hdg kk
theorem xr_put (hF : xFix g m p s mid args meth c) (ho : xmOwn m < 21) {ix ci k po : Nat} (hf : xFld (xmOwn m) ix = some (ci, k, po)) {a : Nat} {x : Int32} (hW : xWd g σ H) (hS : va_S (xA g) s.heap H locs) (hk : (xsS σ a).1 = ci) (hfk : xFk ci k = 0 ∨ (xFk ci k = 1 ∧ (x = 0 ∨ x = 1))) (hff : xFf ci k = false) (hdg : decode (xmC m) pc = .ok (.putfield ix, 3))
    (kk : ∀ H' locs', xWd g (xPut σ a k x) H' → va_S (xA g) s.heap H' locs' → W p l e R s mid args below meth c H' locs' cells slots Q (F0 mid (pc + 3) ls rest)) : W p l e R s mid args below meth c H locs cells slots Q (F0 mid pc ls (.int x :: .ref (xAd g a) :: rest)) := by
  obtain ⟨hx, hb, hml, hown, hts, hO, hsz, hin⟩ := hF
  obtain ⟨h1, h2, h3⟩ := xFld_ok ho hf
  subst hk
  have hlt := hW.lt (a := a) (by omega)
  have hc := xCl_get _ h1
  have he := hW.pl (a := a) (by omega)
  rw [xEnt_o (by omega)] at he
  have had := hW.ad (a := a) (by omega)
  have hap := va_apart (own := xR (xmOwn m)) (args := args) hts (xin h1) (xTy (xsS σ a).1) (xTy_ok _ h1) (xNm_ok _ h1) hO.1 hc
  obtain ⟨r, g1, cell, q1, q2, q3, q4⟩ := hW.2.2.1 a _ he
  have hr : r = (xR (xsS σ a).1, xT (xsS σ a).1, xNf (xsS σ a).1) := Option.some.inj (g1.symm.trans hc)
  subst hr
  obtain ⟨hSl, hfc, kC, hkC, hkind⟩ := hO.1.1 _ _ hc
  obtain ⟨cf, kf, fi, f, hi, hsl⟩ := hSl k h2
  have hlay := hts _ (xin h1 _ (u_in_lay h2))
  unfold u_lay at hlay
  rw [if_neg (by rw [(xTo_ok _ h1 k h2).2, hff]; decide)] at hlay
  have hst := (u_facts hfc hkC (u_lays hts (xin h1) h2) hi).1
  have hnf : narrow (xTy (xsS σ a).1 k) (.int x) = .int x ∧ fits (xTy (xsS σ a).1 k) (.int x) = true := by
    rcases xFk_ok _ h1 k h2 with ⟨z, t⟩ | ⟨z, t⟩ | ⟨z, -⟩
    · rw [t]
      exact ⟨rfl, rfl⟩
    · rw [t]
      rcases hfk with q | ⟨-, q | q⟩
      · omega
      · subst q
        exact ⟨by decide +kernel, by decide +kernel⟩
      · subst q
        exact ⟨by decide +kernel, by decide +kernel⟩
    · omega
  have h6 := u_store hfc hkC hkind hlay hi (xTy_ok _ h1 k h2) hnf.1 hnf.2
  refine W.putK hx hb (f := f) ⟨hown, hts _ h3, ⟨_, _, _, hi⟩, hst⟩ (by rw [q2]; exact h6) q1 q3 (by rw [hsl]; exact k2_hasslot (q4 k h2)) rfl rfl hdg fun H' e1 e2 e3 => ?_
  rw [hsl] at e1 ⊢
  refine kk H' _ ?_ (hS.put e2 e3 (by rw [had]; exact Nat.le_add_right _ _))
  rw [had] at e1 e3
  refine hW.set1 hlt rfl rfl (fun b hb => x_upn hb) (fun _ _ => rfl) (fun z => by omega) e2 ?_ e3
  rw [xEnt_o (show (xsS (xPut σ a k x) a).1 ≤ 12 from (by omega : (xsS σ a).1 ≤ 12))]
  refine ⟨_, hc, t_OB.to (V := updV (vp_V ((List.range (xNf (xsS σ a).1)).map fun j => xcv g (xfv σ (xsS σ a).1 a j))) k (.int x)) ⟨_, e1, q2, q3, t_set q4 hap h2 (.int x)⟩ (fun j _ => ?_)⟩
  rw [vp_updV_set (by simpa using h2)]
  congr 1
  refine x_rng_set ?_ (fun j hj => ?_)
  · show xcv g (if xFk (xsS σ a).1 k = 2 then _ else .int (xu σ.2.2.1 a k x a k)) = _
    rw [if_neg (by rcases hfk with z | ⟨z, -⟩ <;> omega), x_up1]
    show Value.int (upd _ k x k) = _
    rw [pk_us]
  · show xcv g (if xFk (xsS σ a).1 j = 2 then _ else .int (xu σ.2.2.1 a k x a j)) = xcv g (if xFk (xsS σ a).1 j = 2 then _ else .int (xsI σ a j))
    rw [x_up1, pk_un hj]
    rfl
theorem xr_putF (hF : xFix g m p s mid args meth c) (ho : xmOwn m < 21) {ix ci k po : Nat} (hf : xFld (xmOwn m) ix = some (ci, k, po)) {a q : Nat} (hW : xWd g σ H) (hS : va_S (xA g) s.heap H locs) (hk : (xsS σ a).1 = ci) (hfk : xFk ci k = 2) (hff : xFf ci k = true) (hK : xmK m = 2) (hoc : xmOwn m = ci) (hdg : decode (xmC m) pc = .ok (.putfield ix, 3))
    (kk : ∀ H' locs', xWd g (xPutR σ a k q) H' → va_S (xA g) s.heap H' locs' → W p l e R s mid args below meth c H' locs' cells slots Q (F0 mid (pc + 3) ls rest)) : W p l e R s mid args below meth c H locs cells slots Q (F0 mid pc ls (.ref (xAd g q) :: .ref (xAd g a) :: rest)) := by
  obtain ⟨hx, hb, hml, hown, hts, hO, hsz, hin⟩ := hF
  obtain ⟨h1, h2, h3⟩ := xFld_ok ho hf
  subst hk
  have hlt := hW.lt (a := a) (by omega)
  have hc := xCl_get _ h1
  have he := hW.pl (a := a) (by omega)
  rw [xEnt_o (by omega)] at he
  have had := hW.ad (a := a) (by omega)
  have hap := va_apart (own := xR (xmOwn m)) (args := args) hts (xin h1) (xTy (xsS σ a).1) (xTy_ok _ h1) (xNm_ok _ h1) hO.1 hc
  obtain ⟨r, g1, cell, q1, q2, q3, q4⟩ := hW.2.2.1 a _ he
  have hr : r = (xR (xsS σ a).1, xT (xsS σ a).1, xNf (xsS σ a).1) := Option.some.inj (g1.symm.trans hc)
  subst hr
  obtain ⟨hSl, hfc, kC, hkC, hkind⟩ := hO.1.1 _ _ hc
  obtain ⟨cf, kf, fi, f, hi, hsl⟩ := hSl k h2
  have hlay := hts _ (xin h1 _ (u_in_lay h2))
  unfold u_lay at hlay
  rw [if_pos (by rw [(xTo_ok _ h1 k h2).2, hff])] at hlay
  have hst := (u_facts hfc hkC (u_lays hts (xin h1) h2) hi).1
  have hcf : mid.cls = cf := by
    obtain ⟨_, _, c', _, _, _, -, -, hf', -, -, -, hown2, -⟩ := Cond.laysFinal_spec hlay
    have e1 : c' = cf := by have := hi.symm.trans hf'; simp at this; exact this.1.symm
    rw [(xTo_ok _ h1 k h2).1, ← hoc] at hown2
    rw [← e1]; exact Option.some.inj (hown.symm.trans hown2)
  have hnf : narrow (xTy (xsS σ a).1 k) (.ref (xAd g q)) = .ref (xAd g q) ∧ fits (xTy (xsS σ a).1 k) (.ref (xAd g q)) = true := by
    rcases xFk_ok _ h1 k h2 with ⟨z, t⟩ | ⟨z, t⟩ | ⟨-, ⟨n, -, t⟩ | t | t | t | t | ⟨n, -, t⟩⟩
    · omega
    · omega
    all_goals (rw [t]; exact ⟨rfl, rfl⟩)
  have h6 := u_fits hfc hkC hkind (Or.inr hlay) hi (xTy_ok _ h1 k h2) hnf.1 hnf.2
  refine W.putFinK hx hb hown (hts _ h3) hi hst hcf (hin hK) (by rw [q2]; exact h6) q1 q3 (by rw [hsl]; exact k2_hasslot (q4 k h2)) rfl rfl hdg fun H' e1 e2 e3 => ?_
  rw [hsl] at e1 ⊢
  refine kk H' _ ?_ (hS.put e2 e3 (by rw [had]; exact Nat.le_add_right _ _))
  rw [had] at e1 e3
  refine hW.set1 hlt rfl rfl (fun _ _ => rfl) (fun b hb => x_urn hb) (fun z => by omega) e2 ?_ e3
  rw [xEnt_o (show (xsS (xPutR σ a k q) a).1 ≤ 12 from (by omega : (xsS σ a).1 ≤ 12))]
  refine ⟨_, hc, t_OB.to (V := updV (vp_V ((List.range (xNf (xsS σ a).1)).map fun j => xcv g (xfv σ (xsS σ a).1 a j))) k (.ref (xAd g q))) ⟨_, e1, q2, q3, t_set q4 hap h2 (.ref (xAd g q))⟩ (fun j _ => ?_)⟩
  rw [vp_updV_set (by simpa using h2)]
  congr 1
  refine x_rng_set ?_ (fun j hj => ?_)
  · show xcv g (if xFk (xsS σ a).1 k = 2 then xrf (xur σ.2.2.2 a k (some q) a k) else _) = _
    rw [if_pos hfk, x_ur1]
    show xcv g (xrf (va_up _ k (some q) k)) = _
    unfold va_up
    rw [if_pos rfl]
    rfl
  · show xcv g (if xFk (xsS σ a).1 j = 2 then xrf (xur σ.2.2.2 a k (some q) a j) else _) = xcv g (if xFk (xsS σ a).1 j = 2 then xrf (xsR σ a j) else _)
    rw [x_ur1]
    unfold va_up
    rw [if_neg hj]
    rfl
theorem xTy_at (g : XG) {k : Nat} (h1 : 20 ≤ k) (h2 : k ≤ 29) : ∃ ty, (xTys g)[k - 20]? = some (xgA g k, ty) := by
  have : k = 20 ∨ k = 21 ∨ k = 22 ∨ k = 23 ∨ k = 24 ∨ k = 25 ∨ k = 26 ∨ k = 27 ∨ k = 28 ∨ k = 29 := by omega
  rcases this with h | h | h | h | h | h | h | h | h | h <;> (subst h; exact ⟨_, rfl⟩)
theorem xr_alen (hF : xFix g m p s mid args meth c) {a : Nat} (hW : xWd g σ H) (h1 : 20 ≤ (xsS σ a).1) (h2 : (xsS σ a).1 ≤ 29) (hdg : decode (xmC m) pc = .ok (.arraylength, 1))
    (kk : W p l e R s mid args below meth c H locs cells slots Q (F0 mid (pc + 1) ls (.int (Int32.ofNat (xsS σ a).2) :: rest))) : W p l e R s mid args below meth c H locs cells slots Q (F0 mid pc ls (.ref (xAd g a) :: rest)) := by
  obtain ⟨hx, hb, hml, hown, hts, hO, hsz, hin⟩ := hF
  obtain ⟨ty, ht⟩ := xTy_at g h1 h2
  have he := hW.pl (a := a) h2
  by_cases h3 : (xsS σ a).1 ≤ 22
  · rw [xEnt_i (by omega) h3] at he
    exact va_alen hx hb hO.1 hW.2.2.1 a _ he ht rfl hdg kk
  · rw [xEnt_q (by omega)] at he
    exact va_alen hx hb hO.1 hW.2.2.1 a _ he ht rfl hdg kk
theorem xr_iald (hF : xFix g m p s mid args meth c) {a : Nat} {i : Int32} (hW : xWd g σ H) (hk : (xsS σ a).1 = 20) (hi : vp_in i (xsS σ a).2) (hdg : decode (xmC m) pc = .ok (.iaload, 1))
    (kk : W p l e R s mid args below meth c H locs cells slots Q (F0 mid (pc + 1) ls (.int (xsI σ a i.toNatClampNeg) :: rest))) : W p l e R s mid args below meth c H locs cells slots Q (F0 mid pc ls (.int i :: .ref (xAd g a) :: rest)) := by
  obtain ⟨hx, hb, hml, hown, hts, hO, hsz, hin⟩ := hF
  have he := hW.pl (a := a) (by omega)
  rw [xEnt_i (by omega) (by omega)] at he
  exact va_iald hx hb hO.1 hW.2.2.1 a 0 he (by rw [hk]; rfl) hi hdg kk
theorem xr_bald (hF : xFix g m p s mid args meth c) {a : Nat} {i : Int32} (hW : xWd g σ H) (hk : (xsS σ a).1 = 21 ∨ (xsS σ a).1 = 22) (hi : vp_in i (xsS σ a).2) (hdg : decode (xmC m) pc = .ok (.baload, 1))
    (kk : W p l e R s mid args below meth c H locs cells slots Q (F0 mid (pc + 1) ls (.int (xsI σ a i.toNatClampNeg) :: rest))) : W p l e R s mid args below meth c H locs cells slots Q (F0 mid pc ls (.int i :: .ref (xAd g a) :: rest)) := by
  obtain ⟨hx, hb, hml, hown, hts, hO, hsz, hin⟩ := hF
  have he := hW.pl (a := a) (by omega)
  rw [xEnt_i (by omega) (by omega)] at he
  rcases hk with hk | hk
  · exact va_bald hx hb hO.1 hW.2.2.1 a 1 he (by rw [hk]; rfl) hi hdg kk
  · exact va_zald hx hb hO.1 hW.2.2.1 a 2 he (by rw [hk]; rfl) hi hdg kk
theorem xr_aald (hF : xFix g m p s mid args meth c) {a : Nat} {i : Int32} (hW : xWd g σ H) (h1 : 23 ≤ (xsS σ a).1) (h2 : (xsS σ a).1 ≤ 29) (hi : vp_in i (xsS σ a).2) (hdg : decode (xmC m) pc = .ok (.aaload, 1))
    (kk : W p l e R s mid args below meth c H locs cells slots Q (F0 mid (pc + 1) ls (xcv g (xrf (xsR σ a i.toNatClampNeg)) :: rest))) : W p l e R s mid args below meth c H locs cells slots Q (F0 mid pc ls (.int i :: .ref (xAd g a) :: rest)) := by
  obtain ⟨hx, hb, hml, hown, hts, hO, hsz, hin⟩ := hF
  have he := hW.pl (a := a) h2
  rw [xEnt_q (by omega)] at he
  have hlt : i.toNatClampNeg < (xsS σ a).2 := Nat.not_le.mp fun q => hi (Or.inr q)
  have hty : ∃ ty : FieldType, ty.isReference = true ∧ (xTys g)[(xsS σ a).1 - 20]? = some (xgA g (xsS σ a).1, ty) := by
    have : (xsS σ a).1 = 23 ∨ (xsS σ a).1 = 24 ∨ (xsS σ a).1 = 25 ∨ (xsS σ a).1 = 26 ∨ (xsS σ a).1 = 27 ∨ (xsS σ a).1 = 28 ∨ (xsS σ a).1 = 29 := by omega
    rcases this with h | h | h | h | h | h | h <;> (rw [h]; exact ⟨_, rfl, rfl⟩)
  obtain ⟨ty, hr, ht⟩ := hty
  have hv : va_rf ((xsR σ a i.toNatClampNeg).map (xAd g)) = xcv g (xrf (xsR σ a i.toNatClampNeg)) := by
    cases xsR σ a i.toNatClampNeg <;> rfl
  refine W.aald (v := va_rf ((xsR σ a i.toNatClampNeg).map (xAd g))) (ty := ty) hx hb (hW.2.2.1 a _ he) ((hO.1.2 _ _ ht).1 (xsS σ a).2 (fun j => va_rf ((xsR σ a j).map (xAd g)))) hr (fun q => by cases q) (by show ¬ (i < 0 ∨ (arrV _ _ _).slots.size ≤ _); rw [arrV_size]; exact hi) (by show (arrV _ _ _).slots[_]? = _; rw [arrV_read _ _ hlt]) rfl rfl hdg ?_
  rw [hv]
  exact kk
theorem xr_iast (hF : xFix g m p s mid args meth c) {a : Nat} {i x : Int32} (hW : xWd g σ H) (hS : va_S (xA g) s.heap H locs) (hk : (xsS σ a).1 = 20) (hi : vp_in i (xsS σ a).2) (hdg : decode (xmC m) pc = .ok (.iastore, 1))
    (kk : ∀ H' locs', xWd g (xPut σ a i.toNatClampNeg x) H' → va_S (xA g) s.heap H' locs' → W p l e R s mid args below meth c H' locs' cells slots Q (F0 mid (pc + 1) ls rest)) : W p l e R s mid args below meth c H locs cells slots Q (F0 mid pc ls (.int x :: .int i :: .ref (xAd g a) :: rest)) := by
  obtain ⟨hx, hb, hml, hown, hts, hO, hsz, hin⟩ := hF
  have he := hW.pl (a := a) (by omega)
  rw [xEnt_i (by omega) (by omega)] at he
  have ht : (xTys g)[0]? = some (xgA g (xsS σ a).1, .int) := by rw [hk]; rfl
  refine W.iast hx hb (hW.2.2.1 a _ he) ((hO.1.2 _ _ ht).1 (xsS σ a).2 (fun j => .int (xsI σ a j))) (fun q => by cases q) (by show ¬ (i < 0 ∨ (arrV _ _ _).slots.size ≤ _); rw [arrV_size]; exact hi) rfl rfl hdg fun H1 e z oq => ?_
  refine kk H1 _ ?_ (hS.put z oq (by rw [hW.ad (a := a) (by omega)]; exact Nat.le_add_right _ _))
  rw [x_putrow]
  exact hW.row (by omega) (by omega) (fun h => by omega) z (by rw [e, x_seti]) oq
theorem xr_bast (hF : xFix g m p s mid args meth c) {a : Nat} {i x : Int32} (hW : xWd g σ H) (hS : va_S (xA g) s.heap H locs) (hk : (xsS σ a).1 = 21) (hi : vp_in i (xsS σ a).2) (hdg : decode (xmC m) pc = .ok (.bastore, 1))
    (kk : ∀ H' locs', xWd g (xPut σ a i.toNatClampNeg x.toInt8.toInt32) H' → va_S (xA g) s.heap H' locs' → W p l e R s mid args below meth c H' locs' cells slots Q (F0 mid (pc + 1) ls rest)) : W p l e R s mid args below meth c H locs cells slots Q (F0 mid pc ls (.int x :: .int i :: .ref (xAd g a) :: rest)) := by
  obtain ⟨hx, hb, hml, hown, hts, hO, hsz, hin⟩ := hF
  have he := hW.pl (a := a) (by omega)
  rw [xEnt_i (by omega) (by omega)] at he
  have ht : (xTys g)[1]? = some (xgA g (xsS σ a).1, .byte) := by rw [hk]; rfl
  have hn : narrow .byte (.int x) = .int x.toInt8.toInt32 := rfl
  refine W.bast hx hb (hW.2.2.1 a _ he) ((hO.1.2 _ _ ht).1 (xsS σ a).2 (fun j => .int (xsI σ a j))) (fun q => by cases q) (by show ¬ (i < 0 ∨ (arrV _ _ _).slots.size ≤ _); rw [arrV_size]; exact hi) rfl rfl hdg fun H1 e z oq => ?_
  refine kk H1 _ ?_ (hS.put z oq (by rw [hW.ad (a := a) (by omega)]; exact Nat.le_add_right _ _))
  rw [x_putrow]
  refine hW.row (by omega) (by omega) (fun h j => ?_) z (by rw [e, hn, x_seti]) oq
  by_cases q : j = i.toNatClampNeg
  · subst q
    rw [pk_us]
    simp
  · rw [pk_un q]
    exact hW.2.2.2.2.2.1 a j hk
theorem xr_zast (hF : xFix g m p s mid args meth c) {a : Nat} {i x : Int32} (hW : xWd g σ H) (hS : va_S (xA g) s.heap H locs) (hk : (xsS σ a).1 = 22) (hx1 : x = 0 ∨ x = 1) (hi : vp_in i (xsS σ a).2) (hdg : decode (xmC m) pc = .ok (.bastore, 1))
    (kk : ∀ H' locs', xWd g (xPut σ a i.toNatClampNeg x) H' → va_S (xA g) s.heap H' locs' → W p l e R s mid args below meth c H' locs' cells slots Q (F0 mid (pc + 1) ls rest)) : W p l e R s mid args below meth c H locs cells slots Q (F0 mid pc ls (.int x :: .int i :: .ref (xAd g a) :: rest)) := by
  obtain ⟨hx, hb, hml, hown, hts, hO, hsz, hin⟩ := hF
  have he := hW.pl (a := a) (by omega)
  rw [xEnt_i (by omega) (by omega)] at he
  have ht : (xTys g)[2]? = some (xgA g (xsS σ a).1, .boolean) := by rw [hk]; rfl
  have hn : narrow .boolean (.int x) = .int x := by rcases hx1 with q | q <;> (subst q; decide +kernel)
  refine W.zast hx hb (hW.2.2.1 a _ he) ((hO.1.2 _ _ ht).1 (xsS σ a).2 (fun j => .int (xsI σ a j))) (fun q => by cases q) (by show ¬ (i < 0 ∨ (arrV _ _ _).slots.size ≤ _); rw [arrV_size]; exact hi) rfl rfl hdg fun H1 e z oq => ?_
  refine kk H1 _ ?_ (hS.put z oq (by rw [hW.ad (a := a) (by omega)]; exact Nat.le_add_right _ _))
  rw [x_putrow]
  exact hW.row (by omega) (by omega) (fun h => by omega) z (by rw [e, hn, x_seti]) oq
end XROWS
end
section
/-! NEW CELLS, ROWS OF CELLS, COPIES, OLD CELLS -/
theorem xWd.push {g : XG} {σ : XS} {H H1 : Heap} (h : xWd g σ H) {kind len slots : Nat} (hkind : kind ≤ 12 ∨ (20 ≤ kind ∧ kind ≤ 29)) (hn : xsN σ + 1 ≤ 1000000) (hz : H1.size = H.size + 1) (ho : ∀ q, q < H.size → H1[q]? = H[q]?) (he : va_at (xgD g) xCl (xgB g + xsN σ, xEnt g (xNew σ kind len slots) (xsN σ)) H1) : xWd g (xNew σ kind len slots) H1 := by
  obtain ⟨h1, h2, h3, h4, h5, h6, h7⟩ := h
  refine ⟨by rw [hz, h1]; rfl, hn, fun k q hk => ?_, fun a ha => ?_, fun a ha hk => ?_, fun a i ha => ?_, fun a ha => ?_⟩
  · obtain ⟨z1, rfl⟩ := xWs_inv hk
    have z1 : k < xsN σ + 1 := z1
    rcases Nat.lt_or_ge k (xsN σ) with q | q
    · have e : xEnt g (xNew σ kind len slots) k = xEnt g σ k := xEnt_c (if_neg (Nat.ne_of_lt q)) (if_neg (Nat.ne_of_lt q)) (if_neg (Nat.ne_of_lt q))
      rw [e]
      exact (h3 k _ (xWs_get q)).kept (ho _ (by rw [h1]; show xgB g + k < _; omega))
    · have e : k = xsN σ := by omega
      subst e
      exact he
  · have ha : xsN σ + 1 ≤ a := ha
    show (if a = xsN σ then (kind, len) else xsS σ a) = _ ∨ (if a = xsN σ then (kind, len) else xsS σ a) = _
    rw [if_neg (by omega)]
    exact h4 a (by omega)
  · have hk : (if a = xsN σ then (kind, len) else xsS σ a).1 ≠ 99 := hk
    rw [if_neg (by omega)] at hk
    show (if a = xsN σ then (fun _ => 0) else xsI σ a) = _
    rw [if_neg (by omega)]
    exact h5 a ha hk
  · by_cases e : a = xsN σ
    · show ((if a = xsN σ then (fun _ => (0 : Int32)) else xsI σ a) i).toInt8.toInt32 = (if a = xsN σ then (fun _ => (0 : Int32)) else xsI σ a) i
      rw [if_pos e]
      decide +kernel
    · have ha2 : (if a = xsN σ then (kind, len) else xsS σ a).1 = 21 := ha
      rw [if_neg e] at ha2
      show ((if a = xsN σ then (fun _ => (0 : Int32)) else xsI σ a) i).toInt8.toInt32 = (if a = xsN σ then (fun _ => (0 : Int32)) else xsI σ a) i
      rw [if_neg e]
      exact h6 a i ha2
  · have ha : a < xsN σ + 1 := ha
    show (if a = xsN σ then (kind, len) else xsS σ a).1 ≤ 12 ∨ (20 ≤ (if a = xsN σ then (kind, len) else xsS σ a).1 ∧ (if a = xsN σ then (kind, len) else xsS σ a).1 ≤ 29)
    by_cases e : a = xsN σ
    · rw [if_pos e]
      exact hkind
    · rw [if_neg e]
      exact h7 a (by omega)
theorem xS_new {σ : XS} {kind len slots : Nat} : xsS (xNew σ kind len slots) (xsN σ) = (kind, len) := if_pos rfl
theorem xI_new {σ : XS} {kind len slots : Nat} : xsI (xNew σ kind len slots) (xsN σ) = fun _ => 0 := if_pos rfl
theorem xR_new {σ : XS} {kind len slots : Nat} : xsR (xNew σ kind len slots) (xsN σ) = fun _ => none := if_pos rfl
theorem x_grow {g : XG} {H0 H H1 : Heap} {locs : List Loc} (h : va_S (xA g) H0 H locs) (hz : H.size ≤ H1.size) (ho : ∀ q, q < H.size → H1[q]? = H[q]?) : va_S (xA g) H0 H1 locs := ⟨Nat.le_trans h.1 hz, fun q h1 h2 => by rw [ho q (Nat.lt_of_lt_of_le h1 h.1)]; exact h.2.1 q h1 h2, h.2.2⟩
section XALLOC
variable {p : Program} {l : Launch} {e : Env} {R : Room} {s : State} {mid : MethodId} {args : Array Value} {below : List Frame} {meth : Method} {c : Code} {H : Heap} {locs : List Loc} {cells slots : Nat} {Q : State → Prop}
variable {g : XG} {m : XM} {pc : Nat} {ls : Array Slot} {rest : List Value} {σ : XS} {cc : ByteArray}
theorem xr_new (hF : xFix g m p s mid args meth c) (ho : xmOwn m < 21) {ix ci po : Nat} (hf : xKl (xmOwn m) ix = some (ci, po)) (hci : ci ≤ 12) (hW : xWd g σ H) (hS : va_S (xA g) s.heap H locs) (hn : xsN σ + 1 ≤ 1000000) (hcells : cells + 1 ≤ R.cells) (hslots : slots + xNf ci ≤ R.slots) (hdg : decode (xmC m) pc = .ok (.new ix, 3))
    (kk : ∀ H', xWd g (xNew σ ci 0 (xNf ci)) H' → va_S (xA g) s.heap H' locs → W p l e R s mid args below meth c H' locs (cells + 1) (slots + xNf ci) Q (F0 mid (pc + 3) ls (.ref (xgB g + xsN σ) :: rest))) : W p l e R s mid args below meth c H locs cells slots Q (F0 mid pc ls rest) := by
  obtain ⟨hx, hb, hml, hown, hts, hO, hsz, hin⟩ := hF
  obtain ⟨-, h2⟩ := xKl_ok ho hf
  obtain ⟨h1, h2⟩ := h2 (by omega)
  obtain ⟨w1, w2⟩ := xNew_ok ci h1
  have hc := xCl_get _ h1
  have hKn := hO.1.1 ci _ hc
  refine W.newcK hx hb hown (hts _ h2) (hts _ (xw_of w1 rfl)) (hts _ (xw_of w2 rfl)) rfl hdg hcells hslots hKn.2.1 hW.1 fun H1 kC hkC e1 z1 o1 => ?_
  have z2 : H1.size = H.size + 1 := by rw [z1, hW.1]
  have o2 : ∀ q, q < H.size → H1[q]? = H[q]? := fun q hq => o1 q (by rw [← hW.1]; exact hq)
  refine kk H1 (hW.push (Or.inl hci) hn z2 o2 ?_) (x_grow hS (by omega) o2)
  rw [xEnt_o (by rw [xS_new]; exact hci), xS_new]
  refine ⟨_, hc, (u_born (xTy ci) hts (xin h1) hKn hkC e1 (xTy_ok _ h1)).to (fun j hj => ?_)⟩
  have hv : vp_V ((List.range (xNf ci)).map fun j => xcv g (xfv (xNew σ ci 0 (xNf ci)) ci (xsN σ) j)) j = xcv g (xfv (xNew σ ci 0 (xNf ci)) ci (xsN σ) j) := by
    unfold vp_V
    rw [List.getD_eq_getElem?_getD, List.getElem?_map, List.getElem?_range hj]
    rfl
  rw [hv]
  unfold xfv
  rw [xI_new, xR_new]
  rcases xFk_ok _ h1 j hj with ⟨z, t⟩ | ⟨z, t⟩ | ⟨z, ⟨n, -, t⟩ | t | t | t | t | ⟨n, -, t⟩⟩
  all_goals (rw [t, z]; rfl)
theorem xr_newa (hF : xFix g m p s mid args meth c) {at0 : ArrayType} {ty : FieldType} {kd : Nat} (hty : newarray.typeOf at0 = ty) (hk1 : 20 ≤ kd) (hk2 : kd ≤ 22) (hw : Cond.arrayClass ty ∈ xw) (ht : (xTys g)[kd - 20]? = some (xgA g kd, ty)) (hd : defaultValue ty = .int 0) (hra : ∀ cA, va_RA s cA ty = (s.vm.findClass ("[" ++ ty.toString) = some cA)) (hW : xWd g σ H) (hS : va_S (xA g) s.heap H locs) (hn : xsN σ + 1 ≤ 1000000) {n : Int32} (hn0 : ¬ n < 0) (hnb : n.toNatClampNeg ≤ 100000) (hcb : componentBytes ty ≤ 8) (hcells : cells + 1 ≤ R.cells) (hslots : slots + n.toNatClampNeg ≤ R.slots) (hdg : decode (xmC m) pc = .ok (.newarray at0, 2))
    (kk : ∀ H', xWd g (xNew σ kd n.toNatClampNeg n.toNatClampNeg) H' → va_S (xA g) s.heap H' locs → W p l e R s mid args below meth c H' locs (cells + 1) (slots + n.toNatClampNeg) Q (F0 mid (pc + 2) ls (.ref (xgB g + xsN σ) :: rest))) : W p l e R s mid args below meth c H locs cells slots Q (F0 mid pc ls (.int n :: rest)) := by
  obtain ⟨hx, hb, hml, hown, hts, hO, hsz, hin⟩ := hF
  subst hty
  refine va_newaK hx hb (hts _ hw) rfl hdg rfl hn0 rfl (by calc n.toNatClampNeg * componentBytes (newarray.typeOf at0) ≤ 100000 * 8 := Nat.mul_le_mul hnb hcb
      _ ≤ 536870912 := by decide) hcells hslots hW.1 fun H1 cA e1 z1 o1 hAr hNm => ?_
  have hcA : cA = xgA g kd := by
    have h9 := (hO.1.2 _ _ ht).2
    rw [hra] at h9
    exact Option.some.inj (hNm.symm.trans h9)
  subst hcA
  have z2 : H1.size = H.size + 1 := by rw [z1, hW.1]
  have o2 : ∀ q, q < H.size → H1[q]? = H[q]? := fun q hq => o1 q (by rw [← hW.1]; exact hq)
  refine kk H1 (hW.push (Or.inr ⟨hk1, by omega⟩) hn z2 o2 ?_) (x_grow hS (by omega) o2)
  rw [xEnt_i (by rw [xS_new]; show 12 < kd; omega) (by rw [xS_new]; exact hk2), xS_new, xI_new]
  show H1[_]? = some (vp_cell _ _)
  rw [e1, hd]
  rfl
theorem xr_anew (hF : xFix g m p s mid args meth c) (ho : xmOwn m < 21) {ix ci po : Nat} (hf : xKl (xmOwn m) ix = some (ci, po)) (hak : xAk ci ≤ 28) (hW : xWd g σ H) (hS : va_S (xA g) s.heap H locs) (hn : xsN σ + 1 ≤ 1000000) {n : Int32} (hn0 : ¬ n < 0) (hnb : n.toNatClampNeg ≤ 100000) (hcells : cells + 1 ≤ R.cells) (hslots : slots + n.toNatClampNeg ≤ R.slots) (hdg : decode (xmC m) pc = .ok (.anewarray ix, 3))
    (kk : ∀ H', xWd g (xNew σ (xAk ci) n.toNatClampNeg n.toNatClampNeg) H' → va_S (xA g) s.heap H' locs → W p l e R s mid args below meth c H' locs (cells + 1) (slots + n.toNatClampNeg) Q (F0 mid (pc + 3) ls (.ref (xgB g + xsN σ) :: rest))) : W p l e R s mid args below meth c H locs cells slots Q (F0 mid pc ls (.int n :: rest)) := by
  obtain ⟨hx, hb, hml, hown, hts, hO, hsz, hin⟩ := hF
  obtain ⟨-, h2⟩ := xKl_ok ho hf
  have hne : ci ≠ 29 := fun h => by subst h; revert hak; decide
  obtain ⟨h1, h2⟩ := h2 hne
  have hfacts : 23 ≤ xAk ci ∧ xR ci ∈ xAos ∧ (xTys g)[xAk ci - 20]? = some (xgA g (xAk ci), .object (xR ci)) := by
    have : ci = 0 ∨ ci = 1 ∨ ci = 2 ∨ ci = 3 ∨ ci = 4 ∨ ci = 5 ∨ ci = 6 ∨ ci = 7 ∨ ci = 8 ∨ ci = 9 ∨ ci = 10 ∨ ci = 11 ∨ ci = 12 := by omega
    rcases this with h | h | h | h | h | h | h | h | h | h | h | h | h <;> (subst h; first | (exfalso; revert hak; decide) | exact ⟨by decide, by decide +kernel, rfl⟩)
  obtain ⟨f0, f1, f2⟩ := hfacts
  refine W.anew hx hb hown (hts _ h2) (va_AO.use (hO.2.2.2.2.2.2.2.2.2.2.1 _ f1)) rfl hdg rfl hn0 (by calc n.toNatClampNeg * 4 ≤ 100000 * 4 := Nat.mul_le_mul hnb (Nat.le_refl 4)
      _ ≤ 536870912 := by decide) hcells hslots fun cA kA comp g1 g2 g3 g4 => ?_
  have hcA : cA = xgA g (xAk ci) := by
    obtain ⟨_, _, -, -, -, h9⟩ := (hO.1.2 _ _ f2).2
    exact Option.some.inj (g1.symm.trans h9)
  subst hcA
  generalize hH1 : H.push ({ cls := xgA g (xAk ci), slots := Array.replicate n.toNatClampNeg .null, vm := .none } : Cell) = H1
  have z1 : H1.size = H.size + 1 := by rw [← hH1, Array.size_push]
  have e1 : H1[H.size]? = some (arrV (xgA g (xAk ci)) n.toNatClampNeg (fun _ => .null)) := by rw [← hH1, Array.getElem?_push_size, ← arrV_new]
  have o1 : ∀ q : Nat, q < H.size → H1[q]? = H[q]? := fun q hq => by rw [← hH1, Array.getElem?_push, if_neg (Nat.ne_of_lt hq)]
  have k1 := kk H1 (hW.push (Or.inr ⟨by omega, by omega⟩) hn z1 o1 (by
    rw [xEnt_q (by rw [xS_new]; show 22 < xAk ci; omega), xS_new, xR_new]
    show H1[_]? = some (vp_cell _ _)
    rw [← hW.1, e1]
    rfl)) (x_grow hS (by omega) o1)
  rw [← hW.1] at k1
  exact k1
theorem xr_aast (hF : xFix g m p s mid args meth c) {a q : Nat} {i : Int32} (hW : xWd g σ H) (hS : va_S (xA g) s.heap H locs) (h1 : 23 ≤ (xsS σ a).1) (h2 : (xsS σ a).1 ≤ 28) (hq : (xsS σ q).1 = xAe (xsS σ a).1) (hi : vp_in i (xsS σ a).2) (hdg : decode (xmC m) pc = .ok (.aastore, 1))
    (kk : ∀ H' locs', xWd g (xPutR σ a i.toNatClampNeg q) H' → va_S (xA g) s.heap H' locs' → W p l e R s mid args below meth c H' locs' cells slots Q (F0 mid (pc + 1) ls rest)) : W p l e R s mid args below meth c H locs cells slots Q (F0 mid pc ls (.ref (xAd g q) :: .int i :: .ref (xAd g a) :: rest)) := by
  obtain ⟨hx, hb, hml, hown, hts, hO, hsz, hin⟩ := hF
  have he := hW.pl (a := a) (by omega)
  rw [xEnt_q (by omega)] at he
  have hfacts : xAe (xsS σ a).1 ≤ 12 ∧ (xTys g)[(xsS σ a).1 - 20]? = some (xgA g (xsS σ a).1, .object (xR (xAe (xsS σ a).1))) := by
    have : (xsS σ a).1 = 23 ∨ (xsS σ a).1 = 24 ∨ (xsS σ a).1 = 25 ∨ (xsS σ a).1 = 26 ∨ (xsS σ a).1 = 27 ∨ (xsS σ a).1 = 28 := by omega
    rcases this with h | h | h | h | h | h <;> (rw [h]; exact ⟨by decide, rfl⟩)
  obtain ⟨f0, ht⟩ := hfacts
  have hq12 : (xsS σ q).1 ≤ 12 := by rw [hq]; exact f0
  have heq := hW.pl (a := q) (by omega)
  rw [xEnt_o hq12, hq] at heq
  have hc := xCl_get (xAe (xsS σ a).1) (by omega)
  have hlt : i.toNatClampNeg < (xsS σ a).2 := Nat.not_le.mp fun z => hi (Or.inr z)
  have h0 : ¬ i < 0 := fun z => hi (Or.inl z)
  obtain ⟨r', hr', cellV, g1, g2, g3, -⟩ := hW.2.2.1 q _ heq
  have hcls := (hO.1.1 _ _ hc).2
  obtain ⟨kA, comp, k1, k2, k3, -⟩ := (hO.1.2 _ _ ht).2
  have hcomp : comp = (xgD g).1 (xAe (xsS σ a).1) := Option.some.inj (k3.symm.trans hcls.1)
  subst hcomp
  obtain ⟨kC, hkC, -⟩ := hcls.2
  refine W.aast hx hb (hW.2.2.1 a _ he) (fun z h => by cases h) (fun h => by cases h) k1 k2 rfl hkC ⟨h0, by show _ < (arrV _ _ _).slots.size; rw [arrV_size]; exact hlt⟩ g1 (fun z h => by rw [g3] at h; cases h) (by rw [g2]; exact hkC) (by rw [g2]; exact va_assign hcls) rfl rfl hdg fun H1 e z oq => ?_
  have had := hW.ad (a := a) (by omega)
  refine kk H1 _ ?_ (hS.put z oq (by rw [had]; exact Nat.le_add_right _ _))
  rw [had] at e oq
  refine hW.set1 (hW.lt (by omega)) rfl rfl (fun _ _ => rfl) (fun b hb => x_urn hb) (fun h => by omega) z ?_ oq
  rw [xEnt_q (show 22 < (xsS (xPutR σ a i.toNatClampNeg q) a).1 from (by omega : 22 < (xsS σ a).1))]
  have e5 : H1[xgB g + a]? = some (vp_cell (xgA g (xsS σ a).1) ((xsS σ a).2, .inr (.inr (.inr (.inr (va_up (fun j => (xsR σ a j).map (xAd g)) i.toNatClampNeg (some (xAd g q)))))))) := by
    rw [← x_setq]
    exact e
  have e6 : (fun j => (xsR (xPutR σ a i.toNatClampNeg q) a j).map (xAd g)) = va_up (fun j => (xsR σ a j).map (xAd g)) i.toNatClampNeg (some (xAd g q)) := by
    funext j
    show (xur σ.2.2.2 a i.toNatClampNeg (some q) a j).map (xAd g) = _
    rw [x_ur1]
    unfold va_up
    by_cases hj : j = i.toNatClampNeg
    · rw [if_pos hj, if_pos hj]
      rfl
    · rw [if_neg hj, if_neg hj]
  show H1[_]? = some (vp_cell _ (_, .inr (.inr (.inr (.inr (fun j => (xsR (xPutR σ a i.toNatClampNeg q) a j).map (xAd g)))))))
  rw [e6]
  exact e5
end XALLOC
end
section
theorem xoS_40 {L a : Nat} (h : (xoS L a).1 = 40) : (a = 1000000 ∧ (xoS L a).2 = L) ∨ ∃ j, 1 ≤ j ∧ j ≤ 4 ∧ a = 1000000 + j ∧ (xoS L a).2 = (xTab.getD j []).length := by
  unfold xoS at h ⊢
  by_cases h1 : a < 1000000
  · rw [if_pos h1] at h
    cases h
  · rw [if_neg h1] at h ⊢
    by_cases h2 : a = 1000000
    · left
      exact ⟨h2, by rw [if_pos h2]⟩
    · rw [if_neg h2] at h ⊢
      by_cases h3 : a < 1000005
      · right
        exact ⟨a - 1000000, by omega, by omega, by omega, by rw [if_pos h3]⟩
      · rw [if_neg h3] at h
        split at h
        · cases h
        · split at h <;> cases h
theorem xoS_42 {L a : Nat} (h : (xoS L a).1 = 42) : ∃ i, i < 17 ∧ a = 1000010 + i := by
  unfold xoS at h
  by_cases h1 : a < 1000000
  · rw [if_pos h1] at h
    cases h
  · rw [if_neg h1] at h
    by_cases h2 : a = 1000000
    · rw [if_pos h2] at h
      cases h
    · rw [if_neg h2] at h
      by_cases h3 : a < 1000005
      · rw [if_pos h3] at h
        cases h
      · rw [if_neg h3] at h
        by_cases h4 : 1000010 ≤ a ∧ a < 1000027
        · exact ⟨a - 1000010, by omega, by omega⟩
        · rw [if_neg h4] at h
          split at h <;> cases h
theorem xoS_43 {L a : Nat} (h : (xoS L a).1 = 43) : ∃ i, i < 17 ∧ a = 1000030 + i ∧ (xoS L a).2 = xTl.getD i 0 := by
  unfold xoS at h ⊢
  by_cases h1 : a < 1000000
  · rw [if_pos h1] at h
    cases h
  · rw [if_neg h1] at h ⊢
    by_cases h2 : a = 1000000
    · rw [if_pos h2] at h
      cases h
    · rw [if_neg h2] at h ⊢
      by_cases h3 : a < 1000005
      · rw [if_pos h3] at h
        cases h
      · rw [if_neg h3] at h ⊢
        by_cases h4 : 1000010 ≤ a ∧ a < 1000027
        · rw [if_pos h4] at h
          cases h
        · rw [if_neg h4] at h ⊢
          by_cases h5 : 1000030 ≤ a ∧ a < 1000047
          · exact ⟨a - 1000030, by omega, by omega, by rw [if_pos h5]⟩
          · rw [if_neg h5] at h
            cases h
theorem xAd_old {g : XG} {j : Nat} : xAd g (1000000 + j) = xgO g j := by
  unfold xAd
  rw [if_neg (by omega), Nat.add_sub_cancel_left]
theorem xoI_0 (xs : Nat → Int32) : xoI xs 1000000 = xs := if_pos rfl
theorem xoI_t (xs : Nat → Int32) {j : Nat} (h1 : 1 ≤ j) (h2 : j ≤ 4) : xoI xs (1000000 + j) = fun i => (xTab.getD j []).getD i 0 := by
  unfold xoI
  rw [if_neg (by omega), if_pos (by omega), Nat.add_sub_cancel_left]
theorem xoI_b (xs : Nat → Int32) {i : Nat} (h : i < 17) : xoI xs (1000030 + i) = fun j => (xTb.getD i []).getD j 0 := by
  unfold xoI
  rw [if_neg (by omega), if_neg (by omega), if_pos (by omega), Nat.add_sub_cancel_left]
section XOLD
variable {p : Program} {l : Launch} {e : Env} {R : Room} {s : State} {mid : MethodId} {args : Array Value} {below : List Frame} {meth : Method} {c : Code} {H : Heap} {locs : List Loc} {cells slots : Nat} {Q : State → Prop}
variable {g : XG} {m : XM} {pc : Nat} {ls : Array Slot} {rest : List Value} {σ : XS} {cc : ByteArray}
theorem xr_ialdO (hF : xFix g m p s mid args meth c) {a : Nat} {i : Int32} (hW : xWd g σ H) (hS : va_S (xA g) s.heap H locs) (hk : (xsS σ a).1 = 40) (hi : vp_in i (xsS σ a).2) (hdg : decode (xmC m) pc = .ok (.iaload, 1))
    (kk : W p l e R s mid args below meth c H locs cells slots Q (F0 mid (pc + 1) ls (.int (xsI σ a i.toNatClampNeg) :: rest))) : W p l e R s mid args below meth c H locs cells slots Q (F0 mid pc ls (.int i :: .ref (xAd g a) :: rest)) := by
  obtain ⟨hx, hb, hml, hown, hts, hO, hsz, hin⟩ := hF
  obtain ⟨ho, hs, hI⟩ := hW.old (a := a) (by omega) (by omega)
  rw [hs] at hk hi
  rw [hI] at kk
  rcases xoS_40 hk with ⟨rfl, hL⟩ | ⟨j, h1, h2, rfl, hL⟩
  · rw [hL] at hi
    rw [xoI_0] at kk
    have e : xAd g 1000000 = xgO g 0 := xAd_old (j := 0)
    rw [e]
    exact va_sld hx hb hO.2.1 (Nat.lt_of_lt_of_le hO.2.2.1 hsz) (Nat.not_le.mpr hO.2.2.1) hS hi hdg kk
  · rw [hL] at hi
    rw [xoI_t _ h1 h2] at kk
    rw [xAd_old]
    exact va_ti hx hb (hO.2.2.2.1 j h1 h2).1 hS hi rfl hdg kk
theorem xr_baldO (hF : xFix g m p s mid args meth c) {a : Nat} {i : Int32} (hW : xWd g σ H) (hS : va_S (xA g) s.heap H locs) (hk : (xsS σ a).1 = 43) (hi : vp_in i (xsS σ a).2) (hdg : decode (xmC m) pc = .ok (.baload, 1))
    (kk : W p l e R s mid args below meth c H locs cells slots Q (F0 mid (pc + 1) ls (.int (xsI σ a i.toNatClampNeg) :: rest))) : W p l e R s mid args below meth c H locs cells slots Q (F0 mid pc ls (.int i :: .ref (xAd g a) :: rest)) := by
  obtain ⟨hx, hb, hml, hown, hts, hO, hsz, hin⟩ := hF
  obtain ⟨ho, hs, hI⟩ := hW.old (a := a) (by omega) (by omega)
  rw [hs] at hk hi
  rw [hI] at kk
  obtain ⟨j, h1, rfl, hL⟩ := xoS_43 hk
  rw [hL] at hi
  rw [xoI_b _ h1] at kk
  have e : xAd g (1000030 + j) = xgO g (30 + j) := by rw [show 1000030 + j = 1000000 + (30 + j) by omega]; exact xAd_old
  rw [e]
  exact va_tb hx hb (hO.2.2.2.2.2.2.2.1.1 j h1).2.2.2 hS hi rfl hdg kk
theorem xr_alenO (hF : xFix g m p s mid args meth c) {a : Nat} (hW : xWd g σ H) (hS : va_S (xA g) s.heap H locs) (hk : (xsS σ a).1 = 40 ∨ (xsS σ a).1 = 43) (hdg : decode (xmC m) pc = .ok (.arraylength, 1))
    (kk : W p l e R s mid args below meth c H locs cells slots Q (F0 mid (pc + 1) ls (.int (Int32.ofNat (xsS σ a).2) :: rest))) : W p l e R s mid args below meth c H locs cells slots Q (F0 mid pc ls (.ref (xAd g a) :: rest)) := by
  obtain ⟨hx, hb, hml, hown, hts, hO, hsz, hin⟩ := hF
  obtain ⟨ho, hs, hI⟩ := hW.old (a := a) (by omega) (by omega)
  rw [hs] at hk kk
  rcases hk with hk | hk
  · rcases xoS_40 hk with ⟨rfl, hL⟩ | ⟨j, h1, h2, rfl, hL⟩
    · rw [hL] at kk
      have e : xAd g 1000000 = xgO g 0 := xAd_old (j := 0)
      rw [e]
      exact va_slen hx hb hO.2.1 (Nat.lt_of_lt_of_le hO.2.2.1 hsz) (Nat.not_le.mpr hO.2.2.1) hS hdg kk
    · rw [hL] at kk
      rw [xAd_old]
      exact va_tlen hx hb (hO.2.2.2.1 j h1 h2).1 hS rfl hdg kk
  · obtain ⟨j, h1, rfl, hL⟩ := xoS_43 hk
    rw [hL] at kk
    have e : xAd g (1000030 + j) = xgO g (30 + j) := by rw [show 1000030 + j = 1000000 + (30 + j) by omega]; exact xAd_old
    rw [e]
    exact va_tlen hx hb (hO.2.2.2.2.2.2.2.1.1 j h1).2.2.2 hS rfl hdg kk
theorem xr_getO (hF : xFix g m p s mid args meth c) {ix f po a : Nat} (hf : xTf (xmOwn m) ix = some (f, po)) (hW : xWd g σ H) (hS : va_S (xA g) s.heap H locs) (hk : (xsS σ a).1 = 42) (hdg : decode (xmC m) pc = .ok (.getfield ix, 3))
    (kk : W p l e R s mid args below meth c H locs cells slots Q (F0 mid (pc + 3) ls (xcv g (if f = 0 then .ref (a + 20) else .int 0) :: rest))) : W p l e R s mid args below meth c H locs cells slots Q (F0 mid pc ls (.ref (xAd g a) :: rest)) := by
  obtain ⟨hx, hb, hml, hown, hts, hO, hsz, hin⟩ := hF
  obtain ⟨ho, hs, hI⟩ := hW.old (a := a) (by omega) (by omega)
  rw [hs] at hk
  obtain ⟨i, hi, rfl⟩ := xoS_42 hk
  obtain ⟨-, hff⟩ := xTf_ok hf
  have e0 : xAd g (1000010 + i) = xgO g (10 + i) := by rw [show 1000010 + i = 1000000 + (10 + i) by omega]; exact xAd_old
  have e2 : xAd g (1000010 + i + 20) = xgO g (30 + i) := by rw [show 1000010 + i + 20 = 1000000 + (30 + i) by omega]; exact xAd_old
  rw [e0]
  rcases hff with ⟨rfl, w⟩ | ⟨rfl, w⟩
  · rw [if_pos rfl] at kk
    refine vk_getf hx hb (hO.2.2.2.2.2.2.2.1.1 i hi).2.2.1 hS hown (hts _ w) (fun _ z => z) hdg ?_
    show W p l e R s mid args below meth c H locs cells slots Q (F0 mid (pc + 3) ls (.ref (xgO g (30 + i)) :: rest))
    rw [← e2]
    exact kk
  · rw [if_neg (by decide)] at kk
    exact vk_getf hx hb (hO.2.2.2.2.2.2.2.1.1 i hi).2.1 hS hown (hts _ w) (fun _ z => z) hdg kk
theorem xr_gets (hF : xFix g m p s mid args meth c) (ho : xmOwn m < 21) {ix w po : Nat} (hf : xSt (xmOwn m) ix = some (w, po)) (hS : va_S (xA g) s.heap H locs) (hdg : decode (xmC m) pc = .ok (.getstatic ix, 3))
    (kk : W p l e R s mid args below meth c H locs cells slots Q (F0 mid (pc + 3) ls (xcv g (if w = 5 then .int 1 else if w = 6 then .retAddr 1 else .ref (1000000 + w)) :: rest))) : W p l e R s mid args below meth c H locs cells slots Q (F0 mid pc ls rest) := by
  obtain ⟨hx, hb, hml, hown, hts, hO, hsz, hin⟩ := hF
  have hm := List.all_eq_true.mp (xSts_ok _ ho) _ (x_lookup hf)
  by_cases h5 : w = 5
  · subst h5
    simp only [if_true, decide_eq_true_eq] at hm
    exact va_gets hx hb hO.2.2.2.2.1 hS hown (hts _ (xw_of hm rfl)) (fun _ z => z) hdg kk
  · by_cases h6 : w = 6
    · subst h6
      simp only [show ¬ ((6 : Nat) = 5) by decide, if_false, if_true, decide_eq_true_eq] at hm
      exact va_gets hx hb hO.2.2.2.2.2.1 hS hown (hts _ (xw_of hm rfl)) (fun _ z => z) hdg kk
    · simp only [if_neg h5, if_neg h6, Bool.and_eq_true, decide_eq_true_eq] at hm
      rw [if_neg h5, if_neg h6] at kk
      refine va_gets hx hb (hO.2.2.2.1 w hm.1.1 hm.1.2).2 hS hown (hts _ (xw_of hm.2 rfl)) (fun _ z => z) hdg ?_
      rw [← xAd_old]
      exact kk
theorem xr_ldcS (hF : xFix g m p s mid args meth c) {ix i : Nat} (hf : xTxt (xmOwn m) ix = some i) (hdg : decode (xmC m) pc = .ok (.ldc ix, 2))
    (kk : W p l e R s mid args below meth c H locs cells slots Q (F0 mid (pc + 2) ls (.ref (xAd g (1000010 + i)) :: rest))) : W p l e R s mid args below meth c H locs cells slots Q (F0 mid pc ls rest) := by
  obtain ⟨hx, hb, hml, hown, hts, hO, hsz, hin⟩ := hF
  unfold xTxt at hf
  by_cases h4 : xmOwn m = 4
  · rw [if_pos h4] at hf
    rw [h4] at hown
    obtain ⟨hi, he, -⟩ := List.findIdx?_eq_some_iff_getElem.mp hf
    have hi17 : i < 17 := hi
    have e2 : (xTx.getD i (0, "")).1 = ix := by
      rw [List.getD_eq_getElem?_getD, List.getElem?_eq_getElem hi]
      simpa using he
    have hR := hO.2.2.2.2.2.2.2.2.1 i hi17
    rw [e2] at hR
    have e : xAd g (1000010 + i) = xgO g (10 + i) := by rw [show 1000010 + i = 1000000 + (10 + i) by omega]; exact xAd_old
    rw [e] at kk
    exact va_ldcS hx hb hown hR hdg kk
  · rw [if_neg h4] at hf
    cases hf
theorem xr_copy (hF : xFix g m p s mid args meth c) (ho : xmOwn m < 21) {ix j po s0 d : Nat} {sp dp n : Int32} (hv : xgV g = .null ∨ ∃ t, xgV g = .ref t) {r : List Value} (hf : xCal (xmOwn m) ix = some (5, j, po)) (hW : xWd g σ H) (hS : va_S (xA g) s.heap H locs) (hl : ls.size = xmL m) (hk : (xsS σ s0).1 = 20 ∨ (xsS σ s0).1 = 21) (hkd : (xsS σ s0).1 = (xsS σ d).1) (h1 : ¬ sp < 0) (h2 : ¬ dp < 0) (h3 : ¬ n < 0) (h4 : sp.toNatClampNeg + n.toNatClampNeg ≤ (xsS σ s0).2) (h5 : dp.toNatClampNeg + n.toNatClampNeg ≤ (xsS σ d).2) (hr : xcat r ≤ 8) (hfr : 1 ≤ R.frames) (hlo : 26 ≤ R.locals) (hdg : decode (xmC m) pc = .ok (.invokestatic ix, 3))
    (kk : ∀ H' locs', xWd g (xRow σ d (va_cpy (xsI σ s0) (xsI σ d) sp.toNatClampNeg dp.toNatClampNeg n.toNatClampNeg)) H' → va_S (xA g) s.heap H' locs' → W p l e R s mid args below meth c H' locs' cells slots Q (F0 mid (pc + 3) ls (r.map (xcv g)))) : W p l e R s mid args below meth c H locs cells slots Q (F0 mid pc ls (.int n :: .int dp :: .ref (xAd g d) :: .int sp :: .ref (xAd g s0) :: r.map (xcv g))) := by
  obtain ⟨hx, hb, hml, hown, hts, hO, hsz, hin⟩ := hF
  have hm := List.all_eq_true.mp (xCs_ok _ ho) _ (x_lookup hf)
  simp only [if_neg (show ¬ (5 = 4) by decide), if_true, decide_eq_true_eq] at hm
  have hlink := hts _ (xw_of hm rfl)
  obtain ⟨hnat, hstat, hini⟩ := xCpy_ok
  have he0 := hW.pl (a := s0) (by omega)
  rw [xEnt_i (by omega) (by omega)] at he0
  have he1 := hW.pl (a := d) (by omega)
  rw [xEnt_i (by omega) (by omega), ← hkd] at he1
  have hty : ∃ ty, refKind ty = false ∧ (xTys g)[(xsS σ s0).1 - 20]? = some (xgA g (xsS σ s0).1, ty) ∧ ∀ i, fits ty (.int (xsI σ s0 i)) = true := by
    rcases hk with h | h
    · exact ⟨.int, rfl, by rw [h]; rfl, fun i => rfl⟩
    · refine ⟨.byte, rfl, by rw [h]; rfl, fun i => ?_⟩
      rw [← hW.2.2.2.2.2.1 s0 i h]
      exact pk_fb _
  obtain ⟨ty, hprim, ht, hfit⟩ := hty
  have nn : ∀ z : Int32, ¬ z < 0 → z.toInt = (z.toNatClampNeg : Int) := by
    intro z hz
    have hz0 : (0 : Int) ≤ z.toInt := by
      have := Int32.not_lt.mp hz
      simpa using Int32.le_iff_toInt_le.mp this
    show z.toInt = ((z.toInt.toNat : Nat) : Int)
    omega
  have hc0 : H[xAd g s0]? = some (vp_cell (xgA g (xsS σ s0).1) ((xsS σ s0).2, .inl (xsI σ s0))) := hW.2.2.1 s0 _ he0
  have hc1 : H[xAd g d]? = some (vp_cell (xgA g (xsS σ s0).1) ((xsS σ d).2, .inl (xsI σ d))) := hW.2.2.1 d _ he1
  obtain ⟨-, k0, hk0, cm0, hkk0⟩ := (hO.1.2 _ _ ht).1 (xsS σ s0).2 (fun j => .int (xsI σ s0 j))
  obtain ⟨-, k1, hk1, cm1, hkk1⟩ := (hO.1.2 _ _ ht).1 (xsS σ d).2 (fun j => .int (xsI σ d j))
  intro T hT X
  obtain ⟨vm', X', step⟩ := X.arraycopy hx hown hlink (hts _ hnat) (hts _ hstat) (hts _ hini) (src := xAd g s0) (dst := xAd g d) (cs := vp_cell (xgA g (xsS σ s0).1) ((xsS σ s0).2, .inl (xsI σ s0))) (cd := vp_cell (xgA g (xsS σ s0).1) ((xsS σ d).2, .inl (xsI σ d))) (srcPos := sp) (destPos := dp) (n := n) (by rw [hT]; exact hc0) (by rw [hT]; exact hc1)
    (fun _ h => by cases h) (fun _ h => by cases h) (fun h => by cases h) (fun h => by cases h) hk0 hk1 hkk0 hkk1 (by simp [hprim]) h1 h2 h3
    (by rw [nn sp h1, nn n h3]; show ¬ _ > ((arrV _ (xsS σ s0).2 (fun j => .int (xsI σ s0 j))).slots.size : Int); rw [arrV_size]; omega)
    (by rw [nn dp h2, nn n h3]; show ¬ _ > ((arrV _ (xsS σ d).2 (fun j => .int (xsI σ d j))).slots.size : Int); rw [arrV_size]; omega)
    (fun vm₁ _ i hi => by
      have e : (vp_cell (xgA g (xsS σ s0).1) ((xsS σ s0).2, .inl (xsI σ s0))).slots.getD (sp.toNatClampNeg + i) .null = .int (xsI σ s0 (sp.toNatClampNeg + i)) := by
        show (arrV _ (xsS σ s0).2 (fun j => .int (xsI σ s0 j))).slots.getD _ _ = _
        rw [Array.getD_eq_getD_getElem?, arrV_read _ _ (by omega)]
        rfl
      refine ⟨?_, ?_⟩
      · rw [e]
        exact hfit _
      · rw [e]
        exact trivial)
    (g := F0 mid pc ls (.int n :: .int dp :: .ref (xAd g d) :: .int sp :: .ref (xAd g s0) :: r.map (xcv g))) rfl (by rw [hml]; exact hl) (rest := r.map (xcv g)) rfl (by rw [hb]; exact hdg) hfr (by
      have e9 := xcat_map hv r
      have e8 : nativeFrameWords "java/lang/System" "arraycopy" 5 = 7 := by decide +kernel
      show 2 * 0 + _ + _ ≤ _
      rw [e8]
      omega)
  have e1 : copied (vp_cell (xgA g (xsS σ s0).1) ((xsS σ s0).2, .inl (xsI σ s0))) (vp_cell (xgA g (xsS σ s0).1) ((xsS σ d).2, .inl (xsI σ d))) sp dp n = vp_cell (xgA g (xsS σ s0).1) ((xsS σ d).2, .inl (va_cpy (xsI σ s0) (xsI σ d) sp.toNatClampNeg dp.toNatClampNeg n.toNatClampNeg)) := va_copied (fun z => .int z) _ _ (xsI σ s0) (xsI σ d) h4
  rw [e1] at X' step
  have hl2 : xAd g d < H.size := (Array.getElem?_eq_some_iff.mp hc1).1
  generalize hcl : vp_cell (xgA g (xsS σ s0).1) ((xsS σ d).2, .inl (va_cpy (xsI σ s0) (xsI σ d) sp.toNatClampNeg dp.toNatClampNeg n.toNatClampNeg)) = cl9 at X' step
  have hheap : ((T.setVm vm').setCell (xAd g d) cl9).heap = H.setIfInBounds (xAd g d) cl9 := by rw [← hT]; rfl
  have oq : ∀ q : Nat, q ≠ xAd g d → (H.setIfInBounds (xAd g d) cl9)[q]? = H[q]? := fun q hq => by simp [Array.getElem?_setIfInBounds, Ne.symm hq]
  have hdA : xA g (xAd g d) := by rw [hW.ad (a := d) (by omega)]; exact Nat.le_add_right _ _
  obtain ⟨t, a1, b1⟩ := kk (H.setIfInBounds (xAd g d) cl9) _ (hW.row (by omega) (by omega) (fun h i => by
      by_cases hh : dp.toNatClampNeg ≤ i ∧ i < dp.toNatClampNeg + n.toNatClampNeg
      · rw [pk_cpy_in hh.1 hh.2]
        exact hW.2.2.2.2.2.1 s0 _ (by omega)
      · rw [pk_cpy_out (by omega)]
        exact hW.2.2.2.2.2.1 d _ h) (by simp) (by rw [← hkd, hcl]; simp [Array.getElem?_setIfInBounds, hl2]) oq) ⟨by simp; exact hS.1, fun q g1 g2 => by
      rw [oq q (fun e => g2 (by rw [e]; exact hdA))]
      exact hS.2.1 q g1 g2, fun q hq => by
      rcases List.mem_append.mp hq with h | h
      · exact hS.2.2 q h
      · obtain ⟨z, -, hz⟩ := List.mem_map.mp h
        rw [← hz]
        exact hdA⟩ _ hheap X'
  exact ⟨t, step t a1, b1⟩
end XOLD
end
section
theorem x_outer (c : ClassId) (N h0 : Nat) : ∀ i : Nat, Jvm.Free.Multi.outerC c N h0 i = arrV c N (fun j => va_rf (if j < i then some (h0 + 1 + j) else none))
  | 0 => by
    show ({ cls := c, slots := Array.replicate N .null, vm := .none } : Cell) = _
    rw [arrV_new]
    refine congrArg (arrV c N) (funext fun j => ?_)
    simp [va_rf]
  | i + 1 => by
    show (Jvm.Free.Multi.outerC c N h0 i).setSlot i (.ref (h0 + 1 + i)) = _
    rw [x_outer c N h0 i, arrV_store]
    refine congrArg (arrV c N) (funext fun j => ?_)
    by_cases e : j = i
    · subst e
      simp [updV, va_rf]
    · by_cases h : j < i
      · simp [updV, e, h, Nat.lt_succ_of_lt h]
      · simp [updV, e, h, show ¬ j < i + 1 by omega]
/-- the grid's cells -/
theorem xWd.grid {g : XG} {σ : XS} {H H1 : Heap} (h : xWd g σ H) {n k : Nat} (hN : xsN σ + 1 + n ≤ 1000000) (hz : H1.size = H.size + 1 + n) (hold : ∀ q, q < H.size → H1[q]? = H[q]?) (hout : H1[H.size]? = some (vp_cell (xgA g 29) (n, .inr (.inr (.inr (.inr fun i => if i < n then some (H.size + 1 + i) else none)))))) (hinn : ∀ j, j < n → H1[H.size + 1 + j]? = some (vp_cell (xgA g 20) (k, .inl (fun _ => 0)))) : xWd g (xGrid σ n k) H1 := by
  obtain ⟨h1, h2, h3, h4, h5, h6, h7⟩ := h
  have eS : ∀ a, xsS (xGrid σ n k) a = if a = xsN σ then (29, n) else if xsN σ < a ∧ a < xsN σ + 1 + n then (20, k) else xsS σ a := fun _ => rfl
  have eI : ∀ a, xsI (xGrid σ n k) a = if xsN σ ≤ a ∧ a < xsN σ + 1 + n then (fun _ => 0) else xsI σ a := fun _ => rfl
  have eR : ∀ a, xsR (xGrid σ n k) a = if a = xsN σ then (fun i => if i < n then some (xsN σ + 1 + i) else none) else if xsN σ < a ∧ a < xsN σ + 1 + n then (fun _ => none) else xsR σ a := fun _ => rfl
  refine ⟨by rw [hz, h1]; show _ = xgB g + (xsN σ + 1 + n); omega, hN, fun j q hj => ?_, fun a ha => ?_, fun a ha hk => ?_, fun a i ha => ?_, fun a ha => ?_⟩
  · obtain ⟨z1, rfl⟩ := xWs_inv hj
    have z1 : j < xsN σ + 1 + n := z1
    rcases Nat.lt_trichotomy j (xsN σ) with q | q | q
    · have e : xEnt g (xGrid σ n k) j = xEnt g σ j := xEnt_c (by rw [eS, if_neg (by omega), if_neg (by omega)]) (by rw [eI, if_neg (by omega)]) (by rw [eR, if_neg (by omega), if_neg (by omega)])
      rw [e]
      exact (h3 j _ (xWs_get q)).kept (hold _ (by rw [h1]; show xgB g + j < _; omega))
    · subst q
      rw [xEnt_q (by rw [eS, if_pos rfl]; show 22 < 29; decide), eS, eR, if_pos rfl, if_pos rfl]
      show H1[_]? = some (vp_cell _ _)
      rw [← h1, hout]
      congr 7
      funext i
      by_cases hi : i < n
      · rw [if_pos hi, if_pos hi]
        show some _ = some (xAd g (xsN σ + 1 + i))
        unfold xAd
        rw [if_pos (by omega), h1]
        congr 1
        omega
      · rw [if_neg hi, if_neg hi]
        rfl
    · have hc : xsN σ < j ∧ j < xsN σ + 1 + n := ⟨q, z1⟩
      have e0 : xsS (xGrid σ n k) j = (20, k) := by rw [eS, if_neg (by omega), if_pos hc]
      rw [xEnt_i (by rw [e0]; show 12 < 20; decide) (by rw [e0]; show 20 ≤ 22; decide), e0, eI, if_pos ⟨by omega, z1⟩]
      show H1[_]? = some (vp_cell _ _)
      have e9 := hinn (j - xsN σ - 1) (by omega)
      rw [show H.size + 1 + (j - xsN σ - 1) = xgB g + j by omega] at e9
      exact e9
  · have ha : xsN σ + 1 + n ≤ a := ha
    rw [eS, if_neg (by omega), if_neg (by omega)]
    exact h4 a (by omega)
  · rw [eS, if_neg (by omega), if_neg (by omega)] at hk
    rw [eI, if_neg (by omega)]
    exact h5 a ha hk
  · rw [eS] at ha
    rw [eI]
    by_cases q : xsN σ ≤ a ∧ a < xsN σ + 1 + n
    · rw [if_pos q]
      decide +kernel
    · rw [if_neg q]
      rw [if_neg (by omega), if_neg (by omega)] at ha
      exact h6 a i ha
  · have ha : a < xsN σ + 1 + n := ha
    rw [eS]
    by_cases q1 : a = xsN σ
    · rw [if_pos q1]
      exact Or.inr ⟨show 20 ≤ 29 by decide, show 29 ≤ 29 by decide⟩
    · rw [if_neg q1]
      by_cases q2 : xsN σ < a ∧ a < xsN σ + 1 + n
      · rw [if_pos q2]
        exact Or.inr ⟨show 20 ≤ 20 by decide, show 20 ≤ 29 by decide⟩
      · rw [if_neg q2]
        exact h7 a (by omega)
section XMULTI
variable {p : Program} {l : Launch} {e : Env} {R : Room} {s : State} {mid : MethodId} {args : Array Value} {below : List Frame} {meth : Method} {c : Code} {H : Heap} {locs : List Loc} {cells slots : Nat} {Q : State → Prop}
variable {g : XG} {m : XM} {pc : Nat} {ls : Array Slot} {σ : XS}
theorem xr_multi (hF : xFix g m p s mid args meth c) (ho : xmOwn m < 21) {ix po : Nat} (hf : xKl (xmOwn m) ix = some (29, po)) (hW : xWd g σ H) (hS : va_S (xA g) s.heap H locs) {n k : Int32} (hn : ¬ n < 0) (hk : ¬ k < 0) (hnb : n.toNatClampNeg ≤ 1000) (hkb : k.toNatClampNeg ≤ 1000) (hN : xsN σ + 1 + n.toNatClampNeg ≤ 1000000) (hcells : cells + (1 + n.toNatClampNeg) ≤ R.cells) (hslots : slots + (n.toNatClampNeg + n.toNatClampNeg * k.toNatClampNeg) ≤ R.slots) {rest : List Value} (hdg : decode (xmC m) pc = .ok (.multianewarray ix 2, 4))
    (kk : ∀ H', xWd g (xGrid σ n.toNatClampNeg k.toNatClampNeg) H' → va_S (xA g) s.heap H' locs → W p l e R s mid args below meth c H' locs (cells + 1 + n.toNatClampNeg) (slots + n.toNatClampNeg + n.toNatClampNeg * k.toNatClampNeg) Q (F0 mid (pc + 4) ls (.ref (xgB g + xsN σ) :: rest))) : W p l e R s mid args below meth c H locs cells slots Q (F0 mid pc ls (.int k :: .int n :: rest)) := by
  obtain ⟨hx, hb, hml, hown, hts, hO, hsz, hin⟩ := hF
  have w := (xKl_ok ho hf).1 rfl
  have ew : ("[" ++ (FieldType.array .int).toString) = "[[I" := by decide +kernel
  have w2 : (Cond.classLink (xR (xmOwn m)) ix ("[" ++ (FieldType.array .int).toString)).before args s = true := by rw [ew]; exact hts _ w
  have hover : (Cond.arrayOver (.array .int)).before args s = true := hO.2.2.2.2.2.2.2.2.2.2.2.1
  intro T hT Xs
  obtain ⟨vm₁, cA, comp, -, fA, fC, hOA, -, X', step⟩ := Xs.multianewarray2F (ty := .int) hx hown w2 hover (hts _ xArr_ok.1) (g := F0 mid pc ls (.int k :: .int n :: rest)) rfl (by rw [hb]; exact hdg) rfl hn hk (by omega) (by show _ * 4 ≤ _; omega) (by omega) rfl rfl hcells hslots
  have ecA : cA = xgA g 29 := by
    have h9 : s.vm.findClass ("[" ++ (FieldType.array .int).toString) = some (xgA g 29) := (hO.1.2 9 _ rfl).2
    exact Option.some.inj (fA.symm.trans h9)
  have eco : comp = xgA g 20 := by
    have h9 : s.vm.findClass (FieldType.array .int).toString = some (xgA g 20) := (hO.1.2 0 _ rfl).2
    exact Option.some.inj (fC.symm.trans h9)
  subst ecA
  subst eco
  generalize hF9 : Jvm.Free.Multi.fill (T.setVm vm₁) (xgA g 29) (xgA g 20) n.toNatClampNeg k.toNatClampNeg (defaultValue .int) n.toNatClampNeg = F at X' step
  have hTh : (T.setVm vm₁).heap = H := hT
  obtain ⟨f1, f2, -, -⟩ := Jvm.Free.Multi.fill_facts (T.setVm vm₁) (xgA g 29) (xgA g 20) n.toNatClampNeg k.toNatClampNeg (defaultValue .int) n.toNatClampNeg
  rw [hF9, hTh] at f1 f2
  have hold : ∀ x : Nat, x < H.size → F.heap[x]? = H[x]? := fun x hx => by
    have := Jvm.Free.Multi.fill_old (T.setVm vm₁) (xgA g 29) (xgA g 20) n.toNatClampNeg k.toNatClampNeg (defaultValue .int) (a := x) (by rw [hTh]; exact hx) n.toNatClampNeg
    rw [hF9, hTh] at this
    exact this
  have hrow : ∀ j : Nat, j < n.toNatClampNeg → F.heap[H.size + 1 + j]? = some (vp_cell (xgA g 20) (k.toNatClampNeg, .inl (fun _ => 0))) := fun j hj => by
    have := Jvm.Free.Multi.fill_inner (T.setVm vm₁) (xgA g 29) (xgA g 20) n.toNatClampNeg k.toNatClampNeg (defaultValue .int) n.toNatClampNeg j hj
    rw [hF9, hTh] at this
    rw [this]
    congr 1
    show ({ cls := xgA g 20, slots := Array.replicate k.toNatClampNeg (.int 0), vm := .none } : Cell) = _
    rw [arrV_new]
    rfl
  have hout : F.heap[H.size]? = some (vp_cell (xgA g 29) (n.toNatClampNeg, .inr (.inr (.inr (.inr fun i => if i < n.toNatClampNeg then some (H.size + 1 + i) else none))))) := by
    rw [f2, x_outer, vp_cell_q]
  obtain ⟨t, a1, b1⟩ := kk F.heap (hW.grid hN f1 hold hout hrow) (x_grow hS (by omega) hold) F rfl X'
  refine ⟨t, step t ?_, b1⟩
  have e : T.heap.size = xgB g + xsN σ := by rw [hT]; exact hW.1
  rw [e]
  exact a1
end XMULTI
end
section
/-! ONE STEP OF THE INTERPRETER IS STEPS OF THE MACHINE -/
theorem x_at {m : XM} {pc len : Nat} {ins : Instr} (hm : m ∈ xMs) (hat : xmAt m pc = some (ins, len)) : decode (xmC m) pc = .ok (ins, len) ∧ (xLen ins = 0 ∨ len = xLen ins) ∧ xRoomI m ins = true := by
  have hin : (pc, ins, len) ∈ xmT m := x_lookup hat
  have h : xOkb m = true := xOkA m hm
  unfold xOkb at h
  have ha := (Bool.and_eq_true_iff.mp (Bool.and_eq_true_iff.mp h).1).1
  have h2 := Bool.and_eq_true_iff.mp (List.all_eq_true.mp ha _ hin)
  have hd := xDec m hm _ hin
  refine ⟨hd, ?_, h2.2⟩
  rcases Bool.or_eq_true_iff.mp h2.1 with q | q
  · exact Or.inl (eq_of_beq q)
  · exact Or.inr (eq_of_beq q)
theorem x_own {m : XM} (hm : m ∈ xMs) : xmOwn m < 21 := by
  have h := xOkA m hm
  unfold xOkb at h
  simp only [Bool.and_eq_true, decide_eq_true_eq] at h
  exact h.1.2
theorem xRoomI_v {m : XM} {ix : Nat} (h : xRoomI m (.invokevirtual ix) = true) : xRoomC m ix = true := h
theorem xRoomI_s {m : XM} {ix : Nat} (h : xRoomI m (.invokespecial ix) = true) : xRoomC m ix = true := h
theorem xRoomI_t {m : XM} {ix : Nat} (h : xRoomI m (.invokestatic ix) = true) : xRoomC m ix = true := h
theorem x_brk {c : Prop} [Decidable c] {t u : Nat} {P : Nat → Prop} (h : P (if c then t else u)) : (c → P t) ∧ (¬ c → P u) := ⟨fun z => by rw [if_pos z] at h; exact h, fun z => by rw [if_neg z] at h; exact h⟩
section XSTEP
variable {p : Program} {l : Launch} {e : Env} {R : Room} {s : State} {mid : MethodId} {args : Array Value} {below : List Frame} {meth : Method} {c : Code} {H : Heap} {locs : List Loc} {cells slots : Nat} {Q : State → Prop}
variable {g : XG} {m : XM} {pc len : Nat} {ls : Array Slot} {xl st : List Value} {σ : XS}
theorem x_ldI (hx : p.tables.exec = Jvm.exec) (hb : c.code = xmC m) {i : Nat} {f : XF} (hl : xLr g xl ls) (h : xldI pc len xl st σ i = some f) : ∃ x, f = (pc + len, xl, .int x :: st, σ) ∧ ls[i]? = some (.val (.int x)) := by
  unfold xldI at h
  split at h
  · rename_i x hx1
    exact ⟨x, (Option.some.inj h).symm, hl.2.2 i _ hx1 (fun q => by intro z; cases z)⟩
  · cases h
theorem x_ldL (hx : p.tables.exec = Jvm.exec) (hb : c.code = xmC m) {i : Nat} {f : XF} (hl : xLr g xl ls) (h : xldL pc len xl st σ i = some f) : ∃ x, f = (pc + len, xl, .long x :: st, σ) ∧ ls[i]? = some (.val (.long x)) := by
  unfold xldL at h
  split at h
  · rename_i x hx1
    exact ⟨x, (Option.some.inj h).symm, hl.2.2 i _ hx1 (fun q => by intro z; cases z)⟩
  · cases h
theorem x_ldA (hx : p.tables.exec = Jvm.exec) (hb : c.code = xmC m) {i : Nat} {f : XF} (hl : xLr g xl ls) (h : xldA pc len xl st σ i = some f) : ∃ x, f = (pc + len, xl, .ref x :: st, σ) ∧ ls[i]? = some (.val (.ref (xAd g x))) := by
  unfold xldA at h
  split at h
  · rename_i x hx1
    exact ⟨x, (Option.some.inj h).symm, hl.2.2 i _ hx1 (fun q => by intro z; cases z)⟩
  · cases h
theorem x_stI {i : Nat} {f : XF} (h : xstI pc len xl st σ i = some f) : ∃ x r xl', st = .int x :: r ∧ xSt1 xl i (.int x) = some xl' ∧ f = (pc + len, xl', r, σ) := by
  obtain ⟨x, r, rfl, h2⟩ := xo1_inv h
  cases h1 : xSt1 xl i (.int x) with
  | none => rw [h1] at h2; cases h2
  | some xl' =>
    rw [h1] at h2
    exact ⟨x, r, xl', rfl, h1, (Option.some.inj h2).symm⟩
theorem x_stA {i : Nat} {f : XF} (h : xstA pc len xl st σ i = some f) : ∃ x r xl', st = .ref x :: r ∧ xSt1 xl i (.ref x) = some xl' ∧ f = (pc + len, xl', r, σ) := by
  obtain ⟨x, r, rfl, h2⟩ := xr1_inv h
  cases h1 : xSt1 xl i (.ref x) with
  | none => rw [h1] at h2; cases h2
  | some xl' =>
    rw [h1] at h2
    exact ⟨x, r, xl', rfl, h1, (Option.some.inj h2).symm⟩
theorem x_stL {i : Nat} {f : XF} (h : xstL pc len xl st σ i = some f) : ∃ x r xl', st = .long x :: r ∧ xSt2 xl i (.long x) = some xl' ∧ f = (pc + len, xl', r, σ) := by
  unfold xstL at h
  split at h
  · rename_i x r
    cases h1 : xSt2 xl i (.long x) with
    | none => rw [h1] at h; cases h
    | some xl' =>
      rw [h1] at h
      exact ⟨x, r, xl', rfl, h1, (Option.some.inj h).symm⟩
  · cases h
set_option maxHeartbeats 4000000 in
theorem x_step {ins : Instr} (hm : m ∈ xMs) (hF : xFix g m p s mid args meth c) (hat : xmAt m pc = some (ins, len)) {f : XF} (h : xstep m pc ins len xl st σ = some f) (hW : xWd g σ H) (hS : va_S (xA g) s.heap H locs) (hl : xLr g xl ls) (hlen : ls.size = xmL m) (hfr : xmFr m ≤ R.frames) (hlo : xmLo m ≤ R.locals) (hc : cells + (xsN f.2.2.2 - xsN σ) ≤ R.cells) (hz : slots + (xsZ f.2.2.2 - xsZ σ) ≤ R.slots)
    (kk : ∀ H' locs' ls', xWd g f.2.2.2 H' → va_S (xA g) s.heap H' locs' → xLr g f.2.1 ls' → ls'.size = ls.size → W p l e R s mid args below meth c H' locs' (cells + (xsN f.2.2.2 - xsN σ)) (slots + (xsZ f.2.2.2 - xsZ σ)) Q (F0 mid f.1 ls' (f.2.2.1.map (xcv g)))) : W p l e R s mid args below meth c H locs cells slots Q (F0 mid pc ls (st.map (xcv g))) := by
  obtain ⟨hd, hln, hrm⟩ := x_at hm hat
  have ho := x_own hm
  obtain ⟨hx, hb, hml, hown, hts, hO, hsz, hin⟩ := id hF
  have hv := hO.2.2.2.2.2.2.1
  have k0 : xsN f.2.2.2 = xsN σ → xsZ f.2.2.2 = xsZ σ → ∀ H' locs' ls', xWd g f.2.2.2 H' → va_S (xA g) s.heap H' locs' → xLr g f.2.1 ls' → ls'.size = ls.size → W p l e R s mid args below meth c H' locs' cells slots Q (F0 mid f.1 ls' (f.2.2.1.map (xcv g))) := fun e1 e2 H' locs' ls' a1 a2 a3 a4 => by
    have := kk H' locs' ls' a1 a2 a3 a4
    rw [e1, e2, Nat.sub_self, Nat.sub_self] at this
    exact this
  cases ins
  case iconst i =>
    have e1 : len = 1 := hln.resolve_left (by simp [xLen])
    subst e1
    cases h
    exact lv_iconst hx hb hd rfl (k0 rfl rfl H locs ls hW hS hl rfl)
  case bipush i =>
    have e1 : len = 2 := hln.resolve_left (by simp [xLen])
    subst e1
    cases h
    exact lv_bipush hx hb hd rfl (k0 rfl rfl H locs ls hW hS hl rfl)
  case sipush i =>
    have e1 : len = 3 := hln.resolve_left (by simp [xLen])
    subst e1
    cases h
    exact lv_sipush hx hb hd rfl (k0 rfl rfl H locs ls hW hS hl rfl)
  case lconst i =>
    have e1 : len = 1 := hln.resolve_left (by simp [xLen])
    subst e1
    cases h
    exact lv_lconst hx hb hd rfl (k0 rfl rfl H locs ls hW hS hl rfl)
  case ldc ix =>
    have e1 : len = 2 := hln.resolve_left (by simp [xLen])
    subst e1
    have h : (match xNum (xmOwn m) ix with
      | some (v, _) => some (pc + 2, xl, .int v :: st, σ)
      | none => (xTxt (xmOwn m) ix).map fun i => (pc + 2, xl, .ref (1000010 + i) :: st, σ)) = some f := h
    cases h1 : xNum (xmOwn m) ix with
    | some v =>
      rw [h1] at h
      cases h
      exact lv_ldc hx hb hown (hts _ (xNum_ok ho h1)) hd (k0 rfl rfl H locs ls hW hS hl rfl)
    | none =>
      rw [h1] at h
      cases h2 : xTxt (xmOwn m) ix with
      | none => rw [h2] at h; cases h
      | some i =>
        rw [h2] at h
        cases h
        exact xr_ldcS hF h2 hd (k0 rfl rfl H locs ls hW hS hl rfl)
  case ldc_w ix =>
    have e1 : len = 3 := hln.resolve_left (by simp [xLen])
    subst e1
    have h : ((xNum (xmOwn m) ix).map fun v => ((pc + 3, xl, .int v.1 :: st, σ) : XF)) = some f := h
    cases h1 : xNum (xmOwn m) ix with
    | none => rw [h1] at h; cases h
    | some v =>
      rw [h1] at h
      cases h
      exact lv_ldcw hx hb hown (hts _ (xNum_ok ho h1)) hd (k0 rfl rfl H locs ls hW hS hl rfl)
  case ldc2_w ix =>
    have e1 : len = 3 := hln.resolve_left (by simp [xLen])
    subst e1
    have h : ((xLng (xmOwn m) ix).map fun v => ((pc + 3, xl, .long v.1 :: st, σ) : XF)) = some f := h
    cases h1 : xLng (xmOwn m) ix with
    | none => rw [h1] at h; cases h
    | some v =>
      rw [h1] at h
      cases h
      exact lv_ldc2 hx hb hown (hts _ (xLng_ok ho h1)) hd (k0 rfl rfl H locs ls hW hS hl rfl)
  case iload_n k =>
    have e1 : len = 1 := hln.resolve_left (by simp [xLen])
    subst e1
    obtain ⟨x, rfl, h1⟩ := x_ldI (p := p) (c := c) (m := m) hx hb hl h
    exact lv_iload_n hx hb hd rfl h1 (k0 rfl rfl H locs ls hW hS hl rfl)
  case iload k =>
    have e1 : len = 2 := hln.resolve_left (by simp [xLen])
    subst e1
    obtain ⟨x, rfl, h1⟩ := x_ldI (p := p) (c := c) (m := m) hx hb hl h
    exact lv_iload hx hb hd h1 (k0 rfl rfl H locs ls hW hS hl rfl)
  case lload_n k =>
    have e1 : len = 1 := hln.resolve_left (by simp [xLen])
    subst e1
    obtain ⟨x, rfl, h1⟩ := x_ldL (p := p) (c := c) (m := m) hx hb hl h
    exact lv_lload_n hx hb hd rfl h1 (k0 rfl rfl H locs ls hW hS hl rfl)
  case aload_n k =>
    have e1 : len = 1 := hln.resolve_left (by simp [xLen])
    subst e1
    obtain ⟨x, rfl, h1⟩ := x_ldA (p := p) (c := c) (m := m) hx hb hl h
    exact lv_aload_n hx hb hd rfl h1 (k0 rfl rfl H locs ls hW hS hl rfl)
  case aload k =>
    have e1 : len = 2 := hln.resolve_left (by simp [xLen])
    subst e1
    obtain ⟨x, rfl, h1⟩ := x_ldA (p := p) (c := c) (m := m) hx hb hl h
    exact lv_aload hx hb hd h1 (k0 rfl rfl H locs ls hW hS hl rfl)
  case istore_n k =>
    have e1 : len = 1 := hln.resolve_left (by simp [xLen])
    subst e1
    obtain ⟨x, r, xl', rfl, h1, rfl⟩ := x_stI h
    exact lv_istore_n hx hb hd rfl (xLr_has hl) (xSt1_lt h1) rfl (fun ls' h' => k0 rfl rfl H locs ls' hW hS (xSt1_lr hv h1 h') (by rw [h'.1, hl.1]))
  case istore k =>
    have e1 : len = 2 := hln.resolve_left (by simp [xLen])
    subst e1
    obtain ⟨x, r, xl', rfl, h1, rfl⟩ := x_stI h
    exact lv_istore hx hb hd (xLr_has hl) (xSt1_lt h1) rfl (fun ls' h' => k0 rfl rfl H locs ls' hW hS (xSt1_lr hv h1 h') (by rw [h'.1, hl.1]))
  case astore_n k =>
    have e1 : len = 1 := hln.resolve_left (by simp [xLen])
    subst e1
    obtain ⟨x, r, xl', rfl, h1, rfl⟩ := x_stA h
    exact lv_astore_n hx hb hd rfl (xLr_has hl) (xSt1_lt h1) rfl (fun ls' h' => k0 rfl rfl H locs ls' hW hS (xSt1_lr hv h1 h') (by rw [h'.1, hl.1]))
  case astore k =>
    have e1 : len = 2 := hln.resolve_left (by simp [xLen])
    subst e1
    obtain ⟨x, r, xl', rfl, h1, rfl⟩ := x_stA h
    exact lv_astore hx hb hd (xLr_has hl) (xSt1_lt h1) rfl (fun ls' h' => k0 rfl rfl H locs ls' hW hS (xSt1_lr hv h1 h') (by rw [h'.1, hl.1]))
  case lstore_n k =>
    have e1 : len = 1 := hln.resolve_left (by simp [xLen])
    subst e1
    obtain ⟨x, r, xl', rfl, h1, rfl⟩ := x_stL h
    exact lv_lstore_n hx hb hd rfl (xLr_has hl) (xSt2_lt h1) rfl (fun ls' h' => k0 rfl rfl H locs ls' hW hS (xSt2_lr hv h1 h') (by rw [h'.1, hl.1]))
  case iinc k n =>
    have e1 : len = 3 := hln.resolve_left (by simp [xLen])
    subst e1
    have h : (match xl[k]? with
      | some (.int x) => (xSt1 xl k (.int (x + Int32.ofInt n))).map fun ls' => ((pc + 3, ls', st, σ) : XF)
      | _ => none) = some f := h
    split at h
    · rename_i x hx1
      cases h1 : xSt1 xl k (.int (x + Int32.ofInt n)) with
      | none => rw [h1] at h; cases h
      | some xl' =>
        rw [h1] at h
        cases h
        obtain ⟨j, hj⟩ := List.getElem?_of_mem (xPr_mem (g := g) hx1 (fun q z => by cases z))
        exact lv_iinc hx hb hd (xLr_has hl) hj rfl (xSt1_lt h1) rfl (fun ls' h' => k0 rfl rfl H locs ls' hW hS (xSt1_lr hv h1 h') (by rw [h'.1, hl.1]))
    · cases h
  case iadd =>
    have e1 : len = 1 := hln.resolve_left (by simp [xLen])
    subst e1
    obtain ⟨x, y, r, rfl, h2⟩ := xo2_inv h
    replace h := h2
    cases h
    exact lv_iadd hx hb hd (k0 rfl rfl H locs ls hW hS hl rfl)
  case isub =>
    have e1 : len = 1 := hln.resolve_left (by simp [xLen])
    subst e1
    obtain ⟨x, y, r, rfl, h2⟩ := xo2_inv h
    replace h := h2
    cases h
    exact lv_isub hx hb hd (k0 rfl rfl H locs ls hW hS hl rfl)
  case imul =>
    have e1 : len = 1 := hln.resolve_left (by simp [xLen])
    subst e1
    obtain ⟨x, y, r, rfl, h2⟩ := xo2_inv h
    replace h := h2
    cases h
    exact lv_imul hx hb hd (k0 rfl rfl H locs ls hW hS hl rfl)
  case iand =>
    have e1 : len = 1 := hln.resolve_left (by simp [xLen])
    subst e1
    obtain ⟨x, y, r, rfl, h2⟩ := xo2_inv h
    replace h := h2
    cases h
    exact lv_iand hx hb hd (k0 rfl rfl H locs ls hW hS hl rfl)
  case ior =>
    have e1 : len = 1 := hln.resolve_left (by simp [xLen])
    subst e1
    obtain ⟨x, y, r, rfl, h2⟩ := xo2_inv h
    replace h := h2
    cases h
    exact lv_ior hx hb hd (k0 rfl rfl H locs ls hW hS hl rfl)
  case ixor =>
    have e1 : len = 1 := hln.resolve_left (by simp [xLen])
    subst e1
    obtain ⟨x, y, r, rfl, h2⟩ := xo2_inv h
    replace h := h2
    cases h
    exact lv_ixor hx hb hd (k0 rfl rfl H locs ls hW hS hl rfl)
  case ishl =>
    have e1 : len = 1 := hln.resolve_left (by simp [xLen])
    subst e1
    obtain ⟨x, y, r, rfl, h2⟩ := xo2_inv h
    replace h := h2
    cases h
    exact lv_ishl hx hb hd (k0 rfl rfl H locs ls hW hS hl rfl)
  case ishr =>
    have e1 : len = 1 := hln.resolve_left (by simp [xLen])
    subst e1
    obtain ⟨x, y, r, rfl, h2⟩ := xo2_inv h
    replace h := h2
    cases h
    exact lv_ishr hx hb hd (k0 rfl rfl H locs ls hW hS hl rfl)
  case iushr =>
    have e1 : len = 1 := hln.resolve_left (by simp [xLen])
    subst e1
    obtain ⟨x, y, r, rfl, h2⟩ := xo2_inv h
    replace h := h2
    cases h
    exact lv_iushr hx hb hd rfl (k0 rfl rfl H locs ls hW hS hl rfl)
  case idiv =>
    have e1 : len = 1 := hln.resolve_left (by simp [xLen])
    subst e1
    obtain ⟨x, y, r, rfl, h2⟩ := xo2_inv h
    replace h := h2
    obtain ⟨hb1, rfl⟩ := xis_inv h
    exact lv_idiv hx hb hd (by simpa using hb1) (k0 rfl rfl H locs ls hW hS hl rfl)
  case irem =>
    have e1 : len = 1 := hln.resolve_left (by simp [xLen])
    subst e1
    obtain ⟨x, y, r, rfl, h2⟩ := xo2_inv h
    replace h := h2
    obtain ⟨hb1, rfl⟩ := xis_inv h
    exact lv_irem hx hb hd (by simpa using hb1) (k0 rfl rfl H locs ls hW hS hl rfl)
  case i2l =>
    have e1 : len = 1 := hln.resolve_left (by simp [xLen])
    subst e1
    obtain ⟨x, r, rfl, h2⟩ := xo1_inv h
    replace h := h2
    cases h
    exact lv_i2l hx hb hd rfl (k0 rfl rfl H locs ls hW hS hl rfl)
  case i2b =>
    have e1 : len = 1 := hln.resolve_left (by simp [xLen])
    subst e1
    obtain ⟨x, r, rfl, h2⟩ := xo1_inv h
    replace h := h2
    cases h
    exact lv_i2b hx hb hd rfl (k0 rfl rfl H locs ls hW hS hl rfl)
  case i2c =>
    have e1 : len = 1 := hln.resolve_left (by simp [xLen])
    subst e1
    obtain ⟨x, r, rfl, h2⟩ := xo1_inv h
    replace h := h2
    cases h
    exact lv_i2c hx hb hd rfl (k0 rfl rfl H locs ls hW hS hl rfl)
  case ladd =>
    have e1 : len = 1 := hln.resolve_left (by simp [xLen])
    subst e1
    obtain ⟨x, y, r, rfl, h2⟩ := xl2_inv h
    replace h := h2
    cases h
    exact lv_ladd hx hb hd (k0 rfl rfl H locs ls hW hS hl rfl)
  case lsub =>
    have e1 : len = 1 := hln.resolve_left (by simp [xLen])
    subst e1
    obtain ⟨x, y, r, rfl, h2⟩ := xl2_inv h
    replace h := h2
    cases h
    exact lv_lsub hx hb hd (k0 rfl rfl H locs ls hW hS hl rfl)
  case lmul =>
    have e1 : len = 1 := hln.resolve_left (by simp [xLen])
    subst e1
    obtain ⟨x, y, r, rfl, h2⟩ := xl2_inv h
    replace h := h2
    cases h
    exact lv_lmul hx hb hd (k0 rfl rfl H locs ls hW hS hl rfl)
  case lcmp =>
    have e1 : len = 1 := hln.resolve_left (by simp [xLen])
    subst e1
    obtain ⟨x, y, r, rfl, h2⟩ := xl2_inv h
    replace h := h2
    cases h
    exact W.lcmp hx hb hd (k0 rfl rfl H locs ls hW hS hl rfl)
  case dup =>
    have e1 : len = 1 := hln.resolve_left (by simp [xLen])
    subst e1
    cases st with
    | nil => cases h
    | cons v r =>
      obtain ⟨hb1, rfl⟩ := xis_inv h
      exact lv_dup hx hb hd (by rw [xcv_cat hv]; simpa using hb1) (k0 rfl rfl H locs ls hW hS hl rfl)
  case pop =>
    have e1 : len = 1 := hln.resolve_left (by simp [xLen])
    subst e1
    cases st with
    | nil => cases h
    | cons v r =>
      obtain ⟨hb1, rfl⟩ := xis_inv h
      exact lv_pop hx hb hd (by rw [xcv_cat hv]; simpa using hb1) (k0 rfl rfl H locs ls hW hS hl rfl)
  case dup2 =>
    have e1 : len = 1 := hln.resolve_left (by simp [xLen])
    subst e1
    cases st with
    | nil => cases h
    | cons v r =>
      cases r with
      | nil => cases h
      | cons w r =>
        obtain ⟨hb1, rfl⟩ := xis_inv h
        simp only [Bool.and_eq_true, beq_iff_eq] at hb1
        exact lv_dup2_11 hx hb hd (by rw [xcv_cat hv]; exact hb1.1) (by rw [xcv_cat hv]; exact hb1.2) (k0 rfl rfl H locs ls hW hS hl rfl)
  case goto off =>
    have e1 : len = 3 := hln.resolve_left (by simp [xLen])
    subst e1
    obtain ⟨t, ht, rfl⟩ := xsw_inv h
    exact lv_goto hx hb hd ht (k0 rfl rfl H locs ls hW hS hl rfl)
  case ifCond cd off =>
    have e1 : len = 3 := hln.resolve_left (by simp [xLen])
    subst e1
    obtain ⟨x, r, rfl, h2⟩ := xo1_inv h
    replace h := h2
    obtain ⟨t, ht, rfl⟩ := xbr_inv h
    obtain ⟨kt, kf⟩ := x_brk (P := fun q => W p l e R s mid args below meth c H locs cells slots Q (F0 mid q ls (r.map (xcv g)))) (k0 rfl rfl H locs ls hW hS hl rfl)
    cases cd with
    | eq => exact lv_if_eq hx hb hd ht (fun z => kt (decide_eq_true z)) (fun z => kf (fun q => z (of_decide_eq_true q)))
    | lt => exact lv_if_lt hx hb hd ht (fun z => kt (decide_eq_true z)) (fun z => kf (fun q => z (of_decide_eq_true q)))
    | ge => exact lv_if_ge hx hb hd ht (fun z => kt (decide_eq_true z)) (fun z => kf (fun q => z (of_decide_eq_true q)))
    | gt => exact lv_if_gt hx hb hd ht (fun z => kt (decide_eq_true z)) (fun z => kf (fun q => z (of_decide_eq_true q)))
    | le => exact lv_if_le hx hb hd ht (fun z => kt (decide_eq_true z)) (fun z => kf (fun q => z (of_decide_eq_true q)))
    | ne => exact lv_if_ne hx hb hd ht (fun z => kt (by simpa [xIcmp] using z)) (fun z => kf (fun q => absurd z (by simpa [xIcmp] using q)))
  case if_icmp cd off =>
    have e1 : len = 3 := hln.resolve_left (by simp [xLen])
    subst e1
    obtain ⟨x, y, r, rfl, h2⟩ := xo2_inv h
    replace h := h2
    obtain ⟨t, ht, rfl⟩ := xbr_inv h
    obtain ⟨kt, kf⟩ := x_brk (P := fun q => W p l e R s mid args below meth c H locs cells slots Q (F0 mid q ls (r.map (xcv g)))) (k0 rfl rfl H locs ls hW hS hl rfl)
    cases cd with
    | eq => exact lv_icmp_eq hx hb hd ht (fun z => kt (decide_eq_true z)) (fun z => kf (fun q => z (of_decide_eq_true q)))
    | lt => exact lv_icmp_lt hx hb hd ht (fun z => kt (decide_eq_true z)) (fun z => kf (fun q => z (of_decide_eq_true q)))
    | ge => exact lv_icmp_ge hx hb hd ht (fun z => kt (decide_eq_true z)) (fun z => kf (fun q => z (of_decide_eq_true q)))
    | gt => exact lv_icmp_gt hx hb hd ht (fun z => kt (decide_eq_true z)) (fun z => kf (fun q => z (of_decide_eq_true q)))
    | le => exact lv_icmp_le hx hb hd ht (fun z => kt (decide_eq_true z)) (fun z => kf (fun q => z (of_decide_eq_true q)))
    | ne => exact lv_icmp_ne hx hb hd ht (fun z => kt (by simpa [xIcmp] using z)) (fun z => kf (fun q => absurd z (by simpa [xIcmp] using q)))
  case tableswitch d lo hi offs =>
    obtain ⟨x, r, rfl, h2⟩ := xo1_inv h
    replace h := h2
    by_cases h1 : x.toInt < lo ∨ hi < x.toInt
    · rw [if_pos h1] at h
      obtain ⟨t, ht, rfl⟩ := xsw_inv h
      exact lv_tableOut hx hb hd h1 ht (k0 rfl rfl H locs ls hW hS hl rfl)
    · rw [if_neg h1] at h
      split at h
      · rename_i o1 ho1
        obtain ⟨t, ht, rfl⟩ := xsw_inv h
        exact lv_tableIn hx hb hd (fun z => h1 (Or.inl z)) (fun z => h1 (Or.inr z)) ho1 ht (k0 rfl rfl H locs ls hW hS hl rfl)
      · cases h
  case lookupswitch d ps =>
    obtain ⟨x, r, rfl, h2⟩ := xo1_inv h
    replace h := h2
    split at h
    · rename_i h1
      obtain ⟨t, ht, rfl⟩ := xsw_inv h
      exact lv_lookup hx hb hd h1 rfl ht (k0 rfl rfl H locs ls hW hS hl rfl)
    · cases h
  case getfield ix =>
    have e1 : len = 3 := hln.resolve_left (by simp [xLen])
    subst e1
    obtain ⟨a, r, rfl, h2⟩ := xr1_inv h
    replace h := h2
    cases h1 : xFld (xmOwn m) ix with
    | some q =>
      obtain ⟨ci, k, po⟩ := q
      simp only [h1] at h
      obtain ⟨hb1, rfl⟩ := xis_inv h
      exact xr_get hF ho h1 hW (by simpa using hb1) hd (k0 rfl rfl H locs ls hW hS hl rfl)
    | none =>
      simp only [h1] at h
      cases h9 : xTf (xmOwn m) ix with
      | none => simp only [h9] at h; cases h
      | some q =>
        obtain ⟨f0, po⟩ := q
        simp only [h9] at h
        obtain ⟨hb1, rfl⟩ := xis_inv h
        exact xr_getO hF h9 hW hS (by simpa using hb1) hd (k0 rfl rfl H locs ls hW hS hl rfl)
  case putfield ix =>
    have e1 : len = 3 := hln.resolve_left (by simp [xLen])
    subst e1
    have h : xPf m pc 3 xl σ st (xFld (xmOwn m) ix) = some f := h
    cases h1 : xFld (xmOwn m) ix with
    | none => rw [h1] at h; cases h
    | some q =>
      obtain ⟨ci, k, po⟩ := q
      rw [h1] at h
      unfold xPf at h
      simp only at h
      split at h
      · rename_i x a r
        obtain ⟨hb1, rfl⟩ := xis_inv h
        simp only [Bool.and_eq_true, Bool.or_eq_true, beq_iff_eq, Bool.not_eq_true', decide_eq_true_eq] at hb1
        exact xr_put hF ho h1 hW hS hb1.1.1 hb1.1.2 hb1.2 hd (fun H' locs' a1 a2 => k0 rfl rfl H' locs' ls a1 a2 hl rfl)
      · rename_i q a r
        obtain ⟨hb1, rfl⟩ := xis_inv h
        simp only [Bool.and_eq_true, beq_iff_eq] at hb1
        exact xr_putF hF ho h1 hW hS hb1.1.1.1.1 hb1.1.1.1.2 hb1.1.1.2 hb1.1.2 hb1.2 hd (fun H' locs' a1 a2 => k0 rfl rfl H' locs' ls a1 a2 hl rfl)
      · cases h
  case getstatic ix =>
    have e1 : len = 3 := hln.resolve_left (by simp [xLen])
    subst e1
    have h : (match xSt (xmOwn m) ix with
      | some (w, _) => some ((pc + 3, xl, (if w = 5 then .int 1 else if w = 6 then .retAddr 1 else .ref (1000000 + w)) :: st, σ) : XF)
      | none => none) = some f := h
    cases h1 : xSt (xmOwn m) ix with
    | none => rw [h1] at h; cases h
    | some q =>
      obtain ⟨w, po⟩ := q
      rw [h1] at h
      cases h
      exact xr_gets hF ho h1 hS hd (k0 rfl rfl H locs ls hW hS hl rfl)
  case iaload =>
    have e1 : len = 1 := hln.resolve_left (by simp [xLen])
    subst e1
    obtain ⟨a, i, r, rfl, h2⟩ := xra_inv h
    replace h := h2
    obtain ⟨hb1, rfl⟩ := xis_inv h
    simp only [Bool.and_eq_true, Bool.or_eq_true, beq_iff_eq] at hb1
    rcases hb1.1 with hk | hk
    · exact xr_iald hF hW hk (xIn_in hb1.2) hd (k0 rfl rfl H locs ls hW hS hl rfl)
    · exact xr_ialdO hF hW hS hk (xIn_in hb1.2) hd (k0 rfl rfl H locs ls hW hS hl rfl)
  case baload =>
    have e1 : len = 1 := hln.resolve_left (by simp [xLen])
    subst e1
    obtain ⟨a, i, r, rfl, h2⟩ := xra_inv h
    replace h := h2
    obtain ⟨hb1, rfl⟩ := xis_inv h
    simp only [Bool.and_eq_true, Bool.or_eq_true, beq_iff_eq] at hb1
    rcases hb1.1 with hk | hk
    · exact xr_bald hF hW hk (xIn_in hb1.2) hd (k0 rfl rfl H locs ls hW hS hl rfl)
    · exact xr_baldO hF hW hS hk (xIn_in hb1.2) hd (k0 rfl rfl H locs ls hW hS hl rfl)
  case aaload =>
    have e1 : len = 1 := hln.resolve_left (by simp [xLen])
    subst e1
    obtain ⟨a, i, r, rfl, h2⟩ := xra_inv h
    replace h := h2
    obtain ⟨hb1, rfl⟩ := xis_inv h
    simp only [Bool.and_eq_true, decide_eq_true_eq] at hb1
    exact xr_aald hF hW hb1.1.1 hb1.1.2 (xIn_in hb1.2) hd (k0 rfl rfl H locs ls hW hS hl rfl)
  case iastore =>
    have e1 : len = 1 := hln.resolve_left (by simp [xLen])
    subst e1
    obtain ⟨a, i, x, r, rfl, h2⟩ := xrs_inv h
    replace h := h2
    obtain ⟨hb1, rfl⟩ := xis_inv h
    simp only [Bool.and_eq_true, beq_iff_eq] at hb1
    exact xr_iast hF hW hS hb1.1 (xIn_in hb1.2) hd (fun H' locs' a1 a2 => k0 rfl rfl H' locs' ls a1 a2 hl rfl)
  case bastore =>
    have e1 : len = 1 := hln.resolve_left (by simp [xLen])
    subst e1
    obtain ⟨a, i, x, r, rfl, h2⟩ := xrs_inv h
    replace h := h2
    by_cases h1 : (xsS σ a).1 = 21
    · rw [if_pos h1] at h
      obtain ⟨hb1, rfl⟩ := xis_inv h
      exact xr_bast hF hW hS h1 (xIn_in hb1) hd (fun H' locs' a1 a2 => k0 rfl rfl H' locs' ls a1 a2 hl rfl)
    · rw [if_neg h1] at h
      obtain ⟨hb1, rfl⟩ := xis_inv h
      simp only [Bool.and_eq_true, Bool.or_eq_true, beq_iff_eq, decide_eq_true_eq] at hb1
      exact xr_zast hF hW hS hb1.1.1 hb1.1.2 (xIn_in hb1.2) hd (fun H' locs' a1 a2 => k0 rfl rfl H' locs' ls a1 a2 hl rfl)
  case aastore =>
    have e1 : len = 1 := hln.resolve_left (by simp [xLen])
    subst e1
    obtain ⟨a, i, q, r, rfl, h2⟩ := xrq_inv h
    replace h := h2
    obtain ⟨hb1, rfl⟩ := xis_inv h
    simp only [Bool.and_eq_true, beq_iff_eq, decide_eq_true_eq] at hb1
    exact xr_aast hF hW hS hb1.1.1.1 hb1.1.1.2 hb1.1.2 (xIn_in hb1.2) hd (fun H' locs' a1 a2 => k0 rfl rfl H' locs' ls a1 a2 hl rfl)
  case arraylength =>
    have e1 : len = 1 := hln.resolve_left (by simp [xLen])
    subst e1
    obtain ⟨a, r, rfl, h2⟩ := xr1_inv h
    replace h := h2
    obtain ⟨hb1, rfl⟩ := xis_inv h
    simp only [Bool.and_eq_true, Bool.or_eq_true, beq_iff_eq, decide_eq_true_eq] at hb1
    obtain ⟨g1, g2⟩ := hb1
    by_cases g3 : (xsS σ a).1 ≤ 29
    · exact xr_alen hF hW g1 g3 hd (k0 rfl rfl H locs ls hW hS hl rfl)
    · exact xr_alenO hF hW hS (g2.resolve_right g3) hd (k0 rfl rfl H locs ls hW hS hl rfl)
  case new ix =>
    have e1 : len = 3 := hln.resolve_left (by simp [xLen])
    subst e1
    have h : (match xKl (xmOwn m) ix with
      | some (ci, _) => xis (decide (ci ≤ 12) && decide (xsN σ + 1 ≤ 1000000)) (pc + 3, xl, .ref (xsN σ) :: st, xNew σ ci 0 (xNf ci))
      | none => none) = some f := h
    cases h1 : xKl (xmOwn m) ix with
    | none => rw [h1] at h; cases h
    | some q =>
      obtain ⟨ci, po⟩ := q
      rw [h1] at h
      obtain ⟨hb1, rfl⟩ := xis_inv h
      simp only [Bool.and_eq_true, decide_eq_true_eq] at hb1
      have eN : xsN (xNew σ ci 0 (xNf ci)) - xsN σ = 1 := Nat.add_sub_cancel_left _ _
      have eZ : xsZ (xNew σ ci 0 (xNf ci)) - xsZ σ = xNf ci := Nat.add_sub_cancel_left _ _
      simp only [eN, eZ] at hc hz kk
      have had : xAd g (xsN σ) = xgB g + xsN σ := by unfold xAd; rw [if_pos (by omega)]
      refine xr_new hF ho h1 hb1.1 hW hS hb1.2 hc hz hd (fun H' a1 a2 => ?_)
      rw [← had]
      exact kk H' locs ls a1 a2 hl rfl
  case newarray at0 =>
    have e1 : len = 2 := hln.resolve_left (by simp [xLen])
    subst e1
    obtain ⟨n, r, rfl, h2⟩ := xo1_inv h
    replace h := h2
    obtain ⟨w1, w2, w3⟩ := xArr_ok
    cases at0
    case int =>
      obtain ⟨hb1, rfl⟩ := xis_inv h
      simp only [Bool.and_eq_true, Bool.not_eq_true', decide_eq_true_eq, decide_eq_false_iff_not] at hb1
      have eN : xsN (xNew σ 20 n.toNatClampNeg n.toNatClampNeg) - xsN σ = 1 := Nat.add_sub_cancel_left _ _
      have eZ : xsZ (xNew σ 20 n.toNatClampNeg n.toNatClampNeg) - xsZ σ = n.toNatClampNeg := Nat.add_sub_cancel_left _ _
      simp only [eN, eZ] at hc hz kk
      have had : xAd g (xsN σ) = xgB g + xsN σ := by unfold xAd; rw [if_pos (by omega)]
      refine xr_newa (at0 := .int) (ty := .int) (kd := 20) hF rfl (by decide) (by decide) w1 rfl rfl (fun _ => rfl) hW hS hb1.2 hb1.1.1 hb1.1.2 (by decide) hc hz hd (fun H' a1 a2 => ?_)
      rw [← had]
      exact kk H' locs ls a1 a2 hl rfl
    case byte =>
      obtain ⟨hb1, rfl⟩ := xis_inv h
      simp only [Bool.and_eq_true, Bool.not_eq_true', decide_eq_true_eq, decide_eq_false_iff_not] at hb1
      have eN : xsN (xNew σ 21 n.toNatClampNeg n.toNatClampNeg) - xsN σ = 1 := Nat.add_sub_cancel_left _ _
      have eZ : xsZ (xNew σ 21 n.toNatClampNeg n.toNatClampNeg) - xsZ σ = n.toNatClampNeg := Nat.add_sub_cancel_left _ _
      simp only [eN, eZ] at hc hz kk
      have had : xAd g (xsN σ) = xgB g + xsN σ := by unfold xAd; rw [if_pos (by omega)]
      refine xr_newa (at0 := .byte) (ty := .byte) (kd := 21) hF rfl (by decide) (by decide) w2 rfl rfl (fun _ => rfl) hW hS hb1.2 hb1.1.1 hb1.1.2 (by decide) hc hz hd (fun H' a1 a2 => ?_)
      rw [← had]
      exact kk H' locs ls a1 a2 hl rfl
    case boolean =>
      obtain ⟨hb1, rfl⟩ := xis_inv h
      simp only [Bool.and_eq_true, Bool.not_eq_true', decide_eq_true_eq, decide_eq_false_iff_not] at hb1
      have eN : xsN (xNew σ 22 n.toNatClampNeg n.toNatClampNeg) - xsN σ = 1 := Nat.add_sub_cancel_left _ _
      have eZ : xsZ (xNew σ 22 n.toNatClampNeg n.toNatClampNeg) - xsZ σ = n.toNatClampNeg := Nat.add_sub_cancel_left _ _
      simp only [eN, eZ] at hc hz kk
      have had : xAd g (xsN σ) = xgB g + xsN σ := by unfold xAd; rw [if_pos (by omega)]
      refine xr_newa (at0 := .boolean) (ty := .boolean) (kd := 22) hF rfl (by decide) (by decide) w3 rfl rfl (fun _ => rfl) hW hS hb1.2 hb1.1.1 hb1.1.2 (by decide) hc hz hd (fun H' a1 a2 => ?_)
      rw [← had]
      exact kk H' locs ls a1 a2 hl rfl
    all_goals cases h
  case anewarray ix =>
    have e1 : len = 3 := hln.resolve_left (by simp [xLen])
    subst e1
    obtain ⟨n, r, rfl, h2⟩ := xo1_inv h
    replace h := h2
    cases h1 : xKl (xmOwn m) ix with
    | none => simp only [h1] at h; cases h
    | some q =>
      obtain ⟨ci, po⟩ := q
      simp only [h1] at h
      obtain ⟨hb1, rfl⟩ := xis_inv h
      simp only [Bool.and_eq_true, Bool.not_eq_true', decide_eq_true_eq, decide_eq_false_iff_not] at hb1
      have eN : xsN (xNew σ (xAk ci) n.toNatClampNeg n.toNatClampNeg) - xsN σ = 1 := Nat.add_sub_cancel_left _ _
      have eZ : xsZ (xNew σ (xAk ci) n.toNatClampNeg n.toNatClampNeg) - xsZ σ = n.toNatClampNeg := Nat.add_sub_cancel_left _ _
      simp only [eN, eZ] at hc hz kk
      have had : xAd g (xsN σ) = xgB g + xsN σ := by unfold xAd; rw [if_pos (by omega)]
      refine xr_anew hF ho h1 hb1.1.1.1 hW hS hb1.2 hb1.1.1.2 hb1.1.2 hc hz hd (fun H' a1 a2 => ?_)
      rw [← had]
      exact kk H' locs ls a1 a2 hl rfl
  case multianewarray ix dim =>
    have e1 : len = 4 := hln.resolve_left (by simp [xLen])
    subst e1
    obtain ⟨n, k, r, rfl, h2⟩ := xo2_inv h
    replace h := h2
    cases h1 : xKl (xmOwn m) ix with
    | none => simp only [h1] at h; cases h
    | some q =>
      obtain ⟨ci, po⟩ := q
      simp only [h1] at h
      obtain ⟨hb1, rfl⟩ := xis_inv h
      simp only [Bool.and_eq_true, Bool.not_eq_true', decide_eq_true_eq, decide_eq_false_iff_not, beq_iff_eq] at hb1
      obtain ⟨⟨⟨⟨⟨⟨g1, g2⟩, g3⟩, g4⟩, g5⟩, g6⟩, g7⟩ := hb1
      subst g1
      subst g2
      have eN : xsN (xGrid σ n.toNatClampNeg k.toNatClampNeg) - xsN σ = 1 + n.toNatClampNeg := by show xsN σ + 1 + _ - xsN σ = _; omega
      have eZ : xsZ (xGrid σ n.toNatClampNeg k.toNatClampNeg) - xsZ σ = n.toNatClampNeg + n.toNatClampNeg * k.toNatClampNeg := by show xsZ σ + _ + _ - xsZ σ = _; omega
      simp only [eN, eZ] at hc hz kk
      have had : xAd g (xsN σ) = xgB g + xsN σ := by unfold xAd; rw [if_pos (by omega)]
      refine xr_multi hF ho h1 hW hS g3 g4 g5 g6 g7 hc hz hd (fun H' a1 a2 => ?_)
      rw [← had, Nat.add_assoc cells, Nat.add_assoc slots]
      exact kk H' locs ls a1 a2 hl rfl
  case invokespecial ix =>
    have e1 : len = 3 := hln.resolve_left (by simp [xLen])
    subst e1
    obtain ⟨a, r, rfl, h2⟩ := xr1_inv h
    replace h := h2
    have hrm := xRoomI_s hrm
    unfold xRoomC at hrm
    cases h1 : xCal (xmOwn m) ix with
    | none => simp only [h1] at h; cases h
    | some q =>
      obtain ⟨k, j, po⟩ := q
      simp only [h1] at h hrm
      obtain ⟨hb1, rfl⟩ := xis_inv h
      simp only [Bool.and_eq_true, decide_eq_true_eq, beq_iff_eq] at hb1
      obtain ⟨rfl, hb2⟩ := hb1
      rw [if_pos rfl] at hrm
      simp only [Bool.and_eq_true, decide_eq_true_eq] at hrm
      have hm9 := List.all_eq_true.mp (xCs_ok _ ho) _ (x_lookup h1)
      simp only [if_true, decide_eq_true_eq] at hm9
      refine W.objInit hx hb hown (hts _ (xw_of hm9 rfl)) (hts _ xObj_ok.1) (hts _ xObj_ok.2) rfl (by show ls.size = _; rw [hml]; exact hlen) rfl hd (by omega) (by
        have e9 := xcat_map hv r
        show 2 * 0 + _ + 12 ≤ _
        omega) ?_
      exact k0 rfl rfl H locs ls hW hS hl rfl
  case invokestatic ix =>
    have e1 : len = 3 := hln.resolve_left (by simp [xLen])
    subst e1
    have hrm := xRoomI_t hrm
    unfold xRoomC at hrm
    unfold xstep at h
    cases h1 : xCal (xmOwn m) ix with
    | none => simp only [h1] at h; cases h
    | some q =>
      obtain ⟨k, j, po⟩ := q
      simp only [h1] at h hrm
      by_cases k5 : k = 5
      · subst k5
        rw [if_pos rfl] at h
        rw [if_neg (by decide), if_pos rfl] at hrm
        simp only [Bool.and_eq_true, decide_eq_true_eq] at hrm
        obtain ⟨s0, sp, d, dp, n, r, rfl, h2⟩ := xcp_inv h
        replace h := h2
        obtain ⟨hb1, rfl⟩ := xis_inv h
        simp only [Bool.and_eq_true, Bool.or_eq_true, Bool.not_eq_true', decide_eq_true_eq, decide_eq_false_iff_not, beq_iff_eq] at hb1
        obtain ⟨⟨⟨⟨⟨⟨⟨g1, g2⟩, g3⟩, g4⟩, g5⟩, g6⟩, g7⟩, g8⟩ := hb1
        exact xr_copy hF ho hv h1 hW hS hlen g2 g3 g4 g5 g6 g7 g8 g1 (by omega) (by omega) hd (fun H' locs' a1 a2 => k0 rfl rfl H' locs' ls a1 a2 hl rfl)
      · rw [if_neg k5] at h
        by_cases k6 : k = 6
        · subst k6
          rw [if_pos rfl] at h
          rw [if_neg (by decide), if_neg (by decide), if_pos (Or.inl rfl)] at hrm
          simp only [Bool.and_eq_true, decide_eq_true_eq] at hrm
          obtain ⟨x, y, r, rfl, h2⟩ := xo2_inv h
          replace h := h2
          obtain ⟨hb1, rfl⟩ := xis_inv h
          have hb1 := of_decide_eq_true hb1
          have hm9 := List.all_eq_true.mp (xCs_ok _ ho) _ (x_lookup h1)
          simp only [show ¬ ((6 : Nat) = 4) by decide, show ¬ ((6 : Nat) = 5) by decide, if_false, if_true, decide_eq_true_eq] at hm9
          simp only [Nat.sub_self, Nat.add_zero] at hc hz
          refine va_mmax hx hb (by rw [hml]; exact hlen.symm) hown (hts _ (xw_of hm9 rfl)) (hts _ xMath_ok.1) (hts _ xMath_ok.2.2.2.2) (hts _ xMath_ok.2.1) (by omega) (by
            have e9 := xcat_map hv r
            omega) hc hz hd ?_
          exact k0 rfl rfl H locs ls hW hS hl rfl
        · rw [if_neg k6] at h
          by_cases k7 : k = 7
          · subst k7
            rw [if_pos rfl] at h
            rw [if_neg (by decide), if_neg (by decide), if_pos (Or.inr rfl)] at hrm
            simp only [Bool.and_eq_true, decide_eq_true_eq] at hrm
            obtain ⟨x, y, r, rfl, h2⟩ := xo2_inv h
            replace h := h2
            obtain ⟨hb1, rfl⟩ := xis_inv h
            have hb1 := of_decide_eq_true hb1
            have hm9 := List.all_eq_true.mp (xCs_ok _ ho) _ (x_lookup h1)
            simp only [show ¬ ((7 : Nat) = 4) by decide, show ¬ ((7 : Nat) = 5) by decide, show ¬ ((7 : Nat) = 6) by decide, if_false, if_true, decide_eq_true_eq] at hm9
            simp only [Nat.sub_self, Nat.add_zero] at hc hz
            refine va_mmin hx hb (by rw [hml]; exact hlen.symm) hown (hts _ (xw_of hm9 rfl)) (hts _ xMath_ok.2.2.1) (hts _ xMath_ok.2.2.2.2) (hts _ xMath_ok.2.2.2.1) (by omega) (by
              have e9 := xcat_map hv r
              omega) hc hz hd ?_
            exact k0 rfl rfl H locs ls hW hS hl rfl
          · rw [if_neg k7] at h
            cases h
  all_goals cases h
end XSTEP
end
section
/-! A RUN OF THE INTERPRETER IS A RUN OF THE MACHINE -/
theorem xAOA.spec {U : State} (h : xAOA U) : ∃ comp c k, U.vm.findClass (FieldType.array .int).toString = some comp ∧ (U.vm.classes.findIdx? fun (x : Class) => match x.kind with | .array component _ => component == comp | _ => false) = some c ∧ U.vm.classes[c]? = some k ∧ k.kind = .array comp (.array .int) ∧ U.vm.findClass ("[" ++ (FieldType.array .int).toString) = some c := by
  unfold xAOA at h
  simp only [Cond.before, Cond.holds, Cond.value, beq_iff_eq] at h
  cases hc : U.vm.findClass (FieldType.array .int).toString with
  | none => simp [hc] at h
  | some comp =>
    simp only [hc, Option.bind_some, Option.bind_eq_some_iff, Option.map_eq_some_iff] at h
    obtain ⟨c, hi, k, hk, hb⟩ := h
    obtain ⟨hlt, hp, -⟩ := Array.findIdx?_eq_some_iff_getElem.mp hi
    have hkk : U.vm.classes[c] = k := (Array.getElem?_eq_some_iff.mp hk).2
    rw [hkk] at hp
    cases hkind : k.kind with
    | array component ty =>
      rw [hkind] at hb hp
      simp at hb hp
      exact ⟨comp, c, k, rfl, hi, hk, by rw [hkind, hp, hb.1], hb.2⟩
    | _ => rw [hkind] at hb; simp at hb
theorem xAOA.moved {u U : State} (hvm : u.vm.Alike U.vm) (h : xAOA u) : xAOA U := by
  obtain ⟨comp, c, k, h1, h2, h3, h4, h5⟩ := h.spec
  obtain ⟨k', hk', he⟩ := hvm.2.2 _ _ h3
  have hi : (U.vm.classes.findIdx? fun (x : Class) => match x.kind with | .array component _ => component == comp | _ => false) = some c := by
    refine (va_idx_bare U.vm comp).symm.trans ?_
    first | rw [hvm.bare_eq] | rw [← hvm.bare_eq]
    exact (va_idx_bare u.vm comp).trans h2
  have hkind : k'.kind = .array comp (.array .int) := by rw [he]; exact h4
  have f1 : U.vm.findClass (FieldType.array .int).toString = some comp := by rw [hvm.findClass]; exact h1
  have f2 : U.vm.findClass ("[" ++ (FieldType.array .int).toString) = some c := by rw [hvm.findClass]; exact h5
  unfold xAOA Cond.before Cond.holds
  simp only [Cond.value]
  rw [f1, Option.bind_some]
  refine (congrArg (fun o : Option Nat => (o.bind (fun c => (U.vm.classes[c]?).map fun (k : Class) => match k.kind with | .array _ ty => decide (ty = FieldType.array .int) && decide (U.vm.findClass ("[" ++ (FieldType.array .int).toString) = some c) | _ => false) == some true)) hi).trans ?_
  simp [hk', hkind, f2]
theorem xOw.moved {g : XG} {u U : State} (hW : u.WarmedH U.vm) (hq : ∀ q : Nat, q < u.heap.size → ¬ xA g q → U.heap[q]? = u.heap[q]?) (hsz : xgB g ≤ u.heap.size) (h : xOw g u) : xOw g U := by
  obtain ⟨h1, h2, h3, h4, h5, h6, h7, h8, h9, h10, h11, h12, h13⟩ := h
  have ha := hW.alike
  refine ⟨va_K.moved ha h1, (va_X.moved ha h2).kept (hq _ (Nat.lt_of_lt_of_le h3 hsz) (Nat.not_le.mpr h3)), h3, fun j a b => ⟨(va_T.moved ha (h4 j a b).1).kept hq, (va_Z.moved ha (h4 j a b).2).kept hq⟩, (va_Z.moved ha h5).kept hq, (va_Z.moved ha h6).kept hq, h7, (vk_S.moved ha h8).kept hq, fun i hi => vk_R.warm hW (h9 i hi), fun e he => va_Nw.warmM hW (h10 e he), fun C hC => va_AO.moved ha (h11 C hC), xAOA.moved ha h12, word_at hW (Or.inr ⟨_, rfl⟩) h13⟩
theorem xis_f {b : Bool} {f f' : XF} (h : xis b f = some f') : f' = f := (xis_inv h).2.symm
def xMono (σ τ : XS) : Prop := xsN σ ≤ xsN τ ∧ xsZ σ ≤ xsZ τ
theorem xMono.rf (σ : XS) : xMono σ σ := ⟨Nat.le_refl _, Nat.le_refl _⟩
theorem xMono.new {σ : XS} {a b c : Nat} : xMono σ (xNew σ a b c) := ⟨Nat.le_add_right _ _, Nat.le_add_right _ _⟩
theorem xMono.grid {σ : XS} {a b : Nat} : xMono σ (xGrid σ a b) := ⟨by show xsN σ ≤ xsN σ + 1 + a; omega, by show xsZ σ ≤ xsZ σ + a + a * b; omega⟩
set_option maxHeartbeats 4000000 in
theorem xstep_mono {m : XM} {pc len : Nat} {ins : Instr} {xl st : List Value} {σ : XS} {f : XF} (h : xstep m pc ins len xl st σ = some f) : xMono σ f.2.2.2 := by
  cases ins
  all_goals first
    | (cases h; done)
    | (cases h; exact xMono.rf _)
    | (obtain ⟨x, r, rfl, h⟩ := xo1_inv h; cases h; exact xMono.rf _)
    | (obtain ⟨x, y, r, rfl, h⟩ := xo2_inv h; cases h; exact xMono.rf _)
    | (obtain ⟨x, y, r, rfl, h⟩ := xl2_inv h; cases h; exact xMono.rf _)
    | (obtain ⟨x, y, r, rfl, h⟩ := xo2_inv h; rw [xis_f h]; exact xMono.rf _)
    | (obtain ⟨a, i, r, rfl, h⟩ := xra_inv h; rw [xis_f h]; exact xMono.rf _)
    | (obtain ⟨a, i, x, r, rfl, h⟩ := xrs_inv h; rw [xis_f h]; exact xMono.rf _)
    | (obtain ⟨a, i, x, r, rfl, h⟩ := xrq_inv h; rw [xis_f h]; exact xMono.rf _)
    | (obtain ⟨a, r, rfl, h⟩ := xr1_inv h; rw [xis_f h]; exact xMono.rf _)
    | (obtain ⟨t, ht, rfl⟩ := xsw_inv h; exact xMono.rf _)
    | (obtain ⟨x, r, rfl, h⟩ := xo1_inv h; obtain ⟨t, ht, rfl⟩ := xbr_inv h; exact xMono.rf _)
    | (obtain ⟨x, y, r, rfl, h⟩ := xo2_inv h; obtain ⟨t, ht, rfl⟩ := xbr_inv h; exact xMono.rf _)
    | (obtain ⟨x, r, xl', rfl, h1, rfl⟩ := x_stI h; exact xMono.rf _)
    | (obtain ⟨x, r, xl', rfl, h1, rfl⟩ := x_stA h; exact xMono.rf _)
    | (obtain ⟨x, r, xl', rfl, h1, rfl⟩ := x_stL h; exact xMono.rf _)
    | skip
  all_goals try unfold xstep at h
  all_goals try unfold xldI at h
  all_goals try unfold xldL at h
  all_goals try unfold xldA at h
  all_goals try unfold xPf at h
  all_goals try unfold xo1 at h
  all_goals try unfold xo2 at h
  all_goals try unfold xr1 at h
  all_goals try unfold xrs at h
  all_goals try unfold xcp at h
  all_goals try simp only [Option.map_eq_some_iff] at h
  all_goals repeat' split at h
  all_goals first
    | (cases h; done)
    | (cases h; exact xMono.rf _)
    | (rw [xis_f h]; exact xMono.rf _)
    | (rw [xis_f h]; exact xMono.new)
    | (rw [xis_f h]; exact xMono.grid)
    | (obtain ⟨t, ht, rfl⟩ := xsw_inv h; exact xMono.rf _)
    | (obtain ⟨z, -, rfl⟩ := h; exact xMono.rf _)
    | (obtain ⟨z, -, rfl⟩ := Option.map_eq_some_iff.mp h; exact xMono.rf _)
theorem xexec_mono : ∀ (n : Nat) {m : XM} {pc : Nat} {xl st : List Value} {σ τ : XS} {r : Option Value}, xexec n m pc xl st σ = some (r, τ) → xMono σ τ
  | 0, m, pc, xl, st, σ, τ, r, h => by cases h
  | n + 1, m, pc, xl, st, σ, τ, r, h => by
    unfold xexec at h
    cases hat : xmAt m pc with
    | none => simp only [hat] at h; cases h
    | some q =>
      obtain ⟨ins, len⟩ := q
      simp only [hat] at h
      cases hcl : xCall m ins st σ with
      | some q =>
        obtain ⟨cm, as, rest⟩ := q
        simp only [hcl] at h
        cases hce : xexec n cm 0 (xIni as (xmL cm)) [] σ with
        | none => simp only [hce] at h; cases h
        | some q =>
          obtain ⟨v, σ1⟩ := q
          simp only [hce] at h
          have h1 := xexec_mono n hce
          have h2 := xexec_mono n h
          exact ⟨Nat.le_trans h1.1 h2.1, Nat.le_trans h1.2 h2.2⟩
      | none =>
        simp only [hcl] at h
        cases hrt : xRet m ins st with
        | some v =>
          simp only [hrt] at h
          cases h
          exact xMono.rf _
        | none =>
          simp only [hrt] at h
          cases hst : xstep m pc ins len xl st σ with
          | none => simp only [hst] at h; cases h
          | some f =>
            obtain ⟨pc', xl', st', σ'⟩ := f
            simp only [hst] at h
            have h1 := xstep_mono hst
            have h2 := xexec_mono n h
            exact ⟨Nat.le_trans h1.1 h2.1, Nat.le_trans h1.2 h2.2⟩
end
section
theorem xfl_len {g : XG} (hv : xgV g = .null ∨ ∃ t, xgV g = .ref t) : ∀ as : List Value, (lg_sl (as.map (xcv g))).length = (xfl as).length
  | [] => rfl
  | v :: as => by
    have ih := xfl_len hv as
    unfold lg_sl xfl at ih ⊢
    simp only [List.map_cons, List.flatMap_cons, List.length_append, ih, xcv_cat hv]
    congr 1
    by_cases h : v.category = 2
    · rw [if_pos h, if_pos h]
      rfl
    · rw [if_neg h, if_neg h]
      rfl
theorem xfl_at {g : XG} (hv : xgV g = .null ∨ ∃ t, xgV g = .ref t) : ∀ (as : List Value) (i : Nat) (w : Value), (xfl as)[i]? = some w → (∀ q, w ≠ .retAddr q) → (lg_sl (as.map (xcv g)))[i]? = some (.val (xcv g w))
  | [], i, w, h, _ => by simp [xfl] at h
  | v :: as, i, w, h, hw => by
    have ih := xfl_at hv as
    unfold lg_sl at ih ⊢
    unfold xfl at ih h
    simp only [List.map_cons, List.flatMap_cons, xcv_cat hv] at h ⊢
    by_cases hc : v.category = 2
    · rw [if_pos hc] at h ⊢
      rcases i with _ | _ | i
      · simp only [List.cons_append, List.getElem?_cons_zero, Option.some.injEq] at h ⊢
        rw [h]
      · simp only [List.cons_append, List.getElem?_cons_succ, List.getElem?_cons_zero, Option.some.injEq] at h
        exact absurd h.symm (hw 0)
      · simp only [List.cons_append, List.nil_append, List.getElem?_cons_succ] at h ⊢
        exact ih i w h hw
    · rw [if_neg hc] at h ⊢
      rcases i with _ | i
      · simp only [List.cons_append, List.getElem?_cons_zero, Option.some.injEq] at h ⊢
        rw [h]
      · simp only [List.cons_append, List.nil_append, List.getElem?_cons_succ] at h ⊢
        exact ih i w h hw
theorem xLr_ini {g : XG} (hv : xgV g = .null ∨ ∃ t, xgV g = .ref t) {as : List Value} {n : Nat} (h : (xfl as).length ≤ n) : xLr g (xIni as n) ((lg_sl (as.map (xcv g)) ++ List.replicate (n - (lg_sl (as.map (xcv g))).length) Slot.unset).toArray) := by
  have he := lv_entry (as.map (xcv g)) (n := n) (by rw [xfl_len hv]; exact h)
  have hsz : (xIni as n).length = n := by unfold xIni; rw [List.length_append, List.length_replicate]; omega
  refine ⟨by rw [hsz]; exact he.1, he.2.1, fun i w hi hw => ?_⟩
  rw [List.getElem?_toArray]
  unfold xIni at hi
  by_cases hl : i < (xfl as).length
  · rw [List.getElem?_append_left hl] at hi
    rw [List.getElem?_append_left (by rw [xfl_len hv]; exact hl)]
    exact xfl_at hv as i w hi hw
  · rw [List.getElem?_append_right (by omega), List.getElem?_replicate] at hi
    split at hi
    · cases hi
      exact absurd rfl (hw 0)
    · cases hi
/-- a method's contract, in the interpreter's words -/
def xPc (g : XG) (as : List Value) (σ : XS) : Array Value → State → Prop := fun v U => v = (as.map (xcv g)).toArray ∧ xOw g U ∧ xWd g σ U.heap
def xQc (g : XG) (r : Option Value) (τ : XS) : Array Value → State → Outcome → State → Prop := fun _ st o t => o = .returned (r.map (xcv g)) ∧ xWd g τ t.heap ∧ va_F (xA g) st t
theorem xPc_blind (g : XG) (as : List Value) (σ : XS) : FrameBlind (xPc g as σ) := fun a U f mk h => by
  obtain ⟨h1, h2, h3⟩ := h
  exact ⟨h1, xOw.moved (u := U) (U := U.calling f mk a) (State.WarmedH.refl U) (fun _ _ _ => rfl) (by rw [h3.1]; exact Nat.le_add_right _ _) h2, h3⟩
theorem x_words {cm : XM} (hcm : cm ∈ xMs) (h13 : xmOwn cm ≠ 13) : GoodIn xw (Cond.code (xmY cm) (xmC cm) (xmL cm) (xmRet cm) :: xw) := fun w h => by
  rcases List.mem_cons.mp h with e | h
  · subst e
    have h9 : goodWord (Cond.code (xmY cm) (xmC cm) (xmL cm) (xmRet cm)) = true := rfl
    exact ⟨xw_of (xCodeA cm hcm h13) h9, good_of_word h9⟩
  · exact ⟨h, good_of_word (List.mem_filter.mp h).2⟩
/-- what the table says of a method's words -/
theorem x_wordb {cm : XM} (hcm : cm ∈ xMs) (h13 : xmOwn cm ≠ 13) : (if xmK cm = 0 then Cond.static (xmY cm) else Cond.instanceMethod (xmY cm)) ∈ xw ∧ (xmK cm = 1 → Cond.selects (xmY cm).cls (xmY cm) (xmY cm) ∈ xw) ∧ Cond.initialized (xmY cm).cls ∈ xw ∧ (xmY cm).cls ≠ "java/lang/invoke/MethodHandle" ∧ (xmY cm).cls ≠ "java/lang/invoke/VarHandle" ∧ (parseMethodDescriptor (xmY cm).desc).map (fun d => d.parameters.length) = some (if xmK cm = 0 then xmN cm else xmN cm - 1) ∧ xR (xmOwn cm) = (xmY cm).cls ∧ xmK cm ≤ 2 ∧ (xmK cm = 0 ∨ 1 ≤ xmN cm) ∧ (xmK cm = 2 → (xmY cm).name = "<init>" ∧ xmRet cm = none) ∧ plainName (xmY cm).cls = true := by
  have h := xWordA cm hcm
  unfold xWordb at h
  simp only [Bool.or_eq_true, beq_iff_eq, Bool.and_eq_true, decide_eq_true_eq, bne_iff_ne, ne_eq] at h
  obtain ⟨⟨⟨⟨⟨⟨⟨⟨⟨⟨g1, g2⟩, g3⟩, g4⟩, g5⟩, g6⟩, g7⟩, g8⟩, g9⟩, g10⟩, g11⟩ := h.resolve_left h13
  refine ⟨?_, fun h1 => xw_of (g2.resolve_left (fun z => z h1)) rfl, xw_of g3 rfl, g4, g5, g6, g7, g8, g9, fun h2 => g10.resolve_left (fun z => z h2), g11⟩
  by_cases hk : xmK cm = 0
  · rw [if_pos hk] at g1 ⊢
    exact xw_of g1 rfl
  · rw [if_neg hk] at g1 ⊢
    exact xw_of g1 rfl
theorem x_retW {p : Program} {l : Launch} {e : Env} {R : Room} {s : State} {mid : MethodId} {args : Array Value} {below : List Frame} {meth : Method} {c : Code} {H : Heap} {locs : List Loc} {cells slots : Nat} {g : XG} {m : XM} {pc len : Nat} {ls : Array Slot} {st : List Value} {ins : Instr} {r : Option Value} {τ : XS} (hx : p.tables.exec = Jvm.exec) (hb : c.code = xmC m) (hr : meth.sig.returnType = xmRet m) (hlocks : meth.locks = false) (hm : m ∈ xMs) (hat : xmAt m pc = some (ins, len)) (h : xRet m ins st = some r) (hW : xWd g τ H) (hS : va_S (xA g) s.heap H locs) : W p l e R s mid args below meth c H locs cells slots (MQ below (xQc g r τ) args s cells slots (xA g)) (F0 mid pc ls (st.map (xcv g))) := by
  obtain ⟨hd, hln, -⟩ := x_at hm hat
  have hq : ∀ t : State, t.heap = H → s.WarmedH t.vm → xQc g r τ args s (.returned (r.map (xcv g))) t := fun t ht _ => ⟨rfl, by rw [ht]; exact hW, hS.F ht⟩
  cases ins
  case return_ =>
    have e1 : len = 1 := hln.resolve_left (by simp [xLen])
    subst e1
    unfold xRet at h
    simp only at h
    split at h
    · rename_i e2
      cases h
      rw [e2] at hr
      exact W.vret hx hb hr hq hS.2.2 hd hlocks
    · cases h
  case ireturn =>
    have e1 : len = 1 := hln.resolve_left (by simp [xLen])
    subst e1
    unfold xRet at h
    simp only at h
    split at h
    · rename_i v e2
      cases h
      rw [e2] at hr
      exact W.iret hx hb hr hq hS.2.2 hd hlocks
    · rename_i v e2
      split at h
      · rename_i h1
        cases h
        rw [e2] at hr
        exact W.zret hx hb hr (by rcases h1 with q | q <;> (subst q; decide +kernel)) hq hS.2.2 hd hlocks
      · cases h
    · rename_i v e2
      split at h
      · rename_i h1
        cases h
        rw [e2] at hr
        exact W.zret hx hb hr h1 hq hS.2.2 hd hlocks
      · cases h
    · rename_i v e2
      split at h
      · rename_i h1
        cases h
        rw [e2] at hr
        exact W.zret hx hb hr h1 hq hS.2.2 hd hlocks
      · cases h
    · cases h
  case lreturn =>
    have e1 : len = 1 := hln.resolve_left (by simp [xLen])
    subst e1
    unfold xRet at h
    simp only at h
    split at h
    · rename_i v e2
      cases h
      rw [e2] at hr
      exact W.lret hx hb hr hq hS.2.2 hd hlocks
    · cases h
  case areturn =>
    have e1 : len = 1 := hln.resolve_left (by simp [xLen])
    subst e1
    unfold xRet at h
    simp only at h
    split at h
    · rename_i a n e2
      cases h
      rw [e2] at hr
      exact W.aret hx hb hr (Or.inl ⟨_, rfl⟩) (Or.inr ⟨_, rfl⟩) hq hS.2.2 hd hlocks
    · cases h
  all_goals cases h
/-- what the induction gives of a run -/
def xRuns (l : Launch) (g : XG) (m : XM) (pc : Nat) (xl st : List Value) (σ : XS) (r : Option Value) (τ : XS) : Prop := ∀ (p : Program) (e : Env) (R : Room) (s : State) (mid : MethodId) (args : Array Value) (below : List Frame) (meth : Method) (c : Code) (H : Heap) (locs : List Loc) (cells slots : Nat) (Q : State → Prop) (ls : Array Slot), xFix g m p s mid args meth c → xWd g σ H → va_S (xA g) s.heap H locs → xLr g xl ls → ls.size = xmL m → xmFr m ≤ R.frames → xmLo m ≤ R.locals → cells + (xsN τ - xsN σ) ≤ R.cells → slots + (xsZ τ - xsZ σ) ≤ R.slots →
  (∀ (pc' : Nat) (ls' : Array Slot) (H' : Heap) (locs' : List Loc) (ins : Instr) (len : Nat) (st' : List Value), xmAt m pc' = some (ins, len) → xRet m ins st' = some r → xWd g τ H' → va_S (xA g) s.heap H' locs' → W p l e R s mid args below meth c H' locs' (cells + (xsN τ - xsN σ)) (slots + (xsZ τ - xsZ σ)) Q (F0 mid pc' ls' (st'.map (xcv g)))) →
  W p l e R s mid args below meth c H locs cells slots Q (F0 mid pc ls (st.map (xcv g)))
theorem x_met {l : Launch} {g : XG} {cm : XM} (hcm : cm ∈ xMs) (h13 : xmOwn cm ≠ 13) {as : List Value} {σ τ : XS} {r : Option Value} (hfl : (xfl as).length ≤ xmL cm) (h : xRuns l g cm 0 (xIni as (xmL cm)) [] σ r τ) : Met l (xmY cm) (Cond.code (xmY cm) (xmC cm) (xmL cm) (xmRet cm) :: xw) { frames := xmFr cm, cells := xsN τ - xsN σ, slots := xsZ τ - xsZ σ, locals := xmLo cm } (xPc g as σ) (xQc g r τ) (xsN τ - xsN σ) (xsZ τ - xsZ σ) (xA g) := by
  obtain ⟨-, -, -, -, -, -, w7, -, -, w10, w11⟩ := x_wordb hcm h13
  refine Met.ofW (cc := xmC cm) (maxL := xmL cm) (ret := xmRet cm) w11 rfl ?_
  intro p e s m args below meth c s₁ B hml hv
  obtain ⟨rfl, hO, hW⟩ := hv
  have hx := B.exec
  have hb := B.bytes
  have hr := B.returns
  have hts := atoms_spec (ws := Cond.code (xmY cm) (xmC cm) (xmL cm) (xmRet cm) :: xw) B.pre
  have hown : s.vm.findClass (xmY cm).cls = some m.cls := findClass_of_methodNamed B.named
  have hlocks := B.notSynchronized
  have hsz : xgB g ≤ s.heap.size := by rw [hW.1]; exact Nat.le_add_right _ _
  have hF : xFix g cm p s m ((as.map (xcv g)).toArray) meth c := ⟨hx, hb, hml, by rw [w7]; exact hown, fun w h => hts w (List.mem_cons_of_mem _ h), hO, hsz, fun h2 => by rw [← (w10 h2).1]; exact (name_of_methodNamed B.named B.method).1⟩
  have hv := hO.2.2.2.2.2.2.1
  have hl := xLr_ini hv hfl
  rw [lg_entry_eq]
  generalize (lg_sl (as.map (xcv g)) ++ List.replicate (xmL cm - (lg_sl (as.map (xcv g))).length) Slot.unset).toArray = ls at hl ⊢
  have hlen : ls.size = xmL cm := by
    rw [hl.1]
    unfold xIni
    rw [List.length_append, List.length_replicate]
    omega
  refine h p e _ s m _ below meth c s.heap [] 0 0 _ ls hF hW va_S.rf hl hlen (Nat.le_refl _) (Nat.le_refl _) (by rw [Nat.zero_add]; exact Nat.le_refl _) (by rw [Nat.zero_add]; exact Nat.le_refl _) ?_
  intro pc' ls' H' locs' ins len st' hat hrt hW' hS'
  rw [Nat.zero_add, Nat.zero_add]
  exact x_retW hx hb hr hlocks hcm hat hrt hW' hS'
section XCALL
variable {p : Program} {l : Launch} {e : Env} {R : Room} {s : State} {mid : MethodId} {args : Array Value} {below : List Frame} {meth : Method} {c : Code} {H : Heap} {locs : List Loc} {cells slots : Nat} {Q : State → Prop}
variable {g : XG} {m : XM} {pc : Nat} {ls : Array Slot} {rest st0 : List Value} {σ τ : XS} {r : Option Value} {a : Array Value} {mc ms : Nat}
theorem x_cont (hr : va_Run p l e R s mid args below meth c H locs cells slots mc ms (F0 mid pc ls st0) rest (xQc g r τ a) (xA g)) (hS : va_S (xA g) s.heap H locs)
    (kk : ∀ (H1 : Heap) (locs1 : List Loc), xWd g τ H1 → va_S (xA g) s.heap H1 locs1 → W p l e R s mid args below meth c H1 locs1 (cells + mc) (slots + ms) Q (F0 mid (pc + 3) ls ((r.map (xcv g)).toList ++ rest))) : W p l e R s mid args below meth c H locs cells slots Q (F0 mid pc ls st0) := by
  intro T hT X
  obtain ⟨v, st₀, t, T', L, h0, X', hL, e1, e2, ⟨hv, hw, hz, hk⟩, st⟩ := hr T hT X
  have hv : v = r.map (xcv g) := Outcome.returned.inj hv
  subst hv
  rw [h0] at hz hk
  obtain ⟨t2, a1, b1⟩ := kk T'.heap (locs ++ L) (by rw [e1]; exact hw)
    ⟨Nat.le_trans hS.1 (by rw [e1]; exact hz), fun q h1 h2 => by rw [e1, hk q (Nat.lt_of_lt_of_le h1 hS.1) h2]; exact hS.2.1 q h1 h2, fun q hq => by
      rcases List.mem_append.mp hq with h | h
      · exact hS.2.2 q h
      · exact hL q h⟩ T' rfl X'
  exact ⟨t2, st t2 a1, b1⟩
theorem x_preS (hF : xFix g m p s mid args meth c) (hW : xWd g σ H) (hS : va_S (xA g) s.heap H locs) (as : List Value) : ∀ U : State, U.heap = H → s.WarmedH U.vm → xPc g as σ (as.map (xcv g)).toArray U := fun U hU hWm => by
  obtain ⟨hx, hb, hml, hown, hts, hO, hsz, hin⟩ := hF
  exact ⟨rfl, xOw.moved hWm (fun q h1 h2 => by rw [hU]; exact hS.2.1 q h1 h2) hsz hO, by rw [hU]; exact hW⟩
end XCALL
end
section
theorem xArg_inv {j : Nat} {st as rest : List Value} {cm : XM} (h : xArg j st = some (cm, as, rest)) : xMs[j]? = some cm ∧ as.length = xmN cm ∧ xcat rest ≤ 8 ∧ (xfl as).length ≤ xmL cm ∧ st = as.reverse ++ rest := by
  unfold xArg at h
  cases hj : xMs[j]? with
  | none => simp only [hj] at h; cases h
  | some c =>
    simp only [hj] at h
    split at h
    · rename_i hc
      simp only [Bool.and_eq_true, decide_eq_true_eq] at hc
      cases h
      refine ⟨rfl, ?_, hc.1.2, hc.2, ?_⟩
      · rw [List.length_reverse, List.length_take]
        omega
      · rw [List.reverse_reverse, List.take_append_drop]
    · cases h
theorem xCs_n {ow ix j po : Nat} {cm : XM} (ho : ow < 21) (h : xCal ow ix = some (3, j, po)) (hj : xMs[j]? = some cm) : xmOwn cm ≠ 13 ∧ (ow, ix, xmY cm) ∈ xNest ∧ xmK cm = 0 := by
  have hm := List.all_eq_true.mp (xCs_ok ow ho) _ (x_lookup h)
  simp only [show ¬ ((3 : Nat) = 4) by decide, show ¬ ((3 : Nat) = 5) by decide, show ¬ ((3 : Nat) = 6) by decide, show ¬ ((3 : Nat) = 7) by decide, if_false, if_true, hj] at hm
  have h1 := Bool.and_eq_true_iff.mp hm
  have h2 := Bool.and_eq_true_iff.mp h1.2
  exact ⟨bne_iff_ne.mp h1.1, of_decide_eq_true h2.1, eq_of_beq h2.2⟩
section XMAIN
variable {p : Program} {l : Launch} {e : Env} {R : Room} {s : State} {mid : MethodId} {args : Array Value} {below : List Frame} {meth : Method} {c : Code} {H : Heap} {locs : List Loc} {cells slots : Nat} {Q : State → Prop}
variable {g : XG} {m : XM} {pc : Nat} {ls : Array Slot} {σ τ : XS} {r : Option Value}
theorem x_roomC {m cm : XM} {ix k j po : Nat} (hrm : xRoomC m ix = true) (h1 : xCal (xmOwn m) ix = some (k, j, po)) (hk : k ≤ 3) (hj : xMs[j]? = some cm) : xmFr cm + 1 ≤ xmFr m ∧ 8 + (xmL cm + 11) + xmLo cm ≤ xmLo m := by
  unfold xRoomC at hrm
  simp only [h1] at hrm
  rw [if_neg (by omega), if_neg (by omega), if_neg (by omega), hj] at hrm
  simp only [Bool.and_eq_true, decide_eq_true_eq] at hrm
  exact hrm
theorem x_callS {cm : XM} {ix j po : Nat} {as rest st : List Value} (hm : m ∈ xMs) (hF : xFix g m p s mid args meth c) (h1 : xCal (xmOwn m) ix = some (0, j, po)) (ha : xArg j st = some (cm, as, rest)) (hrm : xRoomC m ix = true) (hM : ∀ (hcm : cm ∈ xMs) (h13 : xmOwn cm ≠ 13), Met l (xmY cm) (Cond.code (xmY cm) (xmC cm) (xmL cm) (xmRet cm) :: xw) { frames := xmFr cm, cells := xsN τ - xsN σ, slots := xsZ τ - xsZ σ, locals := xmLo cm } (xPc g as σ) (xQc g r τ) (xsN τ - xsN σ) (xsZ τ - xsZ σ) (xA g)) (hW : xWd g σ H) (hS : va_S (xA g) s.heap H locs) (hlen : ls.size = xmL m) (hfr : xmFr m ≤ R.frames) (hlo : xmLo m ≤ R.locals) (hc : cells + (xsN τ - xsN σ) ≤ R.cells) (hz : slots + (xsZ τ - xsZ σ) ≤ R.slots) (hdg : decode (xmC m) pc = .ok (.invokestatic ix, 3))
    (kk : ∀ (H1 : Heap) (locs1 : List Loc), xWd g τ H1 → va_S (xA g) s.heap H1 locs1 → W p l e R s mid args below meth c H1 locs1 (cells + (xsN τ - xsN σ)) (slots + (xsZ τ - xsZ σ)) Q (F0 mid (pc + 3) ls ((r.map (xcv g)).toList ++ rest.map (xcv g)))) : W p l e R s mid args below meth c H locs cells slots Q (F0 mid pc ls (st.map (xcv g))) := by
  obtain ⟨hj, hn, hcat, hfl, rfl⟩ := xArg_inv ha
  have hcm : cm ∈ xMs := List.mem_of_getElem? hj
  have hro := x_roomC hrm h1 (by decide) hj
  obtain ⟨hx, hb, hml, hown, hts, hO, hsz, hin⟩ := id hF
  have hm9 := List.all_eq_true.mp (xCs_ok _ (x_own hm)) _ (x_lookup h1)
  simp only [show ¬ ((0 : Nat) = 4) by decide, show ¬ ((0 : Nat) = 5) by decide, show ¬ ((0 : Nat) = 6) by decide, show ¬ ((0 : Nat) = 7) by decide, show ¬ ((0 : Nat) = 3) by decide, if_false, hj, Bool.and_eq_true, bne_iff_ne, ne_eq, beq_iff_eq, decide_eq_true_eq] at hm9
  obtain ⟨h13, hK, hlink⟩ := hm9
  obtain ⟨w1, w2, w3, w4, w5, w6, w7, w8, w9, w10, w11⟩ := x_wordb hcm h13
  rw [if_pos hK.symm] at w1 w6
  have hlk : Cond.methodLink (xR (xmOwn m)) ix (xmY cm) ∈ xw := xw_of hlink rfl
  refine x_cont (a := (as.map (xcv g)).toArray) (va_runS (As := as.map (xcv g)) (n := xmN cm) ⟨hx, hb, hml, hown, hts⟩ (hM hcm h13) ⟨callB_of (xmN cm) hts (x_words hcm h13) rfl rfl rfl (hts _ w3) (hts _ hlk) ⟨w4, w5, w6⟩ ⟨by show xmFr cm + 1 ≤ _; omega, by show 8 + (xmL cm + 11) + xmLo cm ≤ _; omega⟩, hts _ w1⟩ ⟨xPc_blind g as σ, x_preS hF hW hS as⟩ rfl (by rw [List.length_map]; exact hn) hlen (by rw [List.map_append, List.map_reverse]) (by rw [xcat_map hO.2.2.2.2.2.2.1]; show 2 * 0 + _ ≤ 8; omega) hdg ⟨hc, hz⟩) hS kk
theorem x_callN {cm : XM} {ix j po : Nat} {as rest st : List Value} (hm : m ∈ xMs) (hF : xFix g m p s mid args meth c) (h1 : xCal (xmOwn m) ix = some (3, j, po)) (ha : xArg j st = some (cm, as, rest)) (hrm : xRoomC m ix = true) (hM : ∀ (hcm : cm ∈ xMs) (h13 : xmOwn cm ≠ 13), Met l (xmY cm) (Cond.code (xmY cm) (xmC cm) (xmL cm) (xmRet cm) :: xw) { frames := xmFr cm, cells := xsN τ - xsN σ, slots := xsZ τ - xsZ σ, locals := xmLo cm } (xPc g as σ) (xQc g r τ) (xsN τ - xsN σ) (xsZ τ - xsZ σ) (xA g)) (hW : xWd g σ H) (hS : va_S (xA g) s.heap H locs) (hlen : ls.size = xmL m) (hfr : xmFr m ≤ R.frames) (hlo : xmLo m ≤ R.locals) (hc : cells + (xsN τ - xsN σ) ≤ R.cells) (hz : slots + (xsZ τ - xsZ σ) ≤ R.slots) (hdg : decode (xmC m) pc = .ok (.invokestatic ix, 3))
    (kk : ∀ (H1 : Heap) (locs1 : List Loc), xWd g τ H1 → va_S (xA g) s.heap H1 locs1 → W p l e R s mid args below meth c H1 locs1 (cells + (xsN τ - xsN σ)) (slots + (xsZ τ - xsZ σ)) Q (F0 mid (pc + 3) ls ((r.map (xcv g)).toList ++ rest.map (xcv g)))) : W p l e R s mid args below meth c H locs cells slots Q (F0 mid pc ls (st.map (xcv g))) := by
  obtain ⟨hj, hn, hcat, hfl, rfl⟩ := xArg_inv ha
  have hcm : cm ∈ xMs := List.mem_of_getElem? hj
  have hro := x_roomC hrm h1 (by decide) hj
  obtain ⟨hx, hb, hml, hown, hts, hO, hsz, hin⟩ := id hF
  obtain ⟨h13, hne, hK⟩ := xCs_n (x_own hm) h1 hj
  obtain ⟨w1, w2, w3, w4, w5, w6, w7, w8, w9, w10, w11⟩ := x_wordb hcm h13
  rw [if_pos hK] at w1 w6
  have hnw : va_Nw (.methodLinkNest (xR (xmOwn m)) ix (xmY cm) "ThreePhases") s := hO.2.2.2.2.2.2.2.2.2.1 (xmOwn m, ix, xmY cm) hne
  have hcb := va_cnB (R := R) (mc := xsN τ - xsN σ) (ms := xsZ τ - xsZ σ) (rm := { frames := xmFr cm, cells := xsN τ - xsN σ, slots := xsZ τ - xsZ σ, locals := xmLo cm }) (xmN cm) hts (x_words hcm h13) rfl rfl rfl hnw (hts _ w3) ⟨w4, w5, w6⟩ ⟨by show xmFr cm + 1 ≤ _; omega, by show 8 + (xmL cm + 11) + xmLo cm ≤ _; omega⟩
  refine x_cont (a := (as.map (xcv g)).toArray) (va_runSN (As := as.map (xcv g)) (n := xmN cm) ⟨hx, hb, hml, hown, hts⟩ (hM hcm h13) ⟨hcb, hts _ w1, trivial⟩ ⟨xPc_blind g as σ, x_preS hF hW hS as⟩ rfl (by rw [List.length_map]; exact hn) hlen (by rw [List.map_append, List.map_reverse]) (by rw [xcat_map hO.2.2.2.2.2.2.1]; show 2 * 0 + _ ≤ 8; omega) hdg ⟨hc, hz⟩) hS kk
theorem x_callI {cm : XM} {ix j po a : Nat} {as rest st : List Value} (hm : m ∈ xMs) (hF : xFix g m p s mid args meth c) (h1 : xCal (xmOwn m) ix = some (2, j, po)) (ha : xArg j st = some (cm, .ref a :: as, rest)) (hrm : xRoomC m ix = true) (hM : ∀ (hcm : cm ∈ xMs) (h13 : xmOwn cm ≠ 13), Met l (xmY cm) (Cond.code (xmY cm) (xmC cm) (xmL cm) (xmRet cm) :: xw) { frames := xmFr cm, cells := xsN τ - xsN σ, slots := xsZ τ - xsZ σ, locals := xmLo cm } (xPc g (.ref a :: as) σ) (xQc g r τ) (xsN τ - xsN σ) (xsZ τ - xsZ σ) (xA g)) (hW : xWd g σ H) (hS : va_S (xA g) s.heap H locs) (hlen : ls.size = xmL m) (hfr : xmFr m ≤ R.frames) (hlo : xmLo m ≤ R.locals) (hc : cells + (xsN τ - xsN σ) ≤ R.cells) (hz : slots + (xsZ τ - xsZ σ) ≤ R.slots) (hdg : decode (xmC m) pc = .ok (.invokespecial ix, 3))
    (kk : ∀ (H1 : Heap) (locs1 : List Loc), xWd g τ H1 → va_S (xA g) s.heap H1 locs1 → W p l e R s mid args below meth c H1 locs1 (cells + (xsN τ - xsN σ)) (slots + (xsZ τ - xsZ σ)) Q (F0 mid (pc + 3) ls ((r.map (xcv g)).toList ++ rest.map (xcv g)))) : W p l e R s mid args below meth c H locs cells slots Q (F0 mid pc ls (st.map (xcv g))) := by
  obtain ⟨hj, hn, hcat, hfl, rfl⟩ := xArg_inv ha
  have hcm : cm ∈ xMs := List.mem_of_getElem? hj
  have hro := x_roomC hrm h1 (by decide) hj
  obtain ⟨hx, hb, hml, hown, hts, hO, hsz, hin⟩ := id hF
  have hm9 := List.all_eq_true.mp (xCs_ok _ (x_own hm)) _ (x_lookup h1)
  simp only [show ¬ ((2 : Nat) = 4) by decide, show ¬ ((2 : Nat) = 5) by decide, show ¬ ((2 : Nat) = 6) by decide, show ¬ ((2 : Nat) = 7) by decide, show ¬ ((2 : Nat) = 3) by decide, if_false, hj, Bool.and_eq_true, bne_iff_ne, ne_eq, beq_iff_eq, decide_eq_true_eq] at hm9
  obtain ⟨h13, hK, hlink⟩ := hm9
  obtain ⟨w1, w2, w3, w4, w5, w6, w7, w8, w9, w10, w11⟩ := x_wordb hcm h13
  rw [if_neg (by omega)] at w1 w6
  obtain ⟨w12, w13⟩ := w10 hK.symm
  have hlk : Cond.methodLink (xR (xmOwn m)) ix (xmY cm) ∈ xw := xw_of hlink rfl
  have hM2 := hM hcm h13
  have hwd := x_words hcm h13
  rw [w13] at hM2 hwd
  refine x_cont (a := ((Value.ref a :: as).map (xcv g)).toArray) (va_runI (b := xAd g a) (As := as.map (xcv g)) (n := xmN cm - 1) ⟨hx, hb, hml, hown, hts⟩ hM2 ⟨callB_of (xmN cm - 1) hts hwd rfl rfl rfl (hts _ w3) (hts _ hlk) ⟨w4, w5, w6⟩ ⟨by show xmFr cm + 1 ≤ _; omega, by show 8 + (xmL cm + 11) + xmLo cm ≤ _; omega⟩, w12, hts _ w1⟩ ⟨xPc_blind g _ σ, x_preS hF hW hS (.ref a :: as)⟩ rfl (by rw [List.length_map]; simp only [List.length_cons] at hn; omega) hlen (by simp [xcv]) (by rw [xcat_map hO.2.2.2.2.2.2.1]; show 2 * 0 + _ ≤ 8; omega) hdg ⟨hc, hz⟩) hS kk
theorem x_callV {cm : XM} {ix j po a : Nat} {as rest st : List Value} (hm : m ∈ xMs) (hF : xFix g m p s mid args meth c) (h1 : xCal (xmOwn m) ix = some (1, j, po)) (ha : xArg j st = some (cm, .ref a :: as, rest)) (hrc : xKo (xsS σ a).1 = xmOwn cm) (hrm : xRoomC m ix = true) (hM : ∀ (hcm : cm ∈ xMs) (h13 : xmOwn cm ≠ 13), Met l (xmY cm) (Cond.code (xmY cm) (xmC cm) (xmL cm) (xmRet cm) :: xw) { frames := xmFr cm, cells := xsN τ - xsN σ, slots := xsZ τ - xsZ σ, locals := xmLo cm } (xPc g (.ref a :: as) σ) (xQc g r τ) (xsN τ - xsN σ) (xsZ τ - xsZ σ) (xA g)) (hW : xWd g σ H) (hS : va_S (xA g) s.heap H locs) (hlen : ls.size = xmL m) (hfr : xmFr m ≤ R.frames) (hlo : xmLo m ≤ R.locals) (hc : cells + (xsN τ - xsN σ) ≤ R.cells) (hz : slots + (xsZ τ - xsZ σ) ≤ R.slots) (hdg : decode (xmC m) pc = .ok (.invokevirtual ix, 3))
    (kk : ∀ (H1 : Heap) (locs1 : List Loc), xWd g τ H1 → va_S (xA g) s.heap H1 locs1 → W p l e R s mid args below meth c H1 locs1 (cells + (xsN τ - xsN σ)) (slots + (xsZ τ - xsZ σ)) Q (F0 mid (pc + 3) ls ((r.map (xcv g)).toList ++ rest.map (xcv g)))) : W p l e R s mid args below meth c H locs cells slots Q (F0 mid pc ls (st.map (xcv g))) := by
  obtain ⟨hj, hn, hcat, hfl, rfl⟩ := xArg_inv ha
  have hcm : cm ∈ xMs := List.mem_of_getElem? hj
  have hro := x_roomC hrm h1 (by decide) hj
  obtain ⟨hx, hb, hml, hown, hts, hO, hsz, hin⟩ := id hF
  have hm9 := List.all_eq_true.mp (xCs_ok _ (x_own hm)) _ (x_lookup h1)
  simp only [show ¬ ((1 : Nat) = 4) by decide, show ¬ ((1 : Nat) = 5) by decide, show ¬ ((1 : Nat) = 6) by decide, show ¬ ((1 : Nat) = 7) by decide, show ¬ ((1 : Nat) = 3) by decide, if_false, hj, Bool.and_eq_true, bne_iff_ne, ne_eq, beq_iff_eq, decide_eq_true_eq] at hm9
  obtain ⟨h13, hK, hlink⟩ := hm9
  obtain ⟨w1, w2, w3, w4, w5, w6, w7, w8, w9, w10, w11⟩ := x_wordb hcm h13
  rw [if_neg (by omega)] at w1 w6
  have hlk : Cond.methodLink (xR (xmOwn m)) ix (xmY cm) ∈ xw := xw_of hlink rfl
  have hov := x_own hcm
  have hrecv : ∃ cellB : Cell, H[xAd g a]? = some cellB ∧ cellB.vm.isStatics = false ∧ s.vm.findClass (xmY cm).cls = some cellB.cls := by
    unfold xKo at hrc
    by_cases h42 : (xsS σ a).1 = 42
    · rw [if_pos h42] at hrc
      obtain ⟨ho, hs, -⟩ := hW.old (a := a) (by omega) (by omega)
      rw [hs] at h42
      obtain ⟨i, hi, rfl⟩ := xoS_42 h42
      have e0 : xAd g (1000010 + i) = xgO g (10 + i) := by rw [show 1000010 + i = 1000000 + (10 + i) by omega]; exact xAd_old
      have hcl : (xmY cm).cls = "java/lang/String" := by rw [← w7, ← hrc]; rfl
      rw [e0, hcl]
      exact vk_recv (adK := fun i => xgO g (10 + i)) (i := i) hO.2.2.2.2.2.2.2.1 hi hS
    · rw [if_neg h42] at hrc
      have h12 : (xsS σ a).1 ≤ 12 := by
        rcases Nat.lt_or_ge 12 (xsS σ a).1 with q | q
        · rw [if_neg (by omega)] at hrc
          omega
        · exact q
      rw [if_pos h12] at hrc
      have he := hW.pl (a := a) (by omega)
      rw [xEnt_o h12] at he
      have := va_recv hO.1 hW.2.2.1 (xCl_get _ (by omega)) he
      rw [← w7, ← hrc]
      exact this
  refine x_cont (a := ((Value.ref a :: as).map (xcv g)).toArray) (va_runV (C := (xmY cm).cls) (b := xAd g a) (As := as.map (xcv g)) (n := xmN cm - 1) ⟨hx, hb, hml, hown, hts⟩ (hM hcm h13) ⟨callB_of (xmN cm - 1) hts (x_words hcm h13) rfl rfl rfl (hts _ w3) (hts _ hlk) ⟨w4, w5, w6⟩ ⟨by show xmFr cm + 1 ≤ _; omega, by show 8 + (xmL cm + 11) + xmLo cm ≤ _; omega⟩, hts _ w1, hts _ (w2 hK.symm)⟩ ⟨xPc_blind g _ σ, hrecv, x_preS hF hW hS (.ref a :: as)⟩ rfl (by rw [List.length_map]; simp only [List.length_cons] at hn; omega) hlen (by simp [xcv]) (by rw [xcat_map hO.2.2.2.2.2.2.1]; show 2 * 0 + _ ≤ 8; omega) hdg ⟨hc, hz⟩) hS kk
end XMAIN
end
section
/-- THE INTERPRETER IS SOUND -/
theorem x_run (l : Launch) (g : XG) : ∀ (n : Nat) {m : XM} (hm : m ∈ xMs) {pc : Nat} {xl st : List Value} {σ τ : XS} {r : Option Value}, xexec n m pc xl st σ = some (r, τ) → xRuns l g m pc xl st σ r τ
  | 0, m, hm, pc, xl, st, σ, τ, r, h => by cases h
  | n + 1, m, hm, pc, xl, st, σ, τ, r, h => by
    intro p e R s mid args below meth c H locs cells slots Q ls hF hW hS hl hlen hfr hlo hc hz hret
    unfold xexec at h
    cases hat : xmAt m pc with
    | none => simp only [hat] at h; cases h
    | some q =>
      obtain ⟨ins, len⟩ := q
      simp only [hat] at h
      obtain ⟨hd, hln, hrm⟩ := x_at hm hat
      cases hcl : xCall m ins st σ with
      | some q =>
        obtain ⟨cm, as, rest⟩ := q
        simp only [hcl] at h
        cases hce : xexec n cm 0 (xIni as (xmL cm)) [] σ with
        | none => simp only [hce] at h; cases h
        | some q =>
          obtain ⟨v, σ1⟩ := q
          simp only [hce] at h
          have m1 := xexec_mono n hce
          have m2 := xexec_mono n h
          have eN : (xsN σ1 - xsN σ) + (xsN τ - xsN σ1) = xsN τ - xsN σ := by have := m1.1; have := m2.1; omega
          have eZ : (xsZ σ1 - xsZ σ) + (xsZ τ - xsZ σ1) = xsZ τ - xsZ σ := by have := m1.2; have := m2.2; omega
          have kk : len = 3 → ∀ (H1 : Heap) (locs1 : List Loc), xWd g σ1 H1 → va_S (xA g) s.heap H1 locs1 → W p l e R s mid args below meth c H1 locs1 (cells + (xsN σ1 - xsN σ)) (slots + (xsZ σ1 - xsZ σ)) Q (F0 mid (pc + 3) ls ((v.map (xcv g)).toList ++ rest.map (xcv g))) := fun e3 H1 locs1 a1 a2 => by
            subst e3
            have h9 := x_run l g n hm h p e R s mid args below meth c H1 locs1 (cells + (xsN σ1 - xsN σ)) (slots + (xsZ σ1 - xsZ σ)) Q ls hF a1 a2 hl hlen hfr hlo (by rw [Nat.add_assoc, eN]; exact hc) (by rw [Nat.add_assoc, eZ]; exact hz) (fun pc' ls' H' locs' ins' len' st' b1 b2 b3 b4 => by
              rw [Nat.add_assoc, Nat.add_assoc, eN, eZ]
              exact hret pc' ls' H' locs' ins' len' st' b1 b2 b3 b4)
            have e9 : (v.toList ++ rest).map (xcv g) = (v.map (xcv g)).toList ++ rest.map (xcv g) := by
              rw [List.map_append]
              cases v <;> rfl
            rw [e9] at h9
            exact h9
          have hc1 : cells + (xsN σ1 - xsN σ) ≤ R.cells := by omega
          have hz1 : slots + (xsZ σ1 - xsZ σ) ≤ R.slots := by omega
          have hmet : (xfl as).length ≤ xmL cm → ∀ (hcm : cm ∈ xMs) (h13 : xmOwn cm ≠ 13), Met l (xmY cm) (Cond.code (xmY cm) (xmC cm) (xmL cm) (xmRet cm) :: xw) { frames := xmFr cm, cells := xsN σ1 - xsN σ, slots := xsZ σ1 - xsZ σ, locals := xmLo cm } (xPc g as σ) (xQc g v σ1) (xsN σ1 - xsN σ) (xsZ σ1 - xsZ σ) (xA g) := fun hfl hcm h13 => x_met hcm h13 hfl (x_run l g n hcm hce)
          cases ins
          case invokestatic ix =>
            have e1 : len = 3 := hln.resolve_left (by simp [xLen])
            unfold xCall at hcl
            cases h1 : xCal (xmOwn m) ix with
            | none => simp only [h1] at hcl; cases hcl
            | some q =>
              obtain ⟨k, j, po⟩ := q
              simp only [h1] at hcl
              split at hcl
              · rename_i hk
                have hfl := (xArg_inv hcl).2.2.2.1
                subst e1
                rcases hk with hk | hk
                · subst hk
                  exact x_callS hm hF h1 hcl hrm (hmet hfl) hW hS hlen hfr hlo hc1 hz1 hd (kk rfl)
                · subst hk
                  exact x_callN hm hF h1 hcl hrm (hmet hfl) hW hS hlen hfr hlo hc1 hz1 hd (kk rfl)
              · cases hcl
          case invokespecial ix =>
            have e1 : len = 3 := hln.resolve_left (by simp [xLen])
            unfold xCall at hcl
            cases h1 : xCal (xmOwn m) ix with
            | none => simp only [h1] at hcl; cases hcl
            | some q =>
              obtain ⟨k, j, po⟩ := q
              simp only [h1] at hcl
              split at hcl
              · rename_i hk
                subst hk
                split at hcl
                · rename_i hca
                  cases hcl
                  have hfl := (xArg_inv hca).2.2.2.1
                  subst e1
                  exact x_callI hm hF h1 hca hrm (hmet hfl) hW hS hlen hfr hlo hc1 hz1 hd (kk rfl)
                · cases hcl
              · cases hcl
          case invokevirtual ix =>
            have e1 : len = 3 := hln.resolve_left (by simp [xLen])
            unfold xCall at hcl
            cases h1 : xCal (xmOwn m) ix with
            | none => simp only [h1] at hcl; cases hcl
            | some q =>
              obtain ⟨k, j, po⟩ := q
              simp only [h1] at hcl
              split at hcl
              · rename_i hk
                subst hk
                split at hcl
                · rename_i hca
                  split at hcl
                  · rename_i hko
                    cases hcl
                    have hfl := (xArg_inv hca).2.2.2.1
                    subst e1
                    exact x_callV hm hF h1 hca hko hrm (hmet hfl) hW hS hlen hfr hlo hc1 hz1 hd (kk rfl)
                  · cases hcl
                · cases hcl
              · cases hcl
          all_goals cases hcl
      | none =>
        simp only [hcl] at h
        cases hrt : xRet m ins st with
        | some v =>
          simp only [hrt] at h
          cases h
          have h9 := hret pc ls H locs ins len st hat hrt hW hS
          rw [Nat.sub_self, Nat.sub_self] at h9
          exact h9
        | none =>
          simp only [hrt] at h
          cases hst : xstep m pc ins len xl st σ with
          | none => simp only [hst] at h; cases h
          | some f =>
            obtain ⟨pc', xl', st', σ'⟩ := f
            simp only [hst] at h
            have m1 := xstep_mono hst
            have m2 := xexec_mono n h
            have m1a : xsN σ ≤ xsN σ' := m1.1
            have m1b : xsZ σ ≤ xsZ σ' := m1.2
            have eN : (xsN σ' - xsN σ) + (xsN τ - xsN σ') = xsN τ - xsN σ := by have := m2.1; omega
            have eZ : (xsZ σ' - xsZ σ) + (xsZ τ - xsZ σ') = xsZ τ - xsZ σ := by have := m2.2; omega
            refine x_step hm hF hat hst hW hS hl hlen hfr hlo (by show cells + (xsN σ' - xsN σ) ≤ _; omega) (by show slots + (xsZ σ' - xsZ σ) ≤ _; omega) (fun H' locs' ls' a1 a2 a3 a4 => ?_)
            exact x_run l g n hm h p e R s mid args below meth c H' locs' (cells + (xsN σ' - xsN σ)) (slots + (xsZ σ' - xsZ σ)) Q ls' hF a1 a2 a3 (by rw [a4]; exact hlen) hfr hlo (by rw [Nat.add_assoc, eN]; exact hc) (by rw [Nat.add_assoc, eZ]; exact hz) (fun pc2 ls2 H2 locs2 ins2 len2 st2 b1 b2 b3 b4 => by
              rw [Nat.add_assoc, Nat.add_assoc, eN, eZ]
              exact hret pc2 ls2 H2 locs2 ins2 len2 st2 b1 b2 b3 b4)
end
section
/-! THE OLD WORLD AT THE LAW'S ENTRY -/
abbrev xFl : List Cond := flatC (Jvm.Cond.and given_1 narrow_1)
def xTbP : List Nat := [0, 5, 17, 37, 91]
def xExP : List Nat := [222, 232, 243, 253, 264, 279, 293, 308, 326, 345, 364, 381, 400, 421, 443, 465, 489]
def xNeP : List (List Nat) := [[], [242], [251, 252], [261, 262, 263], [275, 276, 277, 278], [288, 289, 290, 291, 292], [302, 303, 304, 305, 306, 307], [319, 320, 321, 322, 323, 324, 325], [337, 338, 339, 340, 341, 342, 343, 344], [355, 356, 357, 358, 359, 360, 361, 362, 363], [371, 372, 373, 374, 375, 376, 377, 378, 379, 380], [389, 390, 391, 392, 393, 394, 395, 396, 397, 398, 399], [409, 410, 411, 412, 413, 414, 415, 416, 417, 418, 419, 420], [430, 431, 432, 433, 434, 435, 436, 437, 438, 439, 440, 441, 442], [451, 452, 453, 454, 455, 456, 457, 458, 459, 460, 461, 462, 463, 464], [474, 475, 476, 477, 478, 479, 480, 481, 482, 483, 484, 485, 486, 487, 488], [498, 499, 500, 501, 502, 503, 504, 505, 506, 507, 508, 509, 510, 511, 512, 513]]
def xLsP : List Nat := [0, 716, 799, 805, 807]
def xNsP : List Nat := [1012, 982, 842, 1171, 905, 936, 1093, 1054, 1261]
def xAoP : List Nat := [389, 393, 324, 171, 173, 175]
set_option maxRecDepth 100000 in
theorem xe_tab : ∀ j, j < 5 → 1 ≤ j → xFl[xTbP.getD j 0]? = some (Cond.arrayOf (.static "ThreePhases$Reader" (xTabN.getD j "") "[I") .int) ∧ xFl[xTbP.getD j 0 + 1]? = some (Cond.eq (.length (.static "ThreePhases$Reader" (xTabN.getD j "") "[I")) (.int (Int32.ofNat (xTab.getD j []).length))) ∧ ∀ i, i < (xTab.getD j []).length → xFl[xTbP.getD j 0 + 2 + i]? = some (Cond.eq (.elem (.static "ThreePhases$Reader" (xTabN.getD j "") "[I") (.int (Int32.ofNat i))) (.int ((xTab.getD j []).getD i 0))) := by decide +kernel
set_option maxRecDepth 100000 in
theorem xe_ls : ∀ j, j < 5 → 1 ≤ j → lw_tbl[xLsP.getD j 0]? = some (Cond.laysStatic "ThreePhases$Reader" (xTabN.getD j "") "[I") := by decide +kernel
def xTm (i : Nat) : Term := .string "ThreePhases$Reader" (xTx.getD i (0, "")).1
set_option maxRecDepth 100000 in
theorem xe_str : ∀ i, i < 17 → xFl[xExP.getD i 0]? = some (Cond.exactly (xTm i) "java/lang/String") ∧ xFl[xExP.getD i 0 + 1]? = some (Cond.eq (.field (xTm i) "java/lang/String" "coder" "B") (.int 0)) ∧ xFl[xExP.getD i 0 + 2]? = some (Cond.arrayOf (.field (xTm i) "java/lang/String" "value" "[B") .byte) ∧ xFl[xExP.getD i 0 + 3]? = some (Cond.eq (.length (.field (xTm i) "java/lang/String" "value" "[B")) (.int (Int32.ofNat (xTl.getD i 0)))) ∧ ∀ j, j < xTl.getD i 0 → xFl[xExP.getD i 0 + 4 + j]? = some (Cond.eq (.elem (.field (xTm i) "java/lang/String" "value" "[B") (.int (Int32.ofNat j))) (.int ((xTb.getD i []).getD j 0))) := by decide +kernel
set_option maxRecDepth 100000 in
theorem xe_ne : ∀ j, j < 17 → ∀ i, i < j → xFl[(xNeP.getD j []).getD i 0]? = some (Cond.not (Cond.eq (xTm i) (xTm j))) := by decide +kernel
set_option maxRecDepth 100000 in
theorem xe_ref : ∀ i, i < 17 → lw_tbl[720 + i]? = some (Cond.stringRef "ThreePhases$Reader" (xTx.getD i (0, "")).1 (xTx.getD i (0, "")).2) := by decide +kernel
set_option maxRecDepth 100000 in
theorem xe_one : xFl[11]? = some (Cond.eq (.static "java/lang/String" "COMPACT_STRINGS" "Z") (.int 1)) ∧ xFl[12]? = some (Cond.isRef (.static "jdk/internal/util/Preconditions" "SIOOBE_FORMATTER" "Ljava/util/function/BiFunction;")) ∧ lw_tbl[750]? = some (Cond.laysStatic "java/lang/String" "COMPACT_STRINGS" "Z") ∧ lw_tbl[766]? = some (Cond.laysStatic "jdk/internal/util/Preconditions" "SIOOBE_FORMATTER" "Ljava/util/function/BiFunction;") ∧ lw_tbl[140]? = some (Cond.initialized "ThreePhases$Reader") ∧ lw_tbl[151]? = some (Cond.initialized "java/lang/String") ∧ lw_tbl[153]? = some (Cond.initialized "jdk/internal/util/Preconditions") := by decide +kernel
set_option maxRecDepth 100000 in
theorem xe_nest : ∀ k, k < 9 → lw_tbl[xNsP.getD k 0]? = (xNest[k]?).map fun e => Cond.methodLinkNest (xR e.1) e.2.1 e.2.2 "ThreePhases" := by decide +kernel
set_option maxRecDepth 100000 in
theorem xe_ao : ∀ k, k < 6 → lw_tbl[xAoP.getD k 0]? = (xAos[k]?).map fun C => Cond.arrayOver (.object C) := by decide +kernel
set_option maxRecDepth 100000 in
theorem xe_aoa : lw_tbl[182]? = some (Cond.arrayOver (.array .int)) := by decide +kernel
end
section
def xTyK (k : Nat) : FieldType := match k with
  | 20 => .int
  | 21 => .byte
  | 22 => .boolean
  | 23 => .object "ThreePhases$Merged"
  | 24 => .object "ThreePhases$Member"
  | 25 => .object "ThreePhases$Told"
  | 26 => .object "ThreePhases$Council"
  | 27 => .object "ThreePhases$Run"
  | 28 => .object "ThreePhases$Replies"
  | _ => .array .int
theorem x_arrP {args : Array Value} {s : State} {ty : FieldType} (hra : ∀ cA, va_RA s cA ty = (s.vm.findClass ("[" ++ ty.toString) = some cA)) (h : (Cond.arrayClass ty).before args s = true) : ∃ cA, ArrOfT s cA ty ∧ va_RA s cA ty := by
  obtain ⟨cA, kA, comp, h1, h2, h3⟩ := Cond.arrayClass_spec h
  refine ⟨cA, fun n z => ⟨fun k h => (by cases h), kA, h2, comp, h3⟩, ?_⟩
  rw [hra]
  exact h1
theorem x_arrO {s : State} {C : String} (h : va_AO C s) : ∃ cA, ArrOfT s cA (.object C) ∧ va_RA s cA (.object C) := by
  obtain ⟨comp, c, k, h1, h2, h3, h4, h5⟩ := Cond.arrayOver_spec h
  exact ⟨c, fun n z => ⟨fun k h => (by cases h), k, h3, comp, h4⟩, k, comp, h3, h4, h1, h5⟩
theorem x_arrA {s : State} (h : xAOA s) : ∃ cA, ArrOfT s cA (.array .int) ∧ va_RA s cA (.array .int) := by
  obtain ⟨comp, c, k, h1, h2, h3, h4, h5⟩ := h.spec
  exact ⟨c, fun n z => ⟨fun k h => (by cases h), k, h3, comp, h4⟩, h5⟩
theorem x_env {s : State} {b L : Nat} {xs : Nat → Int32} (hts : ∀ w ∈ lw_tbl, w.before #[Value.ref b] s = true) (hX : va_X b L xs s s.heap) (hbl : b < s.heap.size) (hgv : (Jvm.Cond.and given_1 narrow_1).before #[Value.ref b] s = true) : ∃ g : XG, xOw g s ∧ xgB g = s.heap.size ∧ xgO g 0 = b ∧ xgL g = L ∧ xgX g = xs := by
  have hfl := flat_of_before _ hgv
  have hF : ∀ {i : Nat} {w : Cond}, xFl[i]? = some w → w.before #[Value.ref b] s = true := fun h => hfl _ (List.mem_of_getElem? h)
  have hT : ∀ {i : Nat} {w : Cond}, lw_tbl[i]? = some w → w.before #[Value.ref b] s = true := fun h => hts _ (List.mem_of_getElem? h)
  have hxw : ∀ w ∈ xw, w.before #[Value.ref b] s = true := fun w h => hts w (xw_good w h).1
  have hA : ∀ a : Nat, a < s.heap.size → ¬ (fun q : Nat => s.heap.size ≤ q) a := fun a h z => Nat.not_le.mpr h z
  -- classes
  have hcl : ∀ ci : Nat, ∃ q : ClassId × (Nat → Nat), ci < 13 → u_Kn s (xR ci) (xT ci) (xNf ci) q.1 q.2 := fun ci => by
    by_cases h : ci < 13
    · obtain ⟨cC, iS, hk⟩ := u_known (N := xNf ci) hxw (xin h) (hT (xNew_ok ci h).1)
      exact ⟨(cC, iS), fun _ => hk⟩
    · exact ⟨(0, fun _ => 0), fun z => absurd z h⟩
  obtain ⟨dq, hdq⟩ := Classical.axiomOfChoice hcl
  -- words on arrays
  have hao : ∀ C ∈ xAos, va_AO C s := fun C hC => by
    obtain ⟨k, hk⟩ := List.getElem?_of_mem hC
    have hk6 : k < 6 := (List.getElem?_eq_some_iff.mp hk).1
    have h9 := xe_ao k hk6
    rw [hk] at h9
    exact va_AO.of (hT h9)
  have haoa : xAOA s := hT xe_aoa
  have har : ∀ k : Nat, ∃ cA : ClassId, 20 ≤ k → k ≤ 29 → ArrOfT s cA (xTyK k) ∧ va_RA s cA (xTyK k) := fun k => by
    by_cases h : 20 ≤ k ∧ k ≤ 29
    · have hk : k = 20 ∨ k = 21 ∨ k = 22 ∨ k = 23 ∨ k = 24 ∨ k = 25 ∨ k = 26 ∨ k = 27 ∨ k = 28 ∨ k = 29 := by omega
      have key : ∃ cA, ArrOfT s cA (xTyK k) ∧ va_RA s cA (xTyK k) := by
        rcases hk with h | h | h | h | h | h | h | h | h | h
        · subst h; exact x_arrP (fun _ => rfl) (hxw _ xArr_ok.1)
        · subst h; exact x_arrP (fun _ => rfl) (hxw _ xArr_ok.2.1)
        · subst h; exact x_arrP (fun _ => rfl) (hxw _ xArr_ok.2.2)
        · subst h; exact x_arrO (hao _ (by decide +kernel))
        · subst h; exact x_arrO (hao _ (by decide +kernel))
        · subst h; exact x_arrO (hao _ (by decide +kernel))
        · subst h; exact x_arrO (hao _ (by decide +kernel))
        · subst h; exact x_arrO (hao _ (by decide +kernel))
        · subst h; exact x_arrO (hao _ (by decide +kernel))
        · subst h; exact x_arrA haoa
      obtain ⟨cA, h9⟩ := key
      exact ⟨cA, fun _ _ => h9⟩
    · exact ⟨0, fun h1 h2 => absurd ⟨h1, h2⟩ h⟩
  obtain ⟨cA, hcA⟩ := Classical.axiomOfChoice har
  -- the reader's tables
  have htb : ∀ j : Nat, ∃ t : Nat, 1 ≤ j → j ≤ 4 → va_T .int t (xTab.getD j []).length (fun i => .int ((xTab.getD j []).getD i 0)) (fun q : Nat => s.heap.size ≤ q) s s.heap ∧ va_Z "ThreePhases$Reader" (xTabN.getD j "") "[I" (.ref t) (fun q : Nat => s.heap.size ≤ q) s s.heap := fun j => by
    by_cases h : 1 ≤ j ∧ j ≤ 4
    · obtain ⟨w1, w2, w3⟩ := xe_tab j (by omega) h.1
      have hlen : (xTab.getD j []).length < 2 ^ 31 := by
        have : j = 1 ∨ j = 2 ∨ j = 3 ∨ j = 4 := by omega
        rcases this with h | h | h | h <;> (subst h; decide +kernel)
      obtain ⟨t, ht, hT9⟩ := va_Tof (f := fun i => .int ((xTab.getD j []).getD i 0)) (A := fun q : Nat => s.heap.size ≤ q) hlen (hF w1) (va_eqt (hF w2)) (fun i hi => va_eqt (hF (w3 i hi))) hA
      exact ⟨t, fun _ _ => ⟨hT9, va_Zref (hT (xe_ls j (by omega) h.1)) (hT xe_one.2.2.2.2.1) ht hA⟩⟩
    · exact ⟨0, fun h1 h2 => absurd ⟨h1, h2⟩ h⟩
  obtain ⟨tj, htj⟩ := Classical.axiomOfChoice htb
  -- the formatter
  have hfm : ∃ v : Value, va_Z "jdk/internal/util/Preconditions" "SIOOBE_FORMATTER" "Ljava/util/function/BiFunction;" v (fun q : Nat => s.heap.size ≤ q) s s.heap ∧ (v = .null ∨ ∃ t, v = .ref t) := by
    rcases va_Zqof (A := fun q : Nat => s.heap.size ≤ q) (hT xe_one.2.2.2.1) (hT xe_one.2.2.2.2.2.2) (hF xe_one.2.1) hA with h | ⟨t, h⟩
    · exact ⟨_, h, Or.inl rfl⟩
    · exact ⟨_, h, Or.inr ⟨t, rfl⟩⟩
  obtain ⟨vF, hvF, hvF2⟩ := hfm
  -- the texts
  obtain ⟨adK, adV, hK, hev⟩ := vk_Sof (N := 17) (tm := xTm) (len := xTl) (byt := xTb) (A := fun q : Nat => s.heap.size ≤ q) (by decide +kernel) (fun i hi => hF (xe_str i hi).1) (fun i hi => hF (xe_str i hi).2.1) (fun i hi => hF (xe_str i hi).2.2.1) (fun i hi => hF (xe_str i hi).2.2.2.1) (fun i hi j hj => hF ((xe_str i hi).2.2.2.2 j hj)) (fun i j hi hj hne => by
    rcases Nat.lt_or_ge i j with q | q
    · exact Or.inl (hF (xe_ne j hj i q))
    · exact Or.inr (hF (xe_ne i hi j (by omega)))) hA
  obtain ⟨O, hO⟩ : ∃ O : Nat → Nat, O = fun j => if j = 0 then b else if j < 5 then tj j else if j < 30 then adK (j - 10) else adV (j - 30) := ⟨_, rfl⟩
  have o0 : O 0 = b := by rw [hO]; rfl
  have o1 : ∀ j, 1 ≤ j → j ≤ 4 → O j = tj j := fun j h1 h2 => by rw [hO]; show (if j = 0 then b else _) = _; rw [if_neg (by omega), if_pos (by omega)]
  have o2 : ∀ i, i < 17 → O (10 + i) = adK i := fun i h => by rw [hO]; show (if 10 + i = 0 then b else _) = _; rw [if_neg (by omega), if_neg (by omega), if_pos (by omega), Nat.add_sub_cancel_left]
  have o3 : ∀ i, i < 17 → O (30 + i) = adV i := fun i h => by rw [hO]; show (if 30 + i = 0 then b else _) = _; rw [if_neg (by omega), if_neg (by omega), if_neg (by omega), Nat.add_sub_cancel_left]
  refine ⟨(s.heap.size, ((fun ci => (dq ci).1), (fun ci => (dq ci).2)), cA, O, (L, xs), vF), ⟨⟨fun ci q hq => ?_, fun k q hq => ?_⟩, by show va_X (O 0) L xs s s.heap; rw [o0]; exact hX, by show O 0 < _; rw [o0]; exact hbl, fun j h1 h2 => by
    show va_T .int (O j) _ _ _ s s.heap ∧ va_Z _ _ _ (.ref (O j)) _ s s.heap
    rw [o1 j h1 h2]
    exact htj j h1 h2, va_Zof (hT xe_one.2.2.1) (hT xe_one.2.2.2.2.2.1) (va_eqi (hF xe_one.1)) hA, hvF, hvF2, ⟨fun i hi => ?_, fun i j hi hj e => hK.2 i j hi hj ?_⟩, fun i hi => ?_, fun e he => ?_, hao, haoa, hxw _ xArr_ok.1⟩, rfl, o0, rfl, rfl⟩
  · have h13 : ci < 13 := (List.getElem?_eq_some_iff.mp hq).1
    rw [xCl_get ci h13] at hq
    cases hq
    exact hdq ci h13
  · have h10 : k < 10 := (List.getElem?_eq_some_iff.mp hq).1
    have hk : k = 0 ∨ k = 1 ∨ k = 2 ∨ k = 3 ∨ k = 4 ∨ k = 5 ∨ k = 6 ∨ k = 7 ∨ k = 8 ∨ k = 9 := by omega
    rcases hk with h | h | h | h | h | h | h | h | h | h
    · subst h; cases hq; exact hcA 20 (by decide) (by decide)
    · subst h; cases hq; exact hcA 21 (by decide) (by decide)
    · subst h; cases hq; exact hcA 22 (by decide) (by decide)
    · subst h; cases hq; exact hcA 23 (by decide) (by decide)
    · subst h; cases hq; exact hcA 24 (by decide) (by decide)
    · subst h; cases hq; exact hcA 25 (by decide) (by decide)
    · subst h; cases hq; exact hcA 26 (by decide) (by decide)
    · subst h; cases hq; exact hcA 27 (by decide) (by decide)
    · subst h; cases hq; exact hcA 28 (by decide) (by decide)
    · subst h; cases hq; exact hcA 29 (by decide) (by decide)
  · have h9 := hK.1 i hi
    rw [← o2 i hi, ← o3 i hi] at h9
    exact h9
  · have e : O (10 + i) = O (10 + j) := e
    rw [o2 i hi, o2 j hj] at e
    exact e
  · have h9 := hev i hi
    rw [← o2 i hi] at h9
    exact vk_R.of (hT (xe_ref i hi)) h9
  · obtain ⟨k, hk⟩ := List.getElem?_of_mem he
    have hk9 : k < 9 := (List.getElem?_eq_some_iff.mp hk).1
    have h9 := xe_nest k hk9
    rw [hk] at h9
    exact va_Nw.of rfl (hT h9)
end
section
/-! THE CELLS THAT THE TWO CONSTRUCTORS LAY (printed by wip/whole/gen5.py; checked below by the kernel) -/
def xLS_0 : List (Nat × Nat) := [(11, 0), (10, 0), (21, 600), (20, 3), (26, 2), (27, 2), (28, 2), (1, 0), (20, 8), (20, 10), (20, 10), (29, 7), (20, 7), (20, 7), (20, 7), (20, 7), (20, 7), (20, 7), (20, 7), (6, 0), (20, 40), (20, 40), (20, 40), (20, 40), (5, 0), (20, 12), (20, 12), (20, 12), (1, 0), (20, 8), (20, 10), (20, 10), (29, 7), (20, 7), (20, 7), (20, 7), (20, 7), (20, 7), (20, 7), (20, 7), (6, 0), (20, 40), (20, 40), (20, 40), (20, 40), (5, 0), (20, 12), (20, 12), (20, 12), (25, 3), (20, 3), (4, 0), (1, 0), (20, 8), (20, 10), (20, 10), (29, 7), (20, 7), (20, 7), (20, 7)]
def xLS_1 : List (Nat × Nat) := [(20, 7), (20, 7), (20, 7), (20, 7), (6, 0), (20, 40), (20, 40), (20, 40), (20, 40), (5, 0), (20, 12), (20, 12), (20, 12), (21, 600), (20, 3), (0, 0), (23, 10), (1, 0), (20, 8), (20, 10), (20, 10), (29, 7), (20, 7), (20, 7), (20, 7), (20, 7), (20, 7), (20, 7), (20, 7), (24, 7), (7, 0), (20, 16), (20, 16), (2, 0), (20, 8), (20, 8), (20, 13), (20, 13), (20, 13), (20, 13), (20, 13), (20, 13), (20, 7), (20, 7), (2, 0), (20, 8), (20, 8), (20, 13), (20, 13), (20, 13), (20, 13), (20, 13), (20, 13), (20, 7), (20, 7), (2, 0), (20, 8), (20, 8), (20, 13), (20, 13)]
def xLS_2 : List (Nat × Nat) := [(20, 13), (20, 13), (20, 13), (20, 13), (20, 7), (20, 7), (2, 0), (20, 8), (20, 8), (20, 13), (20, 13), (20, 13), (20, 13), (20, 13), (20, 13), (20, 7), (20, 7), (2, 0), (20, 8), (20, 8), (20, 13), (20, 13), (20, 13), (20, 13), (20, 13), (20, 13), (20, 7), (20, 7), (2, 0), (20, 8), (20, 8), (20, 13), (20, 13), (20, 13), (20, 13), (20, 13), (20, 13), (20, 7), (20, 7), (2, 0), (20, 8), (20, 8), (20, 13), (20, 13), (20, 13), (20, 13), (20, 13), (20, 13), (20, 7), (20, 7), (3, 0), (20, 13), (20, 13), (3, 0), (20, 13), (20, 13), (3, 0), (20, 13), (20, 13), (3, 0)]
def xLS_3 : List (Nat × Nat) := [(20, 13), (20, 13), (3, 0), (20, 13), (20, 13), (3, 0), (20, 13), (20, 13), (3, 0), (20, 13), (20, 13), (3, 0), (20, 13), (20, 13), (3, 0), (20, 13), (20, 13), (3, 0), (20, 13), (20, 13), (9, 0), (29, 7), (20, 11), (20, 11), (20, 11), (20, 11), (20, 11), (20, 11), (20, 11), (29, 7), (20, 11), (20, 11), (20, 11), (20, 11), (20, 11), (20, 11), (20, 11), (29, 7), (20, 11), (20, 11), (20, 11), (20, 11), (20, 11), (20, 11), (20, 11), (29, 7), (20, 11), (20, 11), (20, 11), (20, 11), (20, 11), (20, 11), (20, 11), (20, 7), (1, 0), (20, 8), (20, 10), (20, 10), (29, 7), (20, 7)]
def xLS_4 : List (Nat × Nat) := [(20, 7), (20, 7), (20, 7), (20, 7), (20, 7), (20, 7), (8, 0), (20, 7), (20, 7), (7, 0), (20, 16), (20, 16), (3, 0), (20, 13), (20, 13), (20, 8), (10, 0), (21, 600), (20, 3), (26, 2), (27, 2), (28, 2), (1, 0), (20, 8), (20, 10), (20, 10), (29, 7), (20, 7), (20, 7), (20, 7), (20, 7), (20, 7), (20, 7), (20, 7), (6, 0), (20, 40), (20, 40), (20, 40), (20, 40), (5, 0), (20, 12), (20, 12), (20, 12), (1, 0), (20, 8), (20, 10), (20, 10), (29, 7), (20, 7), (20, 7), (20, 7), (20, 7), (20, 7), (20, 7), (20, 7), (6, 0), (20, 40), (20, 40), (20, 40), (20, 40)]
def xLS_5 : List (Nat × Nat) := [(5, 0), (20, 12), (20, 12), (20, 12), (10, 0), (21, 600), (20, 3), (26, 2), (27, 2), (28, 2), (1, 0), (20, 8), (20, 10), (20, 10), (29, 7), (20, 7), (20, 7), (20, 7), (20, 7), (20, 7), (20, 7), (20, 7), (6, 0), (20, 40), (20, 40), (20, 40), (20, 40), (5, 0), (20, 12), (20, 12), (20, 12), (1, 0), (20, 8), (20, 10), (20, 10), (29, 7), (20, 7), (20, 7), (20, 7), (20, 7), (20, 7), (20, 7), (20, 7), (6, 0), (20, 40), (20, 40), (20, 40), (20, 40), (5, 0), (20, 12), (20, 12), (20, 12), (10, 0), (21, 600), (20, 3), (26, 2), (27, 2), (28, 2), (1, 0), (20, 8)]
def xLS_6 : List (Nat × Nat) := [(20, 10), (20, 10), (29, 7), (20, 7), (20, 7), (20, 7), (20, 7), (20, 7), (20, 7), (20, 7), (6, 0), (20, 40), (20, 40), (20, 40), (20, 40), (5, 0), (20, 12), (20, 12), (20, 12), (1, 0), (20, 8), (20, 10), (20, 10), (29, 7), (20, 7), (20, 7), (20, 7), (20, 7), (20, 7), (20, 7), (20, 7), (6, 0), (20, 40), (20, 40), (20, 40), (20, 40), (5, 0), (20, 12), (20, 12), (20, 12), (12, 0), (20, 4680), (22, 3), (20, 161), (20, 16), (20, 16), (20, 7), (22, 7), (20, 7), (20, 7), (20, 7), (20, 7), (20, 56), (20, 56), (20, 91), (20, 91), (20, 91), (20, 91), (20, 91), (20, 91)]
def xLS_7 : List (Nat × Nat) := [(20, 49), (20, 49), (22, 10), (20, 10), (20, 10), (20, 130), (20, 13), (20, 91), (20, 91), (20, 91), (20, 91), (20, 7), (20, 8), (20, 7), (20, 7)]
def xLS : List (Nat × Nat) := xLS_0 ++ (xLS_1 ++ (xLS_2 ++ (xLS_3 ++ (xLS_4 ++ (xLS_5 ++ (xLS_6 ++ (xLS_7)))))))
def xLR_0 : List (List Nat) := [[1, 49, 50, 51, 75, 200, 246, 249, 252, 255], [2, 0, 0, 0, 3, 4, 5, 6], [], [], [7, 28], [19, 40], [24, 45], [0, 0, 0, 0, 0, 8, 9, 10, 11], [], [], [], [12, 13, 14, 15, 16, 17, 18], [], [], [], [], [], [], [], [0, 20, 21, 22, 23], [], [], [], [], [0, 25, 26, 27], [], [], [], [0, 0, 0, 0, 0, 29, 30, 31, 32], [], [], [], [33, 34, 35, 36, 37, 38, 39], [], [], [], [], [], [], [], [0, 41, 42, 43, 44], [], [], [], [], [0, 46, 47, 48], [], [], [], [256, 304, 352], [], [52, 64, 69, 0, 0, 73, 0, 0, 0, 0, 0, 0, 74], [0, 0, 0, 0, 0, 53, 54, 55, 56], [], [], [], [57, 58, 59, 60, 61, 62, 63], [], [], []]
def xLR_1 : List (List Nat) := [[], [], [], [], [0, 65, 66, 67, 68], [], [], [], [], [0, 70, 71, 72], [], [], [], [], [], [76, 77, 89, 90, 0, 0, 0], [170, 173, 176, 179, 182, 185, 188, 191, 194, 197], [0, 0, 0, 0, 0, 78, 79, 80, 81], [], [], [], [82, 83, 84, 85, 86, 87, 88], [], [], [], [], [], [], [], [93, 104, 115, 126, 137, 148, 159], [91, 92, 0, 0], [], [], [0, 0, 0, 0, 0, 0, 0, 0, 94, 95, 96, 97, 98, 99, 100, 101, 102, 103], [], [], [], [], [], [], [], [], [], [], [0, 0, 0, 0, 0, 0, 0, 0, 105, 106, 107, 108, 109, 110, 111, 112, 113, 114], [], [], [], [], [], [], [], [], [], [], [0, 0, 0, 0, 0, 0, 0, 0, 116, 117, 118, 119, 120, 121, 122, 123, 124, 125], [], [], [], []]
def xLR_2 : List (List Nat) := [[], [], [], [], [], [], [0, 0, 0, 0, 0, 0, 0, 0, 127, 128, 129, 130, 131, 132, 133, 134, 135, 136], [], [], [], [], [], [], [], [], [], [], [0, 0, 0, 0, 0, 0, 0, 0, 138, 139, 140, 141, 142, 143, 144, 145, 146, 147], [], [], [], [], [], [], [], [], [], [], [0, 0, 0, 0, 0, 0, 0, 0, 149, 150, 151, 152, 153, 154, 155, 156, 157, 158], [], [], [], [], [], [], [], [], [], [], [0, 0, 0, 0, 0, 0, 0, 0, 160, 161, 162, 163, 164, 165, 166, 167, 168, 169], [], [], [], [], [], [], [], [], [], [], [0, 0, 0, 171, 172], [], [], [0, 0, 0, 174, 175], [], [], [0, 0, 0, 177, 178], [], [], [0, 0, 0, 180, 181]]
def xLR_3 : List (List Nat) := [[], [], [0, 0, 0, 183, 184], [], [], [0, 0, 0, 186, 187], [], [], [0, 0, 0, 189, 190], [], [], [0, 0, 0, 192, 193], [], [], [0, 0, 0, 195, 196], [], [], [0, 0, 0, 198, 199], [], [], [201, 0, 0, 209, 217, 225, 233, 234], [202, 203, 204, 205, 206, 207, 208], [], [], [], [], [], [], [], [210, 211, 212, 213, 214, 215, 216], [], [], [], [], [], [], [], [218, 219, 220, 221, 222, 223, 224], [], [], [], [], [], [], [], [226, 227, 228, 229, 230, 231, 232], [], [], [], [], [], [], [], [], [0, 0, 0, 0, 0, 235, 236, 237, 238], [], [], [], [239, 240, 241, 242, 243, 244, 245], []]
def xLR_4 : List (List Nat) := [[], [], [], [], [], [], [0, 0, 0, 0, 0, 0, 247, 248], [], [], [250, 251, 0, 0], [], [], [0, 0, 0, 253, 254], [], [], [], [257, 0, 0, 0, 258, 259, 260, 261], [], [], [262, 283], [274, 295], [279, 300], [0, 0, 0, 0, 0, 263, 264, 265, 266], [], [], [], [267, 268, 269, 270, 271, 272, 273], [], [], [], [], [], [], [], [0, 275, 276, 277, 278], [], [], [], [], [0, 280, 281, 282], [], [], [], [0, 0, 0, 0, 0, 284, 285, 286, 287], [], [], [], [288, 289, 290, 291, 292, 293, 294], [], [], [], [], [], [], [], [0, 296, 297, 298, 299], [], [], [], []]
def xLR_5 : List (List Nat) := [[0, 301, 302, 303], [], [], [], [305, 0, 0, 0, 306, 307, 308, 309], [], [], [310, 331], [322, 343], [327, 348], [0, 0, 0, 0, 0, 311, 312, 313, 314], [], [], [], [315, 316, 317, 318, 319, 320, 321], [], [], [], [], [], [], [], [0, 323, 324, 325, 326], [], [], [], [], [0, 328, 329, 330], [], [], [], [0, 0, 0, 0, 0, 332, 333, 334, 335], [], [], [], [336, 337, 338, 339, 340, 341, 342], [], [], [], [], [], [], [], [0, 344, 345, 346, 347], [], [], [], [], [0, 349, 350, 351], [], [], [], [353, 0, 0, 0, 354, 355, 356, 357], [], [], [358, 379], [370, 391], [375, 396], [0, 0, 0, 0, 0, 359, 360, 361, 362], []]
def xLR_6 : List (List Nat) := [[], [], [363, 364, 365, 366, 367, 368, 369], [], [], [], [], [], [], [], [0, 371, 372, 373, 374], [], [], [], [], [0, 376, 377, 378], [], [], [], [0, 0, 0, 0, 0, 380, 381, 382, 383], [], [], [], [384, 385, 386, 387, 388, 389, 390], [], [], [], [], [], [], [], [0, 392, 393, 394, 395], [], [], [], [], [0, 397, 398, 399], [], [], [], [401, 402, 0, 0, 0, 0, 0, 0, 0, 0, 403, 0, 0, 0, 0, 0, 0, 0, 0, 404, 405, 0, 0, 406, 407, 408, 409, 410, 411, 412, 413, 414, 415, 416, 417, 418, 419, 420, 421, 422, 423, 424, 425, 0, 0, 0, 426, 0, 427, 428, 429, 430, 431, 0, 0, 432, 0, 433, 434, 0, 0], [], [], [], [], [], [], [], [], [], [], [], [], [], [], [], [], [], [], []]
def xLR_7 : List (List Nat) := [[], [], [], [], [], [], [], [], [], [], [], [], [], [], []]
def xLR : List (List Nat) := xLR_0 ++ (xLR_1 ++ (xLR_2 ++ (xLR_3 ++ (xLR_4 ++ (xLR_5 ++ (xLR_6 ++ (xLR_7)))))))
def xS0 (L a : Nat) : Nat × Nat := if a < 435 then xLS.getD a (99, 0) else xoS L a
def xR0 (a k : Nat) : Option Nat := (xLR.getD a [])[k]?
/-- nothing made yet, no old cell seen -/
def xNil : XS := ((0, 0), fun _ => (99, 0), fun _ _ => 0, fun _ _ => none)
def xC1 : Option (Option Value × XS) := xexec 4000 xm_TP_new 0 (xIni [.ref 0] (xmL xm_TP_new)) [] (xNew xNil 11 0 10)
def xσ1 : XS := (xC1.getD (none, xNil)).2
def xC2 : Option (Option Value × XS) := xexec 4000 xm_Mo_new 0 (xIni [.ref 400] (xmL xm_Mo_new)) [] (xNew xσ1 12 0 61)
def xσ2 : XS := (xC2.getD (none, xNil)).2
set_option maxRecDepth 100000 in
theorem xC1_ok : (xC1.map fun q => (q.1, q.2.1)) = some (none, (400, 7668)) := by decide +kernel
set_option maxRecDepth 100000 in
theorem xC2_ok : (xC2.map fun q => (q.1, q.2.1)) = some (none, (435, 13969)) := by decide +kernel
end
section
set_option maxRecDepth 100000 in
theorem xσ2_S : ∀ a, a < 435 → xσ2.2.1 a = xLS.getD a (99, 0) := by decide +kernel
def xBd (a : Nat) : Nat := if (xLS.getD a (99, 0)).1 ≤ 12 then xNf (xLS.getD a (99, 0)).1 else if 23 ≤ (xLS.getD a (99, 0)).1 then (xLS.getD a (99, 0)).2 else 0
set_option maxRecDepth 100000 in
theorem xσ2_R : ∀ a, a < 435 → ∀ k, k < xBd a → ((xLS.getD a (99, 0)).1 ≤ 12 → xFk (xLS.getD a (99, 0)).1 k = 2) → xσ2.2.2.2 a k = xR0 a k := by decide +kernel
set_option maxRecDepth 100000 in
theorem xσ2_I : xσ2.2.2.1 1 1 = 0 ∧ xσ2.2.2.1 1 2 = 0 ∧ xσ2.2.2.1 1 3 = -1 ∧ (∀ k, k < 3 → xσ2.2.2.1 3 k = 0) ∧ (∀ k, k < 3 → xσ2.2.2.1 50 k = 0) ∧ (∀ k, k < 10 → xσ2.2.2.1 401 k = if k = 6 then -1 else 0) ∧ (∀ k, k < 3 → xσ2.2.2.1 402 k = 0) := by decide +kernel
end
section
/-! THE LAW, OUT OF THE INTERPRETER'S RUN OF ITS LOOP -/
theorem x_arrc {c : ClassId} {n : Nat} {f f' : Nat → Value} (h : ∀ j, j < n → f j = f' j) : arrV c n f = arrV c n f' := by
  unfold arrV
  congr 1
  apply Array.ext
  · simp
  · intro j h1 h2
    simp only [Array.getElem_ofFn]
    exact h j (by simpa using h1)
/-- the numbers stay; what the cells are and whom they name may be told otherwise where nobody looks; old cells come into sight -/
theorem xWd.ghost {g : XG} {σ σ' : XS} {H : Heap} (h : xWd g σ H) (h1 : σ'.1 = σ.1) (hS : ∀ a, a < xsN σ → xsS σ' a = xsS σ a) (hI : ∀ a, a < xsN σ → xsI σ' a = xsI σ a) (hR : ∀ a, a < xsN σ → ∀ k, ((xsS σ a).1 ≤ 12 ∧ k < xNf (xsS σ a).1 ∧ xFk (xsS σ a).1 k = 2) ∨ (23 ≤ (xsS σ a).1 ∧ k < (xsS σ a).2) → xsR σ' a k = xsR σ a k) (hO : ∀ a, xsN σ ≤ a → xsS σ' a = xoS (xgL g) a) (hOI : ∀ a, 1000000 ≤ a → xsI σ' a = xoI (xgX g) a) : xWd g σ' H := by
  obtain ⟨g1, g2, g3, g4, g5, g6, g7⟩ := h
  have eN : xsN σ' = xsN σ := congrArg Prod.fst h1
  refine ⟨by rw [eN]; exact g1, by rw [eN]; exact g2, fun k q hk => ?_, fun a ha => Or.inl (hO a (by rw [← eN]; exact ha)), fun a ha _ => hOI a ha, fun a i ha => ?_, fun a ha => by rw [hS a (by rw [← eN]; exact ha)]; exact g7 a (by rw [← eN]; exact ha)⟩
  · obtain ⟨z1, rfl⟩ := xWs_inv hk
    rw [eN] at z1
    have e0 := g3 k _ (xWs_get z1)
    rcases g7 k z1 with q | ⟨q1, q2⟩
    · rw [xEnt_o q] at e0
      rw [xEnt_o (by rw [hS k z1]; exact q), hS k z1]
      have e : ((List.range (xNf (xsS σ k).1)).map fun j => xcv g (xfv σ' (xsS σ k).1 k j)) = ((List.range (xNf (xsS σ k).1)).map fun j => xcv g (xfv σ (xsS σ k).1 k j)) := by
        apply List.map_congr_left
        intro j hj
        congr 1
        unfold xfv
        by_cases hf : xFk (xsS σ k).1 j = 2
        · rw [if_pos hf, if_pos hf, hR k z1 j (Or.inl ⟨q, List.mem_range.mp hj, hf⟩)]
        · rw [if_neg hf, if_neg hf, hI k z1]
      rw [e]
      exact e0
    · by_cases q3 : (xsS σ k).1 ≤ 22
      · rw [xEnt_i (by omega) q3] at e0
        rw [xEnt_i (by rw [hS k z1]; omega) (by rw [hS k z1]; exact q3), hS k z1, hI k z1]
        exact e0
      · rw [xEnt_q (by omega)] at e0
        rw [xEnt_q (by rw [hS k z1]; omega), hS k z1]
        have e0 : H[xgB g + k]? = some (vp_cell _ _) := e0
        show H[_]? = some (vp_cell _ _)
        rw [e0, vp_cell_q, vp_cell_q]
        congr 1
        refine x_arrc fun j hj => ?_
        rw [hR k z1 j (Or.inr ⟨by omega, hj⟩)]
  · rcases Nat.lt_or_ge a (xsN σ) with q | q
    · rw [hS a q] at ha
      rw [hI a q]
      exact g6 a i ha
    · rw [hO a q] at ha
      unfold xoS at ha
      repeat' split at ha
      all_goals (exfalso; simp at ha; try omega)
/-- the state at the head of the law's loop: the interpreter's own -/
def xB (L : Nat) (xs : Nat → Int32) (f : Nat → Nat → Int32) : XS := ((435, 13969), xS0 L, (fun a => if a < 1000000 then f a else xoI xs a), xR0)
section XLAW
variable {p : Program} {l : Launch} {e : Env} {R : Room} {s : State} {mid : MethodId} {args : Array Value} {below : List Frame} {meth : Method} {c : Code} {H : Heap} {locs : List Loc} {Q : State → Prop}
variable {g : XG} {m : XM} {pc len : Nat} {ls : Array Slot} {xl st : List Value} {σ : XS}
theorem x_stepN {ins : Instr} {f : XF} (hat : xmAt m pc = some (ins, len)) (h : xstep m pc ins len xl st σ = some f) (hm : m ∈ xMs) (hF : xFix g m p s mid args meth c) (hW : xWd g σ H) (hS : va_S (xA g) s.heap H locs) (hl : xLr g xl ls) (hlen : ls.size = xmL m) (hfr : xmFr m ≤ R.frames) (hlo : xmLo m ≤ R.locals) (hc : xsN f.2.2.2 ≤ R.cells) (hz : xsZ f.2.2.2 ≤ R.slots)
    (kk : ∀ H' locs' ls', xWd g f.2.2.2 H' → va_S (xA g) s.heap H' locs' → xLr g f.2.1 ls' → ls'.size = xmL m → W p l e R s mid args below meth c H' locs' (xsN f.2.2.2) (xsZ f.2.2.2) Q (F0 mid f.1 ls' (f.2.2.1.map (xcv g)))) : W p l e R s mid args below meth c H locs (xsN σ) (xsZ σ) Q (F0 mid pc ls (st.map (xcv g))) := by
  have m1 := xstep_mono h
  have eN : xsN σ + (xsN f.2.2.2 - xsN σ) = xsN f.2.2.2 := by have := m1.1; omega
  have eZ : xsZ σ + (xsZ f.2.2.2 - xsZ σ) = xsZ f.2.2.2 := by have := m1.2; omega
  refine x_step hm hF hat h hW hS hl hlen hfr hlo (by rw [eN]; exact hc) (by rw [eZ]; exact hz) (fun H' locs' ls' a1 a2 a3 a4 => ?_)
  rw [eN, eZ]
  exact kk H' locs' ls' a1 a2 a3 (by rw [a4]; exact hlen)
theorem x_newN {cm : XM} {ix j po a : Nat} {as rest : List Value} {τ : XS} {r : Option Value} {n : Nat} (hat : xmAt m pc = some (.invokespecial ix, 3)) (h1 : xCal (xmOwn m) ix = some (2, j, po)) (ha : xArg j st = some (cm, .ref a :: as, rest)) (hex : xexec n cm 0 (xIni (.ref a :: as) (xmL cm)) [] σ = some (r, τ)) (hm : m ∈ xMs) (hF : xFix g m p s mid args meth c) (hW : xWd g σ H) (hS : va_S (xA g) s.heap H locs) (hl : xLr g xl ls) (hlen : ls.size = xmL m) (hfr : xmFr m ≤ R.frames) (hlo : xmLo m ≤ R.locals) (hc : xsN τ ≤ R.cells) (hz : xsZ τ ≤ R.slots)
    (kk : ∀ H' locs', xWd g τ H' → va_S (xA g) s.heap H' locs' → W p l e R s mid args below meth c H' locs' (xsN τ) (xsZ τ) Q (F0 mid (pc + 3) ls ((r.map (xcv g)).toList ++ rest.map (xcv g)))) : W p l e R s mid args below meth c H locs (xsN σ) (xsZ σ) Q (F0 mid pc ls (st.map (xcv g))) := by
  have m1 := xexec_mono n hex
  have eN : xsN σ + (xsN τ - xsN σ) = xsN τ := by have := m1.1; omega
  have eZ : xsZ σ + (xsZ τ - xsZ σ) = xsZ τ := by have := m1.2; omega
  obtain ⟨hd, -, hrm⟩ := x_at hm hat
  have hfl := (xArg_inv ha).2.2.2.1
  refine x_callI (τ := τ) (r := r) hm hF h1 ha hrm (fun hcm h13 => x_met hcm h13 hfl (x_run l g n hcm hex)) hW hS hlen hfr hlo (by rw [eN]; exact hc) (by rw [eZ]; exact hz) hd (fun H' locs' a1 a2 => ?_)
  rw [eN, eZ]
  exact kk H' locs' a1 a2
end XLAW
theorem xC1_eq : xC1 = some (none, xσ1) := by
  have h := xC1_ok
  have e : xσ1 = (xC1.getD (none, xNil)).2 := rfl
  rw [e]
  cases hc : xC1 with
  | none => rw [hc] at h; cases h
  | some q =>
    rw [hc] at h
    simp only [Option.map_some, Option.some.injEq, Prod.mk.injEq] at h
    obtain ⟨v, τ⟩ := q
    simp only at h
    rw [h.1]
    rfl
theorem xσ1_1 : xσ1.1 = (400, 7668) := by
  have h := xC1_ok
  rw [xC1_eq] at h
  simp only [Option.map_some, Option.some.injEq, Prod.mk.injEq] at h
  exact h.2
theorem xC2_eq : xC2 = some (none, xσ2) := by
  have h := xC2_ok
  have e : xσ2 = (xC2.getD (none, xNil)).2 := rfl
  rw [e]
  cases hc : xC2 with
  | none => rw [hc] at h; cases h
  | some q =>
    rw [hc] at h
    simp only [Option.map_some, Option.some.injEq, Prod.mk.injEq] at h
    obtain ⟨v, τ⟩ := q
    simp only at h
    rw [h.1]
    rfl
theorem xσ2_1 : xσ2.1 = (435, 13969) := by
  have h := xC2_ok
  rw [xC2_eq] at h
  simp only [Option.map_some, Option.some.injEq, Prod.mk.injEq] at h
  exact h.2
end
section
/-! THE CLAIM OUT OF ONE WALK OF THE LAW'S BODY. Your part is whole_start (and what it stands on); all else here is the same for every law, but numbers. -/
def R_law : String := "ThreePhasesLaw"
def lw_P (b : Addr) (xs : List Int32) (args : Array Value) (s : State) : Prop := args = #[.ref b] ∧ s.IntsAt b xs ∧ xs.length ≤ 3072 ∧ (Jvm.Cond.and given_1 narrow_1).before args s = true
def lw_Q (_ : Array Value) (s : State) (o : Outcome) (t : State) : Prop := o = .returned (some (.int 1)) ∧ Framed s o t [] 600000 7302250
def lw_Z (below : List Frame) (a : Array Value) (s : State) : State → Prop := fun t => ∃ o, t.status = .running ∧ Ended t below o ∧ lw_Q a s o t
/-- the law's own end, with 1 on the stack, nothing written that was there before, its room as the claim has it -/
theorem lw_ret {p : Program} {l : Launch} {e : Env} {s : State} {m : MethodId} {below : List Frame} {meth : Method} {c : Code} {b : Nat} (hx : p.tables.exec = Jvm.exec) (hb : c.code = code) (hr : meth.sig.returnType = ret) (hlocks : meth.locks = false) {pc : Nat} {H : Heap} {ls : Array Slot} (hdg : decode code pc = .ok (.ireturn, 1)) : W p l e room_1 s m #[Value.ref b] below meth c H [] 600000 7302250 (lw_Z below #[Value.ref b] s) (F0 m pc ls [.int 1]) := by
  intro T hT X
  obtain ⟨fs, hret, hrun, hended, hW, hframe⟩ := X.leave (v := some (.int 1)) (hlocks := hlocks) (fun h => by rw [hr] at h; cases h)
  have hmeth' : T.vm.method? m = some meth := X.method'
  refine ⟨T.setFrames fs, ?_, .returned (some (.int 1)), hrun, hended, rfl, ⟨_, rfl⟩, hW, hframe⟩
  jvm_step X.here [X.here.top, hx, hb, hdg, hmeth', hr, ret, narrow_b1]
  (try refine ⟨rfl, ?_⟩); (try refine ⟨rfl, ?_⟩)
  first | (intro acts; rw [hret _ acts rfl rfl rfl]) | rw [hret _ _ rfl rfl rfl]
  exact Steps.refl _
/-- what holds at the law's entry: the machine, the code, the tables' words (any of lw_tbl by 'hts w (by decide +kernel)'), the script of L ints xs at the cell b, what the Statement gives of the start (any of its parts by flat_of_before) -/
def lw_At (p : Program) (s : State) (m : MethodId) (meth : Method) (c : Code) (b L : Nat) (xs : Nat → Int32) : Prop :=
  p.tables.exec = Jvm.exec ∧ c.code = code ∧ meth.sig.returnType = ret ∧ c.maxLocals = 4 ∧ s.vm.findClass R_law = some m.cls ∧ (∀ w ∈ lw_tbl, w.before #[Value.ref b] s = true) ∧ va_X b L xs s s.heap ∧ b < s.heap.size ∧ meth.locks = false ∧ (Jvm.Cond.and given_1 narrow_1).before #[Value.ref b] s = true
/-- what is left: the law's loop, in the interpreter -/
def xPure : Prop := ∀ (L : Nat) (xs : Nat → Int32), L ≤ 3072 → ∃ (n : Nat) (τ : XS), xexec n xm_La_law 18 [.ref 1000000, .ref 0, .ref 400, .int 0] [] (xB L xs xσ2.2.2.1) = some (some (.int 1), τ) ∧ xsN τ ≤ 600000 ∧ xsZ τ ≤ 7302250
set_option maxRecDepth 100000 in
theorem xLa_in : xm_La_law ∈ xMs := List.mem_of_getElem? (i := 313) rfl
theorem x_lawret {p : Program} {l : Launch} {e : Env} {s : State} {m : MethodId} {below : List Frame} {meth : Method} {c : Code} {b : Nat} {g : XG} (hx : p.tables.exec = Jvm.exec) (hb : c.code = code) (hr : meth.sig.returnType = ret) (hlocks : meth.locks = false) {pc len : Nat} {ins : Instr} {st : List Value} {H : Heap} {ls : Array Slot} {locs : List Loc} {cells slots : Nat} (hf : ∀ q ∈ locs, s.heap.size ≤ q.base) (hc : cells ≤ 600000) (hz : slots ≤ 7302250) (hat : xmAt xm_La_law pc = some (ins, len)) (h : xRet xm_La_law ins st = some (some (.int 1))) : W p l e room_1 s m #[Value.ref b] below meth c H locs cells slots (lw_Z below #[Value.ref b] s) (F0 m pc ls (st.map (xcv g))) := by
  obtain ⟨hd, hln, -⟩ := x_at xLa_in hat
  have hret : xmRet xm_La_law = some .boolean := rfl
  cases ins
  case ireturn =>
    have e1 : len = 1 := hln.resolve_left (by simp [xLen])
    subst e1
    unfold xRet at h
    simp only [hret] at h
    split at h
    · rename_i z
      cases z
    · rename_i v z
      split at h
      · cases h
        refine va_forget hf ?_
        refine W.widen (k := 600000) (n := 7302250) hc hz ?_
        exact lw_ret hx hb hr hlocks hd
      · cases h
    · rename_i z
      cases z
    · rename_i z
      cases z
    · cases h
  case return_ =>
    unfold xRet at h
    simp only [hret] at h
    cases h
  case lreturn =>
    unfold xRet at h
    simp only [hret] at h
    cases h
  case areturn =>
    unfold xRet at h
    simp only [hret] at h
    cases h
  all_goals cases h
set_option maxHeartbeats 4000000 in
set_option maxRecDepth 100000 in
theorem x_whole (hpure : xPure) {p : Program} {e : Env} {s : State} {m : MethodId} {below : List Frame} {meth : Method} {c : Code} (l : Launch) {b L : Nat} {xs : Nat → Int32} (hL : L ≤ 3072) (C0 : lw_At p s m meth c b L xs) : W p l e room_1 s m #[Value.ref b] below meth c s.heap [] 0 0 (lw_Z below #[Value.ref b] s) (entryFrame m ([Value.ref b] : List Value).toArray 4) := by
  obtain ⟨hx, hb, hr, hml, hown, hts, hX, hbl, hlocks, hgv⟩ := C0
  obtain ⟨g, hO, hgB, hgO, hgL, hgX⟩ := x_env hts hX hbl hgv
  have hxw : ∀ w ∈ xw, w.before #[Value.ref b] s = true := fun w h => hts w (xw_good w h).1
  have hF : xFix g xm_La_law p s m #[Value.ref b] meth c := ⟨hx, hb, hml, hown, hxw, hO, by rw [hgB]; exact Nat.le_refl _, fun h => absurd h (by decide)⟩
  have hv := hO.2.2.2.2.2.2.1
  have hs0 : va_S (xA g) s.heap s.heap [] := va_S.rf
  have hW0 : xWd g xNil s.heap := by
    refine ⟨by rw [hgB]; rfl, by decide, fun k q hk => ?_, fun a _ => Or.inr rfl, fun a _ h => absurd rfl h, fun a i h => (by cases h), fun a h => absurd h (Nat.not_lt_zero a)⟩
    exact absurd (xWs_inv hk).1 (Nat.not_lt_zero k)
  have eb : xcv g (.ref 1000000) = .ref b := by
    show Value.ref (xAd g 1000000) = _
    rw [← hgO]
    exact congrArg Value.ref (xAd_old (j := 0))
  have hl0 := xLr_ini (as := [.ref 1000000]) (n := 4) hv (by decide)
  have emap : [Value.ref 1000000].map (xcv g) = [Value.ref b] := by rw [List.map_cons, eb]; rfl
  rw [emap] at hl0
  rw [lg_entry_eq]
  generalize (lg_sl [Value.ref b] ++ List.replicate (4 - (lg_sl [Value.ref b]).length) Slot.unset).toArray = ls at hl0 ⊢
  have hln0 : ls.size = xmL xm_La_law := hl0.1
  have hfr : xmFr xm_La_law ≤ room_1.frames := by decide
  have hlo : xmLo xm_La_law ≤ room_1.locals := by decide
  have e1N : xsN xσ1 = 400 := congrArg Prod.fst xσ1_1
  have e1Z : xsZ xσ1 = 7668 := congrArg Prod.snd xσ1_1
  have e2N : xsN xσ2 = 435 := congrArg Prod.fst xσ2_1
  have e2Z : xsZ xσ2 = 13969 := congrArg Prod.snd xσ2_1
  have i0 : xIni [.ref 1000000] 4 = [.ref 1000000, .retAddr 0, .retAddr 0, .retAddr 0] := rfl
  rw [i0] at hl0
  -- new ThreePhases()
  refine x_stepN (σ := xNil) (st := []) (f := (3, [.ref 1000000, .retAddr 0, .retAddr 0, .retAddr 0], [.ref 0], xNew xNil 11 0 10)) (ins := .new 7) (len := 3) rfl rfl xLa_in hF hW0 hs0 hl0 hln0 hfr hlo (by decide) (by decide) (fun H1 locs1 ls1 hW1 hS1 hl1 hn1 => ?_)
  refine x_stepN (σ := xNew xNil 11 0 10) (st := [.ref 0]) (f := (4, [.ref 1000000, .retAddr 0, .retAddr 0, .retAddr 0], [.ref 0, .ref 0], xNew xNil 11 0 10)) (ins := .dup) (len := 1) rfl rfl xLa_in hF hW1 hS1 hl1 hn1 hfr hlo (by decide) (by decide) (fun H2 locs2 ls2 hW2 hS2 hl2 hn2 => ?_)
  refine x_newN (σ := xNew xNil 11 0 10) (τ := xσ1) (r := none) (n := 4000) (st := [.ref 0, .ref 0]) (cm := xm_TP_new) (a := 0) (as := []) (rest := [.ref 0]) (ix := 9) rfl rfl rfl xC1_eq xLa_in hF hW2 hS2 hl2 hn2 hfr hlo (by rw [e1N]; decide) (by rw [e1Z]; decide) (fun H3 locs3 hW3 hS3 => ?_)
  refine x_stepN (σ := xσ1) (st := [.ref 0]) (f := (8, [.ref 1000000, .ref 0, .retAddr 0, .retAddr 0], [], xσ1)) (ins := .astore_n 1) (len := 1) rfl rfl xLa_in hF hW3 hS3 hl2 hn2 hfr hlo (by show xsN xσ1 ≤ _; rw [e1N]; decide) (by show xsZ xσ1 ≤ _; rw [e1Z]; decide) (fun H4 locs4 ls4 hW4 hS4 hl4 hn4 => ?_)
  -- new ThreePhasesModel()
  have eN3 : xsN (xNew xσ1 12 0 61) = 401 := by show xsN xσ1 + 1 = _; rw [e1N]
  have eZ3 : xsZ (xNew xσ1 12 0 61) = 7668 + 61 := by show xsZ xσ1 + _ = _; rw [e1Z]
  refine x_stepN (σ := xσ1) (st := []) (f := (11, [.ref 1000000, .ref 0, .retAddr 0, .retAddr 0], [.ref 400], xNew xσ1 12 0 61)) (ins := .new 10) (len := 3) rfl (by
    show xis (decide (12 ≤ 12) && decide (xsN xσ1 + 1 ≤ 1000000)) _ = _
    rw [e1N]
    rfl) xLa_in hF hW4 hS4 hl4 hn4 hfr hlo (by rw [eN3]; decide) (by rw [eZ3]; decide) (fun H5 locs5 ls5 hW5 hS5 hl5 hn5 => ?_)
  refine x_stepN (σ := xNew xσ1 12 0 61) (st := [.ref 400]) (f := (12, [.ref 1000000, .ref 0, .retAddr 0, .retAddr 0], [.ref 400, .ref 400], xNew xσ1 12 0 61)) (ins := .dup) (len := 1) rfl rfl xLa_in hF hW5 hS5 hl5 hn5 hfr hlo (by rw [eN3]; decide) (by rw [eZ3]; decide) (fun H6 locs6 ls6 hW6 hS6 hl6 hn6 => ?_)
  refine x_newN (σ := xNew xσ1 12 0 61) (τ := xσ2) (r := none) (n := 4000) (st := [.ref 400, .ref 400]) (cm := xm_Mo_new) (a := 400) (as := []) (rest := [.ref 400]) (ix := 12) rfl rfl rfl xC2_eq xLa_in hF hW6 hS6 hl6 hn6 hfr hlo (by rw [e2N]; decide) (by rw [e2Z]; decide) (fun H7 locs7 hW7 hS7 => ?_)
  refine x_stepN (σ := xσ2) (st := [.ref 400]) (f := (16, [.ref 1000000, .ref 0, .ref 400, .retAddr 0], [], xσ2)) (ins := .astore_n 2) (len := 1) rfl rfl xLa_in hF hW7 hS7 hl6 hn6 hfr hlo (by show xsN xσ2 ≤ _; rw [e2N]; decide) (by show xsZ xσ2 ≤ _; rw [e2Z]; decide) (fun H8 locs8 ls8 hW8 hS8 hl8 hn8 => ?_)
  refine x_stepN (σ := xσ2) (st := []) (f := (17, [.ref 1000000, .ref 0, .ref 400, .retAddr 0], [.int 0], xσ2)) (ins := .iconst 0) (len := 1) rfl rfl xLa_in hF hW8 hS8 hl8 hn8 hfr hlo (by show xsN xσ2 ≤ _; rw [e2N]; decide) (by show xsZ xσ2 ≤ _; rw [e2Z]; decide) (fun H9 locs9 ls9 hW9 hS9 hl9 hn9 => ?_)
  refine x_stepN (σ := xσ2) (st := [.int 0]) (f := (18, [.ref 1000000, .ref 0, .ref 400, .int 0], [], xσ2)) (ins := .istore_n 3) (len := 1) rfl rfl xLa_in hF hW9 hS9 hl9 hn9 hfr hlo (by show xsN xσ2 ≤ _; rw [e2N]; decide) (by show xsZ xσ2 ≤ _; rw [e2Z]; decide) (fun H10 locs10 ls10 hW10 hS10 hl10 hn10 => ?_)
  -- the loop
  obtain ⟨n, τ, hex, hN, hZ⟩ := hpure L xs hL
  have hWB : xWd g (xB L xs xσ2.2.2.1) H10 := by
    refine hW10.ghost xσ2_1.symm (fun a ha => ?_) (fun a ha => ?_) (fun a ha k hk => ?_) (fun a ha => ?_) (fun a ha => ?_)
    · rw [e2N] at ha
      show xS0 L a = _
      unfold xS0
      rw [if_pos ha]
      exact (xσ2_S a ha).symm
    · rw [e2N] at ha
      show (if a < 1000000 then xσ2.2.2.1 a else xoI xs a) = _
      rw [if_pos (by omega)]
    · rw [e2N] at ha
      have eS : xsS xσ2 a = xLS.getD a (99, 0) := xσ2_S a ha
      rw [eS] at hk
      refine (xσ2_R a ha k ?_ (fun h => ?_)).symm
      · unfold xBd
        rcases hk with ⟨z1, z2, z3⟩ | ⟨z1, z2⟩
        · rw [if_pos z1]
          exact z2
        · rw [if_neg (by omega), if_pos z1]
          exact z2
      · rcases hk with ⟨z1, z2, z3⟩ | ⟨z1, z2⟩
        · exact z3
        · omega
    · rw [e2N] at ha
      show xS0 L a = _
      unfold xS0
      rw [if_neg (by omega), hgL]
    · show (if a < 1000000 then xσ2.2.2.1 a else xoI xs a) = _
      rw [if_neg (by omega), hgX]
  have hm2 := xexec_mono n hex
  have hB1 : xsN (xB L xs xσ2.2.2.1) = 435 := rfl
  have hB2 : xsZ (xB L xs xσ2.2.2.1) = 13969 := rfl
  have eN9 : xsN xσ2 + (xsN τ - xsN (xB L xs xσ2.2.2.1)) = xsN τ := by have := hm2.1; rw [e2N]; omega
  have eZ9 : xsZ xσ2 + (xsZ τ - xsZ (xB L xs xσ2.2.2.1)) = xsZ τ := by have := hm2.2; rw [e2Z]; omega
  refine x_run l g n xLa_in hex p e room_1 s m _ below meth c H10 locs10 (xsN xσ2) (xsZ xσ2) _ ls10 hF hWB hS10 hl10 hn10 hfr hlo (by rw [eN9]; exact hN) (by rw [eZ9]; exact hZ) (fun pc' ls' H' locs' ins len st' a1 a2 a3 a4 => ?_)
  rw [eN9, eZ9]
  exact x_lawret hx hb hr hlocks (fun q hq => by have h9 := a4.2.2 q hq; unfold xA at h9; rw [hgB] at h9; exact h9) hN hZ a1 a2
end
section
/-! RUNS, WITHOUT FUEL: what the contracts speak of -/
theorem xexec_le : ∀ (n k : Nat) {m : XM} {pc : Nat} {xl st : List Value} {σ : XS} {q : Option Value × XS}, xexec n m pc xl st σ = some q → xexec (n + k) m pc xl st σ = some q
  | 0, k, m, pc, xl, st, σ, q, h => by cases h
  | n + 1, k, m, pc, xl, st, σ, q, h => by
    rw [show n + 1 + k = (n + k) + 1 by omega]
    unfold xexec at h ⊢
    cases hat : xmAt m pc with
    | none => simp only [hat] at h; cases h
    | some w =>
      obtain ⟨ins, len⟩ := w
      simp only [hat] at h ⊢
      cases hcl : xCall m ins st σ with
      | some w =>
        obtain ⟨cm, as, rest⟩ := w
        simp only [hcl] at h ⊢
        cases hce : xexec n cm 0 (xIni as (xmL cm)) [] σ with
        | none => simp only [hce] at h; cases h
        | some w =>
          obtain ⟨v, σ1⟩ := w
          simp only [hce] at h
          rw [xexec_le n k hce]
          exact xexec_le n k h
      | none =>
        simp only [hcl] at h ⊢
        cases hrt : xRet m ins st with
        | some v =>
          simp only [hrt] at h ⊢
          exact h
        | none =>
          simp only [hrt] at h ⊢
          cases hst : xstep m pc ins len xl st σ with
          | none => simp only [hst] at h; cases h
          | some f =>
            obtain ⟨pc', xl', st', σ'⟩ := f
            simp only [hst] at h ⊢
            exact xexec_le n k h
/-- from here the method answers r, and leaves τ -/
def Ev (m : XM) (pc : Nat) (xl st : List Value) (σ : XS) (r : Option Value) (τ : XS) : Prop := ∃ n, xexec n m pc xl st σ = some (r, τ)
theorem Ev.step {m : XM} {pc len pc' : Nat} {ins : Instr} {xl st xl' st' : List Value} {σ σ' τ : XS} {r : Option Value} (hat : xmAt m pc = some (ins, len)) (hc : xCall m ins st σ = none) (hr : xRet m ins st = none) (h : xstep m pc ins len xl st σ = some (pc', xl', st', σ')) (k : Ev m pc' xl' st' σ' r τ) : Ev m pc xl st σ r τ := by
  obtain ⟨n, hn⟩ := k
  refine ⟨n + 1, ?_⟩
  unfold xexec
  simp only [hat, hc, hr, h]
  exact hn
theorem Ev.ret {m : XM} {pc len : Nat} {ins : Instr} {xl st : List Value} {σ : XS} {r : Option Value} (hat : xmAt m pc = some (ins, len)) (hc : xCall m ins st σ = none) (hr : xRet m ins st = some r) : Ev m pc xl st σ r σ := by
  refine ⟨1, ?_⟩
  unfold xexec
  simp only [hat, hc, hr]
theorem Ev.call {m cm : XM} {pc len : Nat} {ins : Instr} {xl st as rest : List Value} {σ σ1 τ : XS} {r v : Option Value} (hat : xmAt m pc = some (ins, len)) (hc : xCall m ins st σ = some (cm, as, rest)) (h1 : Ev cm 0 (xIni as (xmL cm)) [] σ v σ1) (k : Ev m (pc + len) xl (v.toList ++ rest) σ1 r τ) : Ev m pc xl st σ r τ := by
  obtain ⟨n1, hn1⟩ := h1
  obtain ⟨n2, hn2⟩ := k
  refine ⟨n1 + n2 + 1, ?_⟩
  unfold xexec
  simp only [hat, hc, xexec_le n1 n2 hn1]
  rw [Nat.add_comm n1 n2]
  exact xexec_le n2 n1 hn2
section EV
variable {L : Nat} {xs : Nat → Int32} {f : Nat → Nat → Int32} {m : XM} {pc len : Nat} {xl st : List Value} {σ τ : XS} {r : Option Value}
theorem xB_I {a k : Nat} (h : a < 1000000) : xsI (xB L xs f) a k = f a k := by
  show (if a < 1000000 then f a else xoI xs a) k = _
  rw [if_pos h]
theorem xS0_lt {a : Nat} (h : (xS0 L a).1 ≤ 29) : a < 435 := by
  rcases Nat.lt_or_ge a 435 with q | q
  · exact q
  · exfalso
    unfold xS0 at h
    rw [if_neg (by omega)] at h
    unfold xoS at h
    repeat' split at h
    all_goals first | (simp at h; done) | omega
theorem xB_put {a k : Nat} {v : Int32} (h : a < 1000000) : xPut (xB L xs f) a k v = xB L xs (xu f a k v) := by
  unfold xPut xB
  congr 3
  funext a' k'
  show (if a' = a then upd (if a < 1000000 then f a else xoI xs a) k v else (if a' < 1000000 then f a' else xoI xs a')) k' = (if a' < 1000000 then (if a' = a then upd (f a) k v else f a') else xoI xs a') k'
  by_cases e : a' = a
  · subst e
    rw [if_pos rfl, if_pos h, if_pos h, if_pos rfl]
  · rw [if_neg e, if_neg e]
theorem xB_row {a : Nat} {g : Nat → Int32} (h : a < 1000000) : xRow (xB L xs f) a g = xB L xs (xuc f a g) := by
  unfold xRow xB
  congr 3
  funext a' k'
  show (if a' = a then g else (if a' < 1000000 then f a' else xoI xs a')) k' = (if a' < 1000000 then (if a' = a then g else f a') else xoI xs a') k'
  by_cases e : a' = a
  · subst e
    rw [if_pos rfl, if_pos h, if_pos rfl]
  · rw [if_neg e, if_neg e]
end EV
/-! WHAT A METHOD DOES OVER THE STATES OF THE LAW: Q of its answer and of the numbers behind it -/
abbrev Hp : Type := Nat → Nat → Int32
def Wp (L : Nat) (xs : Nat → Int32) (m : XM) (pc : Nat) (xl st : List Value) (f : Hp) (Q : Option Value → Hp → Prop) : Prop := ∃ r g, Ev m pc xl st (xB L xs f) r (xB L xs g) ∧ Q r g
def QI (Q : Int32 → Hp → Prop) : Option Value → Hp → Prop := fun r g => ∃ v, r = some (.int v) ∧ Q v g
def QV (Q : Hp → Prop) : Option Value → Hp → Prop := fun r g => r = none ∧ Q g
def QL (Q : Int64 → Hp → Prop) : Option Value → Hp → Prop := fun r g => ∃ v, r = some (.long v) ∧ Q v g
def QR (Q : Nat → Hp → Prop) : Option Value → Hp → Prop := fun r g => ∃ v, r = some (.ref v) ∧ Q v g
def Cl (L : Nat) (xs : Nat → Int32) (c : XM) (as : List Value) (f : Hp) (Q : Option Value → Hp → Prop) : Prop := Wp L xs c 0 (xIni as (xmL c)) [] f Q
def CI (L : Nat) (xs : Nat → Int32) (c : XM) (as : List Value) (f : Hp) (Q : Int32 → Hp → Prop) : Prop := Cl L xs c as f (QI Q)
def CV (L : Nat) (xs : Nat → Int32) (c : XM) (as : List Value) (f : Hp) (Q : Hp → Prop) : Prop := Cl L xs c as f (QV Q)
def CL (L : Nat) (xs : Nat → Int32) (c : XM) (as : List Value) (f : Hp) (Q : Int64 → Hp → Prop) : Prop := Cl L xs c as f (QL Q)
def CR (L : Nat) (xs : Nat → Int32) (c : XM) (as : List Value) (f : Hp) (Q : Nat → Hp → Prop) : Prop := Cl L xs c as f (QR Q)
def iN (k : Nat) : Int32 := Int32.ofNat k
def jrem (x y : Int32) : Int32 := x - x / y * y
def imax (x y : Int32) : Int32 := if x < y then y else x
def imin (x y : Int32) : Int32 := if y < x then y else x
def jushr (x y : Int32) : Int32 := (x.toUInt32 >>> (y.toUInt32 &&& Int32.toUInt32 31)).toInt32
def jchar (x : Int32) : Int32 := (x.toUInt32 % 65536).toInt32
theorem iN_nc {k : Nat} (h : k < 2147483648) : (iN k).toNatClampNeg = k := by
  unfold iN
  rw [Int32.toNatClampNeg_ofNat_of_lt h]
theorem iN_toInt {k : Nat} (h : k < 2147483648) : (iN k).toInt = k := by
  unfold iN
  rw [Int32.toInt_ofNat_of_lt h]
theorem iN_nn {k : Nat} (h : k < 2147483648) : ¬ iN k < 0 := by
  rw [Int32.lt_iff_toInt_lt, iN_toInt h]
  show ¬ (k : Int) < 0
  omega
theorem xIn_iN {k n : Nat} (h : k < n) (hn : n < 2147483648) : xIn (iN k) n = true := by
  unfold xIn
  rw [iN_nc (by omega)]
  have h1 : decide (iN k < 0) = false := by simpa using iN_nn (k := k) (by omega)
  have h2 : decide (n ≤ k) = false := by simpa using h
  rw [h1, h2]; rfl
section ROWS
variable {L : Nat} {xs : Nat → Int32} {f g : Hp} {m : XM} {pc len pc' : Nat} {xl xl' st st' : List Value} {Q Q' : Option Value → Hp → Prop}
theorem Wp.mono (h : Wp L xs m pc xl st f Q) (k : ∀ r g, Q r g → Q' r g) : Wp L xs m pc xl st f Q' := by
  obtain ⟨r, g, h1, h2⟩ := h
  exact ⟨r, g, h1, k r g h2⟩
theorem w_step {ins : Instr} (hat : xmAt m pc = some (ins, len)) (hc : xCall m ins st (xB L xs f) = none) (hr : xRet m ins st = none) (h : xstep m pc ins len xl st (xB L xs f) = some (pc', xl', st', xB L xs g)) (k : Wp L xs m pc' xl' st' g Q) : Wp L xs m pc xl st f Q := by
  obtain ⟨r, g', h1, h2⟩ := k
  exact ⟨r, g', Ev.step hat hc hr h h1, h2⟩
theorem w_ret {ins : Instr} {r : Option Value} (hat : xmAt m pc = some (ins, len)) (hc : xCall m ins st (xB L xs f) = none) (hr : xRet m ins st = some r) (k : Q r f) : Wp L xs m pc xl st f Q := ⟨r, f, Ev.ret hat hc hr, k⟩
theorem w_call {ins : Instr} {cm : XM} {as rest : List Value} (hat : xmAt m pc = some (ins, len)) (hp : pc + len = pc') (hc : xCall m ins st (xB L xs f) = some (cm, as, rest)) (h1 : Cl L xs cm as f (fun r g => Wp L xs m pc' xl (r.toList ++ rest) g Q)) : Wp L xs m pc xl st f Q := by
  obtain ⟨r, g, e1, r', g', e2, e3⟩ := h1
  subst hp
  exact ⟨r', g', Ev.call hat hc e1 e2, e3⟩
theorem w_iconst {i : Int} {v : Int32} (hat : xmAt m pc = some (.iconst i, len)) (hp : pc + len = pc') (hv : Int32.ofInt i = v) (k : Wp L xs m pc' xl (.int v :: st) f Q) : Wp L xs m pc xl st f Q := by
  subst hp; subst hv; exact w_step hat rfl rfl rfl k
theorem w_bipush {i : Int} {v : Int32} (hat : xmAt m pc = some (.bipush i, len)) (hp : pc + len = pc') (hv : (Int8.ofInt i).toInt32 = v) (k : Wp L xs m pc' xl (.int v :: st) f Q) : Wp L xs m pc xl st f Q := by
  subst hp; subst hv; exact w_step hat rfl rfl rfl k
theorem w_sipush {i : Int} {v : Int32} (hat : xmAt m pc = some (.sipush i, len)) (hp : pc + len = pc') (hv : (Int16.ofInt i).toInt32 = v) (k : Wp L xs m pc' xl (.int v :: st) f Q) : Wp L xs m pc xl st f Q := by
  subst hp; subst hv; exact w_step hat rfl rfl rfl k
theorem w_lconst {i : Fin 2} {v : Int64} (hat : xmAt m pc = some (.lconst i, len)) (hp : pc + len = pc') (hv : Int64.ofNat (i : Nat) = v) (k : Wp L xs m pc' xl (.long v :: st) f Q) : Wp L xs m pc xl st f Q := by
  subst hp; subst hv; exact w_step hat rfl rfl rfl k
theorem w_ldc {ix q : Nat} {v : Int32} (hat : xmAt m pc = some (.ldc ix, len)) (hp : pc + len = pc') (hv : xNum (xmOwn m) ix = some (v, q)) (k : Wp L xs m pc' xl (.int v :: st) f Q) : Wp L xs m pc xl st f Q := by
  subst hp; exact w_step hat rfl rfl (by unfold xstep; simp only [hv]) k
theorem w_ldcT {ix i : Nat} (hat : xmAt m pc = some (.ldc ix, len)) (hp : pc + len = pc') (hn : xNum (xmOwn m) ix = none) (hv : xTxt (xmOwn m) ix = some i) (k : Wp L xs m pc' xl (.ref (1000010 + i) :: st) f Q) : Wp L xs m pc xl st f Q := by
  subst hp; exact w_step hat rfl rfl (by unfold xstep; simp only [hv, hn, Option.map_some]) k
theorem w_ldcw {ix q : Nat} {v : Int32} (hat : xmAt m pc = some (.ldc_w ix, len)) (hp : pc + len = pc') (hv : xNum (xmOwn m) ix = some (v, q)) (k : Wp L xs m pc' xl (.int v :: st) f Q) : Wp L xs m pc xl st f Q := by
  subst hp; exact w_step hat rfl rfl (by unfold xstep; simp only [hv, Option.map_some]) k
theorem w_ldc2 {ix q : Nat} {v : Int64} (hat : xmAt m pc = some (.ldc2_w ix, len)) (hp : pc + len = pc') (hv : xLng (xmOwn m) ix = some (v, q)) (k : Wp L xs m pc' xl (.long v :: st) f Q) : Wp L xs m pc xl st f Q := by
  subst hp; exact w_step hat rfl rfl (by unfold xstep; simp only [hv, Option.map_some]) k
theorem w_iload_n {i : Fin 4} {x : Int32} (hat : xmAt m pc = some (.iload_n i, len)) (hp : pc + len = pc') (hl : xl[(i : Nat)]? = some (.int x)) (k : Wp L xs m pc' xl (.int x :: st) f Q) : Wp L xs m pc xl st f Q := by
  subst hp; exact w_step hat rfl rfl (by unfold xstep xldI; simp only [hl]) k
theorem w_iload {i : Nat} {x : Int32} (hat : xmAt m pc = some (.iload i, len)) (hp : pc + len = pc') (hl : xl[i]? = some (.int x)) (k : Wp L xs m pc' xl (.int x :: st) f Q) : Wp L xs m pc xl st f Q := by
  subst hp; exact w_step hat rfl rfl (by unfold xstep xldI; simp only [hl]) k
theorem w_aload_n {i : Fin 4} {x : Nat} (hat : xmAt m pc = some (.aload_n i, len)) (hp : pc + len = pc') (hl : xl[(i : Nat)]? = some (.ref x)) (k : Wp L xs m pc' xl (.ref x :: st) f Q) : Wp L xs m pc xl st f Q := by
  subst hp; exact w_step hat rfl rfl (by unfold xstep xldA; simp only [hl]) k
theorem w_aload {i : Nat} {x : Nat} (hat : xmAt m pc = some (.aload i, len)) (hp : pc + len = pc') (hl : xl[i]? = some (.ref x)) (k : Wp L xs m pc' xl (.ref x :: st) f Q) : Wp L xs m pc xl st f Q := by
  subst hp; exact w_step hat rfl rfl (by unfold xstep xldA; simp only [hl]) k
theorem w_lload_n {i : Fin 4} {x : Int64} (hat : xmAt m pc = some (.lload_n i, len)) (hp : pc + len = pc') (hl : xl[(i : Nat)]? = some (.long x)) (k : Wp L xs m pc' xl (.long x :: st) f Q) : Wp L xs m pc xl st f Q := by
  subst hp; exact w_step hat rfl rfl (by unfold xstep xldL; simp only [hl]) k
theorem w_istore_n {i : Fin 4} {x : Int32} (hat : xmAt m pc = some (.istore_n i, len)) (hp : pc + len = pc') (hl : xSt1 xl i (.int x) = some xl') (k : Wp L xs m pc' xl' st f Q) : Wp L xs m pc xl (.int x :: st) f Q := by
  subst hp; exact w_step hat rfl rfl (by unfold xstep xstI; simp only [xo1, hl, Option.map_some]) k
theorem w_istore {i : Nat} {x : Int32} (hat : xmAt m pc = some (.istore i, len)) (hp : pc + len = pc') (hl : xSt1 xl i (.int x) = some xl') (k : Wp L xs m pc' xl' st f Q) : Wp L xs m pc xl (.int x :: st) f Q := by
  subst hp; exact w_step hat rfl rfl (by unfold xstep xstI; simp only [xo1, hl, Option.map_some]) k
theorem w_astore_n {i : Fin 4} {x : Nat} (hat : xmAt m pc = some (.astore_n i, len)) (hp : pc + len = pc') (hl : xSt1 xl i (.ref x) = some xl') (k : Wp L xs m pc' xl' st f Q) : Wp L xs m pc xl (.ref x :: st) f Q := by
  subst hp; exact w_step hat rfl rfl (by unfold xstep xstA; simp only [xr1, hl, Option.map_some]) k
theorem w_astore {i : Nat} {x : Nat} (hat : xmAt m pc = some (.astore i, len)) (hp : pc + len = pc') (hl : xSt1 xl i (.ref x) = some xl') (k : Wp L xs m pc' xl' st f Q) : Wp L xs m pc xl (.ref x :: st) f Q := by
  subst hp; exact w_step hat rfl rfl (by unfold xstep xstA; simp only [xr1, hl, Option.map_some]) k
theorem w_lstore_n {i : Fin 4} {x : Int64} (hat : xmAt m pc = some (.lstore_n i, len)) (hp : pc + len = pc') (hl : xSt2 xl i (.long x) = some xl') (k : Wp L xs m pc' xl' st f Q) : Wp L xs m pc xl (.long x :: st) f Q := by
  subst hp; exact w_step hat rfl rfl (by unfold xstep xstL; simp only [hl, Option.map_some]) k
theorem w_iinc {i : Nat} {n : Int} {x v : Int32} (hat : xmAt m pc = some (.iinc i n, len)) (hp : pc + len = pc') (hl : xl[i]? = some (.int x)) (hv : x + Int32.ofInt n = v) (hl' : xSt1 xl i (.int v) = some xl') (k : Wp L xs m pc' xl' st f Q) : Wp L xs m pc xl st f Q := by
  subst hp; subst hv; exact w_step hat rfl rfl (by unfold xstep; simp only [hl, hl', Option.map_some]) k
theorem w_iadd {x y : Int32} (hat : xmAt m pc = some (.iadd, len)) (hp : pc + len = pc') (k : Wp L xs m pc' xl (.int (x + y) :: st) f Q) : Wp L xs m pc xl (.int y :: .int x :: st) f Q := by
  subst hp; exact w_step hat rfl rfl rfl k
theorem w_isub {x y : Int32} (hat : xmAt m pc = some (.isub, len)) (hp : pc + len = pc') (k : Wp L xs m pc' xl (.int (x - y) :: st) f Q) : Wp L xs m pc xl (.int y :: .int x :: st) f Q := by
  subst hp; exact w_step hat rfl rfl rfl k
theorem w_imul {x y : Int32} (hat : xmAt m pc = some (.imul, len)) (hp : pc + len = pc') (k : Wp L xs m pc' xl (.int (x * y) :: st) f Q) : Wp L xs m pc xl (.int y :: .int x :: st) f Q := by
  subst hp; exact w_step hat rfl rfl rfl k
theorem w_iand {x y : Int32} (hat : xmAt m pc = some (.iand, len)) (hp : pc + len = pc') (k : Wp L xs m pc' xl (.int (x &&& y) :: st) f Q) : Wp L xs m pc xl (.int y :: .int x :: st) f Q := by
  subst hp; exact w_step hat rfl rfl rfl k
theorem w_ior {x y : Int32} (hat : xmAt m pc = some (.ior, len)) (hp : pc + len = pc') (k : Wp L xs m pc' xl (.int (x ||| y) :: st) f Q) : Wp L xs m pc xl (.int y :: .int x :: st) f Q := by
  subst hp; exact w_step hat rfl rfl rfl k
theorem w_ixor {x y : Int32} (hat : xmAt m pc = some (.ixor, len)) (hp : pc + len = pc') (k : Wp L xs m pc' xl (.int (x ^^^ y) :: st) f Q) : Wp L xs m pc xl (.int y :: .int x :: st) f Q := by
  subst hp; exact w_step hat rfl rfl rfl k
theorem w_ishl {x y : Int32} (hat : xmAt m pc = some (.ishl, len)) (hp : pc + len = pc') (k : Wp L xs m pc' xl (.int (x <<< (y &&& 31)) :: st) f Q) : Wp L xs m pc xl (.int y :: .int x :: st) f Q := by
  subst hp; exact w_step hat rfl rfl rfl k
theorem w_ishr {x y : Int32} (hat : xmAt m pc = some (.ishr, len)) (hp : pc + len = pc') (k : Wp L xs m pc' xl (.int (x >>> (y &&& 31)) :: st) f Q) : Wp L xs m pc xl (.int y :: .int x :: st) f Q := by
  subst hp; exact w_step hat rfl rfl rfl k
theorem w_iushr {x y : Int32} (hat : xmAt m pc = some (.iushr, len)) (hp : pc + len = pc') (k : Wp L xs m pc' xl (.int (jushr x y) :: st) f Q) : Wp L xs m pc xl (.int y :: .int x :: st) f Q := by
  subst hp; exact w_step hat rfl rfl rfl k
theorem w_idiv {x y : Int32} (hat : xmAt m pc = some (.idiv, len)) (hp : pc + len = pc') (hy : y ≠ 0) (k : Wp L xs m pc' xl (.int (x / y) :: st) f Q) : Wp L xs m pc xl (.int y :: .int x :: st) f Q := by
  subst hp
  refine w_step hat rfl rfl ?_ k
  show xis (!decide (y = 0)) _ = _
  simp [xis, hy]
theorem w_irem {x y : Int32} (hat : xmAt m pc = some (.irem, len)) (hp : pc + len = pc') (hy : y ≠ 0) (k : Wp L xs m pc' xl (.int (jrem x y) :: st) f Q) : Wp L xs m pc xl (.int y :: .int x :: st) f Q := by
  subst hp
  refine w_step hat rfl rfl ?_ k
  show xis (!decide (y = 0)) _ = _
  simp [xis, hy, jrem]
theorem w_i2l {x : Int32} (hat : xmAt m pc = some (.i2l, len)) (hp : pc + len = pc') (k : Wp L xs m pc' xl (.long x.toInt64 :: st) f Q) : Wp L xs m pc xl (.int x :: st) f Q := by
  subst hp; exact w_step hat rfl rfl rfl k
theorem w_i2b {x : Int32} (hat : xmAt m pc = some (.i2b, len)) (hp : pc + len = pc') (k : Wp L xs m pc' xl (.int x.toInt8.toInt32 :: st) f Q) : Wp L xs m pc xl (.int x :: st) f Q := by
  subst hp; exact w_step hat rfl rfl rfl k
theorem w_i2c {x : Int32} (hat : xmAt m pc = some (.i2c, len)) (hp : pc + len = pc') (k : Wp L xs m pc' xl (.int (jchar x) :: st) f Q) : Wp L xs m pc xl (.int x :: st) f Q := by
  subst hp; exact w_step hat rfl rfl rfl k
theorem w_ladd {x y : Int64} (hat : xmAt m pc = some (.ladd, len)) (hp : pc + len = pc') (k : Wp L xs m pc' xl (.long (x + y) :: st) f Q) : Wp L xs m pc xl (.long y :: .long x :: st) f Q := by
  subst hp; exact w_step hat rfl rfl rfl k
theorem w_lsub {x y : Int64} (hat : xmAt m pc = some (.lsub, len)) (hp : pc + len = pc') (k : Wp L xs m pc' xl (.long (x - y) :: st) f Q) : Wp L xs m pc xl (.long y :: .long x :: st) f Q := by
  subst hp; exact w_step hat rfl rfl rfl k
theorem w_lmul {x y : Int64} (hat : xmAt m pc = some (.lmul, len)) (hp : pc + len = pc') (k : Wp L xs m pc' xl (.long (x * y) :: st) f Q) : Wp L xs m pc xl (.long y :: .long x :: st) f Q := by
  subst hp; exact w_step hat rfl rfl rfl k
theorem w_lcmp {x y : Int64} (hat : xmAt m pc = some (.lcmp, len)) (hp : pc + len = pc') (k : Wp L xs m pc' xl (.int (lg_cmp x y) :: st) f Q) : Wp L xs m pc xl (.long y :: .long x :: st) f Q := by
  subst hp; exact w_step hat rfl rfl rfl k
theorem w_dupI {x : Int32} (hat : xmAt m pc = some (.dup, len)) (hp : pc + len = pc') (k : Wp L xs m pc' xl (.int x :: .int x :: st) f Q) : Wp L xs m pc xl (.int x :: st) f Q := by
  subst hp; exact w_step hat rfl rfl rfl k
theorem w_dupA {x : Nat} (hat : xmAt m pc = some (.dup, len)) (hp : pc + len = pc') (k : Wp L xs m pc' xl (.ref x :: .ref x :: st) f Q) : Wp L xs m pc xl (.ref x :: st) f Q := by
  subst hp; exact w_step hat rfl rfl rfl k
theorem w_popI {x : Int32} (hat : xmAt m pc = some (.pop, len)) (hp : pc + len = pc') (k : Wp L xs m pc' xl st f Q) : Wp L xs m pc xl (.int x :: st) f Q := by
  subst hp; exact w_step hat rfl rfl rfl k
theorem w_dup2 {x : Int32} {a : Nat} (hat : xmAt m pc = some (.dup2, len)) (hp : pc + len = pc') (k : Wp L xs m pc' xl (.int x :: .ref a :: .int x :: .ref a :: st) f Q) : Wp L xs m pc xl (.int x :: .ref a :: st) f Q := by
  subst hp; exact w_step hat rfl rfl rfl k
theorem w_goto {off : Int} (hat : xmAt m pc = some (.goto off, len)) (ht : xTg pc off = some pc') (k : Wp L xs m pc' xl st f Q) : Wp L xs m pc xl st f Q := by
  refine w_step hat rfl rfl ?_ k
  show (xTg pc off).map _ = _
  rw [ht]; rfl
theorem w_br {cd : ClassFile.Cond} {off : Int} {t : Nat} {x : Int32} {c : Prop} (hat : xmAt m pc = some (.ifCond cd off, len)) (hp : pc + len = pc') (ht : xTg pc off = some t) (hc : xIcmp cd x 0 = true ↔ c) (kt : c → Wp L xs m t xl st f Q) (kf : ¬ c → Wp L xs m pc' xl st f Q) : Wp L xs m pc xl (.int x :: st) f Q := by
  subst hp
  by_cases h : c
  · refine w_step hat rfl rfl ?_ (kt h)
    show (xTg pc off).map _ = _
    rw [ht, Option.map_some, if_pos (hc.mpr h)]
  · refine w_step hat rfl rfl ?_ (kf h)
    show (xTg pc off).map _ = _
    rw [ht, Option.map_some, if_neg (fun q => h (hc.mp q))]
theorem w_br2 {cd : ClassFile.Cond} {off : Int} {t : Nat} {x y : Int32} {c : Prop} (hat : xmAt m pc = some (.if_icmp cd off, len)) (hp : pc + len = pc') (ht : xTg pc off = some t) (hc : xIcmp cd x y = true ↔ c) (kt : c → Wp L xs m t xl st f Q) (kf : ¬ c → Wp L xs m pc' xl st f Q) : Wp L xs m pc xl (.int y :: .int x :: st) f Q := by
  subst hp
  by_cases h : c
  · refine w_step hat rfl rfl ?_ (kt h)
    show (xTg pc off).map _ = _
    rw [ht, Option.map_some, if_pos (hc.mpr h)]
  · refine w_step hat rfl rfl ?_ (kf h)
    show (xTg pc off).map _ = _
    rw [ht, Option.map_some, if_neg (fun q => h (hc.mp q))]
theorem ic_eq {x y : Int32} : xIcmp .eq x y = true ↔ x = y := by simp [xIcmp]
theorem ic_ne {x y : Int32} : xIcmp .ne x y = true ↔ ¬ x = y := by simp [xIcmp]
theorem ic_lt {x y : Int32} : xIcmp .lt x y = true ↔ x < y := by simp [xIcmp]
theorem ic_ge {x y : Int32} : xIcmp .ge x y = true ↔ ¬ x < y := by
  simp only [xIcmp, decide_eq_true_iff]
  rw [Int32.le_iff_toInt_le, Int32.lt_iff_toInt_lt]; omega
theorem ic_gt {x y : Int32} : xIcmp .gt x y = true ↔ y < x := by simp [xIcmp]
theorem ic_le {x y : Int32} : xIcmp .le x y = true ↔ ¬ y < x := by
  simp only [xIcmp, decide_eq_true_iff]
  rw [Int32.le_iff_toInt_le, Int32.lt_iff_toInt_lt]; omega
theorem w_ts {d lo hi o : Int} {offs : Array Int} {t : Nat} {x : Int32} (hat : xmAt m pc = some (.tableswitch d lo hi offs, len)) (h1 : ¬ (x.toInt < lo ∨ hi < x.toInt)) (h2 : offs[(x.toInt - lo).toNat]? = some o) (ht : xTg pc o = some t) (k : Wp L xs m t xl st f Q) : Wp L xs m pc xl (.int x :: st) f Q := by
  refine w_step hat rfl rfl ?_ k
  show (if x.toInt < lo ∨ hi < x.toInt then _ else _) = _
  rw [if_neg h1]
  simp only [h2]
  show (xTg pc o).map _ = _
  rw [ht]; rfl
theorem w_tsd {d lo hi : Int} {offs : Array Int} {t : Nat} {x : Int32} (hat : xmAt m pc = some (.tableswitch d lo hi offs, len)) (h1 : x.toInt < lo ∨ hi < x.toInt) (ht : xTg pc d = some t) (k : Wp L xs m t xl st f Q) : Wp L xs m pc xl (.int x :: st) f Q := by
  refine w_step hat rfl rfl ?_ k
  show (if x.toInt < lo ∨ hi < x.toInt then _ else _) = _
  rw [if_pos h1]
  show (xTg pc d).map _ = _
  rw [ht]; rfl
theorem w_ls {d o : Int} {ps : Array (Int × Int)} {t : Nat} {x : Int32} (hat : xmAt m pc = some (.lookupswitch d ps, len)) (h1 : ((ps.toList.zip (ps.toList.drop 1)).all (fun (a, next) => a.1 < next.1)) = true) (h2 : Op.lookupswitch.offset ps.toList d x.toInt = o) (ht : xTg pc o = some t) (k : Wp L xs m t xl st f Q) : Wp L xs m pc xl (.int x :: st) f Q := by
  refine w_step hat rfl rfl ?_ k
  show (if _ = true then _ else _) = _
  rw [if_pos h1, h2]
  show (xTg pc o).map _ = _
  rw [ht]; rfl
theorem xB_lt {a kd n : Nat} (h : xS0 L a = (kd, n)) (hk : kd ≤ 29) : a < 1000000 := by
  have := xS0_lt (L := L) (a := a) (by rw [h]; exact hk)
  omega
theorem w_getI {ix ci i q a n : Nat} (hat : xmAt m pc = some (.getfield ix, len)) (hp : pc + len = pc') (hf : xFld (xmOwn m) ix = some (ci, i, q)) (h2 : (xFk ci i == 2) = false) (h12 : (ci ≤ 12 : Bool) = true) (ha : xS0 L a = (ci, n)) (k : Wp L xs m pc' xl (.int (f a i) :: st) f Q) : Wp L xs m pc xl (.ref a :: st) f Q := by
  subst hp
  refine w_step hat rfl rfl ?_ k
  have h29 : ci ≤ 29 := by have := of_decide_eq_true h12; omega
  have hb := xB_I (L := L) (xs := xs) (f := f) (k := i) (xB_lt ha h29)
  have h2' : ¬ xFk ci i = 2 := by simpa using h2
  unfold xstep
  simp only [xr1, hf, xfv, if_neg h2', hb]
  show xis ((xS0 L a).1 == ci) _ = _
  rw [ha]; simp [xis]
theorem w_getR {ix ci i q a n b : Nat} (hat : xmAt m pc = some (.getfield ix, len)) (hp : pc + len = pc') (hf : xFld (xmOwn m) ix = some (ci, i, q)) (h2 : (xFk ci i == 2) = true) (ha : xS0 L a = (ci, n)) (hb : xR0 a i = some b) (k : Wp L xs m pc' xl (.ref b :: st) f Q) : Wp L xs m pc xl (.ref a :: st) f Q := by
  subst hp
  refine w_step hat rfl rfl ?_ k
  have h2' : xFk ci i = 2 := by simpa using h2
  unfold xstep
  simp only [xr1, hf, xfv, if_pos h2']
  show xis ((xS0 L a).1 == ci) (_, _, xrf (xR0 a i) :: _, _) = _
  rw [ha, hb]; simp [xis, xrf]
theorem w_putI {ix ci i q a n : Nat} {x : Int32} (hat : xmAt m pc = some (.putfield ix, len)) (hp : pc + len = pc') (hf : xFld (xmOwn m) ix = some (ci, i, q)) (h2 : (xFk ci i == 0 && !(xFf ci i) && (ci ≤ 12 : Bool)) = true) (ha : xS0 L a = (ci, n)) (k : Wp L xs m pc' xl st (xu f a i x) Q) : Wp L xs m pc xl (.int x :: .ref a :: st) f Q := by
  subst hp
  refine w_step hat rfl rfl ?_ k
  simp only [Bool.and_eq_true, decide_eq_true_iff] at h2
  have h29 : ci ≤ 29 := by omega
  unfold xstep
  simp only [xPf, hf]
  rw [xB_put (xB_lt ha h29)]
  show xis ((xS0 L a).1 == ci && (xFk ci i == 0 || _) && !(xFf ci i)) _ = _
  rw [ha, h2.1.1, h2.1.2]; simp [xis]
theorem w_putB {ix ci i q a n : Nat} {x : Int32} (hat : xmAt m pc = some (.putfield ix, len)) (hp : pc + len = pc') (hf : xFld (xmOwn m) ix = some (ci, i, q)) (h2 : (xFk ci i == 1 && !(xFf ci i) && (ci ≤ 12 : Bool)) = true) (ha : xS0 L a = (ci, n)) (hx : x = 0 ∨ x = 1) (k : Wp L xs m pc' xl st (xu f a i x) Q) : Wp L xs m pc xl (.int x :: .ref a :: st) f Q := by
  subst hp
  refine w_step hat rfl rfl ?_ k
  simp only [Bool.and_eq_true, decide_eq_true_iff] at h2
  have h29 : ci ≤ 29 := by omega
  unfold xstep
  simp only [xPf, hf]
  rw [xB_put (xB_lt ha h29)]
  show xis ((xS0 L a).1 == ci && (xFk ci i == 0 || (xFk ci i == 1 && (decide (x = 0) || decide (x = 1)))) && !(xFf ci i)) _ = _
  have hx' : (decide (x = 0) || decide (x = 1)) = true := by simpa using hx
  rw [ha, h2.1.1, h2.1.2, hx']; simp [xis]
theorem w_iaload {a n i : Nat} {x : Int32} (hat : xmAt m pc = some (.iaload, len)) (hp : pc + len = pc') (ha : xS0 L a = (20, n)) (e : x = iN i) (hi : i < n) (hn : n < 2147483648) (k : Wp L xs m pc' xl (.int (f a i) :: st) f Q) : Wp L xs m pc xl (.int x :: .ref a :: st) f Q := by
  subst hp; subst e
  refine w_step hat rfl rfl ?_ k
  have hb := xB_I (L := L) (xs := xs) (f := f) (k := i) (xB_lt ha (by omega))
  unfold xstep
  simp only [xra, iN_nc (Nat.lt_trans hi hn), hb]
  show xis (((xS0 L a).1 == 20 || _) && xIn (iN i) (xS0 L a).2) _ = _
  rw [ha, xIn_iN hi hn]; simp [xis]
theorem w_iaload4 {a n i : Nat} {x : Int32} (hat : xmAt m pc = some (.iaload, len)) (hp : pc + len = pc') (ha : xS0 L a = (40, n)) (ho : 1000000 ≤ a) (e : x = iN i) (hi : i < n) (hn : n < 2147483648) (k : Wp L xs m pc' xl (.int (xoI xs a i) :: st) f Q) : Wp L xs m pc xl (.int x :: .ref a :: st) f Q := by
  subst hp; subst e
  refine w_step hat rfl rfl ?_ k
  have hb : xsI (xB L xs f) a i = xoI xs a i := by
    show (if a < 1000000 then f a else xoI xs a) i = _
    rw [if_neg (by omega)]
  unfold xstep
  simp only [xra, iN_nc (Nat.lt_trans hi hn), hb]
  show xis (((xS0 L a).1 == 20 || (xS0 L a).1 == 40) && xIn (iN i) (xS0 L a).2) _ = _
  rw [ha, xIn_iN hi hn]; simp [xis]
theorem w_baload {a kd n i : Nat} {x : Int32} (hat : xmAt m pc = some (.baload, len)) (hp : pc + len = pc') (ha : xS0 L a = (kd, n)) (hk : kd = 21 ∨ kd = 22) (e : x = iN i) (hi : i < n) (hn : n < 2147483648) (k : Wp L xs m pc' xl (.int (f a i) :: st) f Q) : Wp L xs m pc xl (.int x :: .ref a :: st) f Q := by
  subst hp; subst e
  refine w_step hat rfl rfl ?_ k
  have hb := xB_I (L := L) (xs := xs) (f := f) (k := i) (xB_lt ha (by omega))
  unfold xstep
  simp only [xra, iN_nc (Nat.lt_trans hi hn), hb]
  show xis (((xS0 L a).1 == 21 || (xS0 L a).1 == 22 || _) && xIn (iN i) (xS0 L a).2) _ = _
  rw [ha, xIn_iN hi hn]
  rcases hk with rfl | rfl <;> simp [xis]
theorem w_baload4 {a n i : Nat} {x : Int32} (hat : xmAt m pc = some (.baload, len)) (hp : pc + len = pc') (ha : xS0 L a = (43, n)) (ho : 1000000 ≤ a) (e : x = iN i) (hi : i < n) (hn : n < 2147483648) (k : Wp L xs m pc' xl (.int (xoI xs a i) :: st) f Q) : Wp L xs m pc xl (.int x :: .ref a :: st) f Q := by
  subst hp; subst e
  refine w_step hat rfl rfl ?_ k
  have hb : xsI (xB L xs f) a i = xoI xs a i := by
    show (if a < 1000000 then f a else xoI xs a) i = _
    rw [if_neg (by omega)]
  unfold xstep
  simp only [xra, iN_nc (Nat.lt_trans hi hn), hb]
  show xis (((xS0 L a).1 == 21 || (xS0 L a).1 == 22 || (xS0 L a).1 == 43) && xIn (iN i) (xS0 L a).2) _ = _
  rw [ha, xIn_iN hi hn]; simp [xis]
theorem w_aaload {a kd n i b : Nat} {x : Int32} (hat : xmAt m pc = some (.aaload, len)) (hp : pc + len = pc') (ha : xS0 L a = (kd, n)) (hk : 23 ≤ kd ∧ kd ≤ 29) (e : x = iN i) (hi : i < n) (hn : n < 2147483648) (hb : xR0 a i = some b) (k : Wp L xs m pc' xl (.ref b :: st) f Q) : Wp L xs m pc xl (.int x :: .ref a :: st) f Q := by
  subst hp; subst e
  refine w_step hat rfl rfl ?_ k
  unfold xstep
  simp only [xra, iN_nc (Nat.lt_trans hi hn)]
  show xis (decide (23 ≤ (xS0 L a).1) && decide ((xS0 L a).1 ≤ 29) && xIn (iN i) (xS0 L a).2) (_, _, xrf (xR0 a i) :: _, _) = _
  rw [ha, xIn_iN hi hn, hb]; simp [xis, hk.1, hk.2, xrf]
theorem w_iastore {a n i : Nat} {x v : Int32} (hat : xmAt m pc = some (.iastore, len)) (hp : pc + len = pc') (ha : xS0 L a = (20, n)) (e : x = iN i) (hi : i < n) (hn : n < 2147483648) (k : Wp L xs m pc' xl st (xu f a i v) Q) : Wp L xs m pc xl (.int v :: .int x :: .ref a :: st) f Q := by
  subst hp; subst e
  refine w_step hat rfl rfl ?_ k
  unfold xstep
  simp only [xrs, iN_nc (Nat.lt_trans hi hn)]
  rw [xB_put (xB_lt ha (by omega))]
  show xis ((xS0 L a).1 == 20 && xIn (iN i) (xS0 L a).2) _ = _
  rw [ha, xIn_iN hi hn]; simp [xis]
theorem w_bastore1 {a n i : Nat} {x v : Int32} (hat : xmAt m pc = some (.bastore, len)) (hp : pc + len = pc') (ha : xS0 L a = (21, n)) (e : x = iN i) (hi : i < n) (hn : n < 2147483648) (k : Wp L xs m pc' xl st (xu f a i v.toInt8.toInt32) Q) : Wp L xs m pc xl (.int v :: .int x :: .ref a :: st) f Q := by
  subst hp; subst e
  refine w_step hat rfl rfl ?_ k
  unfold xstep
  simp only [xrs, iN_nc (Nat.lt_trans hi hn)]
  rw [xB_put (xB_lt ha (by omega))]
  show (if (xS0 L a).1 = 21 then xis (xIn (iN i) (xS0 L a).2) _ else _) = _
  rw [ha, xIn_iN hi hn]; simp [xis]
theorem w_bastore2 {a n i : Nat} {x v : Int32} (hat : xmAt m pc = some (.bastore, len)) (hp : pc + len = pc') (ha : xS0 L a = (22, n)) (e : x = iN i) (hi : i < n) (hn : n < 2147483648) (hv : v = 0 ∨ v = 1) (k : Wp L xs m pc' xl st (xu f a i v) Q) : Wp L xs m pc xl (.int v :: .int x :: .ref a :: st) f Q := by
  subst hp; subst e
  refine w_step hat rfl rfl ?_ k
  have hv' : (decide (v = 0) || decide (v = 1)) = true := by simpa using hv
  unfold xstep
  simp only [xrs, iN_nc (Nat.lt_trans hi hn), xB_put (xB_lt ha (show 22 ≤ 29 by omega))]
  show (if (xS0 L a).1 = 21 then _ else xis ((xS0 L a).1 == 22 && (decide (v = 0) || decide (v = 1)) && xIn (iN i) (xS0 L a).2) _) = _
  rw [ha, xIn_iN hi hn, hv']; simp [xis]
theorem w_alen {a kd n : Nat} (hat : xmAt m pc = some (.arraylength, len)) (hp : pc + len = pc') (ha : xS0 L a = (kd, n)) (hk : (decide (20 ≤ kd) && (kd == 40 || kd == 43 || decide (kd ≤ 29))) = true) (k : Wp L xs m pc' xl (.int (iN n) :: st) f Q) : Wp L xs m pc xl (.ref a :: st) f Q := by
  subst hp
  refine w_step hat rfl rfl ?_ k
  unfold xstep
  simp only [xr1]
  show xis (decide (20 ≤ (xS0 L a).1) && ((xS0 L a).1 == 40 || (xS0 L a).1 == 43 || decide ((xS0 L a).1 ≤ 29))) (_, _, .int (Int32.ofNat (xS0 L a).2) :: _, _) = _
  rw [ha]
  simp only [hk, xis]; rfl
theorem w_getT {ix q a n : Nat} (hat : xmAt m pc = some (.getfield ix, len)) (hp : pc + len = pc') (hf : xFld (xmOwn m) ix = none) (h2 : xTf (xmOwn m) ix = some (0, q)) (ha : xS0 L a = (42, n)) (k : Wp L xs m pc' xl (.ref (a + 20) :: st) f Q) : Wp L xs m pc xl (.ref a :: st) f Q := by
  subst hp
  refine w_step hat rfl rfl ?_ k
  unfold xstep
  simp only [xr1, hf, h2]
  show xis ((xS0 L a).1 == 42) _ = _
  rw [ha]; simp [xis]
theorem w_getT1 {ix q a n : Nat} (hat : xmAt m pc = some (.getfield ix, len)) (hp : pc + len = pc') (hf : xFld (xmOwn m) ix = none) (h2 : xTf (xmOwn m) ix = some (1, q)) (ha : xS0 L a = (42, n)) (k : Wp L xs m pc' xl (.int 0 :: st) f Q) : Wp L xs m pc xl (.ref a :: st) f Q := by
  subst hp
  refine w_step hat rfl rfl ?_ k
  unfold xstep
  simp only [xr1, hf, h2]
  show xis ((xS0 L a).1 == 42) _ = _
  rw [ha]; simp [xis]
theorem w_gst {ix w q : Nat} (hat : xmAt m pc = some (.getstatic ix, len)) (hp : pc + len = pc') (hf : xSt (xmOwn m) ix = some (w, q)) (h5 : w < 5) (k : Wp L xs m pc' xl (.ref (1000000 + w) :: st) f Q) : Wp L xs m pc xl st f Q := by
  subst hp
  refine w_step hat rfl rfl ?_ k
  unfold xstep
  simp only [hf, if_neg (show ¬ w = 5 by omega), if_neg (show ¬ w = 6 by omega)]
theorem w_gst5 {ix q : Nat} (hat : xmAt m pc = some (.getstatic ix, len)) (hp : pc + len = pc') (hf : xSt (xmOwn m) ix = some (5, q)) (k : Wp L xs m pc' xl (.int 1 :: st) f Q) : Wp L xs m pc xl st f Q := by
  subst hp
  refine w_step hat rfl rfl ?_ k
  unfold xstep
  simp only [hf, if_pos]
theorem w_gst6 {ix q : Nat} (hat : xmAt m pc = some (.getstatic ix, len)) (hp : pc + len = pc') (hf : xSt (xmOwn m) ix = some (6, q)) (k : Wp L xs m pc' xl (.retAddr 1 :: st) f Q) : Wp L xs m pc xl st f Q := by
  subst hp
  refine w_step hat rfl rfl ?_ k
  unfold xstep
  simp only [hf, if_neg (show ¬ 6 = 5 by omega), if_pos]
theorem w_copy {ix q q2 s d kd ns nd sp dp c : Nat} {x y z : Int32} (hat : xmAt m pc = some (.invokestatic ix, len)) (hp : pc + len = pc') (hf : xCal (xmOwn m) ix = some (5, q, q2)) (hs : xS0 L s = (kd, ns)) (hd : xS0 L d = (kd, nd)) (hk : kd = 20 ∨ kd = 21) (ex : x = iN sp) (ey : y = iN dp) (ez : z = iN c) (h1 : sp + c ≤ ns) (h2 : dp + c ≤ nd) (hn : ns < 2147483648) (hm : nd < 2147483648) (hr : xcat st ≤ 8) (k : Wp L xs m pc' xl st (xuc f d (va_cpy (f s) (f d) sp dp c)) Q) : Wp L xs m pc xl (.int z :: .int y :: .ref d :: .int x :: .ref s :: st) f Q := by
  subst hp; subst ex; subst ey; subst ez
  refine w_step hat ?_ rfl ?_ k
  · unfold xCall; simp only [hf]; rw [if_neg (by omega)]
  have k29 : kd ≤ 29 := by omega
  have b1 : xsI (xB L xs f) s = f s := funext fun i => xB_I (xB_lt hs k29)
  have b2 : xsI (xB L xs f) d = f d := funext fun i => xB_I (xB_lt hd k29)
  unfold xstep
  simp only [hf, if_pos, xcp, b1, b2, iN_nc (show sp < 2147483648 by omega), iN_nc (show dp < 2147483648 by omega), iN_nc (show c < 2147483648 by omega)]
  rw [xB_row (xB_lt hd k29)]
  have e1 : decide (iN sp < 0) = false := by simpa using iN_nn (k := sp) (by omega)
  have e2 : decide (iN dp < 0) = false := by simpa using iN_nn (k := dp) (by omega)
  have e3 : decide (iN c < 0) = false := by simpa using iN_nn (k := c) (by omega)
  show xis (decide (xcat st ≤ 8) && ((xS0 L s).1 == 20 || (xS0 L s).1 == 21) && (xS0 L s).1 == (xS0 L d).1 && !decide (iN sp < 0) && !decide (iN dp < 0) && !decide (iN c < 0) && decide (sp + c ≤ (xS0 L s).2) && decide (dp + c ≤ (xS0 L d).2)) _ = _
  rw [hs, hd, e1, e2, e3]
  have e4 : decide (xcat st ≤ 8) = true := decide_eq_true hr
  have e5 : decide (sp + c ≤ ns) = true := decide_eq_true h1
  have e6 : decide (dp + c ≤ nd) = true := decide_eq_true h2
  simp only [e4, e5, e6]
  rcases hk with rfl | rfl <;> simp [xis]
theorem w_max {ix q q2 : Nat} {x y : Int32} (hat : xmAt m pc = some (.invokestatic ix, len)) (hp : pc + len = pc') (hf : xCal (xmOwn m) ix = some (6, q, q2)) (hr : xcat st ≤ 8) (k : Wp L xs m pc' xl (.int (imax x y) :: st) f Q) : Wp L xs m pc xl (.int y :: .int x :: st) f Q := by
  subst hp
  refine w_step hat ?_ rfl ?_ k
  · unfold xCall; simp only [hf]; rw [if_neg (by omega)]
  unfold xstep
  simp only [hf, if_neg (show ¬ 6 = 5 by omega), if_pos, xo2]
  have e4 : decide (xcat st ≤ 8) = true := decide_eq_true hr
  rw [e4]; rfl
theorem w_min {ix q q2 : Nat} {x y : Int32} (hat : xmAt m pc = some (.invokestatic ix, len)) (hp : pc + len = pc') (hf : xCal (xmOwn m) ix = some (7, q, q2)) (hr : xcat st ≤ 8) (k : Wp L xs m pc' xl (.int (imin x y) :: st) f Q) : Wp L xs m pc xl (.int y :: .int x :: st) f Q := by
  subst hp
  refine w_step hat ?_ rfl ?_ k
  · unfold xCall; simp only [hf]; rw [if_neg (by omega)]
  unfold xstep
  simp only [hf, if_neg (show ¬ 7 = 5 by omega), if_neg (show ¬ 7 = 6 by omega), if_pos, xo2]
  have e4 : decide (xcat st ≤ 8) = true := decide_eq_true hr
  rw [e4]; rfl
theorem w_cs {ix kd j q : Nat} {cm : XM} {as rest : List Value} (hat : xmAt m pc = some (.invokestatic ix, len)) (hp : pc + len = pc') (hf : xCal (xmOwn m) ix = some (kd, j, q)) (hk : kd = 0 ∨ kd = 3) (ha : xArg j st = some (cm, as, rest)) (h1 : Cl L xs cm as f (fun r g => Wp L xs m pc' xl (r.toList ++ rest) g Q)) : Wp L xs m pc xl st f Q := by
  refine w_call hat hp ?_ h1
  unfold xCall
  simp only [hf]
  rw [if_pos hk, ha]
theorem w_cv {ix j q a n ci : Nat} {cm : XM} {as rest : List Value} (hat : xmAt m pc = some (.invokevirtual ix, len)) (hp : pc + len = pc') (hf : xCal (xmOwn m) ix = some (1, j, q)) (ha : xArg j st = some (cm, .ref a :: as, rest)) (hk : xS0 L a = (ci, n)) (ho : xKo ci = xmOwn cm) (h1 : Cl L xs cm (.ref a :: as) f (fun r g => Wp L xs m pc' xl (r.toList ++ rest) g Q)) : Wp L xs m pc xl st f Q := by
  refine w_call hat hp ?_ h1
  unfold xCall
  simp only [hf, if_pos, ha]
  rw [if_pos]
  show xKo (xS0 L a).1 = _
  rw [hk]; exact ho
theorem w_ireturn {x : Int32} {Q : Int32 → Hp → Prop} (hat : xmAt m pc = some (.ireturn, len)) (hr : xRet m .ireturn [.int x] = some (some (.int x))) (k : Q x f) : Wp L xs m pc xl [.int x] f (QI Q) := w_ret hat rfl hr ⟨x, rfl, k⟩
theorem w_return {Q : Hp → Prop} (hat : xmAt m pc = some (.return_, len)) (hr : xRet m .return_ [] = some none) (k : Q f) : Wp L xs m pc xl [] f (QV Q) := w_ret hat rfl hr ⟨rfl, k⟩
theorem w_lreturn {x : Int64} {Q : Int64 → Hp → Prop} (hat : xmAt m pc = some (.lreturn, len)) (hr : xRet m .lreturn [.long x] = some (some (.long x))) (k : Q x f) : Wp L xs m pc xl [.long x] f (QL Q) := w_ret hat rfl hr ⟨x, rfl, k⟩
theorem w_areturn {x : Nat} {Q : Nat → Hp → Prop} (hat : xmAt m pc = some (.areturn, len)) (hr : xRet m .areturn [.ref x] = some (some (.ref x))) (k : Q x f) : Wp L xs m pc xl [.ref x] f (QR Q) := w_ret hat rfl hr ⟨x, rfl, k⟩
theorem xr_bool {x : Int32} (h1 : xmRet m = some .boolean) (h : x = 0 ∨ x = 1) : xRet m .ireturn [.int x] = some (some (.int x)) := by
  unfold xRet
  simp only [h1]
  rw [if_pos h]
theorem CI.k {c : XM} {as : List Value} {Q : Int32 → Hp → Prop} {Q' : Option Value → Hp → Prop} (h : CI L xs c as f Q) (k : ∀ v g, Q v g → Q' (some (.int v)) g) : Cl L xs c as f Q' := by
  refine Wp.mono h fun r g h => ?_
  obtain ⟨v, rfl, h⟩ := h
  exact k v g h
theorem CV.k {c : XM} {as : List Value} {Q : Hp → Prop} {Q' : Option Value → Hp → Prop} (h : CV L xs c as f Q) (k : ∀ g, Q g → Q' none g) : Cl L xs c as f Q' := by
  refine Wp.mono h fun r g h => ?_
  obtain ⟨rfl, h⟩ := h
  exact k g h
theorem CL.k {c : XM} {as : List Value} {Q : Int64 → Hp → Prop} {Q' : Option Value → Hp → Prop} (h : CL L xs c as f Q) (k : ∀ v g, Q v g → Q' (some (.long v)) g) : Cl L xs c as f Q' := by
  refine Wp.mono h fun r g h => ?_
  obtain ⟨v, rfl, h⟩ := h
  exact k v g h
theorem CR.k {c : XM} {as : List Value} {Q : Nat → Hp → Prop} {Q' : Option Value → Hp → Prop} (h : CR L xs c as f Q) (k : ∀ v g, Q v g → Q' (some (.ref v)) g) : Cl L xs c as f Q' := by
  refine Wp.mono h fun r g h => ?_
  obtain ⟨v, rfl, h⟩ := h
  exact k v g h
theorem CI.mono {c : XM} {as : List Value} {Q Q' : Int32 → Hp → Prop} (h : CI L xs c as f Q) (k : ∀ v g, Q v g → Q' v g) : CI L xs c as f Q' := CI.k h fun v g h => ⟨v, rfl, k v g h⟩
theorem CV.mono {c : XM} {as : List Value} {Q Q' : Hp → Prop} (h : CV L xs c as f Q) (k : ∀ g, Q g → Q' g) : CV L xs c as f Q' := CV.k h fun g h => ⟨rfl, k g h⟩
end ROWS
end
